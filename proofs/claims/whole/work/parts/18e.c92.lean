/-! TOLD CLAUSES, the reference: what holds while they are told -/
theorem hd0 {α : Type} {L : List α} {x : α} (h : 0 < L.length) : L[0] = L.headD x := by
  cases L with
  | nil => exact absurd h (Nat.lt_irrefl 0)
  | cons a l => rfl
def VSQ (N : Nat → Int) (h g : XH) : Prop := hI g 437 12 = hI g 437 4 ∧ SortOK g N ∧ ((g = h ∧ hI h 437 12 = hI h 437 4) ∨ (¬ hI h 437 12 = hI h 437 4 ∧ Fr (fun b => b = 437 ∨ b = 442) h g ∧ (∀ j, ¬ j = 12 → el g 437 j = el h 437 j) ∧ h.length ≤ g.length ∧ Gr 24 (12 * nA8) h g ∧ StR g ∧ DJo g))
theorem DJo_sort {h g : XH} (L : 468 ≤ h.length) (f : Fr (fun b => b = 437 ∨ b = 442) h g) (e : ∀ j, ¬ j = 12 → el g 437 j = el h 437 j) (fr : ∀ p, p < 12 → h.length ≤ hR g 442 p) (St : StR h) (Dj : DJo h) : DJo g := by
  have i : ∀ j, ¬ j = 12 → hI g 437 j = hI h 437 j := fun j hj => congrArg gvI (e j hj)
  obtain ⟨z1, ⟨z2, z3⟩, z4, z5⟩ := Dj
  have r : ∀ j, ¬ j = 12 → hR g 437 j = hR h 437 j := fun j hj => congrArg gvR (e j hj)
  have nj : ∀ j, owP j → ¬ j = 12 := fun j hj y => by subst y; unfold owP at hj; omega
  have st : sameC h g (hR h 437 6) := f _ (hk_lt z2 (by decide)) (by omega)
  unfold DJo
  rw [r 6 (by decide), r 39 (by decide), r 45 (by decide), i 7 (by decide), sameC_k st]
  refine ⟨fun j k hj hk n => by rw [r j (nj j hj), r k (nj k hk)]; exact z1 j k hj hk n, ⟨z2, z3⟩, fun q hq => ?_, fun j hj => ?_⟩
  · rw [sameC_R st]
    obtain ⟨y1, y2, y3⟩ := z4 q hq
    have s1 : sameC h g (hR h (hR h 437 6) q) := f _ (hk_lt y1 (by decide)) (by omega)
    rw [sameC_k s1]
    exact ⟨y1, y2, fun j t hj a b => by rw [sameC_R s1, r j (nj j hj)]; exact y3 j t hj a b⟩
  · rw [r j (nj j hj)]
    obtain ⟨y1, y2, y3⟩ := z5 j hj
    have o := (own_j St hj).2.1
    exact ⟨fun p hp => by have := fr p hp; omega, y2, y3⟩
set_option maxHeartbeats 1000000 in
theorem c_vs0 {p0 : Int} (hp : 0 ≤ p0 ∧ p0 < 12) {h : XH} {N : Nat → Int} {m : Nat} (T : HT h) (eN : N = nw h) (W : WF N m) (P8 : P8N N) (St : StR h) (Dj : DJo h) (So : hI h 437 12 = hI h 437 4 → SortOK h N) {K : Nat → XH → Prop} (k : ∀ g, VSQ N h g → VL N p0.toNat g (hR g 442 p0.toNat) → K (hR g 442 p0.toNat) g) : w_X14_versionsOf p0 K h := by
  unfold w_X14_versionsOf
  have L := HT_len T
  refine ⟨fun g => VSQ N h g, ?_, ?_⟩
  · intro h2 t2 s2 z3
    refine ⟨hp, ?_⟩
    obtain ⟨y1, y2, y3⟩ := z3.2.1 p0.toNat (by omega)
    exact k _ z3 ⟨y1.1, y1.2, y2, y3⟩
  · refine ⟨fun c16 => ?_, fun c16 => ?_⟩
    · exact ⟨c16, So c16, .inl ⟨rfl, c16⟩⟩
    · intro h5 eh5 t5 u5
      have f5 : Fr (fun b => b = 437) h h5 := by rw [eh5]; exact Fr_sV rfl
      have l5 : h5.length = h.length := by rw [eh5, len_sV]
      have x5 : xhs h5 = xhs h := by rw [eh5, xhs_sV]
      have eN5 : N = nw h5 := eN.trans (nw_fr (f5 438 (by omega) (by decide))).symm
      refine ⟨fun v g => 0 ≤ v ∧ v ≤ 12 ∧ Fr (fun b => b = 442) h5 g ∧ h5.length ≤ g.length ∧ Gr (2 * v.toNat) (v.toNat * nA8) h5 g ∧ ∀ p : Nat, (p : Int) < v → VL N p g (hR g 442 p) ∧ h5.length ≤ hR g 442 p, fun v _ => (12 - v).toNat, ?_, ?_⟩
      · exact ⟨by omega, by omega, Fr_rf _ _, Nat.le_refl _, ⟨by simp, by simp⟩, fun p hp => by omega⟩
      · intro x6 h7 t7 s7 rx6 z8
        refine ⟨fun c15 => ?_, fun c15 => ?_⟩
        · obtain ⟨z0, z1, zf, zl, zg, zv⟩ := z8
          have e7 : ∀ j, ¬ j = 12 → el h7 437 j = el h 437 j := fun j n => by rw [sameC_el (zf 437 (by omega) (by decide)), eh5, el_ni (fun z => n z.symm)]
          have e12 : hI h7 437 12 = hI h 437 4 := by
            rw [sameC_I (zf 437 (by omega) (by decide)), eh5]
            exact hI_eq (by rw [(lstn T).2.2.2.2.1]; decide) (rgh _ _ _)
          have so : SortOK h7 N := fun p hp => by
            obtain ⟨⟨y1, y2, y3, y4⟩, -⟩ := zv p (by omega)
            exact ⟨⟨y1, y2⟩, y3, y4⟩
          have ff : Fr (fun b => b = 437 ∨ b = 442) h h7 := Fr_tr (Fr_mono f5 (fun _ z => .inl z)) (by omega) (Fr_mono zf (fun _ z => .inr z))
          exact ⟨e12.trans (congrArg gvI (e7 4 (by decide))).symm, so, .inr ⟨c16, ff, e7, by omega, ⟨by have := zg.1; omega, by have := zg.2; rw [show x6.toNat = 12 by omega] at this; omega⟩, StR_fr (fun b x y => ff b y (by omega)) (fun j hj => e7 j (by omega)) St, DJo_sort L ff e7 (fun p hp => by have := (zv p (by omega)).2; omega) St Dj⟩⟩
        · obtain ⟨z0, z1, zf, zl, zg, zv⟩ := z8
          have eN7 : N = nw h7 := eN5.trans (nw_fr (zf 438 (by omega) (by decide))).symm
          refine c_sort (by omega) t7 eN7 W P8 ?_
          intro a9 h10 f10 g10 l10 v10
          intro t10 u10
          refine ⟨(by omega), ?_⟩
          refine ⟨v10.1, ?_⟩
          intro h13 eh13 t13 u13
          intro x14 ex14 rx14
          have L7 := HT_len t7
          rw [wr_of (by omega) (by omega)] at ex14
          have l13 : h13.length = h10.length := by rw [eh13, len_sV]
          have x13 : xhs h13 = xhs h10 := by rw [eh13, xhs_sV]
          have n442 : hn h10 442 = 12 := lyn (c := 107) (n := 12) t10 rfl
          have s13 : ∀ b, ¬ b = 442 → sameC h10 h13 b := fun b n => by rw [eh13]; exact sameC_sV (fun z => n z.symm)
          refine ⟨⟨by omega, by omega, ?_, by have := u10.1; omega, ?_, fun p hp => ?_⟩, by dsimp only; omega⟩
          · exact Fr_tr zf zl (fun b hb n => sameC_tr (f10 b hb id) (s13 b n))
          · have e1 : x14.toNat = x6.toNat + 1 := by omega
            rw [e1, Nat.add_mul, Nat.one_mul]
            exact ⟨by have := zg.1; have := g10.1; omega, by have := zg.2; have := g10.2; omega⟩
          · by_cases c : (p : Int) = x6
            · have e : hR h13 442 p = a9 := by rw [eh13, show p = x6.toNat by omega]; exact hR_eq (by omega)
              rw [e, show p = x6.toNat by omega]
              exact ⟨VL_fr (s13 a9 (by omega)) v10, by omega⟩
            · have e : hR h13 442 p = hR h7 442 p := by rw [eh13, hR_ni (by omega)]; exact sameC_R (f10 442 (by omega) id) p
              have q := zv p (by omega)
              rw [e]
              exact ⟨VL_fr (sameC_tr (f10 _ (hk_lt q.1.1 (by decide)) id) (s13 _ (by have := q.1.2.1; omega))) q.1, q.2⟩
def GT (h g : XH) : Prop := ∃ n s : Nat, g.length + cp h ≤ h.length + n + cp g ∧ xhs g + 10 * cp h ≤ xhs h + s + 10 * cp g ∧ cp h ≤ cp g ∧ ((n = 0 ∧ s = 0 ∧ hI g 437 12 = hI h 437 12) ∨ (n = 24 ∧ s = 12 * nA8 ∧ hI g 437 12 = hI g 437 4))
/-- from h on the clauses l have been told -/
def TT (N : Nat → Int) (h g : XH) (l : List Cl) : Prop := Fr (RS h) h g ∧ (∀ j, ¬ j = 12 → ¬ (24 ≤ j ∧ j ≤ 29) → el g 437 j = el h 437 j) ∧ h.length ≤ g.length ∧ (∀ j, owP j → hR g 437 j = hR h 437 j ∨ h.length ≤ hR g 437 j) ∧ (StR g ∧ DJo g) ∧ TellOKR g l ∧ (hI g 437 12 = hI g 437 4 → SortOK g N) ∧ GT h g
theorem AQ_s {h g : XH} {l : List Cl} (St : StR h) (q : AQ h g l) {b : Nat} (hb : b < h.length) (n : ¬ b = 437) (m : ¬ (446 ≤ b ∧ b ≤ 461)) (o : ∀ j, 24 ≤ j → j ≤ 28 → 468 ≤ b → ¬ b = hR h 437 j) : sameC h g b := q.1 b hb (fun y => by
  rcases y with y | ⟨j, a, c, e⟩
  · exact n y
  · have := (own_j St (j := j) (by unfold owP; omega)).2.2
    by_cases z : 468 ≤ b
    · exact o j a c z e
    · omega)
theorem AQ_442 {h g : XH} {l : List Cl} (T : HT h) (St : StR h) (q : AQ h g l) : sameC h g 442 := AQ_s St q (by have := HT_len T; omega) (by decide) (by decide) (fun _ _ _ y => by omega)
theorem AQ_12 {h g : XH} {l : List Cl} (q : AQ h g l) : hI g 437 12 = hI h 437 12 ∧ hI g 437 4 = hI h 437 4 := ⟨congrArg gvI (q.2.1 12 (by decide)), congrArg gvI (q.2.1 4 (by decide))⟩
theorem SortOK_AQ {N : Nat → Int} {h g : XH} {l : List Cl} (T : HT h) (St : StR h) (Dj : DJo h) (q : AQ h g l) (z : SortOK h N) : SortOK g N := by
  have s442 := AQ_442 T St q
  intro p hp
  obtain ⟨a1, a2, a3⟩ := z p hp
  have s1 : sameC h g (hR h 442 p) := AQ_s St q (hk_lt a1.1 (by decide)) (by omega) (by omega) (fun j a b _ => (Dj.2.2.2 j (by unfold owP; omega)).1 p hp)
  rw [sameC_R s442, sameC_n s1, sameC_k s1]
  exact ⟨a1, a2, fun i hi => by rw [sameC_I s1]; exact a3 i hi⟩
theorem TT_AQ {N : Nat → Int} {h g k : XH} {l l2 : List Cl} (T : HT h) (Sth : StR h) (Tg : HT g) (a : TT N h g l) (q : AQ g k l2) : TT N h k l2 := by
  obtain ⟨f, e, len, r, ⟨St, Dj⟩, z, so, n, s, g1, g2, g3, g4⟩ := a
  have L := HT_len T
  have q12 := AQ_12 q
  refine ⟨fun b hb nb => sameC_tr (f b hb nb) (q.1 b (by omega) (fun y => nb ?_)), fun j n1 n2 => (q.2.1 j n2).trans (e j n1 n2), by have := q.2.2.1; omega, fun j hj => ?_, q.2.2.2.2.1, q.2.2.2.2.2.1, fun y => ?_, n, s, ?_, ?_, ?_, ?_⟩
  · rcases y with y | ⟨j, a, c, y⟩
    · exact .inl y
    · have hj : owP j := by unfold owP; omega
      have := (own_j St hj).2.2
      rcases r j hj with w | w
      · by_cases z : 468 ≤ b
        · exact .inr (.inr ⟨z, j, hj, y.trans w⟩)
        · exact .inr (.inl (by omega))
      · omega
  · rcases q.2.2.2.1 j hj with w | w
    · rw [w]; exact r j hj
    · exact .inr (by omega)
  · exact SortOK_AQ Tg St Dj q (so (by rw [← q12.1, ← q12.2]; exact y))
  · have := q.2.2.2.2.2.2.1; omega
  · have := q.2.2.2.2.2.2.2.1; omega
  · have := q.2.2.2.2.2.2.2.2; omega
  · rw [q12.1, q12.2]; exact g4
theorem TT_vs {N : Nat → Int} {h g k : XH} {l : List Cl} (T : HT h) (Tg : HT g) (a : TT N h g l) (q : VSQ N g k) : TT N h k l := by
  obtain ⟨q1, q2, q3⟩ := q
  rcases q3 with ⟨rfl, -⟩ | ⟨c, f2, e2, l2, g2_, St2, Dj2⟩
  · exact a
  obtain ⟨f, e, len, r, ⟨St, Dj⟩, z, so, n, s, g1, g2, g3, g4⟩ := a
  have L := HT_len T
  have r2 : ∀ j, ¬ j = 12 → hR k 437 j = hR g 437 j := fun j n => congrArg gvR (e2 j n)
  have cpk : cp k = cp g := by
    unfold cp
    have o := own_j St (j := 24) (by unfold owP; omega)
    rw [r2 24 (by decide)]
    exact sameC_n (f2 _ o.2.1 (by omega))
  refine ⟨fun b hb nb => sameC_tr (f b hb nb) (f2 b (by omega) (fun y => nb ?_)), fun j n1 n2 => (e2 j n1).trans (e j n1 n2), by omega, fun j hj => ?_, ⟨St2, Dj2⟩, ?_, fun _ => q2, 24, 12 * nA8, ?_, ?_, by omega, .inr ⟨rfl, rfl, q1⟩⟩
  · unfold RS; omega
  · rw [r2 j (by unfold owP at hj; omega)]; exact r j hj
  · exact TellOKR_fr St (fun b x y => f2 b y (by omega)) (fun j hj => e2 j (by omega)) z
  · have := g2_.1
    rcases g4 with ⟨y, -⟩ | ⟨-, -, y⟩
    · omega
    · exact absurd y c
  · have := g2_.2
    rcases g4 with ⟨-, y, -⟩ | ⟨-, -, y⟩
    · omega
    · exact absurd y c
theorem TT_nw {N : Nat → Int} {h g : XH} {l : List Cl} (T : HT h) (a : TT N h g l) : nw g = nw h := nw_fr (a.1 438 (by have := HT_len T; omega) (by unfold RS; omega))
theorem TT_NT {N : Nat → Int} {h g : XH} {l : List Cl} {nd : Nat → ND} (T : HT h) (St : StR h) (Dj : DJo h) (Z : NT h nd) (a : TT N h g l) : NT g nd := RSt_NT T St Dj a.1 (congrArg gvR (a.2.1 6 (by decide) (by decide))) (congrArg gvI (a.2.1 7 (by decide) (by decide))) Z
theorem TT_m {N : Nat → Int} {h g : XH} {l : List Cl} {nd : Nat → ND} {m : Nat} (T : HT h) (St : StR h) (Dj : DJo h) (Z : NTm h nd m) (a : TT N h g l) : NTm g nd m := ⟨TT_NT T St Dj Z.1 a, by rw [show hI g 437 7 = hI h 437 7 from congrArg gvI (a.2.1 7 (by decide) (by decide))]; exact Z.2⟩
theorem TT_B {N : Nat → Int} {h g : XH} {l : List Cl} (Bq : B45 h) (a : TT N h g l) : B45 g := by
  have e1 : hR g 437 39 = hR h 437 39 := congrArg gvR (a.2.1 39 (by decide) (by decide))
  have e2 : hR g 437 45 = hR h 437 45 := congrArg gvR (a.2.1 45 (by decide) (by decide))
  have := a.2.2.1
  unfold B45 at *
  omega
theorem TT_need {nd : Nat → ND} {h : XH} {m : Nat} {x : Int} (Z : NTm h nd m) (hx : 0 ≤ x ∧ x < m) : hk h (hR h 437 6) = 106 ∧ x < (hn h (hR h 437 6) : Int) ∧ NeedR h (hR h (hR h 437 6) x.toNat) (nd x.toNat) := by
  have a := Z.1.2.2.2.1
  have b := Z.2
  exact ⟨Z.1.2.2.1, by omega, Z.1.2.2.2.2.2.2.2 x.toNat (by omega)⟩
set_option maxHeartbeats 4000000 in
theorem c_X14_addNeed {p0 p1 p2 : Int} {p3 : Nat} {d : ND} {no : BitVec 64} {l : List Cl} {nd : Nat → ND} {h0 : XH} {h : XH} {N : Nat → Int} {m : Nat} (T : HT h) (eN : N = nw h) (W : WF N m) (T0 : HT h0) (St0 : StR h0) (Dj0 : DJo h0) (Z0 : NTm h0 nd m) (Bq : B45 h0) (r0 : rg p0) (r1 : rg p1) (r2 : rg p2) (z : TT N h0 h l) (A : NeedR h p3 d) (ex : ∃ x : Nat, x < m ∧ p3 = hR h (hR h 437 6) x ∧ d = nd x) (lt : l.length + (needCl N p0 p1 p2 d no).length ≤ 3712) {K : XH → Prop} (k : ∀ g, HT g → TT N h0 g (l ++ needCl N p0 p1 p2 d no) → hR g 442 = hR h 442 → (hI h 437 12 = hI h 437 4 → hI g 437 12 = hI g 437 4) → K g) : w_X14_addNeed p0 p1 p2 p3 no K h := by
  unfold w_X14_addNeed
  have w4 := W.1.2.2.1
  have w40 := W.1.2.2.2.1
  have v40 := vc64 W.1
  have i4 : hI h 438 4 = N 4 := by rw [eN]; rfl
  have hd1 : 1 ≤ (needCl N p0 p1 p2 d no).length := by unfold needCl; simp
  obtain ⟨x, xm, xe, xd⟩ := ex
  have ok : ndOK d := A.2.2.1
  refine ⟨fun b v => 0 ≤ v ∧ v ≤ N 4 ∧ b = orN v.toNat (nmet N d), fun _ v => (N 4 - v).toNat, ?_, ?_⟩
  · exact ⟨by omega, w4, rfl⟩
  · intro b1 x2 rx2 z3
    obtain ⟨v0, v1, vb⟩ := z3
    refine ⟨fun c20 => ?_, fun c20 => ?_⟩
    · rw [i4] at c20
      have eb : b1 = nMask N d := by rw [vb, show x2.toNat = vc N by unfold vc; omega]; rfl
      rw [eb]
      refine c_X14_add T r0 r1 r2 z.2.2.2.2.1.1 z.2.2.2.2.1.2 (TT_NT T0 St0 Dj0 Z0.1 z) (TT_B Bq z) z.2.2.2.2.2.1 (by omega) ?_
      intro h4 th4 q4
      intro t4 u4
      have z4 := TT_AQ T0 St0 T z q4
      have Z4 := TT_m T0 St0 Dj0 Z0 z4
      have r6 : hR h4 437 6 = hR h 437 6 := congrArg gvR (q4.2.1 6 (by decide))
      have s6 : sameC h h4 (hR h 437 6) := by
        have z6 := (TT_m T0 St0 Dj0 Z0 z).1
        have := z6.2.2.2.2.2.2.1
        refine AQ_s z.2.2.2.2.1.1 q4 (hk_lt z6.2.2.1 (by decide)) (by omega) (by omega) (fun j a b _ e => ?_)
        have := (own_j z.2.2.2.2.1.1 (j := j) (by unfold owP; omega)).1
        rw [← e, z6.2.2.1] at this
        omega
      have A4 : NeedR h4 p3 d := by
        have := (TT_need (x := (x : Int)) Z4 (by omega)).2.2
        rw [Int.toNat_natCast, r6, sameC_R s6, ← xe, ← xd] at this
        exact this
      obtain ⟨bg, k1, n1, -, -, -, -, -, -, -, av⟩ := A4.2.2.2.2.2.2.2
      have dl : 0 < d.2.length := List.length_pos_iff.mpr ok.2.1
      have e442 : ∀ {g : XH} {l2 : List Cl}, AQ h4 g l2 → hR g 442 = hR h4 442 := fun q => funext (sameC_R (AQ_442 th4 z4.2.2.2.2.1.1 q))
      have f442 : hR h4 442 = hR h 442 := funext (sameC_R (AQ_442 T z.2.2.2.2.1.1 q4))
      have hd : hI h4 (hR h4 p3 1) 0 = (hdP d : Nat) := by
        rw [(av 0 dl).1]
        unfold hdP
        have := (ok.2.2.2.1 _ (List.getElem_mem dl)).1
        rw [hd0 (x := (0, [])) dl] at this ⊢
        omega
      have hd12 : hdP d < 12 := by
        unfold hdP
        have := (ok.2.2.2.1 _ (List.getElem_mem dl)).2.1
        rw [hd0 (x := (0, [])) dl] at this
        omega
      refine ⟨A4.1, ?_⟩
      refine ⟨fun g => TT N h0 g (l ++ needCl N p0 p1 p2 d no) ∧ hR g 442 = hR h 442 ∧ (hI h 437 12 = hI h 437 4 → hI g 437 12 = hI g 437 4), ?_, ?_⟩
      · intro h6 t6 s6 z7
        exact k _ t6 z7.1 z7.2.1 z7.2.2
      · refine ⟨fun c12 => ?_, fun c12 => ?_⟩
        · rw [A4.2.1] at c12
          have : needCl N p0 p1 p2 d no = [(p0, p1, p2, nMask N d, no)] := by unfold needCl; rw [if_neg (by omega)]
          rw [this]
          exact ⟨z4, f442, fun y => by rw [(AQ_12 q4).1, (AQ_12 q4).2]; exact y⟩
        · refine ⟨k1, ?_⟩
          refine ⟨(by rw [n1]; omega), ?_⟩
          rw [A4.2.1] at c12
          unfold w_X14_optionBit
          rw [hd, wr_of (by omega) (by omega), show ((40 : Int) + ((hdP d : Nat) : Int)) = ((40 + hdP d : Nat) : Int) by omega, lshl1 (by omega)]
          have e2 : needCl N p0 p1 p2 d no = [(p0, p1, p2, nMask N d, no), (p0, p1, p2, bit1 (40 + hdP d), no)] := by unfold needCl; rw [if_pos (by rcases ok.1 with y | y <;> omega)]; rfl
          refine c_X14_add th4 r0 r1 r2 z4.2.2.2.2.1.1 z4.2.2.2.2.1.2 Z4.1 (TT_B Bq z4) z4.2.2.2.2.2.1 (by rw [e2] at lt; simp at lt; simp; omega) ?_
          intro h11 th11 q11
          intro t11 u11
          have z11 := TT_AQ T0 St0 th4 z4 q11
          rw [e2]
          rw [List.append_assoc] at z11
          exact ⟨z11, (e442 q11).trans f442, fun y => by rw [(AQ_12 q11).1, (AQ_12 q11).2, (AQ_12 q4).1, (AQ_12 q4).2]; exact y⟩
    · rw [i4] at c20
      refine c_X14_meets T eN W A v0 (by unfold vc; omega) ?_
      intro x13 qx13
      intro rx13 vx13
      refine ⟨fun b => b = if nmet N d x2.toNat = true then bit1 x2.toNat else 0#64, ?_, ?_⟩
      · intro b14 z15
        intro b16 eb16
        intro x17 ex17 rx17
        rw [wr_of (by omega) (by omega)] at ex17
        refine ⟨⟨by omega, by omega, ?_⟩, by dsimp only; omega⟩
        rw [eb16, z15, vb, show x17.toNat = x2.toNat + 1 by omega]; rfl
      · refine ⟨fun c19 => ?_, fun c19 => ?_⟩
        · rw [if_neg ((bq1 qx13).2.1.mp c19)]
        · unfold w_X14_bit
          rw [if_pos ((bq1 qx13).2.2.1.mp c19), show x2 = ((x2.toNat : Nat) : Int) by omega, lshl1 (by omega), Int.toNat_natCast]
