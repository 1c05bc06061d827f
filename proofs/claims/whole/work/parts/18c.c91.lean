/-! TOLD CLAUSES, the reference: a row comes -/
def cp (h : XH) : Nat := hn h (hR h 437 24)
def B45 (h : XH) : Prop := hR h 437 39 < h.length ∧ hR h 437 45 < h.length
/-- there is room for one more -/
def A9 (h g : XH) (l : List Cl) : Prop := Fr (fun b => b = 437) h g ∧ (∀ j, ¬ (24 ≤ j ∧ j ≤ 28) → el g 437 j = el h 437 j) ∧ h.length ≤ g.length ∧ (∀ j, owP j → hR g 437 j = hR h 437 j ∨ h.length ≤ hR g 437 j) ∧ (StR g ∧ DJo g) ∧ TellOKR g l ∧ l.length < cp g ∧ g.length + cp h ≤ h.length + cp g ∧ xhs g + 10 * cp h ≤ xhs h + 10 * cp g ∧ cp h ≤ cp g
/-- it has come -/
def AQ (h g : XH) (l : List Cl) : Prop := Fr (fun b => b = 437 ∨ ∃ j, 24 ≤ j ∧ j ≤ 28 ∧ b = hR h 437 j) h g ∧ (∀ j, ¬ (24 ≤ j ∧ j ≤ 29) → el g 437 j = el h 437 j) ∧ h.length ≤ g.length ∧ (∀ j, owP j → hR g 437 j = hR h 437 j ∨ h.length ≤ hR g 437 j) ∧ (StR g ∧ DJo g) ∧ TellOKR g l ∧ g.length + cp h ≤ h.length + cp g ∧ xhs g + 10 * cp h ≤ xhs h + 10 * cp g ∧ cp h ≤ cp g
theorem StR_sh {h g : XH} (ek : ∀ a, hk g a = hk h a) (en : ∀ a, hn g a = hn h a) (e : ∀ j, ¬ j = 29 → ¬ j = 30 → el g 437 j = el h 437 j) (z : StR h) : StR g := by
  have r : ∀ j, ¬ j = 29 → ¬ j = 30 → hR g 437 j = hR h 437 j := fun j n m => congrArg gvR (e j n m)
  have i : ∀ j, ¬ j = 29 → ¬ j = 30 → hI g 437 j = hI h 437 j := fun j n m => congrArg gvI (e j n m)
  unfold StR own at *
  simp only [r 24 (by decide) (by decide), r 25 (by decide) (by decide), r 26 (by decide) (by decide), r 27 (by decide) (by decide), r 28 (by decide) (by decide), r 31 (by decide) (by decide), r 52 (by decide) (by decide), r 53 (by decide) (by decide), r 54 (by decide) (by decide), r 55 (by decide) (by decide), ek, en]
  exact z
theorem cpy1 {h g : XH} {A B n u : Nat} (T : HT h) (ha : hk h A = 100 + u) (hb : hk h B = 100 + u) (hu : u < 9000) (h1 : 0 + n ≤ hn h A) (h2 : 0 + n ≤ hn h B) (e : g = cA h A 0 B 0 n) : (∀ b, ¬ b = B → sameC h g b) ∧ g.length = h.length ∧ xhs g = xhs h ∧ ∀ i, i < n → el g B i = el h A i := by
  refine ⟨fun b nb => by rw [e]; exact sameC_cA (fun z => nb z.symm), by rw [e, len_cA], by rw [e]; exact xhs_cA (t := T) (u := u) ha hb hu h1 h2, fun i hi => ?_⟩
  rw [e, el_cA (t := T) (u := u) ha hb hu h1 h2, if_pos ⟨by omega, by omega⟩]
  congr 1
  omega
theorem alc {h g : XH} {t n : Nat} (e : g = nA h t n) : (∀ b, b < h.length → sameC h g b) ∧ g.length = h.length + 1 ∧ xhs g = xhs h + n := by
  refine ⟨fun b hb => by rw [e]; exact sameC_app hb, by rw [e]; unfold nA; rw [len_app], by rw [e, xhs_nA]; congr 1; exact List.length_replicate⟩
theorem r442 {h : XH} (T : HT h) (p : Nat) : hR h 442 p < h.length := by
  have L := HT_len T
  have k : hk h 442 = 107 := (ly_sh (s := (107, 12)) T rfl).1
  have := T.2.2 442 p
  rw [k] at this
  rcases this.2.2.2.2 rfl with y | y
  · show gvR _ < _; omega
  · exact hk_lt (h := h) (a := hR h 442 p) y (by decide)
theorem need_lt {h : XH} {nd : Nat → ND} (Z : NT h nd) {i t : Nat} (hi : (i : Int) < hI h 437 7) (a : 1 ≤ t) (b : t ≤ 3) : hR h (hR h (hR h 437 6) i) t < h.length := by
  obtain ⟨-, -, -, -, -, -, -, bg, k1, -, k2, -, k3, -⟩ := Z.2.2.2.2.2.2.2 i hi
  have : t = 1 ∨ t = 2 ∨ t = 3 := by omega
  rcases this with e | e | e
  · rw [e]; exact hk_lt k1 (by decide)
  · rw [e]; exact hk_lt k2 (by decide)
  · rw [e]; exact hk_lt k3 (by decide)
/-- new rows of the reference in place of some of its own -/
theorem DJo_new {h g : XH} {nd : Nat → ND} (T : HT h) (Dj : DJo h) (St : StR h) (Z : NT h nd) (Bq : B45 h) (f : Fr (fun b => b = 437) h g) (e6 : el g 437 6 = el h 437 6) (e7 : el g 437 7 = el h 437 7) (e39 : el g 437 39 = el h 437 39) (e45 : el g 437 45 = el h 437 45)
    (r : ∀ j, owP j → hR g 437 j = hR h 437 j ∨ h.length ≤ hR g 437 j) (d : ∀ j k, owP j → owP k → ¬ j = k → h.length ≤ hR g 437 j → h.length ≤ hR g 437 k → ¬ hR g 437 j = hR g 437 k) : DJo g := by
  have L := HT_len T
  obtain ⟨z1, ⟨z2, z3⟩, z4, z5⟩ := Dj
  have ol : ∀ j, owP j → hR h 437 j < h.length := fun j hj => (own_j St hj).2.1
  have r6 : hR g 437 6 = hR h 437 6 := congrArg gvR e6
  have i7 : hI g 437 7 = hI h 437 7 := congrArg gvI e7
  have r39 : hR g 437 39 = hR h 437 39 := congrArg gvR e39
  have r45 : hR g 437 45 = hR h 437 45 := congrArg gvR e45
  have st : sameC h g (hR h 437 6) := f _ (hk_lt z2 (by decide)) (by omega)
  have s442 : sameC h g 442 := f 442 (by omega) (by decide)
  have df : ∀ {x : Nat} {j : Nat}, owP j → x < h.length → ¬ x = hR h 437 j → ¬ x = hR g 437 j := fun {x j} hj lx n y => by
    rcases r j hj with q | q
    · exact n (by rw [← q]; exact y)
    · omega
  unfold DJo
  rw [r6, i7, r39, r45, sameC_k st]
  refine ⟨fun j k hj hk n => ?_, ⟨z2, z3⟩, fun i hi => ?_, fun j hj => ?_⟩
  · rcases r j hj with a | a
    · rw [a]; exact df hk (ol j hj) (z1 j k hj hk n)
    · rcases r k hk with b | b
      · rw [b]; have := ol k hk; omega
      · exact d j k hj hk n a b
  · rw [sameC_R st]
    obtain ⟨y1, y2, y3⟩ := z4 i hi
    have s1 : sameC h g (hR h (hR h 437 6) i) := f _ (hk_lt y1 (by decide)) (by omega)
    rw [sameC_k s1]
    exact ⟨y1, y2, fun j t hj a b => by rw [sameC_R s1]; exact df hj (need_lt Z hi a b) (y3 j t hj a b)⟩
  · obtain ⟨y1, y2, y3⟩ := z5 j hj
    exact ⟨fun p hp => by rw [sameC_R s442]; exact df hj (r442 T p) (y1 p hp), df hj Bq.1 y2, df hj Bq.2 y3⟩
/-! the rows grow -/
def kd : Nat → Nat
  | 0 => 101
  | 1 => 101
  | _ => 100
def GA (h g : XH) (C n m k : Nat) : Prop := (∀ b, b < h.length → sameC h g b) ∧ g.length = h.length + m ∧ xhs g = xhs h + m * C ∧ (∀ i, i < m → hk g (h.length + i) = kd i ∧ hn g (h.length + i) = C) ∧ ∀ i, i < k → ∀ j, j < n → el g (h.length + i) j = el h (hR h 437 (24 + i)) j
theorem GA_0 (h : XH) (C n : Nat) : GA h h C n 0 0 := ⟨fun b _ => sameC_rf h b, rfl, by omega, fun i hi => absurd hi (by omega), fun i hi => absurd hi (by omega)⟩
theorem og_ {n : Nat} {x : Int} (e : x = (n : Nat)) (lt : n < 3712) : (0 ≤ wr (2 * x) ∧ wr (2 * x) < 67108864) ∧ (wr (2 * x)).toNat = 2 * n := by
  rw [e, wr_of (by omega) (by omega)]
  omega
theorem GA_al {h g g' : XH} {C n m t a : Nat} (G : GA h g C n m 0) (e : g' = nA g t C) (ea : a = g.length) (ca : hk g' a = kd m) (la : hn g' a = C) : GA h g' C n (m + 1) 0 ∧ a = h.length + m := by
  obtain ⟨g1, g2, g3, g4, -⟩ := G
  obtain ⟨s, l, x⟩ := alc e
  have ea' : a = h.length + m := ea.trans g2
  refine ⟨⟨fun b hb => sameC_tr (g1 b hb) (s b (by omega)), by omega, by rw [x, g3, Nat.add_mul]; omega, fun i hi => ?_, fun i hi => absurd hi (by omega)⟩, ea'⟩
  by_cases c : i = m
  · rw [c, ← ea']; exact ⟨ca, la⟩
  · have si := s (h.length + i) (by omega)
    obtain ⟨y1, y2⟩ := g4 i (by omega)
    exact ⟨(sameC_k si).trans y1, (sameC_n si).trans y2⟩
def Src (h : XH) (n : Nat) : Prop := 437 < h.length ∧ hI h 437 29 = (n : Nat) ∧ ∀ i, i < 5 → hk h (hR h 437 (24 + i)) = kd i ∧ hn h (hR h 437 (24 + i)) = n ∧ hR h 437 (24 + i) < h.length
theorem GA_i {h g : XH} {C n m k : Nat} (S : Src h n) (G : GA h g C n m k) : hI g 437 29 = (n : Nat) := (sameC_I (G.1 437 S.1) 29).trans S.2.1
theorem GA_o {h g : XH} {C n k i : Nat} (S : Src h n) (G : GA h g C n 5 k) (hi : i < 5) (nC : n ≤ C) : hk g (hR g 437 (24 + i)) = kd i ∧ (¬ hR g 437 (24 + i) = h.length + i ∧ (0 : Int) ≤ 0 ∧ (0 : Int) ≤ 0 ∧ (0 : Int) ≤ hI g 437 29 ∧ ((0 + (hI g 437 29) : Int)) ≤ (hn g (hR g 437 (24 + i)) : Int) ∧ ((0 + (hI g 437 29) : Int)) ≤ (hn g (h.length + i) : Int)) := by
  obtain ⟨s1, s2, s3⟩ := S.2.2 i hi
  rw [GA_i S G, sameC_R (G.1 437 S.1) (24 + i), sameC_k (G.1 _ s3), sameC_n (G.1 _ s3), s1, s2, (G.2.2.2.1 i hi).2]
  exact ⟨rfl, by omega, Int.le_refl _, Int.le_refl _, by omega, by omega, by omega⟩
theorem GA_cp {h g g' : XH} {C n k : Nat} (T : HT g) (u : HX g g') (S : Src h n) (nC : n ≤ C) (k5 : k < 5) (G : GA h g C n 5 k) (e : g' = cA g (hR g 437 (24 + k)) 0 (h.length + k) 0 (hI g 437 29).toNat) : GA h g' C n 5 (k + 1) := by
  have i29 := GA_i S G
  obtain ⟨s1, s2, s3⟩ := S.2.2 k k5
  obtain ⟨g1, g2, g3, g4, g5⟩ := G
  rw [i29, Int.toNat_natCast, sameC_R (g1 437 S.1) (24 + k)] at e
  have sk := g1 _ s3
  have kb : ∀ i, i < 5 → kd i < 9999 := fun i hi => by
    have : i = 0 ∨ i = 1 ∨ i = 2 ∨ i = 3 ∨ i = 4 := by omega
    rcases this with y | y | y | y | y <;> (rw [y]; decide)
  obtain ⟨w, hw, ew⟩ : ∃ w, w < 9000 ∧ kd k = 100 + w := by
    have : k = 0 ∨ k = 1 ∨ k = 2 ∨ k = 3 ∨ k = 4 := by omega
    rcases this with y | y | y | y | y <;> rw [y]
    · exact ⟨1, by decide, rfl⟩
    · exact ⟨1, by decide, rfl⟩
    · exact ⟨0, by decide, rfl⟩
    · exact ⟨0, by decide, rfl⟩
    · exact ⟨0, by decide, rfl⟩
  obtain ⟨c1, c2, c3, c4⟩ := cpy1 (u := w) T ((sameC_k sk).trans (s1.trans ew)) ((g4 k k5).1.trans ew) hw (by rw [sameC_n sk, s2]; omega) (by rw [(g4 k k5).2]; omega) e
  refine ⟨fun b hb => sameC_tr (g1 b hb) (c1 b (by omega)), by omega, by omega, fun i hi => ?_, fun i hi j hj => ?_⟩
  · obtain ⟨y1, y2⟩ := g4 i hi
    exact ⟨HX_hk u y1 (kb i hi), (HX_hn u (by omega)).trans y2⟩
  · by_cases c : i = k
    · rw [c, c4 j hj]; exact sameC_el sk j
    · rw [sameC_el (c1 (h.length + i) (by omega))]
      exact g5 i (by omega) j hj
theorem A9_GA {h h55 h60 : XH} {l : List Cl} {nd : Nat → ND} (T : HT h) (T5 : HT h55) (St : StR h) (Dj : DJo h) (Z : NT h nd) (Bq : B45 h) (z : TellOKR h l) (lt : l.length < 3712) (n24_ : hn h (hR h 437 24) = l.length) (G : GA h h55 (2 * l.length) l.length 5 5) (eh60 : h60 = sR (sR (sR (sR (sR h55 437 24 h.length) 437 25 (h.length + 1)) 437 26 (h.length + 2)) 437 27 (h.length + 3)) 437 28 (h.length + 4)) : A9 h h60 l := by
  have L0 := HT_len T
  obtain ⟨o24, o25, o26, o27, o28, ⟨n25, n26, n27, n28, n64, n8⟩, dd, o31, -, -, o52, o53, o54, o55, -⟩ := id St
  obtain ⟨Q55, l55, x55, kk, vv⟩ := G
  obtain ⟨h56, eh56⟩ : ∃ x, x = sR h55 437 24 h.length := ⟨_, rfl⟩
  rw [← eh56] at eh60
  obtain ⟨h57, eh57⟩ : ∃ x, x = sR h56 437 25 (h.length + 1) := ⟨_, rfl⟩
  rw [← eh57] at eh60
  obtain ⟨h58, eh58⟩ : ∃ x, x = sR h57 437 26 (h.length + 2) := ⟨_, rfl⟩
  rw [← eh58] at eh60
  obtain ⟨h59, eh59⟩ : ∃ x, x = sR h58 437 27 (h.length + 3) := ⟨_, rfl⟩
  rw [← eh59] at eh60
  have m5 : 28 < hn h55 437 := by rw [(lstn T5).2.2.2.2.1]; decide
  have m6 : 28 < hn h56 437 := by rw [eh56, hn_sV]; exact m5
  have m7 : 28 < hn h57 437 := by rw [eh57, hn_sV]; exact m6
  have m8_ : 28 < hn h58 437 := by rw [eh58, hn_sV]; exact m7
  have m9 : 28 < hn h59 437 := by rw [eh59, hn_sV]; exact m8_
  have f60 : ∀ b, ¬ b = 437 → sameC h55 h60 b := fun b n => by
    rw [eh60, eh59, eh58, eh57, eh56]
    exact sameC_tr (sameC_sV (fun y => n y.symm)) (sameC_tr (sameC_sV (fun y => n y.symm)) (sameC_tr (sameC_sV (fun y => n y.symm)) (sameC_tr (sameC_sV (fun y => n y.symm)) (sameC_sV (fun y => n y.symm)))))
  have l60 : h60.length = h.length + 5 := by rw [eh60, eh59, eh58, eh57, eh56, len_sV, len_sV, len_sV, len_sV, len_sV]; exact l55
  have x60 : xhs h60 = xhs h + 5 * (2 * l.length) := by rw [eh60, eh59, eh58, eh57, eh56, xhs_sV, xhs_sV, xhs_sV, xhs_sV, xhs_sV]; exact x55
  have F60 : Fr (fun b => b = 437) h h60 := fun b hb n => sameC_tr (Q55 b hb) (f60 b n)
  have e60 : ∀ j, ¬ (24 ≤ j ∧ j ≤ 28) → el h60 437 j = el h 437 j := fun j n => by
    rw [eh60, el_ni (by omega), eh59, el_ni (by omega), eh58, el_ni (by omega), eh57, el_ni (by omega), eh56, el_ni (by omega)]
    exact sameC_el (Q55 437 (by omega)) j
  have r24 : hR h60 437 24 = h.length := by rw [eh60, hR_ni (by decide), eh59, hR_ni (by decide), eh58, hR_ni (by decide), eh57, hR_ni (by decide), eh56]; exact hR_eq (by omega)
  have r25 : hR h60 437 25 = h.length + 1 := by rw [eh60, hR_ni (by decide), eh59, hR_ni (by decide), eh58, hR_ni (by decide), eh57]; exact hR_eq (by omega)
  have r26 : hR h60 437 26 = h.length + 2 := by rw [eh60, hR_ni (by decide), eh59, hR_ni (by decide), eh58]; exact hR_eq (by omega)
  have r27 : hR h60 437 27 = h.length + 3 := by rw [eh60, hR_ni (by decide), eh59]; exact hR_eq (by omega)
  have r28 : hR h60 437 28 = h.length + 4 := by rw [eh60]; exact hR_eq (by omega)
  have q : ∀ j, 24 ≤ j → j ≤ 28 → hR h60 437 j = h.length + (j - 24) := fun j a b => by
    have : j = 24 ∨ j = 25 ∨ j = 26 ∨ j = 27 ∨ j = 28 := by omega
    rcases this with e | e | e | e | e
    · rw [e, r24]; omega
    · rw [e, r25]
    · rw [e, r26]
    · rw [e, r27]
    · rw [e, r28]
  have RR : ∀ j, owP j → hR h60 437 j = hR h 437 j ∨ h.length ≤ hR h60 437 j := fun j hj => by
    by_cases c : 24 ≤ j ∧ j ≤ 28
    · have := q j c.1 c.2
      omega
    · exact .inl (congrArg gvR (e60 j c))
  have nn : ∀ j, owP j → h.length ≤ hR h60 437 j → 24 ≤ j ∧ j ≤ 28 := fun j hj y => by
    by_cases c : 24 ≤ j ∧ j ≤ 28
    · exact c
    · have := (own_j St hj).2.1
      have e : hR h60 437 j = hR h 437 j := congrArg gvR (e60 j c)
      omega
  have I_ : ∀ j, ¬ (24 ≤ j ∧ j ≤ 28) → hI h60 437 j = hI h 437 j := fun j n => congrArg gvI (e60 j n)
  have R_ : ∀ j, ¬ (24 ≤ j ∧ j ≤ 28) → hR h60 437 j = hR h 437 j := fun j n => congrArg gvR (e60 j n)
  have ow : ∀ {k j b}, own h k (hR h 437 j) b → k < 9999 → (446 ≤ b ∧ b ≤ 461) → sameC h h60 (hR h 437 j) := fun {k j b} o hk hb => F60 _ (hk_lt o.1 hk) (by rcases o.2 with x | x <;> omega)
  have s : ∀ i, i < 5 → hk h60 (h.length + i) = kd i ∧ hn h60 (h.length + i) = 2 * l.length := fun i hi => by
    have si := f60 (h.length + i) (by omega)
    exact ⟨(sameC_k si).trans (kk i hi).1, (sameC_n si).trans (kk i hi).2⟩
  obtain ⟨s24, t24⟩ : hk h60 h.length = 101 ∧ hn h60 h.length = 2 * l.length := s 0 (by decide)
  obtain ⟨s25, t25⟩ : hk h60 (h.length + 1) = 101 ∧ hn h60 (h.length + 1) = 2 * l.length := s 1 (by decide)
  obtain ⟨s26, t26⟩ : hk h60 (h.length + 2) = 100 ∧ hn h60 (h.length + 2) = 2 * l.length := s 2 (by decide)
  obtain ⟨s27, t27⟩ : hk h60 (h.length + 3) = 100 ∧ hn h60 (h.length + 3) = 2 * l.length := s 3 (by decide)
  obtain ⟨s28, t28⟩ : hk h60 (h.length + 4) = 100 ∧ hn h60 (h.length + 4) = 2 * l.length := s 4 (by decide)
  have St60 : StR h60 := by
    unfold StR
    obtain ⟨-, -, -, -, -, -, -, -, m1, m2, -, -, -, -, p1, p2, p3, p4, p5⟩ := id St
    rw [r24, r25, r26, r27, r28, R_ 31 (by decide), R_ 52 (by decide), R_ 53 (by decide), R_ 54 (by decide), R_ 55 (by decide), sameC_n (ow o31 (by decide) (by decide)), sameC_n (ow o52 (by decide) (by decide)), sameC_n (ow o53 (by decide) (by decide)), sameC_n (ow o54 (by decide) (by decide)), sameC_n (ow o55 (by decide) (by decide)), t24, t25, t26, t27, t28]
    exact ⟨⟨s24, by omega⟩, ⟨s25, by omega⟩, ⟨s26, by omega⟩, ⟨s27, by omega⟩, ⟨s28, by omega⟩, ⟨rfl, rfl, rfl, rfl, by omega, by omega⟩, ⟨by omega, by omega, by omega, by omega⟩, own_fr o31 (ow o31 (by decide) (by decide)), m1, m2, own_fr o52 (ow o52 (by decide) (by decide)), own_fr o53 (ow o53 (by decide) (by decide)), own_fr o54 (ow o54 (by decide) (by decide)), own_fr o55 (ow o55 (by decide) (by decide)), p1, p2, p3, p4, p5⟩
  have cp60 : cp h60 = 2 * l.length := by unfold cp; rw [r24]; exact t24
  have cpe : cp h = l.length := n24_
  refine ⟨F60, e60, by omega, RR, ⟨St60, DJo_new T Dj St Z Bq F60 (e60 6 (by decide)) (e60 7 (by decide)) (e60 39 (by decide)) (e60 45 (by decide)) RR (fun j k hj hk n a b => by
    have c1 := nn j hj a
    have c2 := nn k hk b
    rw [q j c1.1 c1.2, q k c2.1 c2.2]
    omega)⟩, ?_, by omega, by omega, by omega, by omega⟩
  unfold TellOKR
  rw [I_ 29 (by decide), r24, r25, r26, r27, r28, t24]
  refine ⟨z.1, by omega, fun i hi => ?_⟩
  have w : ∀ k, k < 5 → el h60 (h.length + k) i = el h (hR h 437 (24 + k)) i := fun k hk => (sameC_el (f60 (h.length + k) (by omega)) i).trans (vv k hk i hi)
  have := z.2.2 i hi
  exact ⟨(congrArg gvI (w 2 (by decide))).trans this.1, (congrArg gvI (w 3 (by decide))).trans this.2.1, (congrArg gvI (w 4 (by decide))).trans this.2.2.1, (congrArg gvL (w 0 (by decide))).trans this.2.2.2.1, (congrArg gvL (w 1 (by decide))).trans this.2.2.2.2⟩
set_option maxHeartbeats 16000000 in
theorem c_X14_add {p0 p1 p2 : Int} {p3 p4 : BitVec 64} {l : List Cl} {nd : Nat → ND} {h : XH} (T : HT h) (r0 : rg p0) (r1 : rg p1) (r2 : rg p2) (St : StR h) (Dj : DJo h) (Z : NT h nd) (Bq : B45 h) (z : TellOKR h l) (lt : l.length < 3712) {K : XH → Prop} (k : ∀ g, HT g → AQ h g (l ++ [(p0, p1, p2, p3, p4)]) → K g) : w_X14_add p0 p1 p2 p3 p4 K h := by
  unfold w_X14_add
  have L0 := HT_len T
  obtain ⟨o24, o25, o26, o27, o28, ⟨n25, n26, n27, n28, n64, n8⟩, dd, -⟩ := id St
  have cpe : cp h = hn h (hR h 437 24) := rfl
  have lc := z.2.1
  refine ⟨o24.1, ?_⟩
  refine ⟨(by omega), ?_⟩
  refine ⟨fun g => A9 h g l, ?_, ?_⟩
  · intro h8 t8 s8 z9
    obtain ⟨F8, E8_, l8, R8_, ⟨St8, Dj8⟩, z8, lt8, g8, x8, c8_⟩ := z9
    obtain ⟨o24_8, o25_8, o26_8, o27_8, o28_8, ⟨m25, m26, m27, m28, m64, m8⟩, dd8, -⟩ := id St8
    have L8 := HT_len t8
    have j29 : hI h8 437 29 = (l.length : Nat) := z8.1
    have cpe8 : cp h8 = hn h8 (hR h8 437 24) := rfl
    have oo : ∀ j, 24 ≤ j → j ≤ 28 → ¬ hR h8 437 j = 437 := fun j a b => by
      have := (own_j St8 (j := j) (by unfold owP; omega)).2.2
      omega
    refine ⟨o24_8.1, ?_⟩
    refine ⟨(by omega), ?_⟩
    intro h12 eh12 t12 u12
    have R12 : ∀ j, el h12 437 j = el h8 437 j := fun j => by rw [eh12]; exact el_ne (oo 24 (by decide) (by decide))
    have K12 : ∀ a, hk h12 a = hk h8 a := fun a => by rw [eh12]; exact hk_sV _ _ _ _ _
    have N12 : ∀ a, hn h12 a = hn h8 a := fun a => by rw [eh12]; exact hn_sV _ _ _ _ _
    refine ⟨(by rw [show hR h12 437 25 = hR h8 437 25 from congrArg gvR (R12 25), K12]; exact o25_8.1), ?_⟩
    refine ⟨(by rw [show hR h12 437 25 = hR h8 437 25 from congrArg gvR (R12 25), show hI h12 437 29 = hI h8 437 29 from congrArg gvI (R12 29), N12, m25]; omega), ?_⟩
    intro h15 eh15 t15 u15
    rw [show hR h12 437 25 = hR h8 437 25 from congrArg gvR (R12 25), show hI h12 437 29 = hI h8 437 29 from congrArg gvI (R12 29)] at eh15
    have R15 : ∀ j, el h15 437 j = el h8 437 j := fun j => by rw [eh15, el_ne (oo 25 (by decide) (by decide))]; exact R12 j
    have K15 : ∀ a, hk h15 a = hk h8 a := fun a => by rw [eh15]; exact (hk_sV _ _ _ _ _).trans (K12 a)
    have N15 : ∀ a, hn h15 a = hn h8 a := fun a => by rw [eh15]; exact (hn_sV _ _ _ _ _).trans (N12 a)
    refine ⟨(by rw [show hR h15 437 26 = hR h8 437 26 from congrArg gvR (R15 26), K15]; exact o26_8.1), ?_⟩
    refine ⟨(by rw [show hR h15 437 26 = hR h8 437 26 from congrArg gvR (R15 26), show hI h15 437 29 = hI h8 437 29 from congrArg gvI (R15 29), N15, m26]; omega), ?_⟩
    intro h18 eh18 t18 u18
    rw [show hR h15 437 26 = hR h8 437 26 from congrArg gvR (R15 26), show hI h15 437 29 = hI h8 437 29 from congrArg gvI (R15 29)] at eh18
    have R18 : ∀ j, el h18 437 j = el h8 437 j := fun j => by rw [eh18, el_ne (oo 26 (by decide) (by decide))]; exact R15 j
    have K18 : ∀ a, hk h18 a = hk h8 a := fun a => by rw [eh18]; exact (hk_sV _ _ _ _ _).trans (K15 a)
    have N18 : ∀ a, hn h18 a = hn h8 a := fun a => by rw [eh18]; exact (hn_sV _ _ _ _ _).trans (N15 a)
    refine ⟨(by rw [show hR h18 437 27 = hR h8 437 27 from congrArg gvR (R18 27), K18]; exact o27_8.1), ?_⟩
    refine ⟨(by rw [show hR h18 437 27 = hR h8 437 27 from congrArg gvR (R18 27), show hI h18 437 29 = hI h8 437 29 from congrArg gvI (R18 29), N18, m27]; omega), ?_⟩
    intro h21 eh21 t21 u21
    rw [show hR h18 437 27 = hR h8 437 27 from congrArg gvR (R18 27), show hI h18 437 29 = hI h8 437 29 from congrArg gvI (R18 29)] at eh21
    have R21 : ∀ j, el h21 437 j = el h8 437 j := fun j => by rw [eh21, el_ne (oo 27 (by decide) (by decide))]; exact R18 j
    have K21 : ∀ a, hk h21 a = hk h8 a := fun a => by rw [eh21]; exact (hk_sV _ _ _ _ _).trans (K18 a)
    have N21 : ∀ a, hn h21 a = hn h8 a := fun a => by rw [eh21]; exact (hn_sV _ _ _ _ _).trans (N18 a)
    refine ⟨(by rw [show hR h21 437 28 = hR h8 437 28 from congrArg gvR (R21 28), K21]; exact o28_8.1), ?_⟩
    refine ⟨(by rw [show hR h21 437 28 = hR h8 437 28 from congrArg gvR (R21 28), show hI h21 437 29 = hI h8 437 29 from congrArg gvI (R21 29), N21, m28]; omega), ?_⟩
    intro h24 eh24 t24 u24
    rw [show hR h21 437 28 = hR h8 437 28 from congrArg gvR (R21 28), show hI h21 437 29 = hI h8 437 29 from congrArg gvI (R21 29)] at eh24
    have R24 : ∀ j, el h24 437 j = el h8 437 j := fun j => by rw [eh24, el_ne (oo 28 (by decide) (by decide))]; exact R21 j
    have K24 : ∀ a, hk h24 a = hk h8 a := fun a => by rw [eh24]; exact (hk_sV _ _ _ _ _).trans (K21 a)
    have N24 : ∀ a, hn h24 a = hn h8 a := fun a => by rw [eh24]; exact (hn_sV _ _ _ _ _).trans (N21 a)
    intro h25 eh25 t25 u25
    rw [show hI h24 437 29 = hI h8 437 29 from congrArg gvI (R24 29)] at eh25
    rw [j29, Int.toNat_natCast] at eh12 eh15 eh18 eh21 eh24
    rw [j29, wr_of (by omega) (by omega)] at eh25
    have D8 := Dj8.1
    have ne : ∀ j k, 24 ≤ j → j ≤ 28 → 24 ≤ k → k ≤ 28 → ¬ j = k → ¬ hR h8 437 j = hR h8 437 k := fun j k a b c d n => D8 j k (by unfold owP; omega) (by unfold owP; omega) n
    have f25 : ∀ b, ¬ b = 437 → (∀ j, 24 ≤ j → j ≤ 28 → ¬ b = hR h8 437 j) → sameC h8 h25 b := fun b n m => by
      rw [eh25, eh24, eh21, eh18, eh15, eh12]
      exact sameC_tr (sameC_sV (fun y => m 24 (by decide) (by decide) y.symm)) (sameC_tr (sameC_sV (fun y => m 25 (by decide) (by decide) y.symm)) (sameC_tr (sameC_sV (fun y => m 26 (by decide) (by decide) y.symm)) (sameC_tr (sameC_sV (fun y => m 27 (by decide) (by decide) y.symm)) (sameC_tr (sameC_sV (fun y => m 28 (by decide) (by decide) y.symm)) (sameC_sV (fun y => n y.symm))))))
    have R25 : ∀ j, ¬ j = 29 → el h25 437 j = el h8 437 j := fun j n => by rw [eh25, el_ni (fun y => n y.symm)]; exact R24 j
    have r25 : ∀ j, ¬ j = 29 → hR h25 437 j = hR h8 437 j := fun j n => congrArg gvR (R25 j n)
    have K25 : ∀ a, hk h25 a = hk h8 a := fun a => by rw [eh25]; exact (hk_sV _ _ _ _ _).trans (K24 a)
    have N25 : ∀ a, hn h25 a = hn h8 a := fun a => by rw [eh25]; exact (hn_sV _ _ _ _ _).trans (N24 a)
    have l25 : h25.length = h8.length := by rw [eh25, eh24, eh21, eh18, eh15, eh12]; simp only [len_sV]
    have x25 : xhs h25 = xhs h8 := by rw [eh25, eh24, eh21, eh18, eh15, eh12]; simp only [xhs_sV]
    have cp25 : cp h25 = cp h8 := by unfold cp; rw [r25 24 (by decide), N25]
    have ol : ∀ j, 24 ≤ j → j ≤ 28 → hR h 437 j < h.length := fun j a b => (own_j St (j := j) (by unfold owP; omega)).2.1
    refine k _ t25 ⟨fun b hb n => ?_, fun j n => (R25 j (by omega)).trans (E8_ j (by omega)), by omega, fun j hj => ?_, ⟨StR_sh K25 N25 (fun j a _ => R25 j a) St8, ?_⟩, ⟨?_, ?_, fun i hi => ?_⟩, by omega, by omega, by omega⟩
    · refine sameC_tr (F8 b hb (fun y => n (.inl y))) (f25 b (fun y => n (.inl y)) (fun j a c y => ?_))
      rcases R8_ j (by unfold owP; omega) with q | q
      · exact n (.inr ⟨j, a, c, y.trans q⟩)
      · omega
    · rw [r25 j (by unfold owP at hj; omega)]; exact R8_ j hj
    · refine DJo_fr (fun b x y => f25 b (by omega) (fun j a c e => ?_)) L8 (fun j hj => R25 j (by unfold owP at hj; omega)) Dj8
      have q := own_j St8 (j := j) (by unfold owP; omega)
      rw [← e] at q
      omega
    · rw [eh25, hI_eq (by rw [(lstn t24).2.2.2.2.1]; decide) (by unfold rg; omega), List.length_append, List.length_singleton]; omega
    · rw [r25 24 (by decide), N25, List.length_append, List.length_singleton]; have := cpe8; omega
    · rw [List.length_append, List.length_singleton] at hi
      have v24 : hL h25 (hR h8 437 24) i = if i = l.length then p3 else hL h8 (hR h8 437 24) i := by
        rw [eh25, hL_ne (fun y => oo 24 (by decide) (by decide) y.symm), eh24, hL_ne (ne 28 24 (by decide) (by decide) (by decide) (by decide) (by decide)), eh21, hL_ne (ne 27 24 (by decide) (by decide) (by decide) (by decide) (by decide)), eh18, hL_ne (ne 26 24 (by decide) (by decide) (by decide) (by decide) (by decide)), eh15, hL_ne (ne 25 24 (by decide) (by decide) (by decide) (by decide) (by decide)), eh12]
        by_cases c : i = l.length
        · rw [if_pos c, c]; exact hL_eq (by omega)
        · rw [if_neg c]; exact hL_ni (fun y => c y.symm)
      have v25 : hL h25 (hR h8 437 25) i = if i = l.length then p4 else hL h8 (hR h8 437 25) i := by
        rw [eh25, hL_ne (fun y => oo 25 (by decide) (by decide) y.symm), eh24, hL_ne (ne 28 25 (by decide) (by decide) (by decide) (by decide) (by decide)), eh21, hL_ne (ne 27 25 (by decide) (by decide) (by decide) (by decide) (by decide)), eh18, hL_ne (ne 26 25 (by decide) (by decide) (by decide) (by decide) (by decide)), eh15]
        by_cases c : i = l.length
        · rw [if_pos c, c]; exact hL_eq (by rw [N12]; omega)
        · rw [if_neg c, hL_ni (fun y => c y.symm), eh12]; exact hL_ne (ne 24 25 (by decide) (by decide) (by decide) (by decide) (by decide))
      have v26 : hI h25 (hR h8 437 26) i = if i = l.length then p0 else hI h8 (hR h8 437 26) i := by
        rw [eh25, hI_ne (fun y => oo 26 (by decide) (by decide) y.symm), eh24, hI_ne (ne 28 26 (by decide) (by decide) (by decide) (by decide) (by decide)), eh21, hI_ne (ne 27 26 (by decide) (by decide) (by decide) (by decide) (by decide)), eh18]
        by_cases c : i = l.length
        · rw [if_pos c, c]; exact hI_eq (by rw [N15]; omega) r0
        · rw [if_neg c, hI_ni (fun y => c y.symm), eh15, hI_ne (ne 25 26 (by decide) (by decide) (by decide) (by decide) (by decide)), eh12]; exact hI_ne (ne 24 26 (by decide) (by decide) (by decide) (by decide) (by decide))
      have v27 : hI h25 (hR h8 437 27) i = if i = l.length then p1 else hI h8 (hR h8 437 27) i := by
        rw [eh25, hI_ne (fun y => oo 27 (by decide) (by decide) y.symm), eh24, hI_ne (ne 28 27 (by decide) (by decide) (by decide) (by decide) (by decide)), eh21]
        by_cases c : i = l.length
        · rw [if_pos c, c]; exact hI_eq (by rw [N18]; omega) r1
        · rw [if_neg c, hI_ni (fun y => c y.symm), eh18, hI_ne (ne 26 27 (by decide) (by decide) (by decide) (by decide) (by decide)), eh15, hI_ne (ne 25 27 (by decide) (by decide) (by decide) (by decide) (by decide)), eh12]; exact hI_ne (ne 24 27 (by decide) (by decide) (by decide) (by decide) (by decide))
      have v28 : hI h25 (hR h8 437 28) i = if i = l.length then p2 else hI h8 (hR h8 437 28) i := by
        rw [eh25, hI_ne (fun y => oo 28 (by decide) (by decide) y.symm), eh24]
        by_cases c : i = l.length
        · rw [if_pos c, c]; exact hI_eq (by rw [N21]; omega) r2
        · rw [if_neg c, hI_ni (fun y => c y.symm), eh21, hI_ne (ne 27 28 (by decide) (by decide) (by decide) (by decide) (by decide)), eh18, hI_ne (ne 26 28 (by decide) (by decide) (by decide) (by decide) (by decide)), eh15, hI_ne (ne 25 28 (by decide) (by decide) (by decide) (by decide) (by decide)), eh12]; exact hI_ne (ne 24 28 (by decide) (by decide) (by decide) (by decide) (by decide))
      rw [r25 24 (by decide), r25 25 (by decide), r25 26 (by decide), r25 27 (by decide), r25 28 (by decide), v24, v25, v26, v27, v28, app_getD]
      by_cases c : i = l.length
      · simp only [if_pos c]; exact ⟨rfl, rfl, rfl, rfl, rfl⟩
      · simp only [if_neg c]; exact z8.2.2 i (by omega)
  · refine ⟨fun c61 => ?_, fun c61 => ?_⟩
    · exact ⟨Fr_rf _ _, fun _ _ => rfl, Nat.le_refl _, fun _ _ => .inl rfl, ⟨St, Dj⟩, z, by have := z.1; omega, by omega, by omega, Nat.le_refl _⟩
    · have n24_ : hn h (hR h 437 24) = l.length := by have := Decidable.not_not.mp c61; have := z.1; omega
      have S : Src h l.length := by
        refine ⟨by omega, z.1, fun i hi => ?_⟩
        have : i = 0 ∨ i = 1 ∨ i = 2 ∨ i = 3 ∨ i = 4 := by omega
        rcases this with y | y | y | y | y
        · rw [y]; exact ⟨o24.1, n24_, hk_lt o24.1 (by decide)⟩
        · rw [y]; exact ⟨o25.1, n25.trans n24_, hk_lt o25.1 (by decide)⟩
        · rw [y]; exact ⟨o26.1, n26.trans n24_, hk_lt o26.1 (by decide)⟩
        · rw [y]; exact ⟨o27.1, n27.trans n24_, hk_lt o27.1 (by decide)⟩
        · rw [y]; exact ⟨o28.1, n28.trans n24_, hk_lt o28.1 (by decide)⟩
      have nC : l.length ≤ 2 * l.length := by omega
      have G0 := GA_0 h (2 * l.length) l.length
      clear o24 o25 o26 o27 o28 n25 n26 n27 n28 dd n64 n8 cpe lc
      refine ⟨(og_ (GA_i S G0) lt).1, ?_⟩
      intro a27 h28 ea27 eh28 t28 u28 ca27 la27
      rw [(og_ (GA_i S G0) lt).2] at eh28 la27
      obtain ⟨G1, ba27⟩ := GA_al G0 eh28 ea27 ca27 la27
      clear eh28 la27 ca27 ea27
      subst ba27
      refine ⟨(og_ (GA_i S G1) lt).1, ?_⟩
      intro a30 h31 ea30 eh31 t31 u31 ca30 la30
      rw [(og_ (GA_i S G1) lt).2] at eh31 la30
      obtain ⟨G2, ba30⟩ := GA_al G1 eh31 ea30 ca30 la30
      clear eh31 la30 ca30 ea30
      subst ba30
      refine ⟨(og_ (GA_i S G2) lt).1, ?_⟩
      intro a33 h34 ea33 eh34 t34 u34 ca33 la33
      rw [(og_ (GA_i S G2) lt).2] at eh34 la33
      obtain ⟨G3, ba33⟩ := GA_al G2 eh34 ea33 ca33 la33
      clear eh34 la33 ca33 ea33
      subst ba33
      refine ⟨(og_ (GA_i S G3) lt).1, ?_⟩
      intro a36 h37 ea36 eh37 t37 u37 ca36 la36
      rw [(og_ (GA_i S G3) lt).2] at eh37 la36
      obtain ⟨G4, ba36⟩ := GA_al G3 eh37 ea36 ca36 la36
      clear eh37 la36 ca36 ea36
      subst ba36
      refine ⟨(og_ (GA_i S G4) lt).1, ?_⟩
      intro a39 h40 ea39 eh40 t40 u40 ca39 la39
      rw [(og_ (GA_i S G4) lt).2] at eh40 la39
      obtain ⟨G5, ba39⟩ := GA_al G4 eh40 ea39 ca39 la39
      clear eh40 la39 ca39 ea39
      subst ba39
      refine ⟨(GA_o S G5 (i := 0) (by decide) nC).1, ?_⟩
      refine ⟨(GA_o S G5 (i := 0) (by decide) nC).2, ?_⟩
      intro h43 eh43 t43 u43
      have H1 := GA_cp (k := 0) t40 u43 S nC (by decide) G5 eh43
      refine ⟨(GA_o S H1 (i := 1) (by decide) nC).1, ?_⟩
      refine ⟨(GA_o S H1 (i := 1) (by decide) nC).2, ?_⟩
      intro h46 eh46 t46 u46
      have H2 := GA_cp (k := 1) t43 u46 S nC (by decide) H1 eh46
      refine ⟨(GA_o S H2 (i := 2) (by decide) nC).1, ?_⟩
      refine ⟨(GA_o S H2 (i := 2) (by decide) nC).2, ?_⟩
      intro h49 eh49 t49 u49
      have H3 := GA_cp (k := 2) t46 u49 S nC (by decide) H2 eh49
      refine ⟨(GA_o S H3 (i := 3) (by decide) nC).1, ?_⟩
      refine ⟨(GA_o S H3 (i := 3) (by decide) nC).2, ?_⟩
      intro h52 eh52 t52 u52
      have H4 := GA_cp (k := 3) t49 u52 S nC (by decide) H3 eh52
      refine ⟨(GA_o S H4 (i := 4) (by decide) nC).1, ?_⟩
      refine ⟨(GA_o S H4 (i := 4) (by decide) nC).2, ?_⟩
      intro h55 eh55 t55 u55
      have H5 := GA_cp (k := 4) t52 u55 S nC (by decide) H4 eh55
      intro h56 eh56 t56 u56
      intro h57 eh57 t57 u57
      intro h58 eh58 t58 u58
      intro h59 eh59 t59 u59
      intro h60 eh60 t60 u60
      exact A9_GA T t55 St Dj Z Bq z lt n24_ H5 (by rw [eh60, eh59, eh58, eh57, eh56]; rfl)
