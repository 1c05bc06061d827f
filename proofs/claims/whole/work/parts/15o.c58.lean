/-! A NEED IS KEPT; CALLS THAT READ THE TAPE -/
def putN (nd : Nat → ND) (m : Nat) (d : ND) : Nat → ND := fun i => if i = m then d else nd i
def nKp : Nat := xcs (some (.inr (6, List.replicate 1024 (v0 6))))
/-- a need is kept as number m -/
def KpP (h g : XH) (nd1 : Nat → ND) : Prop := Fr (fun b => b = 437 ∨ b = 440 ∨ (468 ≤ b ∧ hk h b = 106)) h g ∧ h.length ≤ g.length ∧ Gr 1 nKp h g ∧ (∀ j, ¬ j = 6 → ¬ j = 7 → el g 437 j = el h 437 j) ∧ hI g 437 7 = hI h 437 7 + 1 ∧ NT g nd1 ∧ DJo g
theorem xcs_rep (n : Nat) (hn : n ≤ 1024) : xcs (some (.inr (6, List.replicate n (v0 6)))) ≤ nKp := by
  unfold nKp xcs
  simp only [List.length_replicate]
  exact hn
theorem NeedR_fr2 {h h1 : XH} {q : Nat} {d : ND} (S : ∀ b, 468 ≤ b → (hk h b = 14 ∨ hk h b = 100) → sameC h h1 b) (z : NeedR h q d) : NeedR h1 q d := by
  obtain ⟨z1, z2, z3, z4, z5, z6, z7, bg, a1, a2, a3, a4, a5, a6, a7, a8, a9, a10⟩ := z
  have s0 := S q z4 (.inl z1)
  have s1 : sameC h h1 (hR h q 1) := S _ z5 (.inr a1)
  have s2 : sameC h h1 (hR h q 2) := S _ z6 (.inr a3)
  have s3 : sameC h h1 (hR h q 3) := S _ z7 (.inr a5)
  unfold NeedR
  rw [sameC_k s0, sameC_I s0, sameC_R s0 1, sameC_R s0 2, sameC_R s0 3, sameC_k s1, sameC_n s1, sameC_k s2, sameC_n s2, sameC_k s3, sameC_n s3]
  refine ⟨z1, z2, z3, z4, z5, z6, z7, bg, a1, a2, a3, a4, a5, a6, a7, a8, fun i hi => by rw [sameC_I s2]; exact a9 i hi, fun i hi => ?_⟩
  obtain ⟨b1, b2, b3⟩ := a10 i hi
  refine ⟨by rw [sameC_I s1]; exact b1, b2, fun j hj => ?_⟩
  rw [sameC_I s3, sameC_I s3, sameC_I s3]
  exact b3 j hj
set_option maxHeartbeats 4000000 in
theorem c_X14_keep {p0 : Nat} {d : ND} {nd : Nat → ND} {h : XH} (T : HT h) (Z : NT h nd) (Dj : DJo h) (Nd : NeedR h p0 d) (fresh : ∀ j t, owP j → 1 ≤ t → t ≤ 3 → ¬ hR h p0 t = hR h 437 j) (hc : hI h 437 7 ≤ 511) {K : Int → XH → Prop} (k : ∀ g, KpP h g (putN nd (hI h 437 7).toNat d) → K (hI h 437 7) g) : w_X14_keep p0 K h := by
  unfold w_X14_keep
  obtain ⟨w1, w2, w3, w4, w5, w6, w7, w8⟩ := id Z
  obtain ⟨m, em⟩ : ∃ m : Nat, hI h 437 7 = (m : Int) := ⟨(hI h 437 7).toNat, by omega⟩
  have tl : hR h 437 6 < h.length := hk_lt w3 (by decide)
  have L := HT_len T
  refine ⟨w3, ?_⟩
  refine ⟨(by omega), ?_⟩
  refine ⟨fun g => Fr (fun b => b = 437) h g ∧ h.length ≤ g.length ∧ Gr 1 nKp h g ∧ (∀ j, ¬ j = 6 → el g 437 j = el h 437 j) ∧ hk g (hR g 437 6) = 106 ∧ ((hR g 437 6 = 440 ∨ 468 ≤ hR g 437 6) ∧ (hR g 437 6 = hR h 437 6 ∨ h.length ≤ hR g 437 6)) ∧ hI h 437 7 < hn g (hR g 437 6) ∧ (16 ≤ hn g (hR g 437 6) ∧ hn g (hR g 437 6) ≤ 1024) ∧ ∀ i, i < m → hR g (hR g 437 6) i = hR h (hR h 437 6) i, ?_, ?_⟩
  · intro h4 t4 s4 z5
    obtain ⟨F4, l4, G4, e4, k4, ⟨t4a, t4b⟩, c4, ⟨n4a, n4b⟩, old⟩ := z5
    have i4 : hI h4 437 7 = hI h 437 7 := congrArg gvI (e4 7 (by decide))
    refine ⟨k4, ?_⟩
    refine ⟨(by omega), ?_⟩
    refine ⟨(.inr (by have := Nd.2.2.2.1; rw [sameC_k (F4 p0 (hk_lt Nd.1 (by decide)) (by omega))]; exact Nd.1)), ?_⟩
    intro h9 eh9 t9 u9
    intro h10 eh10 t10 u10
    obtain ⟨tb, etb⟩ : ∃ tb, tb = hR h4 437 6 := ⟨_, rfl⟩
    rw [← etb] at k4 t4a t4b c4 n4a n4b old eh9
    have ntb : ¬ tb = 437 := by omega
    have n442 : ¬ tb = 442 := by omega
    have ei : (hI h4 437 7).toNat = m := by omega
    rw [ei] at eh9
    have q437 : ∀ j, ¬ j = 6 → ¬ j = 7 → el h10 437 j = el h 437 j := fun j n6 n7 => by rw [eh10, el_ni (by omega), eh9, el_ne (by omega)]; exact e4 j n6
    have r10 : hR h10 437 6 = tb := by rw [eh10, hR_ni (by decide), eh9, hR_ne (by omega)]; exact etb.symm
    have i9 : hI h9 437 7 = (m : Int) := by rw [eh9, hI_ne (by omega)]; omega
    have i10 : hI h10 437 7 = (m : Int) + 1 := by rw [eh10, hI_eq (by rw [(lstn t9).2.2.2.2.1]; decide) (rgw _), i9, wr_of (by omega) (by omega)]
    have k10 : hk h10 tb = 106 := by rw [eh10, hk_sV, eh9, hk_sV]; exact k4
    have n10 : hn h10 tb = hn h4 tb := by rw [eh10, hn_sV, eh9, hn_sV]
    have el10 : ∀ i, el h10 tb i = el h9 tb i := fun i => by rw [eh10, el_ne (by omega)]
    have new : hR h10 tb m = p0 := by unfold hR; rw [el10, eh9]; exact hR_eq (by omega)
    have oldi : ∀ i, i < m → hR h10 tb i = hR h (hR h 437 6) i := fun i hi => by
      rw [← old i hi]
      unfold hR
      rw [el10, eh9, el_ni (by omega)]
    have S49 : ∀ b, ¬ b = tb → sameC h4 h9 b := fun b n2 => by rw [eh9]; exact sameC_sV (fun z => n2 z.symm)
    have S910 : ∀ b, ¬ b = 437 → sameC h9 h10 b := fun b n1 => by rw [eh10]; exact sameC_sV (fun z => n1 z.symm)
    have S10 : ∀ b, b < h.length → ¬ b = 437 → ¬ b = tb → sameC h h10 b := fun b hb n1 n2 => sameC_tr (F4 b hb n1) (sameC_tr (S49 b n2) (S910 b n1))
    have tk : tb < h.length → hk h tb = 106 := fun lt => by
      rcases t4b with y | y
      · rw [y]; exact w3
      · omega
    have SK : ∀ b, 468 ≤ b → (hk h b = 14 ∨ hk h b = 100) → sameC h h10 b := fun b hb y => by
      have lb : b < h.length := by rcases y with y | y <;> exact hk_lt y (by decide)
      exact S10 b lb (by omega) (fun z => by rw [z] at y lb; have := tk lb; omega)
    have ex : wr (hI h10 437 7 - 1) = hI h 437 7 := by rw [i10, em, wr_of (by omega) (by omega)]; omega
    rw [ex]
    have mt : (hI h 437 7).toNat = m := by omega
    refine k h10 ⟨fun b hb n => ?_, ?_, ?_, q437, by omega, ?_, ?_⟩
    · refine S10 b hb (fun z => n (.inl z)) (fun z => n ?_)
      rcases t4a with y | y
      · exact .inr (.inl (by omega))
      · exact .inr (.inr ⟨by omega, by rw [z]; exact tk (by omega)⟩)
    · rw [eh10, len_sV, eh9, len_sV]; exact l4
    · refine ⟨by rw [eh10, len_sV, eh9, len_sV]; exact G4.1, by rw [eh10, xhs_sV, eh9, xhs_sV]; exact G4.2⟩
    · unfold NT
      rw [r10, i10, mt]
      refine ⟨by omega, by omega, k10, by omega, by omega, by omega, t4a, fun i hi => ?_⟩
      by_cases c : i = m
      · rw [c, new]
        unfold putN
        rw [if_pos rfl]
        exact NeedR_fr2 SK Nd
      · rw [oldi i (by omega)]
        unfold putN
        rw [if_neg c]
        exact NeedR_fr2 SK (w8 i (by omega))
    · obtain ⟨d1, ⟨d2, d3⟩, d4, d5⟩ := Dj
      have ro : ∀ j, owP j → hR h10 437 j = hR h 437 j := fun j hj => congrArg gvR (q437 j (by unfold owP at hj; omega) (by unfold owP at hj; omega))
      have r39 : hR h10 437 39 = hR h 437 39 := congrArg gvR (q437 39 (by decide) (by decide))
      have r45 : hR h10 437 45 = hR h 437 45 := congrArg gvR (q437 45 (by decide) (by decide))
      have s442 := S10 442 (by omega) (by decide) (fun z => n442 z.symm)
      unfold DJo
      rw [r10, i10, r39, r45]
      refine ⟨fun j k' hj hk' n => by rw [ro j hj, ro k' hk']; exact d1 j k' hj hk' n, ⟨k10, t4a⟩, fun i hi => ?_, fun j hj => ?_⟩
      · by_cases c : i = m
        · rw [c, new]
          have sp := SK p0 Nd.2.2.2.1 (.inl Nd.1)
          rw [sameC_k sp]
          exact ⟨Nd.1, Nd.2.2.2.1, fun j t hj h1 h3 => by rw [sameC_R sp, ro j hj]; exact fresh j t hj h1 h3⟩
        · rw [oldi i (by omega)]
          obtain ⟨y1, y2, y3⟩ := d4 i (by omega)
          have sp := SK _ y2 (.inl y1)
          rw [sameC_k sp]
          exact ⟨y1, y2, fun j t hj h1 h3 => by rw [sameC_R sp, ro j hj]; exact y3 j t hj h1 h3⟩
      · rw [ro j hj]
        obtain ⟨y1, y2, y3⟩ := d5 j hj
        exact ⟨fun p hp => by rw [sameC_R s442]; exact y1 p hp, y2, y3⟩
  · refine ⟨fun c18 => ?_, fun c18 => ?_⟩
    · exact ⟨Fr_rf _ _, Nat.le_refl _, Gr_mono (Gr_rf h) (by omega) (by omega), fun _ _ => rfl, w3, ⟨w7, .inl rfl⟩, by omega, ⟨w5, w6⟩, fun _ _ => rfl⟩
    · refine ⟨(by rw [wr_of (by omega) (by omega)]; omega), ?_⟩
      intro a12 h13 ea12 eh13 t13 u13 ca12 la12
      rw [wr_of (by omega) (by omega)] at eh13 la12
      have s13 : ∀ b, b < h.length → sameC h h13 b := fun b hb => by rw [eh13]; exact sameC_app hb
      have r13 : hR h13 437 6 = hR h 437 6 := sameC_R (s13 437 (by omega)) 6
      have i13 : hI h13 437 7 = hI h 437 7 := sameC_I (s13 437 (by omega)) 7
      have k13 : hk h13 (hR h 437 6) = 106 := (sameC_k (s13 _ tl)).trans w3
      have n13 : hn h13 (hR h 437 6) = hn h (hR h 437 6) := sameC_n (s13 _ tl)
      rw [r13, i13, n13]
      refine ⟨k13, ?_⟩
      refine ⟨(by omega), ?_⟩
      intro h16 eh16 t16 u16
      intro h17 eh17 t17 u17
      have e16 := el_cA (h := h13) (a := hR h 437 6) (sp := 0) (b := a12) (dp := 0) (n := (hI h 437 7).toNat) (t := t13) (u := 6) k13 ca12 (by decide) (by omega) (by omega)
      rw [← eh16] at e16
      have x16 : xhs h16 = xhs h13 := by rw [eh16]; exact xhs_cA (t := t13) (u := 6) k13 ca12 (by decide) (by omega) (by omega)
      have s16 : ∀ b, ¬ b = a12 → sameC h13 h16 b := fun b n => by rw [eh16]; exact sameC_cA (fun z => n z.symm)
      have l16 : h16.length = h.length + 1 := by rw [eh16, len_cA, eh13]; unfold nA; rw [len_app]
      have k16 : hk h16 a12 = 106 := HXk u16 ca12 rfl
      have n16 : hn h16 a12 = hn h13 a12 := by unfold hn; rw [u16.2 a12 (hk_lt ca12 (by decide))]
      have r17 : hR h17 437 6 = a12 := by rw [eh17]; exact hR_eq (by rw [(lstn t16).2.2.2.2.1]; decide)
      have s17 : ∀ b, ¬ b = 437 → sameC h16 h17 b := fun b n => by rw [eh17]; exact sameC_sV (fun z => n z.symm)
      have na : ¬ a12 = 437 := by omega
      have xr := xcs_rep (2 * hI h 437 7).toNat (by omega)
      refine ⟨fun b hb n => sameC_tr (s13 b hb) (sameC_tr (s16 b (by omega)) (s17 b n)), by rw [eh17, len_sV]; omega, ⟨by rw [eh17, len_sV]; omega, ?_⟩, fun j n => ?_, by rw [r17, sameC_k (s17 _ na)]; exact k16, ⟨by rw [r17]; omega, by rw [r17]; omega⟩, by rw [r17, sameC_n (s17 _ na)]; omega, by rw [r17, sameC_n (s17 _ na)]; omega, fun i hi => ?_⟩
      · rw [eh17, xhs_sV, x16, eh13, xhs_nA]; omega
      · rw [eh17, el_ni (by omega), sameC_el (s16 437 (by omega))]; exact sameC_el (s13 437 (by omega)) j
      · rw [r17, sameC_R (s17 _ na)]
        have := e16 i
        rw [if_pos (by omega)] at this
        unfold hR
        rw [this, Nat.zero_add, Nat.sub_zero]
        exact congrArg gvR (sameC_el (s13 _ tl) i)
/-- all but the tape -/
def InvT (h : XH) (nd : Nat → ND) (o u : Int) (c : Nat) : Prop := Core0 h nd o u ∧ Bd h o u c ∧ CaC h (nw h) nd ∧ CaR h (nw h) nd
theorem InvT_of {h : XH} {nd : Nat → ND} {o u : Int} {c : Nat} (R : Inv h nd o u c) : InvT h nd o u c := ⟨Core_0 R.1, R.2⟩
theorem Core0_fr {S : Nat → Prop} {h h1 : XH} {nd : Nat → ND} {o u : Int} (T : HT h) (R : Core0 h nd o u) (f : Fr S h h1) (s : ∀ b, S b → b < 8 ∨ (44 ≤ b ∧ b < 86) ∨ b = 437 ∨ (441 ≤ b ∧ b < 468)) (e2 : ∀ j, j = 9 ∨ j = 10 → el h1 2 j = el h 2 j) (e437 : ∀ j, j = 2 ∨ j = 3 ∨ j = 6 ∨ j = 7 → el h1 437 j = el h 437 j) : Core0 h1 nd o u := by
  obtain ⟨C, W, Nt, P, B⟩ := R
  have L := HT_len T
  have G : ∀ b, b < h.length → ¬ (b < 8 ∨ (44 ≤ b ∧ b < 86) ∨ b = 437 ∨ (441 ≤ b ∧ b < 468)) → sameC h h1 b := fun b hb n => f b hb (fun y => n (s b y))
  have X : ∀ a, hk h a = 1 ∨ hk h a = 11 → sameC h h1 a := txt_fr T f (fun b y => by have := s b y; omega)
  have en : nw h1 = nw h := nw_fr (G 438 (by omega) (by omega))
  have e7 : hI h1 437 7 = hI h 437 7 := congrArg gvI (e437 7 (by omega))
  unfold Core0
  rw [en, e7]
  refine ⟨CS_fr (fun j hj => G (8 + j) (by omega) (by omega)) X (WF_b W) C, W, NT_fr (fun b hb hl => G b hl (by omega)) (G 440 (by omega) (by omega)) (congrArg gvR (e437 6 (by omega))) e7 Nt, ?_, by rw [sameC_I (G 43 (by omega) (by omega))]; exact B⟩
  obtain ⟨p0, p1, p2, p3, p4, p5⟩ := P
  refine ⟨p0, (congrArg gvI (e2 9 (by omega))).trans p1, (congrArg gvI (e2 10 (by omega))).trans p2, (congrArg gvI (e437 2 (by omega))).trans p3, (congrArg gvI (e437 3 (by omega))).trans p4, fun k hk => ?_⟩
  obtain ⟨y1, y2⟩ := p5 k hk
  have B2 := bs_lt (k := ((o + k) % 10).toNat) (by omega)
  rw [pst_fr (G 439 (by omega) (by omega))]
  exact ⟨CS_fr (fun j hj => G _ (by omega) (by omega)) X (WF_b y2) y1, y2⟩
theorem InvT_fr {S : Nat → Prop} {h h1 : XH} {nd : Nat → ND} {o u : Int} {c : Nat} (T : HT h) (R : InvT h nd o u c) (f : Fr S h h1) (s : ∀ b, S b → b < 8 ∨ (79 ≤ b ∧ b < 86) ∨ b = 437 ∨ b = 441 ∨ (443 ≤ b ∧ b < 446) ∨ (462 ≤ b ∧ b < 468)) (e2 : ∀ j, j = 9 ∨ j = 10 ∨ j = 11 → el h1 2 j = el h 2 j) (e437 : ∀ j, (2 ≤ j ∧ j ≤ 4) ∨ j = 6 ∨ j = 7 ∨ j = 12 ∨ (24 ≤ j ∧ j ≤ 33) ∨ (37 ≤ j ∧ j ≤ 41) ∨ (44 ≤ j ∧ j ≤ 55) → el h1 437 j = el h 437 j) : InvT h1 nd o u c := by
  obtain ⟨R1, R2, R3, R4⟩ := R
  have L := HT_len T
  have G : ∀ b, b < h.length → ¬ (b < 8 ∨ (79 ≤ b ∧ b < 86) ∨ b = 437 ∨ b = 441 ∨ (443 ≤ b ∧ b < 446) ∨ (462 ≤ b ∧ b < 468)) → sameC h h1 b := fun b hb n => f b hb (fun y => n (s b y))
  have en : nw h1 = nw h := nw_fr (G 438 (by omega) (by omega))
  have ep : ∀ k, pst h1 k = pst h k := fun k => pst_fr (G 439 (by omega) (by omega)) k
  obtain ⟨b1, b2, b3, b4, b5⟩ := R2
  refine ⟨Core0_fr T R1 f (fun b y => by have := s b y; omega) (fun j hj => e2 j (by omega)) (fun j hj => e437 j (by omega)), ?_, ?_, ?_⟩
  · have i4 : hI h1 437 4 = hI h 437 4 := congrArg gvI (e437 4 (by omega))
    have i7 : hI h1 437 7 = hI h 437 7 := congrArg gvI (e437 7 (by omega))
    unfold Bd
    rw [i4, i7, en]
    exact ⟨b1, b2, b3, b4, fun k hk => by rw [ep]; exact b5 k hk⟩
  · rw [en]
    exact CaC_fr (fun b x y => G b (by omega) (by omega)) (e2 11 (by omega)) R3
  · rw [en]
    exact CaR_fr (fun b x y => G b y (by omega)) (fun j hj => e437 j (by omega)) L R4
theorem ClF_T {h g : XH} {nd : Nat → ND} {o u : Int} {c : Nat} (T : HT h) (R : InvT h nd o u c) (F : ClF h g) : InvT g nd o u c := by
  have L := HT_len T
  have s : ∀ b, b < h.length → ¬ b = 3 → ¬ (5 ≤ b ∧ b < 8) → sameC h g b := fun b hb n1 n2 => F.1 b hb (by omega)
  exact InvT_fr T R F.1 (fun b y => by omega) (fun j _ => sameC_el (s 2 (by omega) (by decide) (by decide)) j) (fun j _ => sameC_el (s 437 (by omega) (by decide) (by decide)) j)
def nTx : Nat := 402 * n6 + xcs none + nRd
/-- both have read the tape, which is empty now -/
theorem bothT {h g g1 g2 : XH} {nd : Nat → ND} {o u pe : Int} {c : Nat} {S : Nat → Prop} (T : HT h) (R : Inv h nd o u c) (F : ClF h g) (hp : hI g 3 2 = pe) (Fg : Fr S g g1) (s : ∀ b, S b → b = 437 ∨ b = 467) (lg : g.length ≤ g1.length) (e5 : ∀ j, ¬ j = 5 → el g1 437 j = el g 437 j) (q2 : RdF g1 g2) (p2 : hI g2 437 10 = pe) : Inv g2 nd o u c := by
  have L := HT_len T
  have gl := F.2.2.2.2.1
  have s1 : ∀ b, b < h.length → ¬ b = 3 → ¬ (5 ≤ b ∧ b < 8) → ¬ b = 437 → ¬ b = 467 → sameC h g1 b := fun b hb n1 n2 n3 n4 => sameC_tr (F.1 b hb (by omega)) (Fg b (by omega) (fun y => by have := s b y; omega))
  have s3 : sameC g g1 3 := Fg 3 (by omega) (fun y => by have := s 3 y; omega)
  have t3 : sameC g1 g2 3 := q2.1 3 (by omega) (by decide)
  refine Inv_fr (S := fun b => b = 3 ∨ (5 ≤ b ∧ b < 8) ∨ b = 437 ∨ b = 467 ∨ (443 ≤ b ∧ b < 446)) T R (fun b hb n => sameC_tr (s1 b hb (by omega) (by omega) (by omega) (by omega)) (q2.1 b (by omega) (by omega))) (fun b y => by omega) (fun j _ => ?_) (fun j hj => ?_) ?_
  · exact (sameC_el (q2.1 2 (by omega) (by decide)) j).trans (sameC_el (s1 2 (by omega) (by decide) (by decide) (by decide) (by decide)) j)
  · exact (q2.2.2.2.1 j (by omega) (by omega) (by omega)).trans ((e5 j (by omega)).trans (sameC_el (F.1 437 (by omega) (by decide)) j))
  · have z : hI g2 3 1 = 0 := by rw [sameC_I t3, sameC_I s3]; exact F.2.2.1
    refine ⟨by omega, by omega, by rw [z]; exact q2.2.2.2.2, ?_, fun i hi => by omega⟩
    rw [p2, sameC_I t3, sameC_I s3]; exact hp.symm
/-- the text is wrong -/
theorem badT {h g g1 g2 g3 : XH} {nd : Nat → ND} {o u pe e : Int} {c : Nat} (T : HT h) (R : Inv h nd o u c) (F : ClF h g) (hp : hI g 3 2 = pe) (e1 : g1 = sI (nT g) 437 5 0) (T1 : HT (nT g)) (q2 : RdF g1 g2) (p2 : hI g2 437 10 = pe) (T2 : HT g2) (re : rg e) (e3 : g3 = sI g2 437 5 e) : Inv g3 nd o u c ∧ hI g3 437 5 = e ∧ Gr 407 nTx h g3 := by
  have lT : (nT g).length = g.length + 1 := by unfold nT; rw [len_app]
  have L := HT_len T
  have gl := F.2.2.2.2.1
  have I2 : Inv g2 nd o u c := bothT (S := fun b => b = 437) (g1 := g1) T R F hp (fun b hb n => sameC_tr (nT_s g hb) (by rw [e1]; exact sameC_sV (fun z => n z.symm))) (fun b y => .inl y) (by rw [e1, len_sV]; omega) (fun j n => by rw [e1, el_ni (fun z => n z.symm)]; exact sameC_el (nT_s g (by omega)) j) q2 p2
  refine ⟨by rw [e3]; exact Inv_5 T2 I2, h5_0 T2 re e3, ?_⟩
  have G := Gc_Gr F.2.2.2
  have G2 := q2.2.2.1
  have x1 : xhs g1 = xhs g + xcs none := by rw [e1, xhs_sV, xhs_nT]
  have l1 : g1.length = g.length + 1 := by rw [e1, len_sV]; exact lT
  unfold nTx
  exact ⟨by rw [e3, len_sV]; have := G.1; have := G2.1; omega, by rw [e3, xhs_sV]; have := G.2; have := G2.2; omega⟩
/-- both have read a text and kept their state, then set something -/
theorem setT {S : Nat → Prop} {N' : Nat → Int} {h g h2 h4 h5 g1 g2 g5 g7 : XH} {nd nd1 : Nat → ND} {o u pe : Int} {y : BitVec 64} {c n1 s1 : Nat} (T : HT h) (R : Inv h nd o u c) (hc : c < 1000) (hs : ∀ b, S b → b = 2 ∨ (8 ≤ b ∧ b < 43) ∨ (44 ≤ b ∧ b < 86))
    (F : ClF h g) (hp : hI g 3 2 = pe) (Tg : HT g) (r : Rmb o u g h2) (T2 : HT h2) (F4 : Fr S h2 h4) (l4 : h4.length = h2.length) (x4 : xhs h4 = xhs h2) (e2 : ∀ j, j = 9 ∨ j = 10 → el h4 2 j = el h2 2 j) (T4 : HT h4) (C4 : CS h4 8 N' nd1) (CC4 : CaC h4 N' nd1) (e5 : h5 = sL h4 467 0 y) (T5 : HT h5)
    (e1 : g1 = sI h5 437 5 0) (T1 : HT g1) (q2 : RdF g1 g2) (p2 : hI g2 437 10 = pe) (Tg2 : HT g2) (r3 : Rrec ((o + u) % 10) u g2 g5) (T6 : HT g5) (F7 : Fr (fun b => b = 437 ∨ b = 438 ∨ b = 440 ∨ (468 ≤ b ∧ hk g5 b = 106)) g5 g7) (e7 : ∀ j, ¬ j = 6 → ¬ j = 7 → el g7 437 j = el g5 437 j) (G7 : Gr n1 s1 g5 g7) (en : nw g7 = N')
    (N7 : NT g7 nd1) (D7 : DJo g7) (mm : hI h 437 7 ≤ hI g7 437 7 ∧ hI g7 437 7 ≤ ((c + 1 : Nat) : Int)) (ag : ∀ i, i < (hI h 437 7).toNat → nd1 i = nd i) (ag2 : ∀ i, 5000 ≤ i → nd1 i = nd i) (W' : WF N' (hI g7 437 7).toNat) (B' : BdN (nw h) c → BdN N' (c + 1)) :
    (∃ o' u', Inv g7 nd1 o' u' (c + 1)) ∧ Gr (406 + n1) (nTx + s1) h g7 ∧ hI g7 437 5 = 0 ∧ hL g7 467 0 = y := by
  have L := HT_len T
  have gl := F.2.2.2.2.1
  have I0 := ClF_T T (InvT_of R) F
  obtain ⟨R1, R2, R3, R4⟩ := I0
  obtain ⟨b0, -⟩ := id R1.2.2.2.1
  have Bs := bs_lt (k := ((o + u) % 10).toNat) (by omega)
  have rl := r.2.1
  have l5 : h5.length = h4.length := by rw [e5, len_sV]
  have l1 : g1.length = h5.length := by rw [e1, len_sV]
  have l12 := q2.2.1
  have ql := r3.2.1
  have n438 : nw g = nw h := nw_fr (F.1 438 (by omega) (by decide))
  have F45 : ∀ b, ¬ b = 467 → sameC h4 h5 b := fun b n => by rw [e5]; exact sameC_sV (fun z => n z.symm)
  have F51 : ∀ b, ¬ b = 437 → sameC h5 g1 b := fun b n => by rw [e1]; exact sameC_sV (fun z => n z.symm)
  have F41 : Fr (fun b => b = 467 ∨ b = 437) h4 g1 := fun b hb n => sameC_tr (F45 b (fun z => n (.inl z))) (F51 b (fun z => n (.inr z)))
  have F42 : Fr (fun b => b = 467 ∨ b = 437 ∨ (443 ≤ b ∧ b < 446)) h4 g2 := fun b hb n => sameC_tr (F41 b hb (by omega)) (q2.1 b (by omega) (by omega))
  have s4 : ∀ b, b < g.length → (b = 3 ∨ b = 4 ∨ b = 43 ∨ 437 ≤ b) → sameC g h4 b := fun b hb x => sameC_tr (r.1 b hb (by omega)) (F4 b (by omega) (fun y => by have := hs _ y; omega))
  have s1' : ∀ b, b < g.length → (b = 3 ∨ b = 4 ∨ b = 43 ∨ 438 ≤ b) → ¬ b = 467 → sameC g g1 b := fun b hb x n => sameC_tr (s4 b hb (by omega)) (F41 b (by omega) (by omega))
  have s2' : ∀ b, b < g.length → (b = 3 ∨ b = 4 ∨ b = 43 ∨ 438 ≤ b) → ¬ b = 467 → ¬ (443 ≤ b ∧ b < 446) → sameC g g2 b := fun b hb x n n2 => sameC_tr (s1' b hb x n) (q2.1 b (by omega) (by omega))
  have b437 : ∀ j, ¬ j = 5 → el g1 437 j = el g 437 j := fun j n => by
    rw [e1, el_ni (fun z => n z.symm), e5, el_ne (by decide)]
    exact sameC_el (s4 437 (by omega) (by omega)) j
  have c437 : ∀ j, ¬ j = 5 → ¬ (9 ≤ j ∧ j ≤ 10) → ¬ (13 ≤ j ∧ j ≤ 17) → ¬ (21 ≤ j ∧ j ≤ 23) → el g2 437 j = el g 437 j := fun j n m1 m2 m3 => (q2.2.2.2.1 j m1 m2 m3).trans (b437 j n)
  have n2' : nw g2 = nw g := nw_fr (s2' 438 (by omega) (by omega) (by omega) (by omega))
  have CR2 : CaR g2 (nw g2) nd := by
    rw [n2']
    exact CaR_fr (fun b x y => s2' b y (by omega) (by omega) (by omega)) (fun j hj => c437 j (by omega) (by omega) (by omega) (by omega)) (by omega) R4
  have f5 : ∀ b, b < g5.length → ¬ b = 437 → ¬ b = 438 → ¬ b = 440 → ¬ (468 ≤ b ∧ hk g5 b = 106) → sameC g5 g7 b := fun b hb x1 x2 x3 x4 => F7 b hb (by omega)
  have wb := WF_b W'
  have X4 : ∀ a, hk h4 a = 1 ∨ hk h4 a = 11 → sameC h4 g7 a := fun a ha => by
    have ha4 : ¬ a < 468 := fun y => noTxt T4 y ha
    have la : a < h4.length := by rcases ha with z | z <;> exact hk_lt z (by decide)
    have z2 := F42 a la (by omega)
    have z5 : sameC g2 g5 a := r3.1 a (by omega) (by omega)
    have k5 : hk g5 a = hk h4 a := (sameC_k z5).trans (sameC_k z2)
    exact sameC_tr (sameC_tr z2 z5) (f5 a (by omega) (by omega) (by omega) (by omega) (fun z => by rcases ha with w | w <;> omega))
  have S4 : ∀ b, b < 437 → sameC h4 g7 b := fun b hb => sameC_tr (sameC_tr (F42 b (by omega) (by omega)) (r3.1 b (by omega) (by omega))) (f5 b (by omega) (by omega) (by omega) (by omega) (by omega))
  have nC : CS g7 8 (nw g7) nd1 := by
    rw [en]
    exact CS_fr (fun j hj => S4 (8 + j) (by omega)) X4 wb C4
  have t3 : sameC g g7 3 := sameC_tr (s4 3 (by omega) (by omega)) (S4 3 (by decide))
  have i7 : hI g 437 7 = hI h 437 7 := sameC_I (F.1 437 (by omega) (by decide)) 7
  refine ⟨?_, ?_, ?_, ?_⟩
  · refine Inv_chg (h := g) (h1 := h2) (h2 := g2) (h3 := g5) (F := fun b => b = 437 ∨ b = 438 ∨ b = 440 ∨ (468 ≤ b ∧ hk g5 b = 106)) Tg R1 R2 hc r (fun b hb y => ?_) (by omega) (fun j hj => ?_) (fun j hj => ?_) CR2 r3 T6 F7 (fun b y => by omega) (fun j hj => e7 j (by omega) (by omega)) nC (by rw [en]; exact W') N7 (by rw [i7]; exact mm) (fun i hi => ag i (by rw [i7] at hi; exact hi)) ag2 D7 ?_ ?_ (by rw [en]; exact B' (by have := R2.2.2.2.1; rw [n438] at this; exact this))
    · have g4 : sameC h2 h4 b := F4 b hb (fun q => by
        have := hs b q
        rcases y with y | y | y | y | y | y
        · omega
        · omega
        · omega
        · omega
        · exact noTxt T2 (b := b) (by omega) (.inl y)
        · exact noTxt T2 (b := b) (by omega) (.inr y))
      refine sameC_tr g4 (F42 b (by omega) ?_)
      rcases y with y | y | y | y | y | y
      · omega
      · omega
      · omega
      · omega
      · intro q; exact noTxt T4 (b := b) (by omega) (by rw [sameC_k g4]; exact .inl y)
      · intro q; exact noTxt T4 (b := b) (by omega) (by rw [sameC_k g4]; exact .inr y)
    · rw [sameC_el (F42 2 (by omega) (by decide))]; exact e2 j hj
    · rw [c437 j (by omega) (by omega) (by omega) (by omega)]
      exact (sameC_el (r.1 437 (by omega) (by omega)) j).symm
    · rw [en]
      exact CaC_fr (fun b x y => S4 b (by omega)) (sameC_el (S4 2 (by decide)) 11) CC4
    · have z : hI g7 3 1 = 0 := by rw [sameC_I t3]; exact F.2.2.1
      have k9 : hI g7 437 9 = 0 := (congrArg gvI ((e7 9 (by decide) (by decide)).trans (r3.2.2.2.2.2.1 9 (by decide) (by decide) (by decide)))).trans q2.2.2.2.2
      have k10 : hI g7 437 10 = pe := (congrArg gvI ((e7 10 (by decide) (by decide)).trans (r3.2.2.2.2.2.1 10 (by decide) (by decide) (by decide)))).trans p2
      refine ⟨by omega, by omega, by omega, ?_, fun i hi => by omega⟩
      rw [k10, sameC_I t3]; exact hp.symm
  · have y1 := r.2.2.1
    have y2 := r3.2.2.1
    have y3 : xhs g1 = xhs h4 := by rw [e1, xhs_sV, e5, xhs_sV]
    have z := q2.2.2.1
    have w := Gc_Gr F.2.2.2
    unfold nTx
    exact ⟨by have := z.1; have := G7.1; have := w.1; omega, by have := z.2; have := G7.2; have := w.2; omega⟩
  · rw [show hI g7 437 5 = hI g5 437 5 from congrArg gvI (e7 5 (by decide) (by decide)), show hI g5 437 5 = hI g2 437 5 from congrArg gvI (r3.2.2.2.2.2.1 5 (by decide) (by decide) (by decide)), show hI g2 437 5 = hI g1 437 5 from congrArg gvI (q2.2.2.2.1 5 (by decide) (by decide) (by decide))]
    exact h5_0 T5 (rgk rfl) e1
  · have : sameC h5 g7 467 := sameC_tr (by rw [e1]; exact sameC_sV (by decide)) (sameC_tr (q2.1 467 (by omega) (by decide)) (sameC_tr (r3.1 467 (by omega) (by decide)) (f5 467 (by omega) (by decide) (by decide) (by decide) (by omega))))
    rw [sameC_L this, e5]
    exact hL_eq (by rw [lyn (c := 101) (n := 1) T4 rfl]; decide)
/-- the class has forgotten what it had worked out -/
theorem CaC_0n {h h1 : XH} {N M : Nat → Int} {nd nd1 : Nat → ND} (z : CaC h N nd) (e : hI h1 2 11 = 0) (s : sameC h h1 58) : CaC h1 M nd1 := by
  unfold CaC
  rw [e]
  exact ⟨by decide, by decide, fun x => absurd x (by decide), fun x => absurd x (by decide), fun x => absurd x (by decide), fun x => absurd x (by decide), fun c hc => by rw [sameC_I s]; exact z.2.2.2.2.2.2 c hc⟩
/-- calls that read a text, then set -/
theorem dsetT {S : Nat → Prop} {N' : Nat → Int} {h : XH} {nd nd1 : Nat → ND} {o u e x pe : Int} {E1 : Prop} {L : List Int} {c n1 s1 : Nat} {wL : (Int → XH → Prop) → Prop} {wR : XH → (Int → XH → Prop) → Prop} (T : HT h) (R : Inv h nd o u c) (hc : c < 1000) (re : rg e) (hs : ∀ b, S b → b = 2 ∨ (8 ≤ b ∧ b < 43) ∨ (44 ≤ b ∧ b < 86)) (Z9 : Tape h 437 9 441 L) (ag2 : ∀ i, 5000 ≤ i → nd1 i = nd i)
    (B' : e = 0 → BdN (nw h) c → BdN N' (c + 1))
    (A : ∀ Q : Int → XH → Prop, (¬ e = 0 → E1 → Q e (nT h)) → (¬ e = 0 → ¬ E1 → ∀ g, ClF h g → hI g 3 2 = pe → HT g → Q e (nT g)) → (e = 0 → ∀ g h2 h4 h5, ClF h g → hI g 3 2 = pe → HT g → Rmb o u g h2 → HT h2 → Fr S h2 h4 → h4.length = h2.length → xhs h4 = xhs h2 → (∀ j, j = 9 ∨ j = 10 → el h4 2 j = el h2 2 j) → HT h4 → CS h4 8 N' nd1 → CaC h4 N' nd1 → h5 = sL h4 467 0 (i2l x) → Q 0 h5) → wL Q)
    (B : ∀ g, HT g → NTm g nd (hI h 437 7).toNat → hI g 437 7 = hI h 437 7 → CaR g (nw h) nd → Tape g 437 9 441 L → hI g 437 3 = (o + u) % 10 → hI g 437 2 = u → nw g = nw h → ∀ Q : Int → XH → Prop, (¬ e = 0 → E1 → ∀ g1 g2, HT g1 → g1 = sI g 437 5 0 → g2 = sI g1 437 5 e → Q 0 g2) → (¬ e = 0 → ¬ E1 → ∀ g1 g2 g3, HT g1 → g1 = sI g 437 5 0 → RdF g1 g2 → hI g2 437 10 = pe → HT g2 → g3 = sI g2 437 5 e → Q 0 g3) → (e = 0 → ∀ g1 g2 g5 g7, HT g1 → g1 = sI g 437 5 0 → RdF g1 g2 → hI g2 437 10 = pe → HT g2 → Rrec ((o + u) % 10) u g2 g5 → HT g5 → Fr (fun b => b = 437 ∨ b = 438 ∨ b = 440 ∨ (468 ≤ b ∧ hk g5 b = 106)) g5 g7 → (∀ j, ¬ j = 6 → ¬ j = 7 → el g7 437 j = el g5 437 j) → Gr n1 s1 g5 g7 → nw g7 = N' → NT g7 nd1 → DJo g7 → (hI h 437 7 ≤ hI g7 437 7 ∧ hI g7 437 7 ≤ hI h 437 7 + 1) → (∀ i, i < (hI h 437 7).toNat → nd1 i = nd i) → WF N' (hI g7 437 7).toNat → Q x g7) → wR g Q)
    {K : Int → XH → Prop} {J : XH → Prop} (k : ∀ h' nd' o' u', HT h' → Inv h' nd' o' u' (c + 1) → (∀ i, 5000 ≤ i → nd' i = nd i) → Gr (407 + n1) (nTx + s1) h h' → J h') : wL (LDw h wR K J) := by
  have L0 := HT_len T
  have P := R.1.2.2.2.1
  have b0 := P.1
  have BB : ∀ {g}, Fr (fun b => b < 437 ∨ b = 467) h g → NTm g nd (hI h 437 7).toNat ∧ hI g 437 7 = hI h 437 7 ∧ CaR g (nw h) nd ∧ Tape g 437 9 441 L ∧ hI g 437 3 = (o + u) % 10 ∧ hI g 437 2 = u ∧ nw g = nw h := fun {g} f => by
    have s37 : sameC h g 437 := f 437 (by omega) (by omega)
    have s41 : sameC h g 441 := f 441 (by omega) (by omega)
    exact ⟨NTm_F T f (NTm_of R.1), sameC_I s37 7, CaR_fr (fun b x y => f b y (by omega)) (fun j _ => sameC_el s37 j) L0 R.2.2.2, ⟨(sameC_I s37 9).trans Z9.1, fun j hj => (sameC_I s41 j).trans (Z9.2 j hj)⟩, (sameC_I s37 3).trans P.2.2.2.2.1, (sameC_I s37 2).trans P.2.2.2.1, nw_fr (f 438 (by omega) (by omega))⟩
  refine A _ (fun ne E => ?_) (fun ne nE g F hp Tg => ?_) (fun ez g h2 h4 h5 F hp Tg r T2 F4 l4 x4 e2 T4 C4 CC4 e5 => ?_)
  · intro t1 u1 rx
    obtain ⟨q1, q2, q3, q4, q5, q6, q7⟩ := BB (g := nT h) (fun b hb _ => nT_s h hb)
    refine B (nT h) t1 q1 q2 q3 q4 q5 q6 q7 _ (fun _ _ g1 g2 tg e1 e2 => ?_) (fun _ nE => (nE E).elim) (fun ez => (ne ez).elim)
    intro t2 u2 ry
    obtain ⟨w1, w2, w3⟩ := bad_ T t1 R tg rx e1 e2
    exact fin_ w2 (fun z => (ne z).elim) (k g2 nd o u t2 (Inv_mono (Nat.le_succ c) w1) (fun _ _ => rfl) (Gr_mono w3 (by omega) (by unfold nTx; omega)))
  · intro t1 u1 rx
    have gl := F.2.2.2.2.1
    obtain ⟨q1, q2, q3, q4, q5, q6, q7⟩ := BB (g := nT g) (fun b hb n => sameC_tr (F.1 b hb (by omega)) (nT_s g (by omega)))
    refine B (nT g) t1 q1 q2 q3 q4 q5 q6 q7 _ (fun _ E => (nE E).elim) (fun _ _ g1 g2 g3 tg e1 rr p2 t2 e3 => ?_) (fun ez => (ne ez).elim)
    intro t3 u3 ry
    obtain ⟨w1, w2, w3⟩ := badT T R F hp e1 t1 rr p2 t2 re e3
    exact fin_ w2 (fun z => (ne z).elim) (k g3 nd o u t3 (Inv_mono (Nat.le_succ c) w1) (fun _ _ => rfl) (Gr_mono w3 (by omega) (by omega)))
  · intro t1 u1 rx
    have gl := F.2.2.2.2.1
    have rl := r.2.1
    have Bs := bs_lt (k := ((o + u) % 10).toNat) (by omega)
    obtain ⟨q1, q2, q3, q4, q5, q6, q7⟩ := BB (g := h5) (fun b hb n => sameC_tr (sameC_tr (F.1 b hb (by omega)) (r.1 b (by omega) (fun y => n (by omega)))) (sameC_tr (F4 b (by omega) (fun y => by have := hs _ y; omega)) (by rw [e5]; exact sameC_sV (fun z => n (.inr z.symm)))))
    refine B h5 t1 q1 q2 q3 q4 q5 q6 q7 _ (fun ne => (ne ez).elim) (fun ne => (ne ez).elim) (fun _ g1 g2 g5 g7 tg e1 rr p2 t2 r3 t5 F7 e7 G7 en N7 D7 mm ag W' => ?_)
    intro t7 u7 ry
    obtain ⟨⟨o', u', I⟩, g_, h5', hl⟩ := setT T R hc hs F hp Tg r T2 F4 l4 x4 e2 T4 C4 CC4 e5 t1 e1 tg rr p2 t2 r3 t5 F7 e7 G7 en N7 D7 ⟨mm.1, by have := mm.2; have := R.2.1.2.2.1; omega⟩ ag ag2 W' (B' ez)
    refine fin_ (by rw [h5']) (fun _ => ?_) (k g7 nd1 o' u' t7 I ag2 (Gr_mono g_ (by omega) (by omega)))
    rw [hl]
