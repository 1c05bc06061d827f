/-! VERSION: what is set -/
def verN (N : Nat → Int) (a b c d e : Int) : Nat → Int := updN (updN (updN (updN (updN (updN N 4 (N 4 + 1)) (5 + 20 * vc N + 0) a) (5 + 20 * vc N + 1) b) (5 + 20 * vc N + 2) c) (5 + 20 * vc N + 3) d) (5 + 20 * vc N + 4) e
section VE
variable {N : Nat → Int} {a b c d e : Int}
theorem ver_at : ∀ i, ¬ i = 4 → ¬ (5 + 20 * vc N ≤ i ∧ i < 5 + 20 * vc N + 5) → verN N a b c d e i = N i := fun i n1 n2 => by
  unfold verN
  rw [updN_ne (by omega), updN_ne (by omega), updN_ne (by omega), updN_ne (by omega), updN_ne (by omega), updN_ne n1]
theorem ver_4 : verN N a b c d e 4 = N 4 + 1 := by
  unfold verN
  rw [updN_ne (by omega), updN_ne (by omega), updN_ne (by omega), updN_ne (by omega), updN_ne (by omega), updN_eq]
theorem ver_vc (h0 : 0 ≤ N 4) : vc (verN N a b c d e) = vc N + 1 := by
  unfold vc; rw [ver_4]; omega
theorem ver_o {w k : Nat} (hk : k < 20) (n : ¬ w = vc N) : nV (verN N a b c d e) w k = nV N w k := ver_at _ (by omega) (by omega)
theorem ver_v : nV (verN N a b c d e) (vc N) 0 = a ∧ nV (verN N a b c d e) (vc N) 1 = b ∧ nV (verN N a b c d e) (vc N) 2 = c ∧ nV (verN N a b c d e) (vc N) 3 = d ∧ nV (verN N a b c d e) (vc N) 4 = e := by
  unfold nV verN
  refine ⟨?_, ?_, ?_, ?_, updN_eq⟩
  · rw [updN_ne (by omega), updN_ne (by omega), updN_ne (by omega), updN_ne (by omega), updN_eq]
  · rw [updN_ne (by omega), updN_ne (by omega), updN_ne (by omega), updN_eq]
  · rw [updN_ne (by omega), updN_ne (by omega), updN_eq]
  · rw [updN_ne (by omega), updN_eq]
theorem ver_5 {k : Nat} (h5 : 5 ≤ k) (hk : k < 20) (z : nV N (vc N) k = 0) : nV (verN N a b c d e) (vc N) k = 0 := by
  rw [← z]
  exact ver_at _ (by omega) (by omega)
theorem ver_R {r k : Nat} (l : vc N < 40) : nR (verN N a b c d e) r k = nR N r k := ver_at _ (by omega) (by omega)
theorem WF_ver {m : Nat} (W : WF N m) (l : N 4 < 40) (ha : 0 ≤ a ∧ a < N 0) (hb : 0 ≤ b ∧ b < 1000000 ∧ ¬ b % 100 = 0) (hc : 0 ≤ c) (hd : 0 ≤ d ∧ d ≤ 1000) (new : slotF N a b = -1) : WF (verN N a b c d e) m := by
  obtain ⟨⟨w1, w2, w3, w4, w5, w6, w7⟩, wr_, wt⟩ := W
  have vl : vc N < 40 := by unfold vc; omega
  have z := fun k hk => w6 (vc N) (Nat.le_refl _) vl k hk
  have e0 : verN N a b c d e 0 = N 0 := ver_at 0 (by decide) (by omega)
  have nn := (slotF_r (N := N) (p := a) (c := b) w3).2.2.2 new
  obtain ⟨v0, v1, v2, v3, v4⟩ := ver_v (N := N) (a := a) (b := b) (c := c) (d := d) (e := e)
  refine ⟨⟨by rw [e0]; exact w1, by rw [e0]; exact w2, by rw [ver_4]; omega, by rw [ver_4]; omega, fun v hv => ?_, fun v hv h40 k hk => ?_, fun v w hv hw e1 e2 => ?_⟩, fun r hr => ?_, ?_⟩
  · rw [ver_vc w3] at hv
    rw [e0]
    by_cases q : v = vc N
    · rw [q, v0, v1, v2, v3, ver_5 (by decide) (by decide) (z 5 (by decide)), ver_5 (by decide) (by decide) (z 6 (by decide)), ver_5 (by decide) (by decide) (z 7 (by decide)), ver_5 (by decide) (by decide) (z 11 (by decide)), ver_5 (by decide) (by decide) (z 12 (by decide)), ver_5 (by decide) (by decide) (z 15 (by decide))]
      exact ⟨ha.1, ha.2, hb.1, hb.2.1, hb.2.2, hc, hd.1, hd.2, .inl rfl, by omega, by omega, by omega, by omega, fun k _ y => by omega, by omega, ⟨by omega, fun k _ => by simp⟩, by omega, by omega, fun k _ y => by omega, by omega, by omega, fun k _ y => by omega⟩
    · have y := w5 v (by omega)
      rw [ver_o (by decide) q, ver_o (by decide) q, ver_o (by decide) q, ver_o (by decide) q, ver_o (by decide) q, ver_o (by decide) q, ver_o (by decide) q, ver_o (by decide) q, ver_o (by decide) q, ver_o (by decide) q]
      obtain ⟨c1, c2, c3, c4, c5, c6, c7, c8, c9, c10, c11, c12, c13, c14, c15, c16, c17, c18, c19, c20, c21, c22⟩ := y
      exact ⟨c1, c2, c3, c4, c5, c6, c7, c8, c9, c10, c11, c12, c13, fun k h3 hk => by rw [ver_o (by omega) q]; exact c14 k h3 hk, c15, c16, c17, c18, fun k h2 hk => by rw [ver_o (by omega) q]; exact c19 k h2 hk, c20, c21, fun k h2 hk => by rw [ver_o (by omega) q, ver_o (by omega) q]; exact c22 k h2 hk⟩
  · rw [ver_vc w3] at hv
    rw [ver_o hk (by omega)]
    exact w6 v (by omega) h40 k hk
  · rw [ver_vc w3] at hv hw
    by_cases q : v = vc N
    · by_cases q2 : w = vc N
      · omega
      · rw [q, v0, ver_o (by decide) q2] at e1
        rw [q, v1, ver_o (by decide) q2] at e2
        exact (nn w (by omega) ⟨e1.symm, e2.symm⟩).elim
    · rw [ver_o (by decide) q] at e1 e2
      by_cases q2 : w = vc N
      · rw [q2, v0] at e1
        rw [q2, v1] at e2
        exact (nn v (by omega) ⟨e1, e2⟩).elim
      · rw [ver_o (by decide) q2] at e1 e2
        exact w7 v w (by omega) (by omega) e1 e2
  · have y := wr_ r hr
    unfold WRt at y ⊢
    rw [e0]
    simp only [ver_R vl]
    exact y
  · obtain ⟨t1, t2, t3, t4, t5, t6, t7⟩ := wt
    have g : ∀ i, (i = 1 ∨ i = 2 ∨ i = 3 ∨ 805 ≤ i) → verN N a b c d e i = N i := fun i hi => ver_at i (by omega) (by omega)
    unfold WT
    rw [g 1 (by omega), g 2 (by omega), g 3 (by omega), ver_vc w3]
    refine ⟨t1, t2, t3, t4, t5, t6, fun m hm => ?_⟩
    obtain ⟨y1, y2, y3⟩ := t7 m hm
    rw [g _ (by omega)]
    refine ⟨y1, y2, fun v hv => ?_⟩
    rw [g _ (by omega)]
    exact ⟨(y3 v hv).1, fun x => (y3 v hv).2 (by omega)⟩
theorem SetR_verN {m : Nat} (W : WF N m) (l : N 4 < 40) (hb : 0 ≤ b ∧ b < 1000000) (new : slotF N a b = -1) {s : BitVec 64} {f : Nat → Int} (z : SetR N s f) (h0 : 0 ≤ a ∧ a < 12) : SetR (verN N a b c d e) s f := by
  obtain ⟨z1, z2, z3, z4⟩ := z
  have w3 := W.1.2.2.1
  have nn := (slotF_r (N := N) (p := a) (c := b) w3).2.2.2 new
  obtain ⟨v0, v1, -⟩ := ver_v (N := N) (a := a) (b := b) (c := c) (d := d) (e := e)
  refine ⟨fun v hv => ?_, z2, z3, fun p hp => ?_⟩
  · rw [z1 v hv, ver_vc w3]
    by_cases q : v = vc N
    · rw [q, v0, v1]
      refine ⟨fun y => by omega, fun y => ?_⟩
      rcases z4 a.toNat (by omega) with t | ⟨w, hw, e1, e2⟩
      · rw [t] at y; omega
      · have wv := W.1.2.2.2.2.1 w hw
        refine (nn w hw ⟨by omega, ?_⟩).elim
        omega
    · rw [ver_o (by decide) q, ver_o (by decide) q]
      constructor
      · rintro ⟨y1, y2⟩; exact ⟨by omega, y2⟩
      · rintro ⟨y1, y2⟩; exact ⟨by omega, y2⟩
  · rcases z4 p hp with y | ⟨v, hv, e1, e2⟩
    · exact .inl y
    · refine .inr ⟨v, by rw [ver_vc w3]; omega, ?_, ?_⟩
      · rw [ver_o (by decide) (by omega)]; exact e1
      · rw [ver_o (by decide) (by omega)]; exact e2
theorem BdN_ver {m k : Nat} (W : WF N m) (l : N 4 < 40) (ha : 0 ≤ a ∧ a < N 0) (hb : 0 ≤ b ∧ b < 1000000 ∧ ¬ b % 100 = 0) (hc : 0 ≤ c) (hd : 0 ≤ d ∧ d ≤ 1000) (new : slotF N a b = -1) (I : ∀ r : Nat, r < 3 → fOK N (inst N r)) (B : BdN N k) : BdN (verN N a b c d e) (k + 1) := by
  obtain ⟨b1, b2, b3, b4⟩ := B
  have vl : vc N < 40 := by unfold vc; omega
  have W' := WF_ver (e := e) W l ha hb hc hd new
  have w3 := W.1.2.2.1
  have ei : ∀ r, inst (verN N a b c d e) r = inst N r := fun r => funext fun p => ver_R vl
  refine ⟨fun r hr => by rw [ver_R vl]; have := b1 r hr; omega, by rw [ver_at 2 (by decide) (by omega)]; omega, fun m hm => by rw [ver_at _ (by omega) (by omega)]; have := b3 m hm; omega, fun r hr p q hp hq n => ?_⟩
  have fp : ∀ p, p < 12 → filesP (verN N a b c d e) (inst N r) p = filesP N (inst N r) p := fun p hp => by
    unfold filesP
    by_cases y : inst N r p = -1
    · rw [if_pos y, if_pos y]
    · rw [if_neg y, if_neg y]
      obtain ⟨v, hv, e1, e2⟩ := (I r hr p hp).resolve_left y
      rw [slF_r W.1 hv e1 e2, slF_r W'.1 (v := v) (by rw [ver_vc w3]; omega) (by rw [ver_o (by decide) (by omega)]; exact e1) (by rw [ver_o (by decide) (by omega)]; exact e2), Int.toNat_natCast, ver_o (by decide) (by omega)]
  rw [ei, fp p hp, fp q hq]
  exact b4 r hr p q hp hq n
end VE
set_option maxHeartbeats 2000000 in
theorem c_X8_putByAge {p v n : Nat} {h : XH} (T : HT h) (hp : p < 12) (hv : v < 40) (hn_ : hI h 10 p = (n : Int)) (n8 : n < 8) (row : ∀ i, i < n → 0 ≤ hI h 12 (8 * p + i) ∧ hI h 12 (8 * p + i) < 40) {K : XH → Prop} (k : ∀ g j, j ≤ n → Fr (fun b => b = 10 ∨ b = 12) h g → g.length = h.length → xhs g = xhs h → (∀ q, hI g 10 q = if q = p then (n : Int) + 1 else hI h 10 q) → (∀ i, hI g 12 i = if i = 8 * p + j then (v : Int) else if 8 * p + j < i ∧ i ≤ 8 * p + n then hI h 12 (i - 1) else hI h 12 i) → (∀ i, j ≤ i → i < n → hI h 14 v < hI h 14 (hI h 12 (8 * p + i)).toNat) → (0 < j → hI h 14 (hI h 12 (8 * p + (j - 1))).toNat ≤ hI h 14 v) → K g) : w_X8_putByAge (p : Int) (v : Int) K h := by
  unfold w_X8_putByAge
  intro x1 ex1 rx1
  rw [wr_of (by omega) (by omega)] at ex1
  rw [Int.toNat_natCast]
  refine ⟨(by omega), ?_⟩
  intro x3 ex3 rx3
  rw [hn_] at ex3
  refine ⟨fun x g => ∃ j : Nat, x = (j : Int) ∧ j ≤ n ∧ Fr (fun b => b = 12) h g ∧ g.length = h.length ∧ xhs g = xhs h ∧ (∀ i, hI g 12 i = if 8 * p + j < i ∧ i ≤ 8 * p + n then hI h 12 (i - 1) else hI h 12 i) ∧ (∀ i, j ≤ i → i < n → hI h 14 v < hI h 14 (hI h 12 (8 * p + i)).toNat), fun x _ => x.toNat, ?_, ?_⟩
  · exact ⟨n, ex3, Nat.le_refl _, Fr_rf _ _, rfl, rfl, fun i => by rw [if_neg (by omega)], fun i _ _ => by omega⟩
  · intro x4 h5 t5 s5 rx4 z6
    obtain ⟨j, ej, jn, F5, l5, x5, r5, c5⟩ := z6
    have L := HT_len T
    have s14 : sameC h h5 14 := F5 14 (by omega) (by decide)
    have s10 : sameC h h5 10 := F5 10 (by omega) (by decide)
    have ew : wr (x1 + x4) = 8 * (p : Int) + j := by rw [wr_of (by omega) (by omega)]; omega
    rw [ew]
    refine ⟨0 < j → hI h 14 (hI h 12 (8 * p + (j - 1))).toNat ≤ hI h 14 v, ?_, ?_⟩
    · intro z7
      refine ⟨(by omega), ?_⟩
      intro h9 eh9 t9 u9
      rw [show (8 * (p : Int) + j).toNat = 8 * p + j by omega] at eh9
      intro h10 eh10 t10 u10
      have i9 : hI h9 10 p = (n : Int) := by rw [eh9, hI_ne (by decide), sameC_I s10]; exact hn_
      rw [i9, wr_of (by omega) (by omega)] at eh10
      refine k h10 j jn (by rw [eh10, eh9]; exact Fr_tr (Fr_mono F5 (fun b y => .inr y)) (by omega) (Fr_tr (Fr_sV (.inr rfl)) (by rw [len_sV]; exact Nat.le_refl _) (Fr_sV (.inl rfl)))) (by rw [eh10, eh9, len_sV, len_sV]; exact l5) (by rw [eh10, eh9, xhs_sV, xhs_sV]; exact x5) (fun q => ?_) (fun i => ?_) c5 z7
      · rw [eh10]
        by_cases c : q = p
        · rw [if_pos c, c]; exact hI_eq (by rw [lyn (c := 100) (n := 12) t9 rfl]; omega) (by unfold rg; omega)
        · rw [if_neg c, hI_ni (fun z => c z.symm), eh9, hI_ne (by decide)]; exact sameC_I s10 q
      · rw [eh10, hI_ne (by decide), eh9]
        by_cases c : i = 8 * p + j
        · rw [if_pos c, c]; exact hI_eq (by rw [lyn (c := 100) (n := 96) t5 rfl]; omega) (by unfold rg; omega)
        · rw [if_neg c, hI_ni (fun z => c z.symm), r5]
    · refine ⟨fun c22 => ?_, fun c22 => ?_⟩
      · intro y; omega
      · intro x11 ex11 rx11
        rw [wr_of (by omega) (by omega)] at ex11
        refine ⟨(by omega), ?_⟩
        intro x13 ex13 rx13
        have e13 : x13 = hI h 12 (8 * p + (j - 1)) := by rw [ex13, show x11.toNat = 8 * p + (j - 1) by omega, r5, if_neg (by omega)]
        have rw_ := row (j - 1) (by omega)
        refine ⟨(by omega), ?_⟩
        refine ⟨(by omega), ?_⟩
        refine ⟨fun c21 => ?_, fun c21 => ?_⟩
        · rw [sameC_I s14, sameC_I s14, e13, Int.toNat_natCast] at c21
          exact fun _ => c21
        · rw [sameC_I s14, sameC_I s14, e13, Int.toNat_natCast] at c21
          intro x16 ex16 rx16
          rw [wr_of (by omega) (by omega)] at ex16
          refine ⟨(by omega), ?_⟩
          refine ⟨(by omega), ?_⟩
          intro h19 eh19 t19 u19
          intro x20 ex20 rx20
          rw [show (8 * (p : Int) + j).toNat = 8 * p + j by omega, show x16.toNat = 8 * p + (j - 1) by omega, r5, if_neg (by omega)] at eh19
          rw [wr_of (by omega) (by omega)] at ex20
          refine ⟨⟨j - 1, by omega, by omega, by rw [eh19]; exact Fr_tr F5 (by omega) (Fr_sV rfl), by rw [eh19, len_sV]; exact l5, by rw [eh19, xhs_sV]; exact x5, fun i => ?_, fun i h1 h2 => ?_⟩, by dsimp only; omega⟩
          · rw [eh19]
            by_cases c : i = 8 * p + j
            · rw [c, if_pos (by omega), show 8 * p + j - 1 = 8 * p + (j - 1) by omega]
              exact hI_eq (by rw [lyn (c := 100) (n := 96) t5 rfl]; omega) (by unfold rg; omega)
            · rw [hI_ni (fun z => c z.symm), r5]
              by_cases d : 8 * p + j < i ∧ i ≤ 8 * p + n
              · rw [if_pos d, if_pos (by omega)]
              · rw [if_neg d, if_neg (by omega)]
          · by_cases d : i = j - 1
            · rw [d]; omega
            · exact c5 i (by omega) h2
