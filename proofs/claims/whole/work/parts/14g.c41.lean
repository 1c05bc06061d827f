/-! THE ORDER OF SCRIPTS, the reference -/
def AHr (g : XH) (N : Nat → Int) (nd : Nat → ND) (f : Nat → Int) : Prop := ∀ q, q < 12 → hI g 464 q = (ahM N nd f q : Nat)
/-- ways, as far as they are known after r rounds -/
def Wy (N : Nat → Int) (nd : Nat → ND) (f : Nat → Int) (s r : Nat) (w : Nat → Int) : Prop := (∀ p, p < 12 → w p = 24 ∨ 0 ≤ w p ∧ w p < 24 ∧ U N nd f s (w p).toNat p) ∧ (∀ p, p < 12 → ∀ d, d ≤ r → U N nd f s d p → w p ≤ d)
theorem Wy_0 {N : Nat → Int} {nd : Nat → ND} {f : Nat → Int} {s : Nat} {w : Nat → Int} (h : ∀ p, p < 12 → w p = if p = s then 0 else 24) : Wy N nd f s 0 w := by
  refine ⟨fun p hp => ?_, fun p hp d hd u => ?_⟩
  · rw [h p hp]
    by_cases c : p = s
    · rw [if_pos c]; exact .inr ⟨by omega, by omega, c⟩
    · rw [if_neg c]; exact .inl rfl
  · obtain rfl : d = 0 := by omega
    have : p = s := u
    rw [h p hp, if_pos this]; omega
theorem Wy_md {N : Nat → Int} {nd : Nat → ND} {f : Nat → Int} {s : Nat} {w : Nat → Int} (z : Wy N nd f s 12 w) {p e : Nat} (hp : p < 12) (he : e ≤ 11) : w p = e ↔ md N nd f s e p := by
  constructor
  · intro y
    rcases z.1 p hp with x | ⟨x1, x2, u⟩
    · omega
    · rw [show (w p).toNat = e by omega] at u
      refine ⟨u, fun k hk v => ?_⟩
      have := z.2 p hp k (by omega) v
      omega
  · intro y
    have a := z.2 p hp e (by omega) y.1
    rcases z.1 p hp with x | ⟨x1, x2, u⟩
    · omega
    · have : ¬ (w p).toNat < e := fun k => y.2 _ k u
      omega
/-- a row so far -/
def RowP (N : Nat → Int) (nd : Nat → ND) (f : Nat → Int) (s d : Nat) (L : List Nat) : Prop := L.getD 0 0 = s ∧ ∀ k, k + 1 < L.length → L.getD (k + 1) 0 < 12 ∧ (md N nd f s (d - k) (L.getD (k + 1) 0) ∧ ahB N nd f (L.getD k 0) (L.getD (k + 1) 0) = true) ∧ ∀ p, p < L.getD (k + 1) 0 → ¬ (md N nd f s (d - k) p ∧ ahB N nd f (L.getD k 0) p = true)
theorem RowP_ok {N : Nat → Int} {nd : Nat → ND} {f : Nat → Int} {s d : Nat} {L : List Nat} (h : RowP N nd f s d L) (l : L.length = d + 1) : RowOK N nd f s d L := ⟨l, h.1, fun k hk => h.2 k (by omega)⟩
theorem gD_l {L : List Nat} {q k : Nat} (hk : k < L.length) : (L ++ [q]).getD k 0 = L.getD k 0 := by rw [List.getD_eq_getElem?_getD, List.getD_eq_getElem?_getD, List.getElem?_append_left hk]
theorem gD_r {L : List Nat} {q : Nat} : (L ++ [q]).getD L.length 0 = q := by rw [List.getD_eq_getElem?_getD, List.getElem?_append_right (by omega), Nat.sub_self]; rfl
theorem RowP_add {N : Nat → Int} {nd : Nat → ND} {f : Nat → Int} {s d q : Nat} {L : List Nat} (h : RowP N nd f s d L) (l : 1 ≤ L.length) (hq : q < 12) (m : md N nd f s (d - (L.length - 1)) q) (a : ahB N nd f (L.getD (L.length - 1) 0) q = true) (n : ∀ p, p < q → ¬ (md N nd f s (d - (L.length - 1)) p ∧ ahB N nd f (L.getD (L.length - 1) 0) p = true)) : RowP N nd f s d (L ++ [q]) := by
  refine ⟨by rw [gD_l (by omega)]; exact h.1, fun k hk => ?_⟩
  rw [List.length_append, List.length_singleton] at hk
  by_cases c : k + 1 = L.length
  · rw [c, gD_r, gD_l (by omega), show k = L.length - 1 by omega]
    exact ⟨hq, ⟨m, a⟩, n⟩
  · rw [gD_l (by omega), gD_l (by omega)]
    exact h.2 k (by omega)
theorem RowP_1 (N : Nat → Int) (nd : Nat → ND) (f : Nat → Int) (s d : Nat) : RowP N nd f s d [s] := ⟨rfl, fun k hk => by simp at hk⟩
theorem RowP_nx {N : Nat → Int} {nd : Nat → ND} {f : Nat → Int} {s d : Nat} {L : List Nat} (R : Ring N nd f s d) (h : RowP N nd f s d L) (l : 1 ≤ L.length ∧ L.length ≤ d) : ∃ q, q < 12 ∧ md N nd f s (d - (L.length - 1)) q ∧ ahB N nd f (L.getD (L.length - 1) 0) q = true := by
  refine row_next R ?_
  by_cases c : L.length = 1
  · exact .inl ⟨by omega, by rw [c]; exact h.1⟩
  · obtain ⟨-, y, -⟩ := h.2 (L.length - 2) (by omega)
    rw [show L.length - 2 + 1 = L.length - 1 by omega, show d - (L.length - 2) = d - (L.length - 1) + 1 by omega] at y
    exact .inr y.1
theorem c_ahOf {p q : Nat} {h : XH} {N : Nat → Int} {nd : Nat → ND} {f : Nat → Int} (hp : p < 12) (hq : q < 12) (A : hI h 464 q = (ahM N nd f q : Nat)) {K : Int → Prop} (k : ∀ x, bq x (ahB N nd f p q = true) → K x) : w_X14_isAheadOf (p : Int) (q : Int) K h := by
  unfold w_X14_isAheadOf
  have bi := bitI (a := ahM N nd f q) (n := p) (by omega) (by have := ahM_lt N nd f q; omega)
  rw [← A] at bi
  rw [show ((q : Nat) : Int).toNat = q from rfl, bi]
  have e : (ahM N nd f q).testBit p = true ↔ ahB N nd f p q = true := ahM_at.trans ⟨fun z => z.2, fun z => ⟨hp, z⟩⟩
  refine ⟨⟨by omega, by omega⟩, fun x => bq x (ahB N nd f p q = true), fun x _ z => ⟨vOr z, k x z⟩, fun c => ?_, fun c => ?_⟩
  · refine bqF (fun y => c ?_)
    rw [if_pos (e.mpr y)]
  · refine bqT (e.mp ?_)
    cases y : (ahM N nd f q).testBit p with
    | true => rfl
    | false => rw [y] at c; exact absurd (fun z => by cases z) c
set_option maxHeartbeats 4000000 in
theorem c_X14_findRing {f : Nat → Int} {nd : Nat → ND} {N : Nat → Int} {h : XH} (T : HT h) (A : AHr h N nd f) (ex : ∃ s d, s < 12 ∧ rgU N nd f s d) {K : XH → Prop} (k : ∀ g s d L, s < 12 → Ring N nd f s d → (∀ r e, r < s → ¬ rgU N nd f r e) → RowOK N nd f s d L → Fr (fun b => b = 437 ∨ b = 465) h g → h.length ≤ g.length → Gr 1 n12 h g → (∀ j, ¬ j = 61 → el g 437 j = el h 437 j) → hI g 437 61 = -((d : Int) + 1) → (∀ i, i < L.length → hI g 465 i = ((L.getD i 0 : Nat) : Int)) → K g) : w_X14_findRing K h := by
  unfold w_X14_findRing
  have L0 := HT_len T
  have n437 : ∀ gg, HT gg → hn gg 437 = 64 := fun gg t => (lstn t).2.2.2.2.1
  have n465 : ∀ gg, HT gg → hn gg 465 = 12 := fun gg t => lyn (c := 100) (n := 12) t rfl
  intro a1 h2 ea1 eh2 t2 u2 ca1 la1
  have f2 : Fr (fun _ => False) h h2 := by rw [eh2]; exact Fr_app
  have l2 : h2.length = h.length + 1 := by rw [eh2]; unfold nA; exact len_app _ _
  have g2 : Gr 1 n12 h h2 := by rw [eh2]; exact Gr_n12 _
  have A2 : ∀ gg, Fr (fun b => b = a1) h2 gg → AHr gg N nd f := fun gg fg q hq => ((sameC_I (fg 464 (by omega) (by omega)) q).trans (sameC_I (f2 464 (by omega) id) q)).trans (A q hq)
  refine ⟨fun x g => 0 ≤ x ∧ x ≤ 12 ∧ Fr (fun b => b = a1) h2 g ∧ g.length = h2.length ∧ xhs g = xhs h2 ∧ hk g a1 = 100 ∧ hn g a1 = 12 ∧ ∀ r : Nat, (r : Int) < x → ∀ e, ¬ rgU N nd f r e, fun x _ => (12 - x).toNat, ?_, ?_⟩
  · exact ⟨by omega, by omega, Fr_rf _ _, rfl, rfl, ca1, la1, fun r hr => by omega⟩
  · intro x3 h7 t7 s7 rx3 z8
    obtain ⟨z0, z1, zf, zl, zx, zk, zn, zr⟩ := z8
    refine ⟨fun c92 => ?_, fun c92 => ?_⟩
    · obtain ⟨s, d, hs, r⟩ := ex
      exact absurd r (zr s (by omega) d)
    · obtain ⟨s, rfl⟩ : ∃ s : Nat, x3 = s := ⟨x3.toNat, by omega⟩
      have s12 : s < 12 := by omega
      refine ⟨fun x g => 0 ≤ x ∧ x ≤ 12 ∧ Fr (fun b => b = a1) h2 g ∧ g.length = h2.length ∧ xhs g = xhs h2 ∧ hk g a1 = 100 ∧ hn g a1 = 12 ∧ ∀ p : Nat, (p : Int) < x → hI g a1 p = if p = s then 0 else 24, fun x _ => (12 - x).toNat, ?_, ?_⟩
      · exact ⟨by omega, by omega, zf, zl, zx, zk, zn, fun p hp => by omega⟩
      · intro x9 h10 t10 s10 rx9 z11
        obtain ⟨y0, y1, yf, yl, yx, yk, yn, yv⟩ := z11
        refine ⟨fun c91 => ?_, fun c91 => ?_⟩
        · refine ⟨fun x g => 0 ≤ x ∧ x ≤ 12 ∧ Fr (fun b => b = a1) h2 g ∧ g.length = h2.length ∧ xhs g = xhs h2 ∧ hk g a1 = 100 ∧ hn g a1 = 12 ∧ Wy N nd f s x.toNat (fun p => hI g a1 p), fun x _ => (12 - x).toNat, ?_, ?_⟩
          · exact ⟨by omega, by omega, yf, yl, yx, yk, yn, Wy_0 (fun p hp => yv p (by omega))⟩
          · intro x12 h15 t15 s15 rx12 z16
            obtain ⟨u0, u1, uf, ul, ux, uk, un, uw⟩ := z16
            refine ⟨fun c83 => ?_, fun c83 => ?_⟩
            · intro x17 ex17 rx17
              rw [wr_of (by omega) (by omega)] at ex17
              rw [show x12.toNat = 12 by omega] at uw
              refine ⟨fun ln x => (s : Int) + 1 ≤ x ∧ x ≤ 12 ∧ 0 ≤ ln ∧ ln ≤ 24 ∧ (ln = 24 ∨ ∃ p, p < 12 ∧ ahB N nd f s p = true ∧ hI h15 a1 p + 1 = ln ∧ 0 ≤ hI h15 a1 p) ∧ ∀ p : Nat, s < p → (p : Int) < x → ahB N nd f s p = true → ln ≤ hI h15 a1 p + 1, fun _ x => (12 - x).toNat, ?_, ?_⟩
              · exact ⟨by omega, by omega, by omega, by omega, .inl rfl, fun p sp hp => by omega⟩
              · intro x18 x19 rx18 rx19 z20
                obtain ⟨v0, v1, v2, v3, v4, v5⟩ := z20
                refine ⟨fun c56 => ?_, fun c56 => ?_⟩
                · have fin : ∀ e, rgU N nd f s e → x18 ≤ (e : Int) + 1 := fun e r => by
                    obtain ⟨e0, he, R⟩ := rg_least e r
                    have := Ring_short R
                    obtain ⟨q, hq, uu, y⟩ := R.1
                    have sq : s < q := by
                      cases e0 with
                      | zero => have : q = s := uu; subst this; exact absurd rfl (ahB_e.mp y).2.2.1
                      | succ e0 => exact uu.1
                    have a := uw.2 q hq e0 (by omega) uu
                    have b := v5 q sq (by omega) y
                    dsimp only at a
                    omega
                  refine ⟨fun c47 => ?_, fun c47 => ?_⟩
                  · obtain ⟨p, hp, ap, ep, p0⟩ := v4.resolve_left (fun y => by omega)
                    obtain ⟨d, ed⟩ : ∃ d : Nat, x18 = (d : Int) + 1 := ⟨(x18 - 1).toNat, by omega⟩
                    have R : Ring N nd f s d := by
                      refine ⟨⟨p, hp, ?_, ap⟩, fun e he r => by have := fin e r; omega⟩
                      rcases uw.1 p hp with y | ⟨y1, y2, y3⟩
                      · dsimp only at y; omega
                      · dsimp only at y3
                        rw [show (hI h15 a1 p).toNat = d by omega] at y3
                        exact y3
                    have d11 := Ring_short R
                    have d1 := Ring_pos R.1
                    have A15 := A2 h15 uf
                    refine ⟨fun at_ kk g => 0 ≤ kk ∧ kk ≤ (d : Int) + 1 ∧ Fr (fun b => b = 465) h15 g ∧ g.length = h15.length ∧ xhs g = xhs h15 ∧ ∃ (r : Nat) (pre : List Nat), at_ = (r : Int) ∧ r < 12 ∧ kk = (pre.length : Nat) ∧ (∀ j, j < pre.length → hI g 465 j = ((pre.getD j 0 : Nat) : Int)) ∧ (pre.length ≤ d → RowP N nd f s d (pre ++ [r])) ∧ (pre.length = d + 1 → RowP N nd f s d pre), fun _ kk _ => ((d : Int) + 1 - kk).toNat, ?_, ?_⟩
                    · exact ⟨by omega, by omega, Fr_rf _ _, rfl, rfl, s, [], rfl, s12, rfl, fun j hj => by simp at hj, fun _ => RowP_1 N nd f s d, fun y => by simp at y⟩
                    · intro x21 x22 h24 t24 s24 rx21 rx22 z25
                      obtain ⟨w0, w1, wf, wl_, wx, r, pre, er, hr12, ek, wr_, wp, wq⟩ := z25
                      refine ⟨fun c45 => ?_, fun c45 => ?_⟩
                      · intro h26 eh26 t26 u26
                        have l_ : pre.length = d + 1 := by omega
                        have f15 : Fr (fun b => b = 465) h h24 := fun b hb n => sameC_tr (sameC_tr (f2 b hb id) (uf b (by omega) (by omega))) (wf b (by omega) n)
                        have s26 : ∀ b, ¬ b = 437 → sameC h24 h26 b := fun b n => by rw [eh26]; exact sameC_sV (fun z => n z.symm)
                        refine k h26 s d pre s12 R (fun r e hr => zr r (by omega) e) (RowP_ok (wq l_) l_) (fun b hb n => sameC_tr (f15 b hb (fun y => n (.inr y))) (s26 b (fun y => n (.inl y)))) (by rw [eh26, len_sV]; omega) ⟨by rw [eh26, len_sV]; omega, by rw [eh26, xhs_sV]; have := g2.2; omega⟩ (fun j n => ?_) ?_ (fun i hi => ?_)
                        · rw [eh26, el_ni (fun z => n z.symm)]; exact sameC_el (f15 437 (by omega) (by decide)) j
                        · rw [eh26, ed, wr_of (by omega) (by omega)]
                          exact hI_eq (by rw [n437 h24 t24]; decide) (by unfold rg; omega)
                        · rw [sameC_I (s26 465 (by decide))]; exact wr_ i hi
                      · refine ⟨(by omega), ?_⟩
                        intro h28 eh28 t28 u28
                        rw [er, ek, Int.toNat_natCast] at eh28
                        have lp_ : pre.length ≤ d := by omega
                        have rp_ := wp lp_
                        have s28 : ∀ b, ¬ b = 465 → sameC h24 h28 b := fun b n => by rw [eh28]; exact sameC_sV (fun z => n z.symm)
                        have sa : sameC h15 h28 a1 := sameC_tr (wf a1 (by omega) (by omega)) (s28 a1 (by omega))
                        have A28 : AHr h28 N nd f := fun q hq => (sameC_I (sameC_tr (wf 464 (by omega) (by decide)) (s28 464 (by decide))) q).trans (A15 q hq)
                        intro x29 ex29 rx29
                        rw [wr_of (by omega) (by omega)] at ex29
                        refine ⟨fun x => (s : Int) + 1 ≤ x ∧ x ≤ 12 ∧ ∀ p : Nat, s < p → (p : Int) < x → ¬ (ahB N nd f r p = true ∧ hI h15 a1 p = (d : Int) - pre.length), fun x => (12 - x).toNat, ?_, ?_⟩
                        · exact ⟨by omega, by omega, fun p sp hp => by omega⟩
                        · intro x30 rx30 z31
                          obtain ⟨q0, q1, q2⟩ := z31
                          refine ⟨x30 = 12 ∨ x30 < 12 ∧ ahB N nd f r x30.toNat = true ∧ hI h15 a1 x30.toNat = (d : Int) - pre.length, ?_, ?_⟩
                          · intro z32
                            refine ⟨fun y => ∃ r1 : Nat, y = (r1 : Int) ∧ r1 < 12 ∧ (pre.length + 1 ≤ d → RowP N nd f s d (pre ++ [r] ++ [r1])), ?_, ?_⟩
                            · intro x33 rx33 z34
                              intro x35 ex35 rx35
                              obtain ⟨r1, ey, hr1, hp1⟩ := z34
                              rw [wr_of (by omega) (by omega)] at ex35
                              have ll : (pre ++ [r]).length = pre.length + 1 := by rw [List.length_append, List.length_singleton]
                              refine ⟨⟨by omega, by omega, fun b hb n => sameC_tr (wf b hb n) (s28 b n), by rw [eh28, len_sV]; exact wl_, by rw [eh28, xhs_sV]; exact wx, r1, pre ++ [r], ey, hr1, by rw [ll]; omega, fun j hj => ?_, fun y => hp1 (by omega), fun _ => rp_⟩, by dsimp only; omega⟩
                              rw [ll] at hj
                              by_cases c : j = pre.length
                              · rw [c, gD_r, eh28]; exact hI_eq (by rw [n465 h24 t24]; omega) (by unfold rg; omega)
                              · rw [gD_l (by omega), eh28, hI_ni (by omega)]; exact wr_ j (by omega)
                            · refine ⟨fun c36 => ?_, fun c36 => ?_⟩
                              · obtain ⟨y1, y2, y3⟩ := z32.resolve_left (fun y => c36 y)
                                obtain ⟨p, rfl⟩ : ∃ p : Nat, x30 = p := ⟨x30.toNat, by omega⟩
                                rw [Int.toNat_natCast] at y2 y3
                                refine ⟨p, rfl, by omega, fun lt => ?_⟩
                                have ll : (pre ++ [r]).length = pre.length + 1 := by rw [List.length_append, List.length_singleton]
                                have ed' : d - ((pre ++ [r]).length - 1) = d - pre.length := by omega
                                have gr : (pre ++ [r]).getD ((pre ++ [r]).length - 1) 0 = r := by rw [show (pre ++ [r]).length - 1 = pre.length by omega]; exact gD_r
                                refine RowP_add rp_ (by omega) (by omega) ?_ (by rw [gr]; exact y2) (fun t ht z => ?_)
                                · rw [ed']
                                  exact (Wy_md uw (p := p) (e := d - pre.length) (by omega) (by omega)).mp (by omega)
                                · rw [ed', gr] at z
                                  have et := (Wy_md uw (p := t) (e := d - pre.length) (by omega) (by omega)).mpr z.1
                                  have st : s < t := by
                                    obtain ⟨e', he'⟩ : ∃ e', d - pre.length = e' + 1 := ⟨d - pre.length - 1, by omega⟩
                                    have := z.1.1
                                    rw [he'] at this
                                    exact this.1
                                  exact q2 t st (by omega) ⟨z.2, by omega⟩
                              · refine ⟨s, rfl, s12, fun lt => ?_⟩
                                have ll : (pre ++ [r]).length = pre.length + 1 := by rw [List.length_append, List.length_singleton]
                                obtain ⟨t, ht, m1, y⟩ := RowP_nx R rp_ ⟨by omega, by omega⟩
                                rw [show (pre ++ [r]).length - 1 = pre.length by omega] at m1 y
                                rw [gD_r] at y
                                have et := (Wy_md uw (p := t) (e := d - pre.length) (by omega) (by omega)).mpr m1
                                have st : s < t := by
                                  obtain ⟨e', he'⟩ : ∃ e', d - pre.length = e' + 1 := ⟨d - pre.length - 1, by omega⟩
                                  have := m1.1
                                  rw [he'] at this
                                  exact this.1
                                exact absurd ⟨y, by omega⟩ (q2 t st (by omega))
                          · refine ⟨fun c44 => ?_, fun c44 => ?_⟩
                            · exact .inl (by omega)
                            · obtain ⟨p, rfl⟩ : ∃ p : Nat, x30 = p := ⟨x30.toNat, by omega⟩
                              rw [er]
                              refine c_ahOf hr12 (by omega) (A28 p (by omega)) ?_
                              intro x37 qx37
                              intro rx37 vx37
                              refine ⟨¬ (ahB N nd f r p = true ∧ hI h15 a1 p = (d : Int) - pre.length), ?_, ?_⟩
                              · intro z38
                                intro x39 ex39 rx39
                                rw [wr_of (by omega) (by omega)] at ex39
                                refine ⟨⟨by omega, by omega, fun t st ht => ?_⟩, by dsimp only; omega⟩
                                by_cases c : t = p
                                · rw [c]; exact z38
                                · exact q2 t st (by omega)
                              · refine ⟨fun c43 => ?_, fun c43 => ?_⟩
                                · exact fun z => (bq1 qx37).2.1.mp c43 z.1
                                · refine ⟨(by rw [sameC_k sa]; exact uk), ?_⟩
                                  refine ⟨(by rw [sameC_n sa, un]; omega), ?_⟩
                                  refine ⟨fun c42 => ?_, fun c42 => ?_⟩
                                  · rw [ed, ek, wr_of (x := (d : Int) + 1 - (pre.length : Nat)) (by omega) (by omega), wr_of (by omega) (by omega), sameC_I sa] at c42
                                    exact .inr ⟨by omega, (bq1 qx37).2.2.1.mp c43, by rw [c42]; omega⟩
                                  · rw [ed, ek, wr_of (x := (d : Int) + 1 - (pre.length : Nat)) (by omega) (by omega), wr_of (by omega) (by omega), sameC_I sa] at c42
                                    exact fun z => c42 (by have := z.2; rw [Int.toNat_natCast]; omega)
                  · intro x46 ex46 rx46
                    rw [wr_of (by omega) (by omega)] at ex46
                    refine ⟨⟨by omega, by omega, uf, ul, ux, uk, un, fun r hr e y => ?_⟩, by dsimp only; omega⟩
                    by_cases c : r = s
                    · subst c
                      obtain ⟨e0, -, R⟩ := rg_least e y
                      have := Ring_short R
                      have := fin e0 R.1
                      omega
                    · exact zr r (by omega) e y
                · obtain ⟨p, rfl⟩ : ∃ p : Nat, x19 = p := ⟨x19.toNat, by omega⟩
                  have wpb : 0 ≤ hI h15 a1 p ∧ hI h15 a1 p ≤ 24 := by
                    rcases uw.1 p (by omega) with y | y <;> dsimp only at y <;> omega
                  refine c_ahOf s12 (by omega) (A2 h15 uf p (by omega)) ?_
                  intro x48 qx48
                  intro rx48 vx48
                  refine ⟨fun y => 0 ≤ y ∧ y ≤ 24 ∧ (y = 24 ∨ ∃ t, t < 12 ∧ ahB N nd f s t = true ∧ hI h15 a1 t + 1 = y ∧ 0 ≤ hI h15 a1 t) ∧ ∀ t : Nat, s < t → (t : Int) < (p : Int) + 1 → ahB N nd f s t = true → y ≤ hI h15 a1 t + 1, ?_, ?_⟩
                  · intro x49 rx49 z50
                    intro x51 ex51 rx51
                    rw [wr_of (by omega) (by omega)] at ex51
                    exact ⟨⟨by omega, by omega, z50.1, z50.2.1, z50.2.2.1, fun t st ht => z50.2.2.2 t st (by omega)⟩, by dsimp only; omega⟩
                  · refine ⟨fun c55 => ?_, fun c55 => ?_⟩
                    · refine ⟨v2, v3, v4, fun t st ht y => ?_⟩
                      by_cases c : t = p
                      · rw [c] at y; exact absurd y ((bq1 qx48).2.1.mp c55)
                      · exact v5 t st (by omega) y
                    · refine ⟨uk, ?_⟩
                      refine ⟨(by rw [un]; omega), ?_⟩
                      rw [wr_of (x := hI h15 a1 (p : Int).toNat + 1) (by rw [Int.toNat_natCast]; omega) (by rw [Int.toNat_natCast]; omega), Int.toNat_natCast]
                      refine c_J9_min_7cf53 ?_
                      intro x54 qx54
                      intro rx54
                      have ys := (bq1 qx48).2.2.1.mp c55
                      refine ⟨by omega, by omega, ?_, fun t st ht y => ?_⟩
                      · rcases qx54 with ⟨e, -⟩ | ⟨e, -⟩
                        · rw [e]; exact v4
                        · exact .inr ⟨p, by omega, ys, by omega, wpb.1⟩
                      · by_cases c : t = p
                        · rw [c]; omega
                        · have := v5 t st (by omega) y
                          omega
            · obtain ⟨rd, rfl⟩ : ∃ rd : Nat, x12 = rd := ⟨x12.toNat, by omega⟩
              rw [Int.toNat_natCast] at uw
              intro x57 ex57 rx57
              rw [wr_of (by omega) (by omega)] at ex57
              refine ⟨fun x g => (s : Int) + 1 ≤ x ∧ x ≤ 12 ∧ Fr (fun b => b = a1) h2 g ∧ g.length = h2.length ∧ xhs g = xhs h2 ∧ hk g a1 = 100 ∧ hn g a1 = 12 ∧ Wy N nd f s rd (fun p => hI g a1 p) ∧ ∀ p : Nat, s < p → (p : Int) < x → U N nd f s (rd + 1) p → hI g a1 p ≤ (rd : Int) + 1, fun x _ => (12 - x).toNat, ?_, ?_⟩
              · exact ⟨by omega, by omega, uf, ul, ux, uk, un, uw, fun p sp hp => by omega⟩
              · intro x58 h60 t60 s60 rx58 z61
                obtain ⟨i0, i1, if_, il, ix, ik, in_, iw, ip⟩ := z61
                refine ⟨fun c82 => ?_, fun c82 => ?_⟩
                · intro x62 ex62 rx62
                  rw [wr_of (by omega) (by omega)] at ex62
                  refine ⟨⟨by omega, by omega, if_, il, ix, ik, in_, iw.1, fun p hp d hd u => ?_⟩, by dsimp only; omega⟩
                  by_cases c : d = rd + 1
                  · subst c
                    dsimp only
                    have := ip p u.1 (by omega) u
                    omega
                  · exact iw.2 p hp d (by omega) u
                · obtain ⟨p, rfl⟩ : ∃ p : Nat, x58 = p := ⟨x58.toNat, by omega⟩
                  refine ⟨fun x g => (s : Int) ≤ x ∧ x ≤ 12 ∧ Fr (fun b => b = a1) h2 g ∧ g.length = h2.length ∧ xhs g = xhs h2 ∧ hk g a1 = 100 ∧ hn g a1 = 12 ∧ Wy N nd f s rd (fun p => hI g a1 p) ∧ (∀ t : Nat, s < t → (t : Int) < (p : Int) → U N nd f s (rd + 1) t → hI g a1 t ≤ (rd : Int) + 1) ∧ ∀ q : Nat, (q : Int) < x → U N nd f s rd q → ahB N nd f p q = true → hI g a1 p ≤ (rd : Int) + 1, fun x _ => (12 - x).toNat, ?_, ?_⟩
                  · refine ⟨by omega, by omega, if_, il, ix, ik, in_, iw, ip, fun q hq u y => ?_⟩
                    exfalso
                    cases rd with
                    | zero => have : q = s := u; omega
                    | succ rd => have := u.1; omega
                  · intro x63 h64 t64 s64 rx63 z65
                    obtain ⟨j0, j1, jf, jl, jx, jk, jn, jw, jp, jq⟩ := z65
                    refine ⟨fun c81 => ?_, fun c81 => ?_⟩
                    · intro x66 ex66 rx66
                      rw [wr_of (by omega) (by omega)] at ex66
                      refine ⟨⟨by omega, by omega, jf, jl, jx, jk, jn, jw, fun t st ht u => ?_⟩, by dsimp only; omega⟩
                      by_cases c : t = p
                      · subst c
                        obtain ⟨-, q, hq, uq, y⟩ := u
                        exact jq q (by omega) uq y
                      · exact jp t st (by omega) u
                    · obtain ⟨q, rfl⟩ : ∃ q : Nat, x63 = q := ⟨x63.toNat, by omega⟩
                      have wpb := jw.1 p (by omega)
                      have wqb := jw.1 q (by omega)
                      dsimp only at wpb wqb
                      refine c_ahOf (show p < 12 by omega) (show q < 12 by omega) (A2 h64 jf q (by omega)) ?_
                      intro x67 qx67
                      intro rx67 vx67
                      refine ⟨fun y => (y = hI h64 a1 p ∨ (ahB N nd f p q = true ∧ y = hI h64 a1 q + 1)) ∧ y ≤ hI h64 a1 p ∧ (ahB N nd f p q = true → y ≤ hI h64 a1 q + 1), ?_, ?_⟩
                      · intro x68 rx68 z69
                        refine ⟨jk, ?_⟩
                        refine ⟨(by omega), ?_⟩
                        intro h72 eh72 t72 u72
                        intro x73 ex73 rx73
                        obtain ⟨ya, yb, yc⟩ := z69
                        rw [Int.toNat_natCast] at eh72
                        rw [wr_of (by omega) (by omega)] at ex73
                        have rx : rg x68 := rx68
                        have e72 : ∀ t, hI h72 a1 t = if t = p then x68 else hI h64 a1 t := fun t => by
                          by_cases c : t = p
                          · rw [if_pos c, c, eh72]; exact hI_eq (by omega) rx
                          · rw [if_neg c, eh72]; exact hI_ni (fun z => c z.symm)
                        have le : ∀ t, hI h72 a1 t ≤ hI h64 a1 t := fun t => by rw [e72]; split; rename_i c; rw [c]; exact yb; omega
                        refine ⟨⟨by omega, by omega, fun b hb n => sameC_tr (jf b hb n) (by rw [eh72]; exact sameC_sV (fun z => n z.symm)), by rw [eh72, len_sV]; exact jl, by rw [eh72, xhs_sV]; exact jx, by rw [eh72, hk_sV]; exact jk, by rw [eh72, hn_sV]; exact jn, ⟨fun t ht => ?_, fun t ht d hd u => ?_⟩, fun t st ht u => ?_, fun t ht u y => ?_⟩, by dsimp only; omega⟩
                        · dsimp only
                          rw [e72]
                          by_cases c : t = p
                          · rw [if_pos c, c]
                            rcases ya with y | ⟨y1, y2⟩
                            · rw [y]; exact wpb
                            · by_cases z : x68 = 24
                              · exact .inl z
                              · rcases wqb with w | ⟨w1, w2, w3⟩
                                · omega
                                · refine .inr ⟨by omega, by omega, ?_⟩
                                  rw [show x68.toNat = (hI h64 a1 q).toNat + 1 by omega]
                                  exact ⟨by omega, q, by omega, w3, y1⟩
                          · rw [if_neg c]; exact jw.1 t ht
                        · have := jw.2 t ht d hd u
                          have := le t
                          dsimp only at *
                          omega
                        · have := jp t st ht u
                          have := le t
                          omega
                        · by_cases c : t = q
                          · rw [c] at u y
                            have a := jw.2 q (by omega) rd (Nat.le_refl _) u
                            have b := yc y
                            rw [e72, if_pos rfl]
                            dsimp only at a
                            omega
                          · have := jq t (by omega) u y
                            have := le p
                            omega
                      · refine ⟨fun c80 => ?_, fun c80 => ?_⟩
                        · refine ⟨jk, ?_⟩
                          refine ⟨(by omega), ?_⟩
                          rw [Int.toNat_natCast]
                          exact ⟨.inl rfl, by omega, fun y => absurd y ((bq1 qx67).2.1.mp c80)⟩
                        · refine ⟨jk, ?_⟩
                          refine ⟨(by omega), ?_⟩
                          refine ⟨(by omega), ?_⟩
                          rw [Int.toNat_natCast, Int.toNat_natCast, wr_of (x := hI h64 a1 q + 1) (by omega) (by omega)]
                          refine c_J9_min_7cf53 ?_
                          intro x79 qx79
                          intro rx79
                          have y := (bq1 qx67).2.2.1.mp c80
                          refine ⟨?_, by omega, fun _ => by omega⟩
                          rcases qx79 with ⟨e, -⟩ | ⟨e, -⟩
                          · exact .inl e
                          · exact .inr ⟨y, e⟩
        · refine ⟨fun y => y = if x9 = (s : Int) then 0 else 24, ?_, ?_⟩
          · intro x84 rx84 z85
            refine ⟨yk, ?_⟩
            refine ⟨(by omega), ?_⟩
            intro h88 eh88 t88 u88
            intro x89 ex89 rx89
            rw [wr_of (by omega) (by omega)] at ex89
            refine ⟨⟨by omega, by omega, fun b hb n => sameC_tr (yf b hb n) (by rw [eh88]; exact sameC_sV (fun z => n z.symm)), by rw [eh88, len_sV]; exact yl, by rw [eh88, xhs_sV]; exact yx, by rw [eh88, hk_sV]; exact yk, by rw [eh88, hn_sV]; exact yn, fun p hp => ?_⟩, by dsimp only; omega⟩
            by_cases c : p = x9.toNat
            · rw [c, eh88, hI_eq (by omega) rx84, z85]
              by_cases d : x9 = (s : Int)
              · rw [if_pos d, if_pos (by omega)]
              · rw [if_neg d, if_neg (by omega)]
            · rw [eh88, hI_ni (fun z => c z.symm)]; exact yv p (by omega)
          · refine ⟨fun c90 => ?_, fun c90 => ?_⟩
            · rw [if_neg c90]
            · rw [if_pos (Decidable.not_not.mp c90)]
set_option maxHeartbeats 4000000 in
theorem c_X14_findScripts {p0 : Nat} {nd : Nat → ND} {h : XH} {N : Nat → Int} {m : Nat} (T : HT h) (eN : N = nw h) (W : WF N m) (Z : NTm h nd m) {f : Nat → Int} (A : AR h p0 f) (S : fOK N f) (q0 : 468 ≤ p0) {K : XH → Prop} (k : ∀ g b L, Arr N nd f b L → L.length ≤ 12 → Fr (fun b => b = 437 ∨ b = 464 ∨ b = 465) h g → h.length ≤ g.length → Gr 1 n12 h g → (∀ j, ¬ j = 61 → el g 437 j = el h 437 j) → hI g 437 61 = (if b = true then -((L.length : Nat) : Int) else (L.length : Nat)) → (∀ i, i < L.length → hI g 465 i = ((L.getD i 0 : Nat) : Int)) → K g) : w_X14_findScripts p0 K h := by
  unfold w_X14_findScripts
  have L0 := HT_len T
  have kp := hk_lt A.1 (by decide)
  have v40 := vc64 W.1
  have z2 := Z.2
  have zn := Z.1.2.2.2.1
  have zb := Z.1.2.1
  have n437 : ∀ gg, HT gg → hn gg 437 = 64 := fun gg t => (lstn t).2.2.2.2.1
  have n464 : ∀ gg, HT gg → hn gg 464 = 12 := fun gg t => lyn (c := 100) (n := 12) t rfl
  have n465 : ∀ gg, HT gg → hn gg 465 = 12 := fun gg t => lyn (c := 100) (n := 12) t rfl
  have BK : ∀ gg, HT gg → (Fr (fun b => b = 464) h gg ∧ gg.length = h.length ∧ xhs gg = xhs h) → N = nw gg ∧ NTm gg nd m ∧ AR gg p0 f := fun gg _ fg => ⟨eN.trans (nw_fr (fg.1 438 (by omega) (by decide))).symm, NTm_fr T (fun b x y => fg.1 b x (by omega)) (fun j _ => sameC_el (fg.1 437 (by omega) (by decide)) j) Z, AR_fr (fg.1 p0 kp (by omega)) A⟩
  obtain ⟨i1, i2, i3, i4, -⟩ := sch_in (N := N) (nd := nd) (f := f) 12 (thM f) (orM_lt _ 12) (cntN_le _ 12)
  refine ⟨fun x g => 0 ≤ x ∧ x ≤ 12 ∧ (Fr (fun b => b = 464) h g ∧ g.length = h.length ∧ xhs g = xhs h) ∧ ∀ q : Nat, (q : Int) < x → hI g 464 q = (ahM N nd f q : Nat), fun x _ => (12 - x).toNat, ?_, ?_⟩
  · exact ⟨by omega, by omega, ⟨Fr_rf _ _, rfl, rfl⟩, fun q hq => by omega⟩
  · intro x1 h6 t6 s6 rx1 z7
    obtain ⟨z0, z1, zf, zv⟩ := z7
    obtain ⟨eN6, Z6, A6⟩ := BK h6 t6 zf
    refine ⟨fun c88 => ?_, fun c88 => ?_⟩
    · refine ⟨fun a x => 0 ≤ x ∧ x ≤ 12 ∧ a = (orM x.toNat (fun p => !decide (f p = -1)) : Nat), fun _ x => (12 - x).toNat, ?_, ?_⟩
      · exact ⟨by omega, by omega, rfl⟩
      · intro x8 x9 rx8 rx9 z10
        obtain ⟨y0, y1, ya⟩ := z10
        refine ⟨fun c40 => ?_, fun c40 => ?_⟩
        · intro h11 eh11 t11 u11
          have e8 : x8 = (thM f : Nat) := by rw [ya, show x9.toNat = 12 by omega]; rfl
          have s11 : ∀ b, ¬ b = 437 → sameC h6 h11 b := fun b n => by rw [eh11]; exact sameC_sV (fun z => n z.symm)
          have A11 : AHr h11 N nd f := fun q hq => (sameC_I (s11 464 (by decide)) q).trans (zv q (by omega))
          refine ⟨fun a g => ∃ (l : Nat) (pre : List Nat), a = (l : Int) ∧ l < 4096 ∧ pre.length ≤ 12 ∧ pre ++ (sch N nd f (12 - pre.length) l).1 = (sch N nd f 12 (thM f)).1 ∧ (sch N nd f (12 - pre.length) l).2 = restN N nd f ∧ cntN 12 l.testBit ≤ 12 - pre.length ∧ Fr (fun b => b = 437 ∨ b = 464 ∨ b = 465) h g ∧ g.length = h.length ∧ xhs g = xhs h ∧ (∀ j, ¬ j = 61 → el g 437 j = el h 437 j) ∧ AHr g N nd f ∧ hI g 437 61 = (pre.length : Nat) ∧ ∀ j, j < pre.length → hI g 465 j = ((pre.getD j 0 : Nat) : Int), fun a _ => cntN 12 a.toNat.testBit, ?_, ?_⟩
          · exact ⟨thM f, [], e8, orM_lt _ 12, by decide, rfl, rfl, cntN_le _ 12, fun b hb n => sameC_tr (zf.1 b hb (by omega)) (s11 b (by omega)), (by rw [eh11, len_sV]; exact zf.2.1), (by rw [eh11, xhs_sV]; exact zf.2.2), fun j n => (by rw [eh11, el_ni (fun z => n z.symm)]; exact sameC_el (zf.1 437 (by omega) (by decide)) j), A11, (by rw [eh11]; exact hI_eq (by rw [n437 h6 t6]; decide) (rgk rfl)), fun j hj => by simp at hj⟩
          · intro x13 h15 t15 s15 rx13 z16
            obtain ⟨l, pre, el_, ll, l12, ap, ar, cn, gf, gl, gx, g437, gA, g61, g465⟩ := z16
            refine ⟨fun c32 => ?_, fun c32 => ?_⟩
            · have : l = 0 := by omega
              subst this
              have fr0 : free N nd f 0 = -1 := by
                rcases free_cs N nd f 0 with ⟨e, -⟩ | ⟨p, -, -, b, -⟩
                · exact e
                · rw [Nat.zero_testBit] at b; cases b
              rw [sch_n fr0] at ap ar
              rw [List.append_nil] at ap
              exact k _ false pre (.inl ⟨ar.symm, rfl, ap⟩) l12 gf (by omega) ⟨by omega, by omega⟩ g437 (by rw [if_neg (by decide)]; exact g61) g465
            · refine ⟨fun x => 0 ≤ x ∧ x ≤ 12 ∧ ∀ p : Nat, (p : Int) < x → (l.testBit p && decide (ahM N nd f p &&& l = 0)) = false, fun x => (12 - x).toNat, ?_, ?_⟩
              · exact ⟨by omega, by omega, fun p hp => by omega⟩
              · intro x17 rx17 z18
                obtain ⟨u0, u1, un⟩ := z18
                refine ⟨x17 = free N nd f l ∧ ¬ x17 = 12 ∧ 0 ≤ x17 ∨ x17 = 12 ∧ free N nd f l = -1, ?_, ?_⟩
                · intro z19
                  refine ⟨fun c25 => ?_, fun c25 => ?_⟩
                  · obtain ⟨ef, -, e0⟩ := z19.resolve_right (fun y => c25 y.1)
                    obtain ⟨p, ep, hp, tb, -⟩ := (free_cs N nd f l).resolve_left (fun y => by omega)
                    have rcn := rmB_cnt hp tb
                    have pq : 2 ^ p < 2 ^ 12 := Nat.pow_lt_pow_right (by decide) hp
                    have nf : ¬ free N nd f l = -1 := by omega
                    have lc : pre.length < 12 := by have := cntN_lt (g := fun _ => false) (k := l.testBit) 12 (fun _ _ y => by cases y) ⟨p, hp, tb, rfl⟩; omega
                    refine ⟨(by rw [g61]; omega), ?_⟩
                    intro h21 eh21 t21 u21
                    intro h22 eh22 t22 u22
                    intro x23 ex23 rx23
                    rw [g61, Int.toNat_natCast] at eh21
                    have e21 : hI h21 437 61 = (pre.length : Nat) := by rw [eh21, hI_ne (by decide)]; exact g61
                    rw [e21, wr_of (by omega) (by omega)] at eh22
                    rw [ef, ep, ishl1 (by omega), Int.toNat_natCast, el_, iand_nt (by omega) (by omega)] at ex23
                    replace ex23 : x23 = (rmB l p : Nat) := ex23
                    have s22 : ∀ b, ¬ b = 437 → ¬ b = 465 → sameC h15 h22 b := fun b n1 n2 => by rw [eh22, eh21]; exact sameC_tr (sameC_sV (fun z => n2 z.symm)) (sameC_sV (fun z => n1 z.symm))
                    have ll1 : (pre ++ [p]).length = pre.length + 1 := by rw [List.length_append, List.length_singleton]
                    have st := sch_s (n := 12 - (pre ++ [p]).length) nf
                    rw [ep, Int.toNat_natCast, show 12 - (pre ++ [p]).length + 1 = 12 - pre.length by omega] at st
                    refine ⟨⟨rmB l p, pre ++ [p], ex23, rmB_lt ll, by omega, ?_, ?_, by omega, fun b hb n => sameC_tr (gf b hb n) (s22 b (by omega) (by omega)), by rw [eh22, len_sV, eh21, len_sV]; exact gl, by rw [eh22, xhs_sV, eh21, xhs_sV]; exact gx, fun j n => ?_, fun q hq => (sameC_I (s22 464 (by decide) (by decide)) q).trans (gA q hq), ?_, fun j hj => ?_⟩, ?_⟩
                    · rw [← ap, st, List.append_assoc]; rfl
                    · rw [← ar, st]
                    · rw [eh22, el_ni (fun z => n z.symm), eh21, el_ne (by decide)]; exact g437 j n
                    · rw [eh22, hI_eq (by rw [n437 h21 t21]; decide) (by unfold rg; omega), ll1]; omega
                    · rw [eh22, hI_ne (by decide), eh21]
                      rw [ll1] at hj
                      by_cases c : j = pre.length
                      · rw [c, gD_r, ef, ep]; exact hI_eq (by rw [n465 h15 t15]; omega) (by unfold rg; omega)
                      · rw [gD_l (by omega), hI_ni (by omega)]; exact g465 j (by omega)
                    · dsimp only
                      rw [ex23, el_, Int.toNat_natCast, Int.toNat_natCast]
                      exact rcn
                  · have fr0 : free N nd f l = -1 := z19.elim (fun y => absurd (Decidable.not_not.mp c25) y.2.1) (fun y => y.2)
                    rw [sch_n fr0] at ar
                    replace ar : l = restN N nd f := ar
                    refine c_X14_findRing t15 gA (rest_ring (N := N) (nd := nd) (f := f) ll (by omega) fr0) ?_
                    intro h24 s d Lr s12 R no ro f24 l24 g24 e24 e61 e465
                    intro t24 u24
                    have d11 := Ring_short R
                    have ll_ := ro.1
                    exact k _ true Lr (.inr ⟨by rw [← ar]; omega, rfl, s, d, s12, R, fun r e hr => no r e hr, ro⟩) (by omega) (fun b hb n => sameC_tr (gf b hb n) (f24 b (by omega) (by omega))) (by omega) ⟨by have := g24.1; omega, by have := g24.2; omega⟩ (fun j n => (e24 j n).trans (g437 j n)) (by rw [e61, if_pos rfl, ll_]; omega) e465
                · refine ⟨fun c31 => ?_, fun c31 => ?_⟩
                  · refine .inr ⟨by omega, ?_⟩
                    exact fnd_no (fun p hp => un p (by omega))
                  · obtain ⟨p, rfl⟩ : ∃ p : Nat, x17 = p := ⟨x17.toNat, by omega⟩
                    have bi := bitI (a := l) (n := p) (by omega) (by omega)
                    rw [← el_] at bi
                    rw [bi, Int.toNat_natCast, gA p (by omega), el_, iand_nat (by have := ahM_lt N nd f p; omega) (by omega)]
                    refine ⟨(l.testBit p && decide (ahM N nd f p &&& l = 0)) = false, ?_, ?_⟩
                    · intro z26
                      intro x27 ex27 rx27
                      rw [wr_of (by omega) (by omega)] at ex27
                      refine ⟨⟨by omega, by omega, fun q hq => ?_⟩, by dsimp only; omega⟩
                      by_cases c : q = p
                      · rw [c]; exact z26
                      · exact un q (by omega)
                    · refine ⟨fun c30 => ?_, fun c30 => ?_⟩
                      · have : l.testBit p = false := bt fun z => by rw [if_pos z] at c30; cases c30
                        rw [this]; rfl
                      · refine ⟨(by omega), ?_⟩
                        refine ⟨fun c29 => ?_, fun c29 => ?_⟩
                        · have tb : l.testBit p = true := by
                            cases e : l.testBit p with
                            | true => rfl
                            | false => rw [e] at c30; exact absurd rfl c30
                          have : free N nd f l = p := fnd_is (by omega) (by rw [tb, dt (by omega)]; rfl) (fun q hq => un q (by omega))
                          exact .inl ⟨this.symm, by omega, by omega⟩
                        · rw [df (fun z => c29 (by rw [z]; rfl)), Bool.and_false]
        · obtain ⟨p, rfl⟩ : ∃ p : Nat, x9 = p := ⟨x9.toNat, by omega⟩
          rw [Int.toNat_natCast] at ya
          have ap := A6.2.2 p (by omega)
          have ol := orM_12 (fun p => !decide (f p = -1)) (n := p) (by omega)
          have pq : 2 ^ p < 2 ^ 12 := Nat.pow_lt_pow_right (by decide) (by omega)
          refine ⟨A6.1, ?_⟩
          refine ⟨(by rw [A6.2.1]; omega), ?_⟩
          refine ⟨fun y => y = ((if (!decide (f p = -1)) = true then 2 ^ p else 0 : Nat) : Int), ?_, ?_⟩
          · intro x35 rx35 z36
            intro x37 ex37 rx37
            intro x38 ex38 rx38
            rw [wr_of (by omega) (by omega)] at ex38
            exact ⟨⟨by omega, by omega, by rw [ex37, ya, z36, ior_nat (by omega) (by split <;> omega), show x38.toNat = p + 1 by omega, orM_s]⟩, by dsimp only; omega⟩
          · refine ⟨fun c39 => ?_, fun c39 => ?_⟩
            · rw [Int.toNat_natCast] at c39
              rw [ishl1 (by omega), Int.toNat_natCast, df (fun y => c39 (ap.trans y))]; rfl
            · rw [Int.toNat_natCast] at c39
              rw [dt (ap.symm.trans (Decidable.not_not.mp c39))]; rfl
    · refine ⟨(by omega), ?_⟩
      intro h42 eh42 t42 u42
      obtain ⟨q, rfl⟩ : ∃ q : Nat, x1 = q := ⟨x1.toNat, by omega⟩
      rw [Int.toNat_natCast] at eh42
      have q12 : q < 12 := by omega
      have s42 : ∀ b, ¬ b = 464 → sameC h6 h42 b := fun b n => by rw [eh42]; exact sameC_sV (fun z => n z.symm)
      have f42 : Fr (fun b => b = 464) h h42 ∧ h42.length = h.length ∧ xhs h42 = xhs h := ⟨fun b hb n => sameC_tr (zf.1 b hb n) (s42 b n), by rw [eh42, len_sV]; exact zf.2.1, by rw [eh42, xhs_sV]; exact zf.2.2⟩
      obtain ⟨eN42, Z42, A42⟩ := BK h42 t42 f42
      have e42 : hI h42 464 q = 0 := by rw [eh42]; exact hI_eq (by rw [n464 h6 t6]; omega) (rgk rfl)
      have o42 : ∀ p, ¬ p = q → hI h42 464 p = hI h6 464 p := fun p n => by rw [eh42]; exact hI_ni (fun z => n z.symm)
      have aq := A42.2.2 q q12
      refine ⟨A42.1, ?_⟩
      refine ⟨(by rw [A42.2.1]; omega), ?_⟩
      refine ⟨fun g => (Fr (fun b => b = 464) h g ∧ g.length = h.length ∧ xhs g = xhs h) ∧ (∀ p, ¬ p = q → hI g 464 p = hI h42 464 p) ∧ hI g 464 q = (ahM N nd f q : Nat), ?_, ?_⟩
      · intro h49 t49 s49 z50
        intro x51 ex51 rx51
        rw [wr_of (by omega) (by omega)] at ex51
        refine ⟨⟨by omega, by omega, z50.1, fun p hp => ?_⟩, by dsimp only; omega⟩
        by_cases c : p = q
        · rw [c]; exact z50.2.2
        · rw [z50.2.1 p c, o42 p c]; exact zv p (by omega)
      · refine ⟨fun c87 => ?_, fun c87 => ?_⟩
        · rw [Int.toNat_natCast] at c87
          have nfq : ¬ f q = -1 := fun y => c87 (aq.trans y)
          obtain ⟨v, hv, es, e0, e1⟩ := fOK_v W.1 S q12 nfq
          have wv := W.1.2.2.2.2.1 v hv
          refine c_X14_slotIn eN42 W.1 A42 S (by omega) ?_
          rw [Int.toNat_natCast, es]
          intro _
          refine ⟨fun x g => 0 ≤ x ∧ x ≤ nV N v 7 ∧ (Fr (fun b => b = 464) h g ∧ g.length = h.length ∧ xhs g = xhs h) ∧ (∀ p, ¬ p = q → hI g 464 p = hI h42 464 p) ∧ ∃ M : Nat, hI g 464 q = (M : Int) ∧ M < 4096 ∧ ∀ p, M.testBit p = true ↔ p < 12 ∧ ¬ f p = -1 ∧ ¬ p = q ∧ ∃ i : Nat, (i : Int) < x ∧ (nV N v 11).toNat.testBit i = true ∧ nmet N (nd (nV N v (8 + i)).toNat) (slF N f p).toNat = true, fun x _ => (nV N v 7 - x).toNat, ?_, ?_⟩
          · exact ⟨by omega, by omega, f42, fun _ _ => rfl, 0, e42, by decide, fun p => ⟨fun z => (by rw [Nat.zero_testBit] at z; cases z), fun ⟨_, _, _, i, y, _⟩ => by omega⟩⟩
          · intro x53 h56 t56 s56 rx53 z57
            obtain ⟨u0, u1, uf, uo, M, eM, lM, hM⟩ := z57
            obtain ⟨eN56, Z56, A56⟩ := BK h56 t56 uf
            refine c_X14_ver (by omega) ?_
            rw [Int.toNat_natCast, show hI h56 438 (5 + 20 * v + (7 : Int).toNat) = nV N v 7 by rw [eN56]; rfl]
            intro x58 ex58
            intro rx58
            refine ⟨fun c86 => ?_, fun c86 => ?_⟩
            · refine ⟨uf, uo, ?_⟩
              rw [eM]
              congr 1
              apply Nat.eq_of_testBit_eq
              intro p
              have h1 : M.testBit p = true ↔ (ahM N nd f q).testBit p = true := by
                rw [hM p, ahM_at, ahB_e, es, Int.toNat_natCast]
                exact ⟨fun ⟨a, b, c, i, d, y⟩ => ⟨a, nfq, b, c, i, by omega, y⟩, fun ⟨a, _, b, c, i, d, y⟩ => ⟨a, b, c, i, by omega, y⟩⟩
              cases x : M.testBit p <;> cases y : (ahM N nd f q).testBit p <;> rw [x, y] at h1 <;> first | rfl | (simp at h1)
            · refine ⟨fun y g => 0 ≤ y ∧ y ≤ 12 ∧ (Fr (fun b => b = 464) h g ∧ g.length = h.length ∧ xhs g = xhs h) ∧ (∀ p, ¬ p = q → hI g 464 p = hI h42 464 p) ∧ ∃ M : Nat, hI g 464 q = (M : Int) ∧ M < 4096 ∧ ∀ p, M.testBit p = true ↔ p < 12 ∧ ¬ f p = -1 ∧ ¬ p = q ∧ ∃ i : Nat, ((i : Int) < x53 ∨ (i : Int) = x53 ∧ (p : Int) < y) ∧ (nV N v 11).toNat.testBit i = true ∧ nmet N (nd (nV N v (8 + i)).toNat) (slF N f p).toNat = true, fun y _ => (12 - y).toNat, ?_, ?_⟩
              · exact ⟨by omega, by omega, uf, uo, M, eM, lM, fun p => (hM p).trans ⟨fun ⟨a, b, c, i, d, y⟩ => ⟨a, b, c, i, .inl d, y⟩, fun ⟨a, b, c, i, d, y⟩ => ⟨a, b, c, i, by omega, y⟩⟩⟩
              · intro x59 h61 t61 s61 rx59 z62
                obtain ⟨v0, v1, vf, vo, M2, eM2, lM2, hM2⟩ := z62
                obtain ⟨eN61, Z61, A61⟩ := BK h61 t61 vf
                refine ⟨∃ M : Nat, hI h61 464 q = (M : Int) ∧ M < 4096 ∧ ∀ p, M.testBit p = true ↔ p < 12 ∧ ¬ f p = -1 ∧ ¬ p = q ∧ ∃ i : Nat, (i : Int) < x53 + 1 ∧ (nV N v 11).toNat.testBit i = true ∧ nmet N (nd (nV N v (8 + i)).toNat) (slF N f p).toNat = true, ?_, ?_⟩
                · intro z63
                  intro x64 ex64 rx64
                  rw [wr_of (by omega) (by omega)] at ex64
                  exact ⟨⟨by omega, by omega, vf, vo, by rw [ex64]; exact z63⟩, by dsimp only; omega⟩
                · refine ⟨fun c85 => ?_, fun c85 => ?_⟩
                  · exact ⟨M2, eM2, lM2, fun p => (hM2 p).trans ⟨fun ⟨a, b, c, i, d, y⟩ => ⟨a, b, c, i, by omega, y⟩, fun ⟨a, b, c, i, d, y⟩ => ⟨a, b, c, i, by omega, y⟩⟩⟩
                  · refine c_X14_ver (by omega) ?_
                    rw [Int.toNat_natCast, show hI h61 438 (5 + 20 * v + (11 : Int).toNat) = nV N v 11 by rw [eN61]; rfl]
                    intro x65 ex65
                    have ba := bitI (a := (nV N v 11).toNat) (n := x53.toNat) (by omega) (by omega)
                    rw [show (((nV N v 11).toNat : Nat) : Int) = x65 by omega, show ((x53.toNat : Nat) : Int) = x53 by omega] at ba
                    intro rx65
                    refine ⟨fun c84 => ?_, fun c84 => ?_⟩
                    · have nb : ¬ (nV N v 11).toNat.testBit x53.toNat = true := fun z => by rw [ba, if_pos z] at c84; exact c84 rfl
                      refine ⟨M2, eM2, lM2, fun p => (hM2 p).trans ⟨fun ⟨a, b, c, i, d, y⟩ => ⟨a, b, c, i, by omega, y⟩, fun ⟨a, b, c, i, d, y⟩ => ?_⟩⟩
                      by_cases e : (i : Int) = x53
                      · rw [show i = x53.toNat by omega] at y; exact absurd y.1 nb
                      · exact ⟨a, b, c, i, .inl (by omega), y⟩
                    · have tb : (nV N v 11).toNat.testBit x53.toNat = true := by
                        cases e : (nV N v 11).toNat.testBit x53.toNat with
                        | true => rfl
                        | false => rw [ba, e] at c84; exact absurd (fun z => by cases z) c84
                      obtain ⟨p, rfl⟩ : ∃ p : Nat, x59 = p := ⟨x59.toNat, by omega⟩
                      have p12 : p < 12 := by omega
                      have ap := A61.2.2 p p12
                      have pq : 2 ^ p < 2 ^ 12 := Nat.pow_lt_pow_right (by decide) p12
                      refine ⟨fun y => bq y (¬ f p = -1 ∧ ¬ p = q ∧ nmet N (nd (nV N v (8 + x53.toNat)).toNat) (slF N f p).toNat = true), ?_, ?_⟩
                      · intro x66 rx66 z67
                        refine ⟨fun y => ∃ Y : Nat, y = (Y : Int) ∧ Y < 4096 ∧ ∀ t, Y.testBit t = true ↔ t = p ∧ ¬ f p = -1 ∧ ¬ p = q ∧ nmet N (nd (nV N v (8 + x53.toNat)).toNat) (slF N f p).toNat = true, ?_, ?_⟩
                        · intro x68 rx68 z69
                          intro h70 eh70 t70 u70
                          intro x71 ex71 rx71
                          obtain ⟨Y, eY, lY, hY⟩ := z69
                          rw [eM2, eY, ior_nat (by omega) (by omega)] at eh70
                          rw [wr_of (by omega) (by omega)] at ex71
                          have lo := Nat.or_lt_two_pow (n := 12) lM2 lY
                          refine ⟨⟨by omega, by omega, ⟨fun b hb n => sameC_tr (vf.1 b hb n) (by rw [eh70]; exact sameC_sV (fun z => n z.symm)), by rw [eh70, len_sV]; exact vf.2.1, by rw [eh70, xhs_sV]; exact vf.2.2⟩, fun t n => by rw [eh70, hI_ni (fun z => n z.symm)]; exact vo t n, M2 ||| Y, by rw [eh70]; exact hI_eq (by rw [n464 h61 t61]; omega) (by unfold rg; omega), lo, fun t => ?_⟩, by dsimp only; omega⟩
                          rw [Nat.testBit_or, Bool.or_eq_true, hM2 t, hY t]
                          constructor
                          · rintro (⟨a, b, c, i, d, y⟩ | ⟨a, b, c, y⟩)
                            · exact ⟨a, b, c, i, by omega, y⟩
                            · subst a; exact ⟨p12, b, c, x53.toNat, .inr ⟨by omega, by omega⟩, tb, y⟩
                          · rintro ⟨a, b, c, i, d, y⟩
                            by_cases e : (i : Int) = x53 ∧ t = p
                            · obtain ⟨e1, e2⟩ := e
                              subst e2
                              rw [show i = x53.toNat by omega] at y
                              exact .inr ⟨rfl, b, c, y.2⟩
                            · exact .inl ⟨a, b, c, i, by omega, y⟩
                        · refine ⟨fun c72 => ?_, fun c72 => ?_⟩
                          · refine ⟨0, rfl, by decide, fun t => ⟨fun z => (by rw [Nat.zero_testBit] at z; cases z), fun z => ?_⟩⟩
                            exact absurd z.2 ((bq1 z67).2.1.mp c72)
                          · refine ⟨2 ^ p, by rw [ishl1 (by omega), Int.toNat_natCast], pq, fun t => ?_⟩
                            rw [Nat.testBit_two_pow, decide_eq_true_eq]
                            exact ⟨fun z => ⟨z.symm, (bq1 z67).2.2.1.mp c72⟩, fun z => z.1.symm⟩
                      · refine ⟨¬ (¬ f p = -1 ∧ ¬ p = q ∧ nmet N (nd (nV N v (8 + x53.toNat)).toNat) (slF N f p).toNat = true), ?_, ?_⟩
                        · intro z73
                          exact bqF z73
                        · refine ⟨fun c83 => ?_, fun c83 => ?_⟩
                          · exact fun z => z.2.1 (by omega)
                          · refine ⟨A61.1, ?_⟩
                            refine ⟨(by rw [A61.2.1]; omega), ?_⟩
                            refine ⟨fun c82 => ?_, fun c82 => ?_⟩
                            · rw [Int.toNat_natCast] at c82
                              exact fun z => z.1 (ap.symm.trans c82)
                            · rw [wr_of (by omega) (by omega)]
                              refine c_X14_ver (by omega) ?_
                              rw [Int.toNat_natCast, show hI h61 438 (5 + 20 * v + (8 + x53).toNat) = nV N v (8 + x53.toNat) by rw [eN61, show (8 + x53).toNat = 8 + x53.toNat by omega]; rfl]
                              intro x76 ex76
                              have wk := wv.2.2.2.2.2.2.2.2.2.2.2.2.2.1 x53.toNat (by omega) (by omega)
                              have zn61 := Z61.2
                              have zb61 := Z61.1.2.2.2.1
                              intro rx76
                              refine ⟨Z61.1.2.2.1, ?_⟩
                              refine ⟨(by omega), ?_⟩
                              rw [Int.toNat_natCast] at c82
                              have nfp : ¬ f p = -1 := fun y => c82 (ap.trans y)
                              obtain ⟨w, hw, ws, -⟩ := fOK_v W.1 S p12 nfp
                              refine c_X14_slotIn eN61 W.1 A61 S (by omega) ?_
                              rw [Int.toNat_natCast, ws]
                              intro _
                              refine c_X14_meets t61 eN61 W (Z61.1.2.2.2.2.2.2.2 x76.toNat (by omega)) (by omega) (by rw [Int.toNat_natCast]; exact hw) ?_
                              rw [Int.toNat_natCast, ex76]
                              intro x80 qx80
                              intro rx80 vx80
                              refine ⟨fun c81 => ?_, fun c81 => ?_⟩
                              · intro z
                                have := z.2.2
                                exact (bq1 qx80).2.1.mp c81 this
                              · exact bqT ⟨nfp, by omega, (bq1 qx80).2.2.1.mp c81⟩
        · rw [Int.toNat_natCast] at c87
          have fq : f q = -1 := aq.symm.trans (Decidable.not_not.mp c87)
          refine ⟨f42, fun _ _ => rfl, ?_⟩
          rw [e42]
          have : ahM N nd f q = 0 := by
            apply Nat.eq_of_testBit_eq
            intro p
            rw [Nat.zero_testBit]
            exact bt fun z => (ahB_e.mp (ahM_at.mp z).2).1 fq
          rw [this]; rfl
