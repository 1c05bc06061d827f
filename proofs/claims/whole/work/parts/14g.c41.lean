/-! THE ORDER OF SCRIPTS, the reference -/
def AHr (g : XH) (N : Nat → Int) (nd : Nat → ND) (f : Nat → Int) : Prop := ∀ q, q < 12 → hI g 464 q = (ahM N nd f q : Nat)
/-- ways, as far as they are known after r rounds -/
def Wy (N : Nat → Int) (nd : Nat → ND) (f : Nat → Int) (s r : Nat) (w : Nat → Int) : Prop := (∀ p, p < 12 → w p = 24 ∨ 0 ≤ w p ∧ w p < 24 ∧ U N nd f s (w p).toNat p) ∧ (∀ p, p < 12 → ∀ d, d ≤ r → U N nd f s d p → w p ≤ d)
theorem Wy_0 {N : Nat → Int} {nd : Nat → ND} {f : Nat → Int} {s : Nat} {w : Nat → Int} (h : ∀ p, p < 12 → w p = if p = s then 0 else 24) : Wy N nd f s 0 w := by
  refine ⟨fun p hp => ?_, fun p hp d hd u => ?_⟩
  · rw [h p hp]
    by_cases c : p = s
    · rw [if_pos c]; exact .inr ⟨by omega, by omega, c⟩
    · rw [if_neg c]; exact .inl rfl
  · obtain rfl : d = 0 := by omega
    have : p = s := u
    rw [h p hp, if_pos this]; omega
theorem Wy_md {N : Nat → Int} {nd : Nat → ND} {f : Nat → Int} {s : Nat} {w : Nat → Int} (z : Wy N nd f s 12 w) {p e : Nat} (hp : p < 12) (he : e ≤ 11) : w p = e ↔ md N nd f s e p := by
  constructor
  · intro y
    rcases z.1 p hp with x | ⟨x1, x2, u⟩
    · omega
    · rw [show (w p).toNat = e by omega] at u
      refine ⟨u, fun k hk v => ?_⟩
      have := z.2 p hp k (by omega) v
      omega
  · intro y
    have a := z.2 p hp e (by omega) y.1
    rcases z.1 p hp with x | ⟨x1, x2, u⟩
    · omega
    · have : ¬ (w p).toNat < e := fun k => y.2 _ k u
      omega
/-- a row so far -/
def RowP (N : Nat → Int) (nd : Nat → ND) (f : Nat → Int) (s d : Nat) (L : List Nat) : Prop := L.getD 0 0 = s ∧ ∀ k, k + 1 < L.length → L.getD (k + 1) 0 < 12 ∧ (md N nd f s (d - k) (L.getD (k + 1) 0) ∧ ahB N nd f (L.getD k 0) (L.getD (k + 1) 0) = true) ∧ ∀ p, p < L.getD (k + 1) 0 → ¬ (md N nd f s (d - k) p ∧ ahB N nd f (L.getD k 0) p = true)
theorem RowP_ok {N : Nat → Int} {nd : Nat → ND} {f : Nat → Int} {s d : Nat} {L : List Nat} (h : RowP N nd f s d L) (l : L.length = d + 1) : RowOK N nd f s d L := ⟨l, h.1, fun k hk => h.2 k (by omega)⟩
theorem gD_l {L : List Nat} {q k : Nat} (hk : k < L.length) : (L ++ [q]).getD k 0 = L.getD k 0 := by rw [List.getD_eq_getElem?_getD, List.getD_eq_getElem?_getD, List.getElem?_append_left hk]
theorem gD_r {L : List Nat} {q : Nat} : (L ++ [q]).getD L.length 0 = q := by rw [List.getD_eq_getElem?_getD, List.getElem?_append_right (by omega), Nat.sub_self]; rfl
theorem RowP_add {N : Nat → Int} {nd : Nat → ND} {f : Nat → Int} {s d q : Nat} {L : List Nat} (h : RowP N nd f s d L) (l : 1 ≤ L.length) (hq : q < 12) (m : md N nd f s (d - (L.length - 1)) q) (a : ahB N nd f (L.getD (L.length - 1) 0) q = true) (n : ∀ p, p < q → ¬ (md N nd f s (d - (L.length - 1)) p ∧ ahB N nd f (L.getD (L.length - 1) 0) p = true)) : RowP N nd f s d (L ++ [q]) := by
  refine ⟨by rw [gD_l (by omega)]; exact h.1, fun k hk => ?_⟩
  rw [List.length_append, List.length_singleton] at hk
  by_cases c : k + 1 = L.length
  · rw [c, gD_r, gD_l (by omega), show k = L.length - 1 by omega]
    exact ⟨hq, ⟨m, a⟩, n⟩
  · rw [gD_l (by omega), gD_l (by omega)]
    exact h.2 k (by omega)
theorem RowP_1 (N : Nat → Int) (nd : Nat → ND) (f : Nat → Int) (s d : Nat) : RowP N nd f s d [s] := ⟨rfl, fun k hk => by simp at hk⟩
theorem RowP_nx {N : Nat → Int} {nd : Nat → ND} {f : Nat → Int} {s d : Nat} {L : List Nat} (R : Ring N nd f s d) (h : RowP N nd f s d L) (l : 1 ≤ L.length ∧ L.length ≤ d) : ∃ q, q < 12 ∧ md N nd f s (d - (L.length - 1)) q ∧ ahB N nd f (L.getD (L.length - 1) 0) q = true := by
  refine row_next R ?_
  by_cases c : L.length = 1
  · exact .inl ⟨by omega, by rw [c]; exact h.1⟩
  · obtain ⟨-, y, -⟩ := h.2 (L.length - 2) (by omega)
    rw [show L.length - 2 + 1 = L.length - 1 by omega, show d - (L.length - 2) = d - (L.length - 1) + 1 by omega] at y
    exact .inr y.1
theorem c_ahOf {p q : Nat} {h : XH} {N : Nat → Int} {nd : Nat → ND} {f : Nat → Int} (hp : p < 12) (hq : q < 12) (A : hI h 464 q = (ahM N nd f q : Nat)) {K : Int → Prop} (k : ∀ x, bq x (ahB N nd f p q = true) → K x) : w_X14_isAheadOf (p : Int) (q : Int) K h := by
  unfold w_X14_isAheadOf
  have bi := bitI (a := ahM N nd f q) (n := p) (by omega) (by have := ahM_lt N nd f q; omega)
  rw [← A] at bi
  rw [show ((q : Nat) : Int).toNat = q from rfl, bi]
  have e : (ahM N nd f q).testBit p = true ↔ ahB N nd f p q = true := ahM_at.trans ⟨fun z => z.2, fun z => ⟨hp, z⟩⟩
  refine ⟨⟨by omega, by omega⟩, fun x => bq x (ahB N nd f p q = true), fun x _ z => ⟨vOr z, k x z⟩, fun c => ?_, fun c => ?_⟩
  · refine bqF (fun y => c ?_)
    rw [if_pos (e.mpr y)]
  · refine bqT (e.mp ?_)
    cases y : (ahM N nd f q).testBit p with
    | true => rfl
    | false => rw [y] at c; exact absurd (fun z => by cases z) c
set_option maxHeartbeats 4000000 in
theorem c_X14_findRing {f : Nat → Int} {nd : Nat → ND} {N : Nat → Int} {h : XH} (T : HT h) (A : AHr h N nd f) (ex : ∃ s d, s < 12 ∧ rgU N nd f s d) {K : XH → Prop} (k : ∀ g s d L, s < 12 → Ring N nd f s d → (∀ r e, r < s → ¬ rgU N nd f r e) → RowOK N nd f s d L → Fr (fun b => b = 437 ∨ b = 465) h g → h.length ≤ g.length → Gr 1 n12 h g → (∀ j, ¬ j = 61 → el g 437 j = el h 437 j) → hI g 437 61 = -((d : Int) + 1) → (∀ i, i < L.length → hI g 465 i = ((L.getD i 0 : Nat) : Int)) → K g) : w_X14_findRing K h := by
  unfold w_X14_findRing
  have L0 := HT_len T
  have n437 : ∀ gg, HT gg → hn gg 437 = 64 := fun gg t => (lstn t).2.2.2.2.1
  have n465 : ∀ gg, HT gg → hn gg 465 = 12 := fun gg t => lyn (c := 100) (n := 12) t rfl
  intro a1 h2 ea1 eh2 t2 u2 ca1 la1
  have f2 : Fr (fun _ => False) h h2 := by rw [eh2]; exact Fr_app
  have l2 : h2.length = h.length + 1 := by rw [eh2]; unfold nA; exact len_app _ _
  have g2 : Gr 1 n12 h h2 := by rw [eh2]; exact Gr_n12 _
  have A2 : ∀ gg, Fr (fun b => b = a1) h2 gg → AHr gg N nd f := fun gg fg q hq => ((sameC_I (fg 464 (by omega) (by omega)) q).trans (sameC_I (f2 464 (by omega) id) q)).trans (A q hq)
  refine ⟨fun x g => 0 ≤ x ∧ x ≤ 12 ∧ Fr (fun b => b = a1) h2 g ∧ g.length = h2.length ∧ xhs g = xhs h2 ∧ hk g a1 = 100 ∧ hn g a1 = 12 ∧ ∀ r : Nat, (r : Int) < x → ∀ e, ¬ rgU N nd f r e, fun x _ => (12 - x).toNat, ?_, ?_⟩
  · exact ⟨by omega, by omega, Fr_rf _ _, rfl, rfl, ca1, la1, fun r hr => by omega⟩
  · intro x3 h7 t7 s7 rx3 z8
    obtain ⟨z0, z1, zf, zl, zx, zk, zn, zr⟩ := z8
    refine ⟨fun c92 => ?_, fun c92 => ?_⟩
    · obtain ⟨s, d, hs, r⟩ := ex
      exact absurd r (zr s (by omega) d)
    · obtain ⟨s, rfl⟩ : ∃ s : Nat, x3 = s := ⟨x3.toNat, by omega⟩
      have s12 : s < 12 := by omega
      refine ⟨fun x g => 0 ≤ x ∧ x ≤ 12 ∧ Fr (fun b => b = a1) h2 g ∧ g.length = h2.length ∧ xhs g = xhs h2 ∧ hk g a1 = 100 ∧ hn g a1 = 12 ∧ ∀ p : Nat, (p : Int) < x → hI g a1 p = if p = s then 0 else 24, fun x _ => (12 - x).toNat, ?_, ?_⟩
      · exact ⟨by omega, by omega, zf, zl, zx, zk, zn, fun p hp => by omega⟩
      · intro x9 h10 t10 s10 rx9 z11
        obtain ⟨y0, y1, yf, yl, yx, yk, yn, yv⟩ := z11
        refine ⟨fun c91 => ?_, fun c91 => ?_⟩
        · refine ⟨fun x g => 0 ≤ x ∧ x ≤ 12 ∧ Fr (fun b => b = a1) h2 g ∧ g.length = h2.length ∧ xhs g = xhs h2 ∧ hk g a1 = 100 ∧ hn g a1 = 12 ∧ Wy N nd f s x.toNat (fun p => hI g a1 p), fun x _ => (12 - x).toNat, ?_, ?_⟩
          · exact ⟨by omega, by omega, yf, yl, yx, yk, yn, Wy_0 (fun p hp => yv p (by omega))⟩
          · intro x12 h15 t15 s15 rx12 z16
            obtain ⟨u0, u1, uf, ul, ux, uk, un, uw⟩ := z16
            refine ⟨fun c83 => ?_, fun c83 => ?_⟩
            · intro x17 ex17 rx17
              rw [wr_of (by omega) (by omega)] at ex17
              rw [show x12.toNat = 12 by omega] at uw
              refine ⟨fun ln x => (s : Int) + 1 ≤ x ∧ x ≤ 12 ∧ 0 ≤ ln ∧ ln ≤ 24 ∧ (ln = 24 ∨ ∃ p, p < 12 ∧ ahB N nd f s p = true ∧ hI h15 a1 p + 1 = ln ∧ 0 ≤ hI h15 a1 p) ∧ ∀ p : Nat, s < p → (p : Int) < x → ahB N nd f s p = true → ln ≤ hI h15 a1 p + 1, fun _ x => (12 - x).toNat, ?_, ?_⟩
              · exact ⟨by omega, by omega, by omega, by omega, .inl rfl, fun p sp hp => by omega⟩
              · intro x18 x19 rx18 rx19 z20
                obtain ⟨v0, v1, v2, v3, v4, v5⟩ := z20
                refine ⟨fun c56 => ?_, fun c56 => ?_⟩
                · have fin : ∀ e, rgU N nd f s e → x18 ≤ (e : Int) + 1 := fun e r => by
                    obtain ⟨e0, he, R⟩ := rg_least e r
                    have := Ring_short R
                    obtain ⟨q, hq, uu, y⟩ := R.1
                    have sq : s < q := by
                      cases e0 with
                      | zero => have : q = s := uu; subst this; exact absurd rfl (ahB_e.mp y).2.2.1
                      | succ e0 => exact uu.1
                    have a := uw.2 q hq e0 (by omega) uu
                    have b := v5 q sq (by omega) y
                    dsimp only at a
                    omega
                  refine ⟨fun c47 => ?_, fun c47 => ?_⟩
                  · obtain ⟨p, hp, ap, ep, p0⟩ := v4.resolve_left (fun y => by omega)
                    obtain ⟨d, ed⟩ : ∃ d : Nat, x18 = (d : Int) + 1 := ⟨(x18 - 1).toNat, by omega⟩
                    have R : Ring N nd f s d := by
                      refine ⟨⟨p, hp, ?_, ap⟩, fun e he r => by have := fin e r; omega⟩
                      rcases uw.1 p hp with y | ⟨y1, y2, y3⟩
                      · dsimp only at y; omega
                      · dsimp only at y3
                        rw [show (hI h15 a1 p).toNat = d by omega] at y3
                        exact y3
                    have d11 := Ring_short R
                    have d1 := Ring_pos R.1
                    have A15 := A2 h15 uf
                    refine ⟨fun at_ kk g => 0 ≤ kk ∧ kk ≤ (d : Int) + 1 ∧ Fr (fun b => b = 465) h15 g ∧ g.length = h15.length ∧ xhs g = xhs h15 ∧ ∃ (r : Nat) (pre : List Nat), at_ = (r : Int) ∧ r < 12 ∧ kk = (pre.length : Nat) ∧ (∀ j, j < pre.length → hI g 465 j = ((pre.getD j 0 : Nat) : Int)) ∧ (pre.length ≤ d → RowP N nd f s d (pre ++ [r])) ∧ (pre.length = d + 1 → RowP N nd f s d pre), fun _ kk _ => ((d : Int) + 1 - kk).toNat, ?_, ?_⟩
                    · exact ⟨by omega, by omega, Fr_rf _ _, rfl, rfl, s, [], rfl, s12, rfl, fun j hj => by simp at hj, fun _ => RowP_1 N nd f s d, fun y => by simp at y⟩
                    · intro x21 x22 h24 t24 s24 rx21 rx22 z25
                      obtain ⟨w0, w1, wf, wl_, wx, r, pre, er, hr12, ek, wr_, wp, wq⟩ := z25
                      refine ⟨fun c45 => ?_, fun c45 => ?_⟩
                      · intro h26 eh26 t26 u26
                        have l_ : pre.length = d + 1 := by omega
                        have f15 : Fr (fun b => b = 465) h h24 := fun b hb n => sameC_tr (sameC_tr (f2 b hb id) (uf b (by omega) (by omega))) (wf b (by omega) n)
                        have s26 : ∀ b, ¬ b = 437 → sameC h24 h26 b := fun b n => by rw [eh26]; exact sameC_sV (fun z => n z.symm)
                        refine k h26 s d pre s12 R (fun r e hr => zr r (by omega) e) (RowP_ok (wq l_) l_) (fun b hb n => sameC_tr (f15 b hb (fun y => n (.inr y))) (s26 b (fun y => n (.inl y)))) (by rw [eh26, len_sV]; omega) ⟨by rw [eh26, len_sV]; omega, by rw [eh26, xhs_sV]; have := g2.2; omega⟩ (fun j n => ?_) ?_ (fun i hi => ?_)
                        · rw [eh26, el_ni (fun z => n z.symm)]; exact sameC_el (f15 437 (by omega) (by decide)) j
                        · rw [eh26, ed, wr_of (by omega) (by omega)]
                          exact hI_eq (by rw [n437 h24 t24]; decide) (by unfold rg; omega)
                        · rw [sameC_I (s26 465 (by decide))]; exact wr_ i hi
                      · refine ⟨(by omega), ?_⟩
                        intro h28 eh28 t28 u28
                        rw [er, ek, Int.toNat_natCast] at eh28
                        have lp_ : pre.length ≤ d := by omega
                        have rp_ := wp lp_
                        have s28 : ∀ b, ¬ b = 465 → sameC h24 h28 b := fun b n => by rw [eh28]; exact sameC_sV (fun z => n z.symm)
                        have sa : sameC h15 h28 a1 := sameC_tr (wf a1 (by omega) (by omega)) (s28 a1 (by omega))
                        have A28 : AHr h28 N nd f := fun q hq => (sameC_I (sameC_tr (wf 464 (by omega) (by decide)) (s28 464 (by decide))) q).trans (A15 q hq)
                        intro x29 ex29 rx29
                        rw [wr_of (by omega) (by omega)] at ex29
                        refine ⟨fun x => (s : Int) + 1 ≤ x ∧ x ≤ 12 ∧ ∀ p : Nat, s < p → (p : Int) < x → ¬ (ahB N nd f r p = true ∧ hI h15 a1 p = (d : Int) - pre.length), fun x => (12 - x).toNat, ?_, ?_⟩
                        · exact ⟨by omega, by omega, fun p sp hp => by omega⟩
                        · intro x30 rx30 z31
                          obtain ⟨q0, q1, q2⟩ := z31
                          refine ⟨x30 = 12 ∨ x30 < 12 ∧ ahB N nd f r x30.toNat = true ∧ hI h15 a1 x30.toNat = (d : Int) - pre.length, ?_, ?_⟩
                          · intro z32
                            refine ⟨fun y => ∃ r1 : Nat, y = (r1 : Int) ∧ r1 < 12 ∧ (pre.length + 1 ≤ d → RowP N nd f s d (pre ++ [r] ++ [r1])), ?_, ?_⟩
                            · intro x33 rx33 z34
                              intro x35 ex35 rx35
                              obtain ⟨r1, ey, hr1, hp1⟩ := z34
                              rw [wr_of (by omega) (by omega)] at ex35
                              have ll : (pre ++ [r]).length = pre.length + 1 := by rw [List.length_append, List.length_singleton]
                              refine ⟨⟨by omega, by omega, fun b hb n => sameC_tr (wf b hb n) (s28 b n), by rw [eh28, len_sV]; exact wl_, by rw [eh28, xhs_sV]; exact wx, r1, pre ++ [r], ey, hr1, by rw [ll]; omega, fun j hj => ?_, fun y => hp1 (by omega), fun _ => rp_⟩, by dsimp only; omega⟩
                              rw [ll] at hj
                              by_cases c : j = pre.length
                              · rw [c, gD_r, eh28]; exact hI_eq (by rw [n465 h24 t24]; omega) (by unfold rg; omega)
                              · rw [gD_l (by omega), eh28, hI_ni (by omega)]; exact wr_ j (by omega)
                            · refine ⟨fun c36 => ?_, fun c36 => ?_⟩
                              · obtain ⟨y1, y2, y3⟩ := z32.resolve_left (fun y => c36 y)
                                obtain ⟨p, rfl⟩ : ∃ p : Nat, x30 = p := ⟨x30.toNat, by omega⟩
                                rw [Int.toNat_natCast] at y2 y3
                                refine ⟨p, rfl, by omega, fun lt => ?_⟩
                                have ll : (pre ++ [r]).length = pre.length + 1 := by rw [List.length_append, List.length_singleton]
                                have ed' : d - ((pre ++ [r]).length - 1) = d - pre.length := by omega
                                have gr : (pre ++ [r]).getD ((pre ++ [r]).length - 1) 0 = r := by rw [show (pre ++ [r]).length - 1 = pre.length by omega]; exact gD_r
                                refine RowP_add rp_ (by omega) (by omega) ?_ (by rw [gr]; exact y2) (fun t ht z => ?_)
                                · rw [ed']
                                  exact (Wy_md uw (p := p) (e := d - pre.length) (by omega) (by omega)).mp (by dsimp only; omega)
                                · rw [ed', gr] at z
                                  have et := (Wy_md uw (p := t) (e := d - pre.length) (by omega) (by omega)).mpr z.1
                                  dsimp only at et
                                  have st : s < t := by
                                    obtain ⟨e', he'⟩ : ∃ e', d - pre.length = e' + 1 := ⟨d - pre.length - 1, by omega⟩
                                    have := z.1.1
                                    rw [he'] at this
                                    exact this.1
                                  exact q2 t st (by omega) ⟨z.2, by omega⟩
                              · refine ⟨s, rfl, s12, fun lt => ?_⟩
                                have ll : (pre ++ [r]).length = pre.length + 1 := by rw [List.length_append, List.length_singleton]
                                obtain ⟨t, ht, m1, y⟩ := RowP_nx R rp_ ⟨by omega, by omega⟩
                                rw [show (pre ++ [r]).length - 1 = pre.length by omega] at m1 y
                                rw [gD_r] at y
                                have et := (Wy_md uw (p := t) (e := d - pre.length) (by omega) (by omega)).mpr m1
                                dsimp only at et
                                have st : s < t := by
                                  obtain ⟨e', he'⟩ : ∃ e', d - pre.length = e' + 1 := ⟨d - pre.length - 1, by omega⟩
                                  have := m1.1
                                  rw [he'] at this
                                  exact this.1
                                exact absurd ⟨y, by omega⟩ (q2 t st (by omega))
                          · refine ⟨fun c44 => ?_, fun c44 => ?_⟩
                            · exact .inl (by omega)
                            · obtain ⟨p, rfl⟩ : ∃ p : Nat, x30 = p := ⟨x30.toNat, by omega⟩
                              rw [er]
                              refine c_ahOf hr12 (by omega) (A28 p (by omega)) ?_
                              intro x37 qx37
                              intro rx37 vx37
                              refine ⟨¬ (ahB N nd f r p = true ∧ hI h15 a1 p = (d : Int) - pre.length), ?_, ?_⟩
                              · intro z38
                                intro x39 ex39 rx39
                                rw [wr_of (by omega) (by omega)] at ex39
                                refine ⟨⟨by omega, by omega, fun t st ht => ?_⟩, by dsimp only; omega⟩
                                by_cases c : t = p
                                · rw [c]; exact z38
                                · exact q2 t st (by omega)
                              · refine ⟨fun c43 => ?_, fun c43 => ?_⟩
                                · exact fun z => (bq1 qx37).2.1.mp c43 z.1
                                · refine ⟨(by rw [sameC_k sa]; exact uk), ?_⟩
                                  refine ⟨(by rw [sameC_n sa, un]; omega), ?_⟩
                                  refine ⟨fun c42 => ?_, fun c42 => ?_⟩
                                  · rw [ed, ek, wr_of (x := (d : Int) + 1 - (pre.length : Nat)) (by omega) (by omega), wr_of (by omega) (by omega), sameC_I sa] at c42
                                    exact .inr ⟨by omega, (bq1 qx37).2.2.1.mp c43, by rw [c42]; omega⟩
                                  · rw [ed, ek, wr_of (x := (d : Int) + 1 - (pre.length : Nat)) (by omega) (by omega), wr_of (by omega) (by omega), sameC_I sa] at c42
                                    exact fun z => c42 (by have := z.2; rw [Int.toNat_natCast]; omega)
                  · intro x46 ex46 rx46
                    rw [wr_of (by omega) (by omega)] at ex46
                    refine ⟨⟨by omega, by omega, uf, ul, ux, uk, un, fun r hr e y => ?_⟩, by dsimp only; omega⟩
                    by_cases c : r = s
                    · subst c
                      obtain ⟨e0, -, R⟩ := rg_least e y
                      have := Ring_short R
                      have := fin e0 R.1
                      omega
                    · exact zr r (by omega) e y
                · obtain ⟨p, rfl⟩ : ∃ p : Nat, x19 = p := ⟨x19.toNat, by omega⟩
                  have wpb : 0 ≤ hI h15 a1 p ∧ hI h15 a1 p ≤ 24 := by
                    rcases uw.1 p (by omega) with y | y <;> dsimp only at y <;> omega
                  refine c_ahOf s12 (by omega) (A2 h15 uf p (by omega)) ?_
                  intro x48 qx48
                  intro rx48 vx48
                  refine ⟨fun y => 0 ≤ y ∧ y ≤ 24 ∧ (y = 24 ∨ ∃ t, t < 12 ∧ ahB N nd f s t = true ∧ hI h15 a1 t + 1 = y ∧ 0 ≤ hI h15 a1 t) ∧ ∀ t : Nat, s < t → (t : Int) < (p : Int) + 1 → ahB N nd f s t = true → y ≤ hI h15 a1 t + 1, ?_, ?_⟩
                  · intro x49 rx49 z50
                    intro x51 ex51 rx51
                    rw [wr_of (by omega) (by omega)] at ex51
                    exact ⟨⟨by omega, by omega, z50.1, z50.2.1, z50.2.2.1, fun t st ht => z50.2.2.2 t st (by omega)⟩, by dsimp only; omega⟩
                  · refine ⟨fun c55 => ?_, fun c55 => ?_⟩
                    · refine ⟨v2, v3, v4, fun t st ht y => ?_⟩
                      by_cases c : t = p
                      · rw [c] at y; exact absurd y ((bq1 qx48).2.1.mp c55)
                      · exact v5 t st (by omega) y
                    · refine ⟨uk, ?_⟩
                      refine ⟨(by rw [un]; omega), ?_⟩
                      rw [wr_of (x := hI h15 a1 (p : Int).toNat + 1) (by rw [Int.toNat_natCast]; omega) (by rw [Int.toNat_natCast]; omega), Int.toNat_natCast]
                      refine c_J9_min_7cf53 ?_
                      intro x54 qx54
                      intro rx54
                      have ys := (bq1 qx48).2.2.1.mp c55
                      refine ⟨by omega, by omega, ?_, fun t st ht y => ?_⟩
                      · rcases qx54 with ⟨e, -⟩ | ⟨e, -⟩
                        · rw [e]; exact v4
                        · exact .inr ⟨p, by omega, ys, by omega, wpb.1⟩
                      · by_cases c : t = p
                        · rw [c]; omega
                        · have := v5 t st (by omega) y
                          omega
            · obtain ⟨rd, rfl⟩ : ∃ rd : Nat, x12 = rd := ⟨x12.toNat, by omega⟩
              rw [Int.toNat_natCast] at uw
              intro x57 ex57 rx57
              rw [wr_of (by omega) (by omega)] at ex57
              refine ⟨fun x g => (s : Int) + 1 ≤ x ∧ x ≤ 12 ∧ Fr (fun b => b = a1) h2 g ∧ g.length = h2.length ∧ xhs g = xhs h2 ∧ hk g a1 = 100 ∧ hn g a1 = 12 ∧ Wy N nd f s rd (fun p => hI g a1 p) ∧ ∀ p : Nat, s < p → (p : Int) < x → U N nd f s (rd + 1) p → hI g a1 p ≤ (rd : Int) + 1, fun x _ => (12 - x).toNat, ?_, ?_⟩
              · exact ⟨by omega, by omega, uf, ul, ux, uk, un, uw, fun p sp hp => by omega⟩
              · intro x58 h60 t60 s60 rx58 z61
                obtain ⟨i0, i1, if_, il, ix, ik, in_, iw, ip⟩ := z61
                refine ⟨fun c82 => ?_, fun c82 => ?_⟩
                · intro x62 ex62 rx62
                  rw [wr_of (by omega) (by omega)] at ex62
                  refine ⟨⟨by omega, by omega, if_, il, ix, ik, in_, iw.1, fun p hp d hd u => ?_⟩, by dsimp only; omega⟩
                  by_cases c : d = rd + 1
                  · subst c
                    dsimp only
                    have := ip p u.1 (by omega) u
                    omega
                  · exact iw.2 p hp d (by omega) u
                · obtain ⟨p, rfl⟩ : ∃ p : Nat, x58 = p := ⟨x58.toNat, by omega⟩
                  refine ⟨fun x g => (s : Int) ≤ x ∧ x ≤ 12 ∧ Fr (fun b => b = a1) h2 g ∧ g.length = h2.length ∧ xhs g = xhs h2 ∧ hk g a1 = 100 ∧ hn g a1 = 12 ∧ Wy N nd f s rd (fun p => hI g a1 p) ∧ (∀ t : Nat, s < t → (t : Int) < (p : Int) → U N nd f s (rd + 1) t → hI g a1 t ≤ (rd : Int) + 1) ∧ ∀ q : Nat, (q : Int) < x → U N nd f s rd q → ahB N nd f p q = true → hI g a1 p ≤ (rd : Int) + 1, fun x _ => (12 - x).toNat, ?_, ?_⟩
                  · refine ⟨by omega, by omega, if_, il, ix, ik, in_, iw, ip, fun q hq u y => ?_⟩
                    exfalso
                    cases rd with
                    | zero => have : q = s := u; omega
                    | succ rd => have := u.1; omega
                  · intro x63 h64 t64 s64 rx63 z65
                    obtain ⟨j0, j1, jf, jl, jx, jk, jn, jw, jp, jq⟩ := z65
                    refine ⟨fun c81 => ?_, fun c81 => ?_⟩
                    · intro x66 ex66 rx66
                      rw [wr_of (by omega) (by omega)] at ex66
                      refine ⟨⟨by omega, by omega, jf, jl, jx, jk, jn, jw, fun t st ht u => ?_⟩, by dsimp only; omega⟩
                      by_cases c : t = p
                      · subst c
                        obtain ⟨-, q, hq, uq, y⟩ := u
                        exact jq q (by omega) uq y
                      · exact jp t st (by omega) u
                    · obtain ⟨q, rfl⟩ : ∃ q : Nat, x63 = q := ⟨x63.toNat, by omega⟩
                      have wpb := jw.1 p (by omega)
                      have wqb := jw.1 q (by omega)
                      dsimp only at wpb wqb
                      refine c_ahOf (show p < 12 by omega) (show q < 12 by omega) (A2 h64 jf q (by omega)) ?_
                      intro x67 qx67
                      intro rx67 vx67
                      refine ⟨fun y => (y = hI h64 a1 p ∨ (ahB N nd f p q = true ∧ y = hI h64 a1 q + 1)) ∧ y ≤ hI h64 a1 p ∧ (ahB N nd f p q = true → y ≤ hI h64 a1 q + 1), ?_, ?_⟩
                      · intro x68 rx68 z69
                        refine ⟨jk, ?_⟩
                        refine ⟨(by omega), ?_⟩
                        intro h72 eh72 t72 u72
                        intro x73 ex73 rx73
                        obtain ⟨ya, yb, yc⟩ := z69
                        rw [Int.toNat_natCast] at eh72
                        rw [wr_of (by omega) (by omega)] at ex73
                        have rx : rg x68 := rx68
                        have e72 : ∀ t, hI h72 a1 t = if t = p then x68 else hI h64 a1 t := fun t => by
                          by_cases c : t = p
                          · rw [if_pos c, c, eh72]; exact hI_eq (by omega) rx
                          · rw [if_neg c, eh72]; exact hI_ni (fun z => c z.symm)
                        have le : ∀ t, hI h72 a1 t ≤ hI h64 a1 t := fun t => by rw [e72]; split; rename_i c; rw [c]; exact yb; omega
                        refine ⟨⟨by omega, by omega, fun b hb n => sameC_tr (jf b hb n) (by rw [eh72]; exact sameC_sV (fun z => n z.symm)), by rw [eh72, len_sV]; exact jl, by rw [eh72, xhs_sV]; exact jx, by rw [eh72, hk_sV]; exact jk, by rw [eh72, hn_sV]; exact jn, ⟨fun t ht => ?_, fun t ht d hd u => ?_⟩, fun t st ht u => ?_, fun t ht u y => ?_⟩, by dsimp only; omega⟩
                        · dsimp only
                          rw [e72]
                          by_cases c : t = p
                          · rw [if_pos c, c]
                            rcases ya with y | ⟨y1, y2⟩
                            · rw [y]; exact wpb
                            · by_cases z : x68 = 24
                              · exact .inl z
                              · rcases wqb with w | ⟨w1, w2, w3⟩
                                · omega
                                · refine .inr ⟨by omega, by omega, ?_⟩
                                  rw [show x68.toNat = (hI h64 a1 q).toNat + 1 by omega]
                                  exact ⟨by omega, q, by omega, w3, y1⟩
                          · rw [if_neg c]; exact jw.1 t ht
                        · have := jw.2 t ht d hd u
                          have := le t
                          dsimp only at *
                          omega
                        · have := jp t st ht u
                          have := le t
                          omega
                        · by_cases c : t = q
                          · rw [c] at u y
                            have a := jw.2 q (by omega) rd (Nat.le_refl _) u
                            have b := yc y
                            rw [e72, if_pos rfl]
                            dsimp only at a
                            omega
                          · have := jq t (by omega) u y
                            have := le p
                            omega
                      · refine ⟨fun c80 => ?_, fun c80 => ?_⟩
                        · refine ⟨jk, ?_⟩
                          refine ⟨(by omega), ?_⟩
                          rw [Int.toNat_natCast]
                          exact ⟨.inl rfl, by omega, fun y => absurd y ((bq1 qx67).2.1.mp c80)⟩
                        · refine ⟨jk, ?_⟩
                          refine ⟨(by omega), ?_⟩
                          refine ⟨(by omega), ?_⟩
                          rw [Int.toNat_natCast, Int.toNat_natCast, wr_of (x := hI h64 a1 q + 1) (by omega) (by omega)]
                          refine c_J9_min_7cf53 ?_
                          intro x79 qx79
                          intro rx79
                          have y := (bq1 qx67).2.2.1.mp c80
                          refine ⟨?_, by omega, fun _ => by omega⟩
                          rcases qx79 with ⟨e, -⟩ | ⟨e, -⟩
                          · exact .inl e
                          · exact .inr ⟨y, e⟩
        · refine ⟨fun y => y = if x9 = (s : Int) then 0 else 24, ?_, ?_⟩
          · intro x84 rx84 z85
            refine ⟨yk, ?_⟩
            refine ⟨(by omega), ?_⟩
            intro h88 eh88 t88 u88
            intro x89 ex89 rx89
            rw [wr_of (by omega) (by omega)] at ex89
            refine ⟨⟨by omega, by omega, fun b hb n => sameC_tr (yf b hb n) (by rw [eh88]; exact sameC_sV (fun z => n z.symm)), by rw [eh88, len_sV]; exact yl, by rw [eh88, xhs_sV]; exact yx, by rw [eh88, hk_sV]; exact yk, by rw [eh88, hn_sV]; exact yn, fun p hp => ?_⟩, by dsimp only; omega⟩
            by_cases c : p = x9.toNat
            · rw [c, eh88, hI_eq (by omega) rx84, z85]
              by_cases d : x9 = (s : Int)
              · rw [if_pos d, if_pos (by omega)]
              · rw [if_neg d, if_neg (by omega)]
            · rw [eh88, hI_ni (fun z => c z.symm)]; exact yv p (by omega)
          · refine ⟨fun c90 => ?_, fun c90 => ?_⟩
            · rw [if_neg c90]
            · rw [if_pos (Decidable.not_not.mp c90)]
