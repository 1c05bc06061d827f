/-! WHAT IS REACHED -/
def wfst (N : Nat → Int) (nd : Nat → ND) (r : Nat) (f : Nat → Int) (p : Nat) : Int := fnd (nR N r 0).toNat (fun w => !decide (nR N r (1 + w) = -1) && nmet N (nd (nR N r (1 + w)).toNat) (slF N f p).toNat)
def wantB (N : Nat → Int) (nd : Nat → ND) (f : Nat → Int) (q p : Nat) : Bool :=
  (decide (1000000 ≤ f q) && decide (0 < nV N (slF N f q).toNat 6) && nmet N (nd (nV N (slF N f q).toNat 6 - 1).toNat) (slF N f p).toNat) || (List.range (nV N (slF N f q).toNat 7).toNat).any (fun k => nmet N (nd (nV N (slF N f q).toNat (8 + k)).toNat) (slF N f p).toNat)
abbrev RD : Type := (Nat → Int) × (Nat → Int)
def rch0 (N : Nat → Int) (nd : Nat → ND) (r : Nat) (f : Nat → Int) : RD := (fun p => if f p = -1 ∨ wfst N nd r f p = -1 then -1 else 100 + wfst N nd r f p, fun p => if f p = -1 ∨ wfst N nd r f p = -1 then -1 else 1)
def vis (N : Nat → Int) (nd : Nat → ND) (f : Nat → Int) (far : Int) (q : Nat) (S : RD) : RD :=
  (fun p => if S.2 q = far ∧ ¬ f p = -1 ∧ S.2 p = -1 ∧ wantB N nd f q p = true then q else S.1 p, fun p => if S.2 q = far ∧ ¬ f p = -1 ∧ S.2 p = -1 ∧ wantB N nd f q p = true then far + 1 else S.2 p)
def lev (N : Nat → Int) (nd : Nat → ND) (f : Nat → Int) (far : Int) : Nat → RD → RD
  | 0, S => S
  | n + 1, S => vis N nd f far n (lev N nd f far n S)
def rch (N : Nat → Int) (nd : Nat → ND) (r : Nat) (f : Nat → Int) : Nat → RD
  | 0 => rch0 N nd r f
  | n + 1 => lev N nd f ((n : Int) + 1) 12 (rch N nd r f n)
/-- what holds of what is reached so far -/
def rInv (f : Nat → Int) (b : Int) (S : RD) : Prop := (∀ p, p < 12 → f p = -1 → S.2 p = -1) ∧ (∀ p, p < 12 → S.2 p = -1 ∨ 1 ≤ S.2 p ∧ S.2 p ≤ b) ∧ (∀ p, p < 12 → ∀ e : Int, 1 ≤ e → e ≤ S.2 p → ∃ q, q < 12 ∧ S.2 q = e)
theorem rInv_0 (N : Nat → Int) (nd : Nat → ND) (r : Nat) (f : Nat → Int) : rInv f 1 (rch0 N nd r f) := by
  have e : ∀ p, (rch0 N nd r f).2 p = if f p = -1 ∨ wfst N nd r f p = -1 then -1 else 1 := fun _ => rfl
  refine ⟨fun p _ x => by rw [e, if_pos (.inl x)], fun p _ => ?_, fun p hp k h1 h2 => ⟨p, hp, ?_⟩⟩
  · rw [e]
    split
    · exact .inl rfl
    · exact .inr ⟨by omega, by omega⟩
  · rw [e] at h2 ⊢
    split at h2
    · omega
    · rename_i c
      rw [if_neg c]; omega
theorem vis_2 {N : Nat → Int} {nd : Nat → ND} {f : Nat → Int} {far : Int} {q : Nat} {S : RD} (p : Nat) : (vis N nd f far q S).2 p = if S.2 q = far ∧ ¬ f p = -1 ∧ S.2 p = -1 ∧ wantB N nd f q p = true then far + 1 else S.2 p := rfl
theorem vis_1 {N : Nat → Int} {nd : Nat → ND} {f : Nat → Int} {far : Int} {q : Nat} {S : RD} (p : Nat) : (vis N nd f far q S).1 p = if S.2 q = far ∧ ¬ f p = -1 ∧ S.2 p = -1 ∧ wantB N nd f q p = true then (q : Int) else S.1 p := rfl
theorem vis_no {N : Nat → Int} {nd : Nat → ND} {f : Nat → Int} {far : Int} {q : Nat} {S : RD} (n : ¬ S.2 q = far) : vis N nd f far q S = S := by
  have a : (vis N nd f far q S).1 = S.1 := funext fun p => by rw [vis_1, if_neg (fun z => n z.1)]
  have b : (vis N nd f far q S).2 = S.2 := funext fun p => by rw [vis_2, if_neg (fun z => n z.1)]
  exact Prod.ext a b
theorem rInv_v {N : Nat → Int} {nd : Nat → ND} {f : Nat → Int} {far : Int} {q : Nat} {S : RD} (hq : q < 12) (h1 : 1 ≤ far) (z : rInv f (far + 1) S) : rInv f (far + 1) (vis N nd f far q S) := by
  obtain ⟨a, b, c⟩ := z
  by_cases y : S.2 q = far
  · have keep : ∀ p, ¬ S.2 p = -1 → (vis N nd f far q S).2 p = S.2 p := fun p n => by rw [vis_2, if_neg (fun z => n z.2.2.1)]
    have old : ∀ e : Int, 1 ≤ e → (∃ r, r < 12 ∧ S.2 r = e) → ∃ r, r < 12 ∧ (vis N nd f far q S).2 r = e := fun e he ⟨r, hr, er⟩ => ⟨r, hr, by rw [keep r (by omega)]; exact er⟩
    refine ⟨fun p hp x => by rw [vis_2, if_neg (fun z => z.2.1 x)]; exact a p hp x, fun p hp => ?_, fun p hp e h0 h2 => ?_⟩
    · rw [vis_2]
      split
      · exact .inr ⟨by omega, by omega⟩
      · exact b p hp
    · by_cases k : S.2 q = far ∧ ¬ f p = -1 ∧ S.2 p = -1 ∧ wantB N nd f q p = true
      · have e2 : (vis N nd f far q S).2 p = far + 1 := by rw [vis_2, if_pos k]
        rw [e2] at h2
        by_cases j : e = far + 1
        · exact ⟨p, hp, by rw [e2, j]⟩
        · exact old e h0 (c q hq e h0 (by omega))
      · rw [vis_2, if_neg k] at h2
        exact old e h0 (c p hp e h0 h2)
  · rw [vis_no y]; exact ⟨a, b, c⟩
theorem rInv_l {N : Nat → Int} {nd : Nat → ND} {f : Nat → Int} {far : Int} {S : RD} (h1 : 1 ≤ far) (z : rInv f far S) : ∀ n, n ≤ 12 → rInv f (far + 1) (lev N nd f far n S) := by
  intro n
  induction n with
  | zero =>
    intro _
    show rInv f (far + 1) S
    exact ⟨z.1, fun p hp => (z.2.1 p hp).imp_right (fun y => ⟨y.1, by omega⟩), z.2.2⟩
  | succ n ih => intro hn; exact rInv_v (by omega) h1 (ih (by omega))
theorem rInv_r {N : Nat → Int} {nd : Nat → ND} {r : Nat} {f : Nat → Int} : ∀ n : Nat, rInv f ((n : Int) + 1) (rch N nd r f n) := by
  intro n
  induction n with
  | zero => exact rInv_0 N nd r f
  | succ n ih =>
    have := rInv_l (N := N) (nd := nd) (by omega) ih 12 (Nat.le_refl _)
    rw [show (((n + 1 : Nat) : Int) + 1) = (n : Int) + 1 + 1 by omega]
    exact this
def eqv (S T : RD) : Prop := ∀ p, p < 12 → S.1 p = T.1 p ∧ S.2 p = T.2 p
/-- level 12: all are reached -/
theorem full12 {f : Nat → Int} {b : Int} {S : RD} (z : rInv f b S) {q : Nat} (hq : q < 12) (e : S.2 q = 12) : ∀ p, p < 12 → ¬ S.2 p = -1 := by
  intro r hr n
  have cn : ∀ k : Nat, k ≤ 12 → k ≤ cntN 12 (fun p => decide (1 ≤ S.2 p ∧ S.2 p ≤ k)) := by
    intro k
    induction k with
    | zero => intro _; exact Nat.zero_le _
    | succ k ih =>
      intro hk
      have a := ih (by omega)
      obtain ⟨s, hs, es⟩ := z.2.2 q hq ((k : Int) + 1) (by omega) (by omega)
      have := cntN_lt (g := fun p => decide (1 ≤ S.2 p ∧ S.2 p ≤ (k : Int))) (k := fun p => decide (1 ≤ S.2 p ∧ S.2 p ≤ ((k + 1 : Nat) : Int))) 12 (fun i _ y => by
        rw [decide_eq_true_eq] at y ⊢; omega) ⟨s, hs, by rw [decide_eq_true_eq]; omega, by rw [decide_eq_false_iff_not]; omega⟩
      omega
  have a := cn 12 (Nat.le_refl _)
  have := cntN_lt (g := fun p => decide (1 ≤ S.2 p ∧ S.2 p ≤ ((12 : Nat) : Int))) (k := fun _ => true) 12 (fun _ _ _ => rfl) ⟨r, hr, rfl, by rw [decide_eq_false_iff_not]; omega⟩
  have := cntN_le (fun _ => true) 12
  omega
theorem lev12 {N : Nat → Int} {nd : Nat → ND} {f : Nat → Int} {b : Int} {S : RD} (z : rInv f b S) : ∀ n, n ≤ 12 → eqv (lev N nd f 12 n S) S := by
  intro n
  induction n with
  | zero => intro _ p _; exact ⟨rfl, rfl⟩
  | succ n ih =>
    intro hn p hp
    have a := ih (by omega)
    obtain ⟨a1, a2⟩ := a p hp
    have nc : ¬ ((lev N nd f 12 n S).2 n = 12 ∧ ¬ f p = -1 ∧ (lev N nd f 12 n S).2 p = -1 ∧ wantB N nd f n p = true) := fun y => by
      rw [(a n (by omega)).2, a2] at y
      exact full12 z (by omega) y.1 p hp y.2.2.1
    show (vis N nd f 12 n _).1 p = _ ∧ (vis N nd f 12 n _).2 p = _
    rw [vis_1, vis_2, if_neg nc, if_neg nc]
    exact ⟨a1, a2⟩
theorem rch_s (N : Nat → Int) (nd : Nat → ND) (r : Nat) (f : Nat → Int) (n : Nat) : rch N nd r f (n + 1) = lev N nd f ((n : Int) + 1) 12 (rch N nd r f n) := rfl
theorem rch12 (N : Nat → Int) (nd : Nat → ND) (r : Nat) (f : Nat → Int) : eqv (rch N nd r f 12) (rch N nd r f 11) := by
  rw [show (12 : Nat) = 11 + 1 from rfl, rch_s, show (((11 : Nat) : Int) + 1) = 12 from rfl]
  exact lev12 (rInv_r 11) 12 (Nat.le_refl _)
/-- packages that aren't there change nothing -/
theorem lev_ge {N : Nat → Int} {nd : Nat → ND} {f : Nat → Int} {far : Int} {S : RD} {k : Nat} (h1 : 1 ≤ far) (z : rInv f far S) (out : ∀ p, k ≤ p → p < 12 → f p = -1) : ∀ n, k ≤ n → n ≤ 12 → lev N nd f far n S = lev N nd f far k S := by
  intro n
  induction n with
  | zero => intro a _; rw [show k = 0 by omega]
  | succ n ih =>
    intro a hn
    by_cases c : k = n + 1
    · rw [c]
    · have e := ih (by omega) (by omega)
      have i := rInv_l (N := N) (nd := nd) h1 z n (by omega)
      show vis N nd f far n _ = _
      rw [vis_no (by rw [i.1 n (by omega) (out n (by omega) (by omega))]; omega), e]
theorem nMask_at {N : Nat → Int} {m : Nat} (W : WV N m) {d : ND} {v : Nat} (hv : v < vc N) : (nMask N d).getLsbD v = nmet N d v := by
  have := vc64 W
  unfold nMask
  rw [orN_at _ _ _ (by omega), dt hv, Bool.true_and]
set_option maxHeartbeats 1000000 in
theorem c_J7_fill_53178 {p0 : Nat} {p1 : Int} {h : XH} (T : HT h) (hk0 : hk h p0 = 100) (b0 : hn h p0 < 100000) (r1 : rg p1) {K : XH → Prop} (k : ∀ g, Fr (fun b => b = p0) h g → g.length = h.length → xhs g = xhs h → (∀ i, i < hn h p0 → hI g p0 i = p1) → K g) : w_J7_fill_53178 p0 p1 K h := by
  unfold w_J7_fill_53178
  refine ⟨hk0, ?_⟩
  refine ⟨(by omega), ?_⟩
  intro x3 ex3 rx3
  refine ⟨fun x g => 0 ≤ x ∧ x ≤ (hn h p0 : Int) ∧ Fr (fun b => b = p0) h g ∧ g.length = h.length ∧ xhs g = xhs h ∧ hk g p0 = 100 ∧ hn g p0 = hn h p0 ∧ ∀ i : Nat, (i : Int) < x → hI g p0 i = p1, fun x _ => (hn h p0 - x).toNat, ?_, ?_⟩
  · exact ⟨by omega, by omega, Fr_rf _ _, rfl, rfl, hk0, rfl, fun i hi => by omega⟩
  · intro x4 h5 t5 s5 rx4 z6
    obtain ⟨z0, z1, zf, zl, zx, zk, zn, zv⟩ := z6
    refine ⟨fun c11 => ?_, fun c11 => ?_⟩
    · exact k _ zf zl zx (fun i hi => zv i (by omega))
    · refine ⟨zk, ?_⟩
      refine ⟨(by omega), ?_⟩
      intro h9 eh9 t9 u9
      intro x10 ex10 rx10
      rw [wr_of (by omega) (by omega)] at ex10
      refine ⟨⟨by omega, by omega, fun b hb n => sameC_tr (zf b hb n) (by rw [eh9]; exact sameC_sV (fun z => n z.symm)), by rw [eh9, len_sV]; exact zl, by rw [eh9, xhs_sV]; exact zx, by rw [eh9, hk_sV]; exact zk, by rw [eh9, hn_sV]; exact zn, fun i hi => ?_⟩, by dsimp only; omega⟩
      by_cases c : i = x4.toNat
      · rw [c, eh9]; exact hI_eq (by omega) r1
      · rw [eh9, hI_ni (fun z => c z.symm)]; exact zv i (by omega)
set_option maxHeartbeats 1000000 in
theorem c_X2_packsWith {s : BitVec 64} {h : XH} {N : Nat → Int} {nd : Nat → ND} {m : Nat} (T : HT h) (C : CS h 8 N nd) (W : WF N m) {K : Int → Prop} (k : ∀ M : Nat, M < 4096 → (∀ q, M.testBit q = true ↔ ∃ v, v < vc N ∧ nV N v 0 = q ∧ s.getLsbD v = true) → K (M : Int)) : w_X2_packsWith s K h := by
  unfold w_X2_packsWith
  have w4 := W.1.2.2.1
  have v40 := vc64 W.1
  have b12 := W.1.2.1
  have vcN : vc N = (N 4).toNat := rfl
  obtain ⟨P1, V1⟩ := V80 C.1
  refine ⟨fun a x => 0 ≤ x ∧ x ≤ N 4 ∧ ∃ M : Nat, a = (M : Int) ∧ M < 4096 ∧ ∀ q, M.testBit q = true ↔ ∃ v : Nat, (v : Int) < x ∧ nV N v 0 = q ∧ s.getLsbD v = true, fun _ x => (N 4 - x).toNat, ?_, ?_⟩
  · exact ⟨by omega, w4, 0, rfl, by decide, fun q => ⟨fun z => (by rw [Nat.zero_testBit] at z; cases z), fun ⟨v, y, _⟩ => by omega⟩⟩
  · intro x1 x2 rx1 rx2 z3
    obtain ⟨z0, z1, M, eM, lM, hM⟩ := z3
    refine ⟨fun c11 => ?_, fun c11 => ?_⟩
    · rw [eM]
      exact k M lM (fun q => (hM q).trans ⟨fun ⟨v, a, b⟩ => ⟨v, by omega, b⟩, fun ⟨v, a, b⟩ => ⟨v, by omega, b⟩⟩)
    · have V := V8 C.1 (show x2.toNat < vc N by omega)
      have wv := W.1.2.2.2.2.1 x2.toNat (by omega)
      have p2 : 2 ^ (nV N x2.toNat 0).toNat < 2 ^ 12 := Nat.pow_lt_pow_right (by decide) (by omega)
      refine c_X12_has (by omega) ?_
      intro x4 qx4
      intro rx4 vx4
      refine ⟨fun y => ∃ M1 : Nat, y = (M1 : Int) ∧ M1 < 4096 ∧ ∀ q, M1.testBit q = true ↔ nV N x2.toNat 0 = q ∧ s.getLsbD x2.toNat = true, ?_, ?_⟩
      · intro x5 rx5 z6
        intro x7 ex7 rx7
        intro x8 ex8 rx8
        obtain ⟨M1, eM1, lM1, hM1⟩ := z6
        rw [wr_of (by omega) (by omega)] at ex8
        refine ⟨⟨by omega, by omega, M ||| M1, by rw [ex7, eM, eM1, ior_nat (by omega) (by omega)], Nat.or_lt_two_pow (n := 12) lM lM1, fun q => ?_⟩, by dsimp only; omega⟩
        rw [Nat.testBit_or, Bool.or_eq_true, hM q, hM1 q]
        constructor
        · rintro (⟨v, a, b⟩ | b)
          · exact ⟨v, by omega, b⟩
          · exact ⟨x2.toNat, by omega, b⟩
        · rintro ⟨v, a, b⟩
          by_cases c : v = x2.toNat
          · rw [c] at b; exact .inr b
          · exact .inl ⟨v, by omega, b⟩
      · refine ⟨fun c10 => ?_, fun c10 => ?_⟩
        · refine ⟨0, rfl, by decide, fun q => ⟨fun z => (by rw [Nat.zero_testBit] at z; cases z), fun z => ?_⟩⟩
          exact absurd z.2 ((bq1 qx4).2.1.mp c10)
        · refine ⟨(by omega), ?_⟩
          refine ⟨2 ^ (nV N x2.toNat 0).toNat, by rw [V.1, ishl1 (by omega)], p2, fun q => ?_⟩
          rw [Nat.testBit_two_pow, decide_eq_true_eq]
          exact ⟨fun z => ⟨by omega, (bq1 qx4).2.2.1.mp c10⟩, fun z => by omega⟩
def DS (g : XH) (S : RD) : Prop := ∀ p, p < 12 → hI g 83 p = S.1 p ∧ hI g 84 p = S.2 p
def FR (h g : XH) : Prop := Fr (fun b => b = 83 ∨ b = 84) h g ∧ g.length = h.length ∧ xhs g = xhs h
theorem FR_rf (h : XH) : FR h h := ⟨Fr_rf _ _, rfl, rfl⟩
theorem FR_tr {h g k : XH} (a : FR h g) (b : FR g k) : FR h k := ⟨Fr_tr a.1 (by rw [a.2.1]; exact Nat.le_refl _) b.1, b.2.1.trans a.2.1, b.2.2.trans a.2.2⟩
theorem FR_CS {h g : XH} {N : Nat → Int} {nd : Nat → ND} {m : Nat} (T : HT h) (C : CS h 8 N nd) (W : WF N m) (q : FR h g) : CS g 8 N nd := by
  have L := HT_len T
  exact CS_fr (fun j hj => q.1 (8 + j) (by omega) (by omega)) (txt_fr T q.1 (fun b y => by omega)) (WF_b W) C
theorem FR_M {h g : XH} {N : Nat → Int} {nd : Nat → ND} (T : HT h) (M : MetOK h N nd) (q : FR h g) : MetOK g N nd := by
  have L := HT_len T
  exact MetOK_fr (fun b x y => q.1 b (by omega) (by omega)) M
theorem FR_2 {h g g1 : XH} {i : Nat} {x y : Int} (e1 : g = sI h 83 i x) {g2 : XH} (e2 : g2 = sI g 84 i y) : FR h g2 := by
  refine ⟨fun b _ n => ?_, ?_, ?_⟩
  · rw [e2, e1]; exact sameC_tr (sameC_sV (fun z => n (.inl z.symm))) (sameC_sV (fun z => n (.inr z.symm)))
  · rw [e2, e1, len_sV, len_sV]
  · rw [e2, e1, xhs_sV, xhs_sV]
theorem st84 {h g g2 : XH} {i : Nat} {x y : Int} (T : HT h) (Tg : HT g) (hi : i < 12) (rx : rg x) (ry : rg y) (e1 : g = sI h 83 i x) (e2 : g2 = sI g 84 i y) (p : Nat) : hI g2 83 p = (if p = i then x else hI h 83 p) ∧ hI g2 84 p = (if p = i then y else hI h 84 p) := by
  have n83 : hn h 83 = 12 := lyn (c := 100) (n := 12) T rfl
  have n84 : hn g 84 = 12 := lyn (c := 100) (n := 12) Tg rfl
  by_cases c : p = i
  · subst c
    rw [if_pos rfl, if_pos rfl, e2]
    refine ⟨?_, hI_eq (by omega) ry⟩
    rw [hI_ne (by decide), e1]
    exact hI_eq (by omega) rx
  · rw [if_neg c, if_neg c, e2, hI_ne (by decide), hI_ni (fun z => c z.symm), e1, hI_ni (fun z => c z.symm), hI_ne (by decide)]
    exact ⟨rfl, rfl⟩
theorem wantB_e {N : Nat → Int} {nd : Nat → ND} {f : Nat → Int} {q p : Nat} : wantB N nd f q p = true ↔ (1000000 ≤ f q ∧ 0 < nV N (slF N f q).toNat 6 ∧ nmet N (nd (nV N (slF N f q).toNat 6 - 1).toNat) (slF N f p).toNat = true) ∨ ∃ k : Nat, (k : Int) < nV N (slF N f q).toNat 7 ∧ nmet N (nd (nV N (slF N f q).toNat (8 + k)).toNat) (slF N f p).toNat = true := by
  unfold wantB
  rw [Bool.or_eq_true, Bool.and_eq_true, Bool.and_eq_true, decide_eq_true_eq, decide_eq_true_eq, List.any_eq_true, and_assoc]
  constructor
  · rintro (a | ⟨k, hk, y⟩)
    · exact .inl a
    · exact .inr ⟨k, by have := List.mem_range.mp hk; omega, y⟩
  · rintro (a | ⟨k, hk, y⟩)
    · exact .inl a
    · exact .inr ⟨k, List.mem_range.mpr (by omega), y⟩
set_option maxHeartbeats 1000000 in
theorem c_X2_firstWishFor {f : Nat → Int} {p : Nat} {h : XH} {N : Nat → Int} {nd : Nat → ND} {m : Nat} (T : HT h) (C : CS h 8 N nd) (W : WF N m) (dk : DK nd m) (M : MetOK h N nd) (S : fOK N f) (hp : p < 12) {K : Int → Prop} (k : K (if f p = -1 then -1 else wfst N nd (rh N) f p)) : w_X2_firstWishFor (slF N f p) K h := by
  unfold w_X2_firstWishFor
  have hr := rh_lt W
  have v40 := vc64 W.1
  have R := R8 (C.2.2.1 (rh N) hr)
  obtain ⟨r1, r2, r3, -⟩ := W.2.1 (rh N) hr
  have R0 := R.1
  refine c_atH C W ?_
  refine ⟨fun x => 0 ≤ x ∧ x ≤ nR N (rh N) 0 ∧ (¬ f p = -1 → ∀ w : Nat, (w : Int) < x → (!decide (nR N (rh N) (1 + w) = -1) && nmet N (nd (nR N (rh N) (1 + w)).toNat) (slF N f p).toNat) = false), fun x => (nR N (rh N) 0 - x).toNat, ?_, ?_⟩
  · exact ⟨by omega, r1, fun _ w hw => by omega⟩
  · intro x2 rx2 z3
    obtain ⟨z0, z1, zm⟩ := z3
    refine ⟨(rc_k T hr), ?_⟩
    refine ⟨f p = -1 ∨ wfst N nd (rh N) f p = -1, ?_, ?_⟩
    · intro z5
      by_cases c : f p = -1
      · rw [if_pos c] at k; exact k
      · rw [if_neg c, z5.resolve_left c] at k; exact k
    · refine ⟨fun c13 => ?_, fun c13 => ?_⟩
      · by_cases c : f p = -1
        · exact .inl c
        · refine .inr (fnd_no (fun w hw => zm c w (by omega)))
      · refine ⟨fun c12 => ?_, fun c12 => ?_⟩
        · refine .inl (Classical.byContradiction fun c => ?_)
          obtain ⟨v, hv, es, -⟩ := fOK_v W.1 S hp c
          omega
        · have nf : ¬ f p = -1 := fun y => c12 (slF_0 y)
          obtain ⟨v, hv, es, -⟩ := fOK_v W.1 S hp nf
          have rw1 := R.2.1 x2.toNat (by omega) (by omega)
          have rw2 := r3 x2.toNat (by omega) (by omega)
          have mw : hL h 49 x2.toNat = mNeed N nd (nR N (rh N) (1 + x2.toNat)) := M.2.1 x2.toNat (by omega) (by show _ < nR N (rh N) 0; omega)
          refine ⟨(by omega), ?_⟩
          refine ⟨(!decide (nR N (rh N) (1 + x2.toNat) = -1) && nmet N (nd (nR N (rh N) (1 + x2.toNat)).toNat) (slF N f p).toNat) = false, ?_, ?_⟩
          · intro z7
            intro x8 ex8 rx8
            rw [wr_of (by omega) (by omega)] at ex8
            refine ⟨⟨by omega, by omega, fun n w hw => ?_⟩, by dsimp only; omega⟩
            by_cases c : w = x2.toNat
            · rw [c]; exact z7
            · exact zm n w (by omega)
          · refine ⟨fun c11 => ?_, fun c11 => ?_⟩
            · rcases rw1 with y | ⟨y, A⟩
              · rw [dt y.1]; rfl
              · exact absurd c11 (AtomR_nz T A (dk _ (by omega)))
            · have yw : 0 ≤ nR N (rh N) (1 + x2.toNat) := rw1.elim (fun y => absurd y.2 c11) (fun y => y.1)
              refine c_X12_has (by omega) ?_
              rw [mw, mNeed_p yw, es, Int.toNat_natCast, nMask_at W.1 hv]
              intro x9 qx9
              intro rx9 vx9
              refine ⟨fun c10 => ?_, fun c10 => ?_⟩
              · rw [df (by omega), bt ((bq1 qx9).2.1.mp c10)]; rfl
              · rw [if_neg nf] at k
                have : wfst N nd (rh N) f p = (x2.toNat : Nat) := by
                  unfold wfst
                  refine fnd_is (by omega) ?_ (fun w hw => zm nf w (by omega))
                  rw [es, Int.toNat_natCast, df (show ¬ nR N (rh N) (1 + x2.toNat) = -1 by omega), (bq1 qx9).2.2.1.mp c10]; rfl
                rw [this, show ((x2.toNat : Nat) : Int) = x2 by omega] at k
                exact k
set_option maxHeartbeats 2000000 in
theorem c_X2_reachFrom {q : Nat} {far : Int} {s : BitVec 64} {f : Nat → Int} {D : RD} {h : XH} {N : Nat → Int} {nd : Nat → ND} {m : Nat} (T : HT h) (C : CS h 8 N nd) (W : WF N m) (dk : DK nd m) (M : MetOK h N nd) (S : SetR N s f) (hq : q < 12) (h1 : 1 ≤ far ∧ far ≤ 12) (dh : DS h D) (eq_ : D.2 q = far) (nf : ¬ f q = -1) {K : XH → Prop} (k : ∀ g, FR h g → DS g (vis N nd f far q D) → K g) : w_X2_reachFrom (q : Int) s far K h := by
  unfold w_X2_reachFrom
  have v40 := vc64 W.1
  have b12 := W.1.2.1
  have w0 := W.1.1
  have pcN : pc N = (N 0).toNat := rfl
  obtain ⟨v, hv, es, e0, e1, bv⟩ := Set_v W.1 S hq nf
  have wv := W.1.2.2.2.2.1 v hv
  have V := V8 C.1 hv
  obtain ⟨M1, M2, M3⟩ := M.1 v hv
  have wE := @wantB_e N nd f q
  rw [es, Int.toNat_natCast] at wE
  refine c_X8_idIn C.1 ⟨W.1.2.2.1, W.1.2.2.2.1⟩ ?_
  rw [idF_F W.1 S hq, es]
  intro _
  refine ⟨fun c29 => ?_, fun c29 => ?_⟩
  · refine c_X3_isOptionOn T C W dk (by omega) (by rw [Int.toNat_natCast]; exact hv) ?_
    rw [Int.toNat_natCast, e0, Int.toNat_natCast, S.2.1 q hq]
    intro x2 qx2
    intro rx2 vx2
    refine ⟨fun b => ∀ j, j < vc N → (b.getLsbD j = true ↔ 1000000 ≤ f q ∧ 0 < nV N v 6 ∧ nmet N (nd (nV N v 6 - 1).toNat) j = true), ?_, ?_⟩
    · intro b3 z4
      refine ⟨fun b x => 0 ≤ x ∧ x ≤ nV N v 7 ∧ ∀ j, j < vc N → (b.getLsbD j = true ↔ (1000000 ≤ f q ∧ 0 < nV N v 6 ∧ nmet N (nd (nV N v 6 - 1).toNat) j = true) ∨ ∃ i : Nat, (i : Int) < x ∧ nmet N (nd (nV N v (8 + i)).toNat) j = true), fun _ x => (nV N v 7 - x).toNat, ?_, ?_⟩
      · exact ⟨by omega, by omega, fun j hj => (z4 j hj).trans ⟨.inl, fun z => z.elim id (fun ⟨i, y, _⟩ => by omega)⟩⟩
      · intro b5 x6 rx6 z7
        obtain ⟨z0, z1, zb⟩ := z7
        refine ⟨(by omega), ?_⟩
        refine ⟨fun c26 => ?_, fun c26 => ?_⟩
        · refine c_X2_packsWith T C W ?_
          intro Mk lM hM
          have e18 : hI h 18 v = nV N v 7 := V.2.2.2.2.2.2.2.1
          replace hM : ∀ p, p < 12 → (Mk.testBit p = true ↔ ¬ f p = -1 ∧ wantB N nd f q p = true) := fun p hp => by
            rw [hM p, wE]
            constructor
            · rintro ⟨w, hw, w0, wb⟩
              rw [BitVec.getLsbD_and, Bool.and_eq_true] at wb
              obtain ⟨p', hp', p0', np, ep, -⟩ := S_in W.1 S hw wb.2
              have : p' = p := by omega
              subst this
              refine ⟨np, ?_⟩
              rw [ep, Int.toNat_natCast]
              exact ((zb w hw).mp wb.1).imp_right (fun ⟨i, a, b⟩ => ⟨i, by omega, b⟩)
            · rintro ⟨np, y⟩
              obtain ⟨w, hw, ws, w0, -, wb⟩ := Set_v W.1 S hp np
              rw [ws, Int.toNat_natCast] at y
              refine ⟨w, hw, w0, ?_⟩
              rw [BitVec.getLsbD_and, wb, Bool.and_true, zb w hw]
              exact y.imp_right (fun ⟨i, a, b⟩ => ⟨i, by omega, b⟩)
          have hout : ∀ p, p < 12 → pc N ≤ p → f p = -1 := fun p hp c => Set_out W.1 S hp c
          intro rx9
          refine ⟨fun x g => 0 ≤ x ∧ x ≤ N 0 ∧ FR h g ∧ ∀ p, p < 12 → (hI g 83 p = (if (p : Int) < x then (vis N nd f far q D).1 p else D.1 p) ∧ hI g 84 p = (if (p : Int) < x then (vis N nd f far q D).2 p else D.2 p)), fun x _ => (N 0 - x).toNat, ?_, ?_⟩
          · exact ⟨by omega, w0, FR_rf h, fun p hp => by rw [if_neg (by omega), if_neg (by omega)]; exact dh p hp⟩
          · intro x10 h11 t11 s11 rx10 z12
            obtain ⟨y0, y1, yf, yv⟩ := z12
            have C11 := FR_CS T C W yf
            obtain ⟨P1, -⟩ := V80 C11.1
            refine ⟨fun c21 => ?_, fun c21 => ?_⟩
            · refine k _ yf (fun p hp => ?_)
              obtain ⟨a, b⟩ := yv p hp
              by_cases c : (p : Int) < x10
              · rw [if_pos c] at a b; exact ⟨a, b⟩
              · rw [if_neg c] at a b
                have fp := hout p hp (by omega)
                rw [vis_1, vis_2, if_neg (fun z => z.2.1 fp), if_neg (fun z => z.2.1 fp)]
                exact ⟨a, b⟩
            · obtain ⟨p, rfl⟩ : ∃ p : Nat, x10 = p := ⟨x10.toNat, by omega⟩
              have bi := bitI (a := Mk) (n := p) (by omega) (by omega)
              rw [bi, Int.toNat_natCast]
              obtain ⟨a83, a84⟩ := yv p (by omega)
              rw [if_neg (by omega)] at a83 a84
              have hMp := hM p (by omega)
              refine ⟨fun g => FR h11 g ∧ ∀ r, r < 12 → hI g 83 r = (if r = p then (vis N nd f far q D).1 p else hI h11 83 r) ∧ hI g 84 r = (if r = p then (vis N nd f far q D).2 p else hI h11 84 r), ?_, ?_⟩
              · intro h13 t13 s13 z14
                intro x15 ex15 rx15
                rw [wr_of (by omega) (by omega)] at ex15
                refine ⟨⟨by omega, by omega, FR_tr yf z14.1, fun r hr => ?_⟩, by dsimp only; omega⟩
                obtain ⟨b1, b2⟩ := z14.2 r hr
                obtain ⟨b3, b4⟩ := yv r hr
                rw [b1, b2]
                by_cases c : r = p
                · subst c
                  rw [if_pos rfl, if_pos rfl, if_pos (by omega), if_pos (by omega)]; exact ⟨rfl, rfl⟩
                · rw [if_neg c, if_neg c, b3, b4]
                  by_cases d : (r : Int) < (p : Int)
                  · rw [if_pos d, if_pos d, if_pos (by omega), if_pos (by omega)]; exact ⟨rfl, rfl⟩
                  · rw [if_neg d, if_neg d, if_neg (by omega), if_neg (by omega)]; exact ⟨rfl, rfl⟩
              · refine ⟨fun c20 => ?_, fun c20 => ?_⟩
                · have nb : ¬ Mk.testBit p = true := fun z => by rw [if_pos z] at c20; cases c20
                  refine ⟨FR_rf _, fun r hr => ?_⟩
                  by_cases c : r = p
                  · subst c
                    rw [if_pos rfl, if_pos rfl, vis_1, vis_2, if_neg (fun z => nb (hMp.mpr ⟨z.2.1, z.2.2.2⟩)), if_neg (fun z => nb (hMp.mpr ⟨z.2.1, z.2.2.2⟩))]
                    exact ⟨a83, a84⟩
                  · rw [if_neg c, if_neg c]; exact ⟨rfl, rfl⟩
                · refine ⟨(by omega), ?_⟩
                  refine ⟨fun c19 => ?_, fun c19 => ?_⟩
                  · refine ⟨FR_rf _, fun r hr => ?_⟩
                    by_cases c : r = p
                    · subst c
                      rw [if_pos rfl, if_pos rfl, vis_1, vis_2, if_neg (fun z => c19 (a84.trans z.2.2.1)), if_neg (fun z => c19 (a84.trans z.2.2.1))]
                      exact ⟨a83, a84⟩
                    · rw [if_neg c, if_neg c]; exact ⟨rfl, rfl⟩
                  · intro h17 eh17 t17 u17
                    intro h18 eh18 t18 u18
                    have tb : Mk.testBit p = true := by
                      cases e : Mk.testBit p with
                      | true => rfl
                      | false => rw [e] at c20; exact absurd rfl c20
                    obtain ⟨np, wp⟩ := hMp.mp tb
                    have dp : D.2 p = -1 := a84.symm.trans (Decidable.not_not.mp c19)
                    rw [wr_of (by omega) (by omega)] at eh18
                    refine ⟨FR_2 (g1 := h11) eh17 eh18, fun r hr => ?_⟩
                    obtain ⟨b1, b2⟩ := st84 t11 t17 (by omega) (by unfold rg; omega) (by unfold rg; omega) eh17 eh18 r
                    have hc : D.2 q = far ∧ ¬ f p = -1 ∧ D.2 p = -1 ∧ wantB N nd f q p = true := ⟨eq_, np, dp, wp⟩
                    rw [b1, b2, vis_1, vis_2, if_pos hc, if_pos hc]
                    exact ⟨rfl, rfl⟩
        · intro x22 ex22 rx22
          rw [wr_of (x := (v : Int) * 3) (by omega) (by omega), wr_of (by omega) (by omega)] at ex22
          have nw_ := wv.2.2.2.2.2.2.2.2.2.2.2.2.2.1 x6.toNat (by have := V.2.2.2.2.2.2.2.1; omega) (by have := V.2.2.2.2.2.2.2.1; omega)
          refine ⟨(by have := V.2.2.2.2.2.2.2.1; omega), ?_⟩
          intro b24 eb24
          intro x25 ex25 rx25
          have e18 := V.2.2.2.2.2.2.2.1
          rw [wr_of (by omega) (by omega)] at ex25
          refine ⟨⟨by omega, by omega, fun j hj => ?_⟩, by dsimp only; omega⟩
          rw [eb24, BitVec.getLsbD_or, Bool.or_eq_true, zb j hj, show x22.toNat = 3 * v + x6.toNat by omega, M1 x6.toNat (by omega) (by omega), mNeed_p (by omega), nMask_at W.1 hj]
          constructor
          · rintro ((a | ⟨i, a, b⟩) | b)
            · exact .inl a
            · exact .inr ⟨i, by omega, b⟩
            · exact .inr ⟨x6.toNat, by omega, b⟩
          · rintro (a | ⟨i, a, b⟩)
            · exact .inl (.inl a)
            · by_cases c : i = x6.toNat
              · rw [c] at b; exact .inr b
              · exact .inl (.inr ⟨i, by omega, b⟩)
    · refine ⟨fun c28 => ?_, fun c28 => ?_⟩
      · intro j hj
        rw [BitVec.getLsbD_zero]
        exact ⟨fun z => (by cases z), fun z => absurd ⟨by omega, z.1⟩ ((bq1 qx2).2.1.mp c28)⟩
      · refine ⟨(by omega), ?_⟩
        obtain ⟨on, ob⟩ := (bq1 qx2).2.2.1.mp c28
        intro j hj
        rw [M3, mNeed_p (by omega), nMask_at W.1 hj]
        exact ⟨fun z => ⟨ob, by omega, z⟩, fun z => z.2.2⟩
  · omega
set_option maxHeartbeats 2000000 in
theorem c_X2_reach {s : BitVec 64} {f : Nat → Int} {h : XH} {N : Nat → Int} {nd : Nat → ND} {m : Nat} (T : HT h) (C : CS h 8 N nd) (W : WF N m) (dk : DK nd m) (M : MetOK h N nd) (S : SetR N s f) {K : XH → Prop} (k : ∀ g, FR h g → DS g (rch N nd (rh N) f 11) → K g) : w_X2_reach s K h := by
  unfold w_X2_reach
  have hr := rh_lt W
  have v40 := vc64 W.1
  have b12 := W.1.2.1
  have w0 := W.1.1
  have pcN : pc N = (N 0).toNat := rfl
  have L := HT_len T
  have n83 : hn h 83 = 12 := lyn (c := 100) (n := 12) T rfl
  have hout : ∀ p, pc N ≤ p → p < 12 → f p = -1 := fun p c hp => Set_out W.1 S hp c
  obtain ⟨wr0, wr8, -⟩ := W.2.1 (rh N) hr
  refine c_J7_fill_53178 T (lyk (n := 12) T rfl) (by omega) (rgk rfl) ?_
  intro h1 f1 l1 x1_ v1
  intro t1 u1
  have n84 : hn h1 84 = 12 := lyn (c := 100) (n := 12) t1 rfl
  refine c_J7_fill_53178 t1 (lyk (n := 12) t1 rfl) (by omega) (rgk rfl) ?_
  intro h2 f2 l2 x2_ v2
  intro t2 u2
  have F2 : FR h h2 := ⟨fun b hb n => sameC_tr (f1 b hb (fun y => n (.inl y))) (f2 b (by omega) (fun y => n (.inr y))), by omega, by omega⟩
  have D2 : ∀ p, p < 12 → hI h2 83 p = -1 ∧ hI h2 84 p = -1 := fun p hp => ⟨(sameC_I (f2 83 (by omega) (by decide)) p).trans (v1 p (by omega)), v2 p (by omega)⟩
  refine ⟨fun x g => 0 ≤ x ∧ x ≤ N 0 ∧ FR h g ∧ ∀ p, p < 12 → hI g 83 p = (if (p : Int) < x then (rch0 N nd (rh N) f).1 p else -1) ∧ hI g 84 p = (if (p : Int) < x then (rch0 N nd (rh N) f).2 p else -1), fun x _ => (N 0 - x).toNat, ?_, ?_⟩
  · exact ⟨by omega, w0, F2, fun p hp => by rw [if_neg (by omega), if_neg (by omega)]; exact D2 p hp⟩
  · intro x3 h5 t5 s5 rx3 z6
    obtain ⟨z0, z1, zf, zv⟩ := z6
    have C5 := FR_CS T C W zf
    obtain ⟨P5, -⟩ := V80 C5.1
    refine ⟨fun c32 => ?_, fun c32 => ?_⟩
    · refine ⟨fun x g => 1 ≤ x ∧ x ≤ 13 ∧ FR h g ∧ DS g (rch N nd (rh N) f (x - 1).toNat), fun x _ => (13 - x).toNat, ?_, ?_⟩
      · refine ⟨by omega, by omega, zf, fun p hp => ?_⟩
        obtain ⟨a, b⟩ := zv p hp
        show _ = (rch0 N nd (rh N) f).1 p ∧ _ = (rch0 N nd (rh N) f).2 p
        by_cases c : (p : Int) < x3
        · rw [if_pos c] at a b; exact ⟨a, b⟩
        · rw [if_neg c] at a b
          have fp := hout p (by omega) hp
          rw [a, b]
          unfold rch0
          dsimp only
          rw [if_pos (.inl fp), if_pos (.inl fp)]
          exact ⟨rfl, rfl⟩
      · intro x7 h9 t9 s9 rx7 z10
        obtain ⟨y0, y1, yf, yd⟩ := z10
        refine ⟨fun c22 => ?_, fun c22 => ?_⟩
        · refine k _ yf (fun p hp => ?_)
          obtain ⟨a, b⟩ := yd p hp
          rw [show (x7 - 1).toNat = 12 by omega] at a b
          obtain ⟨c, d⟩ := rch12 N nd (rh N) f p hp
          exact ⟨a.trans c, b.trans d⟩
        · obtain ⟨n, rfl⟩ : ∃ n : Nat, x7 = (n : Int) + 1 := ⟨(x7 - 1).toNat, by omega⟩
          rw [show ((n : Int) + 1 - 1).toNat = n by omega] at yd
          have ri := rInv_r (N := N) (nd := nd) (r := rh N) (f := f) n
          refine ⟨fun x g => 0 ≤ x ∧ x ≤ N 0 ∧ FR h g ∧ DS g (lev N nd f ((n : Int) + 1) x.toNat (rch N nd (rh N) f n)), fun x _ => (N 0 - x).toNat, ?_, ?_⟩
          · exact ⟨by omega, w0, yf, yd⟩
          · intro x11 h12 t12 s12 rx11 z13
            obtain ⟨u0, u1, uf, ud⟩ := z13
            have C12 := FR_CS T C W uf
            obtain ⟨P12, -⟩ := V80 C12.1
            refine ⟨fun c21 => ?_, fun c21 => ?_⟩
            · intro x14 ex14 rx14
              rw [wr_of (by omega) (by omega)] at ex14
              refine ⟨⟨by omega, by omega, uf, ?_⟩, by dsimp only; omega⟩
              rw [show (x14 - 1).toNat = n + 1 by omega]
              show DS h12 (lev N nd f ((n : Int) + 1) 12 (rch N nd (rh N) f n))
              rw [lev_ge (k := pc N) (by omega) ri hout 12 (by omega) (Nat.le_refl _), ← show x11.toNat = pc N by omega]
              exact ud
            · obtain ⟨q, rfl⟩ : ∃ q : Nat, x11 = q := ⟨x11.toNat, by omega⟩
              rw [Int.toNat_natCast] at ud
              rw [Int.toNat_natCast]
              have rl := rInv_l (N := N) (nd := nd) (by omega) ri q (by omega)
              obtain ⟨-, dq⟩ := ud q (by omega)
              refine ⟨(by omega), ?_⟩
              refine ⟨fun g => FR h g ∧ DS g (lev N nd f ((n : Int) + 1) (q + 1) (rch N nd (rh N) f n)), ?_, ?_⟩
              · intro h16 t16 s16 z17
                intro x18 ex18 rx18
                rw [wr_of (by omega) (by omega)] at ex18
                exact ⟨⟨by omega, by omega, z17.1, by rw [show x18.toNat = q + 1 by omega]; exact z17.2⟩, by dsimp only; omega⟩
              · refine ⟨fun c20 => ?_, fun c20 => ?_⟩
                · refine ⟨uf, ?_⟩
                  show DS h12 (vis N nd f _ q _)
                  rw [vis_no (fun z => c20 (dq.trans z))]
                  exact ud
                · have eq_ : (lev N nd f ((n : Int) + 1) q (rch N nd (rh N) f n)).2 q = (n : Int) + 1 := dq.symm.trans (Decidable.not_not.mp c20)
                  have nf : ¬ f q = -1 := fun y => by have := rl.1 q (by omega) y; omega
                  refine c_X2_reachFrom t12 C12 W dk (FR_M T M uf) S (by omega) (by omega) ud eq_ nf ?_
                  intro h19 f19 d19
                  intro t19 u19
                  exact ⟨FR_tr uf f19, d19⟩
    · obtain ⟨p, rfl⟩ : ∃ p : Nat, x3 = p := ⟨x3.toNat, by omega⟩
      refine c_X8_idIn C5.1 ⟨W.1.2.2.1, W.1.2.2.2.1⟩ ?_
      rw [idF_F W.1 S (show p < 12 by omega)]
      intro _
      refine c_X2_firstWishFor t5 C5 W dk (FR_M T M zf) S.2.2.2 (show p < 12 by omega) ?_
      obtain ⟨x24, e24⟩ : ∃ x24, x24 = (if f p = -1 then -1 else wfst N nd (rh N) f p) := ⟨_, rfl⟩
      rw [← e24]
      have wb : -1 ≤ wfst N nd (rh N) f p ∧ wfst N nd (rh N) f p < 8 := by
        unfold wfst
        rcases fnd_cs (fun w => !decide (nR N (rh N) (1 + w) = -1) && nmet N (nd (nR N (rh N) (1 + w)).toNat) (slF N f p).toNat) (nR N (rh N) 0).toNat with ⟨e, -⟩ | ⟨i, e, hi, -⟩ <;> omega
      have c0 : x24 = -1 ↔ f p = -1 ∨ wfst N nd (rh N) f p = -1 := by
        rw [e24]
        by_cases c : f p = -1
        · rw [if_pos c]; exact ⟨fun _ => .inl c, fun _ => rfl⟩
        · rw [if_neg c]; exact ⟨.inr, fun z => z.resolve_left c⟩
      have cr : (rch0 N nd (rh N) f).1 p = (if x24 = -1 then -1 else 100 + x24) ∧ (rch0 N nd (rh N) f).2 p = (if x24 = -1 then -1 else 1) := by
        unfold rch0
        dsimp only
        by_cases c : x24 = -1
        · rw [if_pos c, if_pos (c0.mp c), if_pos (c0.mp c), if_pos c]; exact ⟨rfl, rfl⟩
        · have c' : ¬ (f p = -1 ∨ wfst N nd (rh N) f p = -1) := fun z => c (c0.mpr z)
          rw [if_neg c, if_neg c', if_neg c', if_neg c]
          rw [if_neg (fun z => c' (.inl z))] at e24
          rw [e24]; exact ⟨rfl, rfl⟩
      have xb : -1 ≤ x24 ∧ x24 < 8 := by rw [e24]; split <;> omega
      intro rx24
      refine ⟨fun g => FR h5 g ∧ ∀ r, r < 12 → hI g 83 r = (if r = p then (rch0 N nd (rh N) f).1 p else hI h5 83 r) ∧ hI g 84 r = (if r = p then (rch0 N nd (rh N) f).2 p else hI h5 84 r), ?_, ?_⟩
      · intro h25 t25 s25 z26
        intro x27 ex27 rx27
        rw [wr_of (by omega) (by omega)] at ex27
        refine ⟨⟨by omega, by omega, FR_tr zf z26.1, fun r hr => ?_⟩, by dsimp only; omega⟩
        obtain ⟨b1, b2⟩ := z26.2 r hr
        obtain ⟨b3, b4⟩ := zv r hr
        rw [b1, b2]
        by_cases c : r = p
        · subst c
          rw [if_pos rfl, if_pos rfl, if_pos (by omega), if_pos (by omega)]; exact ⟨rfl, rfl⟩
        · rw [if_neg c, if_neg c, b3, b4]
          by_cases d : (r : Int) < (p : Int)
          · rw [if_pos d, if_pos d, if_pos (by omega), if_pos (by omega)]; exact ⟨rfl, rfl⟩
          · rw [if_neg d, if_neg d, if_neg (by omega), if_neg (by omega)]; exact ⟨rfl, rfl⟩
      · refine ⟨fun c31 => ?_, fun c31 => ?_⟩
        · refine ⟨FR_rf _, fun r hr => ?_⟩
          by_cases c : r = p
          · subst c
            obtain ⟨a, b⟩ := zv r hr
            rw [if_pos rfl, if_pos rfl, cr.1, cr.2, if_pos c31, if_pos c31, a, b, if_neg (by omega), if_neg (by omega)]
            exact ⟨rfl, rfl⟩
          · rw [if_neg c, if_neg c]; exact ⟨rfl, rfl⟩
        · refine ⟨(by omega), ?_⟩
          intro h29 eh29 t29 u29
          intro h30 eh30 t30 u30
          rw [Int.toNat_natCast, wr_of (by omega) (by omega)] at eh29
          rw [Int.toNat_natCast] at eh30
          refine ⟨FR_2 (g1 := h5) eh29 eh30, fun r hr => ?_⟩
          obtain ⟨b1, b2⟩ := st84 t5 t29 (show p < 12 by omega) (by unfold rg; omega) (rgk rfl) eh29 eh30 r
          rw [b1, b2, cr.1, cr.2, if_neg c31, if_neg c31]
          exact ⟨rfl, rfl⟩
