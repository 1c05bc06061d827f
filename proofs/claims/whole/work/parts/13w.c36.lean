/-! WITHOUT: what loses its needs -/
def upF (f : Nat → Int) (M : Nat) (x : Int) (q : Nat) : Int := if (q : Int) < x ∧ M.testBit q = true then -1 else f q
theorem upF_y {f : Nat → Int} {M q : Nat} {x : Int} (a : (q : Int) < x) (b : M.testBit q = true) : upF f M x q = -1 := if_pos ⟨a, b⟩
theorem upF_n {f : Nat → Int} {M q : Nat} {x : Int} (a : ¬ ((q : Int) < x ∧ M.testBit q = true)) : upF f M x q = f q := if_neg a
def rsF (f : Nat → Int) (B p : Nat) : Int := if B.testBit p = true then -1 else f p
def delF (f : Nat → Int) (p0 p : Nat) : Int := if p = p0 then -1 else f p
def closedB (N : Nat → Int) (nd : Nat → ND) (f : Nat → Int) (B : Nat) : Prop := ∀ p, p < 12 → ¬ f p = -1 → B.testBit p = false → needsP N nd (rsF f B) p
/-- in all that is closed, only of what is there -/
def inCl (N : Nat → Int) (nd : Nat → ND) (f : Nat → Int) (B : Nat) : Prop := B < 4096 ∧ (∀ q, B.testBit q = true → ¬ f q = -1) ∧ ∀ B', closedB N nd f B' → ∀ q, B.testBit q = true → B'.testBit q = true
def lcl (N : Nat → Int) (nd : Nat → ND) (f : Nat → Int) (B : Nat) : Prop := inCl N nd f B ∧ closedB N nd f B
noncomputable def brkN (N : Nat → Int) (nd : Nat → ND) (f : Nat → Int) : Nat := Classical.epsilon (fun B => lcl N nd f B)
theorem brk_is {N : Nat → Int} {nd : Nat → ND} {f : Nat → Int} {B : Nat} (h : lcl N nd f B) : B = brkN N nd f := by
  have s : lcl N nd f (brkN N nd f) := Classical.epsilon_spec (p := fun B => lcl N nd f B) ⟨B, h⟩
  apply Nat.eq_of_testBit_eq
  intro q
  have a := h.1.2.2 _ s.2 q
  have b := s.1.2.2 _ h.2 q
  cases x : B.testBit q <;> cases y : (brkN N nd f).testBit q <;> first | rfl | (rw [x, y] at a; exact absurd (a rfl) (by decide)) | (rw [x, y] at b; exact absurd (b rfl) (by decide))
theorem slF_cgp {N : Nat → Int} {f g : Nat → Int} {p : Nat} (e : f p = g p) : slF N f p = slF N g p := by unfold slF; rw [e]
theorem mP_mono {N : Nat → Int} {d : ND} {f g : Nat → Int} (h : ∀ q, q < 12 → f q = -1 ∨ f q = g q) (z : mP N d f) : mP N d g := by
  obtain ⟨q, hq, n, o, y⟩ := z
  have e := (h q hq).resolve_left n
  exact ⟨q, hq, by rw [← e]; exact n, by rw [← e]; exact o, by rw [← slF_cgp e]; exact y⟩
theorem needsP_mono {N : Nat → Int} {nd : Nat → ND} {f g : Nat → Int} {p : Nat} (h : ∀ q, q < 12 → f q = -1 ∨ f q = g q) (e : f p = g p) (z : needsP N nd f p) : needsP N nd g p := by
  obtain ⟨a, b⟩ := z
  unfold needsP
  rw [← slF_cgp e, ← e]
  exact ⟨fun k hk => mP_mono h (a k hk), fun x y => mP_mono h (b x y)⟩
theorem rsF_out {f : Nat → Int} {B p : Nat} (h : B.testBit p = false) : rsF f B p = f p := by unfold rsF; rw [h]; rfl
theorem rsF_in {f : Nat → Int} {B p : Nat} (h : B.testBit p = true) : rsF f B p = -1 := by unfold rsF; rw [h]; rfl
/-- what has lost its needs is in all that is closed -/
theorem inCl_add {N : Nat → Int} {nd : Nat → ND} {f : Nat → Int} {B p : Nat} (hp : p < 12) (h : inCl N nd f B) (b : B.testBit p = false) (nf : ¬ f p = -1) (n : ¬ needsP N nd (rsF f B) p) : ∀ B', closedB N nd f B' → B'.testBit p = true := fun B' c => by
  cases e : B'.testBit p with
  | true => rfl
  | false =>
    refine absurd (needsP_mono (fun q _ => ?_) ?_ (c p hp nf e)) n
    · cases x : B'.testBit q with
      | true => exact .inl (rsF_in x)
      | false =>
        refine .inr ?_
        have : B.testBit q = false := by
          cases y : B.testBit q with
          | false => rfl
          | true => rw [h.2.2 B' c q y] at x; cases x
        rw [rsF_out x, rsF_out this]
    · rw [rsF_out e, rsF_out b]
theorem or_pw {B p q : Nat} : (B ||| 2 ^ p).testBit q = (B.testBit q || decide (p = q)) := by rw [Nat.testBit_or, Nat.testBit_two_pow]
theorem inCl_or {N : Nat → Int} {nd : Nat → ND} {f : Nat → Int} {B M : Nat} (h : inCl N nd f B) (hM : M < 4096) (a : ∀ q, M.testBit q = true → ¬ f q = -1 ∧ ∀ B', closedB N nd f B' → B'.testBit q = true) : inCl N nd f (B ||| M) := by
  refine ⟨Nat.or_lt_two_pow (n := 12) h.1 hM, fun q hq => ?_, fun B' c q hq => ?_⟩
  · rw [Nat.testBit_or, Bool.or_eq_true] at hq
    exact hq.elim (h.2.1 q) (fun y => (a q y).1)
  · rw [Nat.testBit_or, Bool.or_eq_true] at hq
    exact hq.elim (h.2.2 B' c q) (fun y => (a q y).2 B' c)
theorem SetR_rm {N : Nat → Int} {m : Nat} (W : WV N m) {s : BitVec 64} {f : Nat → Int} (S : SetR N s f) {p : Nat} (hp : p < pc N) : SetR N (s &&& ((wMask N p) ^^^ (18446744073709551615#64))) (mvF (2 ^ p) f (fun _ => -1)) := by
  have z := SetR_mv W S (SetR_0 W) (w := wMask N p) (a := 2 ^ p) (fun j => ⟨fun y => ⟨p, hp, Nat.testBit_two_pow_self, y⟩, fun ⟨q, _, b, y⟩ => by
    rw [Nat.testBit_two_pow, decide_eq_true_eq] at b
    rw [b]; exact y⟩)
  rw [BitVec.zero_and, BitVec.or_zero] at z
  exact z
theorem rs_rm {f : Nat → Int} {B p : Nat} : mvF (2 ^ p) (rsF f B) (fun _ => -1) = rsF f (B ||| 2 ^ p) := by
  funext q
  unfold mvF rsF
  rw [or_pw, Nat.testBit_two_pow]
  by_cases c : p = q
  · rw [dt c]; simp
  · rw [df c]; simp
theorem rs_0 {f : Nat → Int} : rsF f 0 = f := by funext q; unfold rsF; rw [Nat.zero_testBit]; rfl
theorem del_rm {f : Nat → Int} {p : Nat} : mvF (2 ^ p) f (fun _ => -1) = delF f p := by
  funext q
  unfold mvF delF
  rw [Nat.testBit_two_pow]
  by_cases c : p = q
  · rw [dt c, if_pos rfl, if_pos c.symm]
  · rw [df c, if_neg (by decide), if_neg (fun z => c z.symm)]
theorem fOK_rs {N : Nat → Int} {f : Nat → Int} {B : Nat} (S : fOK N f) : fOK N (rsF f B) := fun p hp => by
  unfold rsF
  by_cases c : B.testBit p = true
  · rw [if_pos c]; exact .inl rfl
  · rw [if_neg c]; exact S p hp
theorem fOK_del {N : Nat → Int} {f : Nat → Int} {p0 : Nat} (S : fOK N f) : fOK N (delF f p0) := fun p hp => by
  unfold delF
  by_cases c : p = p0
  · rw [if_pos c]; exact .inl rfl
  · rw [if_neg c]; exact S p hp
set_option maxHeartbeats 2000000 in
theorem c_X3_brokenIn {p0 : BitVec 64} {f : Nat → Int} {h : XH} {N : Nat → Int} {nd : Nat → ND} {m : Nat} (T : HT h) (C : CS h 8 N nd) (W : WF N m) (dk : DK nd m) (M : MetOK h N nd) (S : SetR N p0 f) {K : Int → Prop} (k : K (brkN N nd f : Nat)) : w_X3_brokenIn p0 K h := by
  unfold w_X3_brokenIn
  have v40 := vc64 W.1
  have w4 := W.1.2.2.1
  have w0 := W.1.1
  have w12 := W.1.2.1
  have vcN : vc N = (N 4).toNat := rfl
  have pcN : pc N = (N 0).toNat := rfl
  obtain ⟨P1, V1⟩ := V80 C.1
  refine ⟨fun b x i => 0 ≤ i ∧ i ≤ 13 ∧ ∃ B : Nat, x = (B : Int) ∧ inCl N nd f B ∧ SetR N b (rsF f B) ∧ (closedB N nd f B ∨ i ≤ (cntN 12 B.testBit : Nat)), fun _ _ i => (13 - i).toNat, ?_, ?_⟩
  · exact ⟨by omega, by omega, 0, rfl, ⟨by decide, fun q hq => (by rw [Nat.zero_testBit] at hq; cases hq), fun _ _ q hq => (by rw [Nat.zero_testBit] at hq; cases hq)⟩, by rw [rs_0]; exact S, .inr (by omega)⟩
  · intro b1 x2 x3 rx2 rx3 z5
    obtain ⟨z0, z1, B, eB, iB, SB, cB⟩ := z5
    refine ⟨fun c25 => ?_, fun c25 => ?_⟩
    · have c : closedB N nd f B := cB.resolve_right (fun y => by have := cntN_le B.testBit 12; omega)
      rw [eB, brk_is ⟨iB, c⟩]
      exact k
    · refine ⟨fun b x i => 0 ≤ i ∧ i ≤ N 4 ∧ ∃ B1 : Nat, x = (B1 : Int) ∧ inCl N nd f B1 ∧ SetR N b (rsF f B1) ∧ (B1 = B ∧ (∀ v : Nat, (v : Int) < i → b.getLsbD v = true → nB N nd b v) ∨ cntN 12 B.testBit < cntN 12 B1.testBit), fun _ _ i => (N 4 - i).toNat, ?_, ?_⟩
      · exact ⟨by omega, w4, B, eB, iB, SB, .inl ⟨rfl, fun v hv => by omega⟩⟩
      · intro b6 x7 x8 rx7 rx8 z9
        obtain ⟨y0, y1, B1, eB1, iB1, SB1, cB1⟩ := z9
        refine ⟨fun c24 => ?_, fun c24 => ?_⟩
        · intro x10 ex10 rx10
          rw [wr_of (by omega) (by omega)] at ex10
          refine ⟨⟨by omega, by omega, B1, eB1, iB1, SB1, ?_⟩, by dsimp only; omega⟩
          rcases cB1 with ⟨e, a⟩ | a
          · refine .inl (fun p hp nf b => ?_)
            have nr : ¬ rsF f B1 p = -1 := by rw [rsF_out b]; exact nf
            obtain ⟨v, hv, es, e0, e1, bv⟩ := Set_v W.1 SB1 hp nr
            exact (nB_F W.1 dk SB1 hv hp e0 es).mp (a v (by omega) bv)
          · rcases cB with c | c
            · have := cntN_mono (g := B1.testBit) (k := B.testBit) 12 (fun q _ y => iB1.2.2 B c q y)
              omega
            · exact .inr (by omega)
        · refine c_X12_has (by omega) ?_
          intro x11 qx11
          intro rx11 vx11
          refine ⟨fun b x => ∃ B2 : Nat, x = (B2 : Int) ∧ inCl N nd f B2 ∧ SetR N b (rsF f B2) ∧ (B2 = B ∧ (∀ v : Nat, (v : Int) < x8 + 1 → b.getLsbD v = true → nB N nd b v) ∨ cntN 12 B.testBit < cntN 12 B2.testBit), ?_, ?_⟩
          · intro b12 x13 rx13 z14
            intro x15 ex15 rx15
            rw [wr_of (by omega) (by omega)] at ex15
            exact ⟨⟨by omega, by omega, by rw [ex15]; exact z14⟩, by dsimp only; omega⟩
          · refine ⟨fun c23 => ?_, fun c23 => ?_⟩
            · refine ⟨B1, eB1, iB1, SB1, cB1.imp_left (fun ⟨e, a⟩ => ⟨e, fun v hv bv => ?_⟩)⟩
              by_cases c : v = x8.toNat
              · rw [c] at bv; exact absurd bv ((bq1 qx11).2.1.mp c23)
              · exact a v (by omega) bv
            · refine c_X3_areNeedsMet T C W dk M (by omega) (by omega) ?_
              intro x16 qx16
              intro rx16 vx16
              refine ⟨fun c22 => ?_, fun c22 => ?_⟩
              · refine ⟨B1, eB1, iB1, SB1, cB1.imp_left (fun ⟨e, a⟩ => ⟨e, fun v hv bv => ?_⟩)⟩
                by_cases c : v = x8.toNat
                · rw [c]; exact (bq1 qx16).2.2.1.mp c22
                · exact a v (by omega) bv
              · have bv := (bq1 qx11).2.2.1.mp c23
                have nn := (bq1 qx16).2.1.mp (Decidable.not_not.mp c22)
                obtain ⟨p, hp, e0, nf, es, e1⟩ := S_in W.1 SB1 (v := x8.toNat) (by omega) bv
                have tb : B1.testBit p = false := by
                  cases e : B1.testBit p with
                  | false => rfl
                  | true => rw [rsF_in e] at nf; exact absurd rfl nf
                rw [rsF_out tb] at nf
                have nP : ¬ needsP N nd (rsF f B1) p := fun z => nn ((nB_F W.1 dk SB1 (by omega) hp e0 es).mpr z)
                have V := V8 C.1 (show x8.toNat < vc N by omega)
                have wv := W.1.2.2.2.2.1 x8.toNat (by omega)
                have p2 : 2 ^ p < 2 ^ 12 := Nat.pow_lt_pow_right (by decide) hp
                have iB1l := iB1.1
                refine ⟨(by omega), ?_⟩
                intro x18 ex18 rx18
                intro x19 ex19 rx19
                refine ⟨(by omega), ?_⟩
                intro b21 eb21
                have iC := inCl_add hp iB1 tb nf nP
                refine ⟨B1 ||| 2 ^ p, ?_, inCl_or iB1 p2 (fun q hq => ?_), ?_, .inr ?_⟩
                · rw [ex18, V.1, e0, ishl1 (by omega), Int.toNat_natCast, eB1, ior_nat (by omega) (by omega)]
                · rw [Nat.testBit_two_pow, decide_eq_true_eq] at hq
                  rw [← hq]; exact ⟨nf, iC⟩
                · rw [eb21, ← rs_rm, show x19.toNat = p by omega, P8_w C.2.1 ⟨W.1.2.2.1, W.1.2.2.2.1⟩ (by omega) hp]
                  exact SetR_rm W.1 SB1 (by omega)
                · have : cntN 12 B1.testBit < cntN 12 (B1 ||| 2 ^ p).testBit := cntN_lt 12 (fun i _ y => by rw [or_pw, y]; rfl) ⟨p, hp, by rw [or_pw, dt rfl, Bool.or_true], tb⟩
                  rcases cB1 with ⟨e, -⟩ | a
                  · rw [← e]; exact this
                  · omega
set_option maxHeartbeats 1000000 in
theorem c_X12_without {p0 : Int} {h : XH} {N : Nat → Int} {nd : Nat → ND} {m : Nat} (T : HT h) (C : CS h 8 N nd) (W : WF N m) (dk : DK nd m) (CC : CaC h N nd) {K : Int → XH → Prop} {E : Nat → XH → Prop} (k0 : ¬ (0 ≤ p0 ∧ p0 < N 0) → E 2 (nT h)) (k : (0 ≤ p0 ∧ p0 < N 0) → ∀ g, HT g → CSt h g N nd → K (if inst N (rh N) p0.toNat = -1 then 0 else (brkN N nd (delF (inst N (rh N)) p0.toNat) : Nat)) g) : w_X12_without p0 K E h := by
  unfold w_X12_without
  have hr := rh_lt W
  refine c_X12_checkPack (fun q => k0 (by rw [(V80 C.1).1] at q; exact q)) (fun q1 q2 => ?_)
  rw [(V80 C.1).1] at q2
  have b12 := W.1.2.1
  refine c_X12_knowMet T C W dk CC ?_
  intro h1 s1 cc1 k1 m1
  intro t1 u1
  have C1 := CSt_CS T C W s1
  refine c_atH C1 W ?_
  refine ⟨(rc_k t1 hr), ?_⟩
  intro b4 eb4
  have SI := CS_i C1 hr
  rw [← eb4] at SI
  refine c_X8_idIn C1.1 ⟨W.1.2.2.1, W.1.2.2.2.1⟩ ?_
  rw [show p0 = ((p0.toNat : Nat) : Int) by omega, idF_F W.1 SI (p := p0.toNat) (by omega)]
  rw [show ((p0.toNat : Nat) : Int) = p0 by omega]
  intro _
  refine ⟨fun c8 => ?_, fun c8 => ?_⟩
  · refine ⟨(by omega), ?_⟩
    have pp : p0.toNat < pc N := by unfold pc; omega
    rw [P8_w C1.2.1 ⟨W.1.2.2.1, W.1.2.2.2.1⟩ pp (by omega)]
    have SD := SetR_rm W.1 SI pp
    rw [del_rm] at SD
    refine c_X3_brokenIn t1 C1 W dk m1 SD ?_
    intro _
    have ni : ¬ inst N (rh N) p0.toNat = -1 := fun y => c8 (slF_0 y)
    rw [if_neg ni] at k
    exact k ⟨q1, q2⟩ _ t1 s1
  · have ni : inst N (rh N) p0.toNat = -1 := Classical.byContradiction fun y => by
      obtain ⟨v, hv, es, -⟩ := Set_v W.1 SI (p := p0.toNat) (by omega) y
      omega
    rw [if_pos ni] at k
    exact k ⟨q1, q2⟩ _ t1 s1
set_option maxHeartbeats 1000000 in
theorem c_L_without {p1 : Int} {h : XH} {N : Nat → Int} {nd : Nat → ND} {m : Nat} (T : HT h) (C : CS h 8 N nd) (W : WF N m) (dk : DK nd m) (CC : CaC h N nd) {K : Int → XH → Prop} (k0 : ¬ (0 ≤ p1 ∧ p1 < N 0) → ∀ g, HT g → CSt h g N nd → K 1 (nT g)) (k : (0 ≤ p1 ∧ p1 < N 0) → ∀ g g6, HT g → CSt h g N nd → g6 = sL g 467 0 (i2l (if inst N (rh N) p1.toNat = -1 then 0 else (brkN N nd (delF (inst N (rh N)) p1.toNat) : Nat))) → K 0 g6) : w_L_without p1 K h := by
  unfold w_L_without
  refine c_X12_without T C W dk CC (fun q => ⟨rfl, k0 q h T (CSt_rf _ _ _)⟩) (fun q g t s => ?_)
  intro tx ux _
  intro h5 eh5 t5 u5
  exact k q _ _ t s eh5
set_option maxHeartbeats 2000000 in
theorem c_X14_without {p0 : Int} {nd : Nat → ND} {h : XH} {N : Nat → Int} {m : Nat} (T : HT h) (eN : N = nw h) (W : WF N m) (Z : NTm h nd m) (fi : fOK N (inst N (rh N))) {K : Int → XH → Prop} (k0 : ¬ (0 ≤ p0 ∧ p0 < N 0) → ∀ h1 h2 h3, HT h1 → h1 = sI h 437 5 0 → RSt h1 h2 nd 1 (n12) → HT h2 → h3 = sI h2 437 5 1 → K 0 h3) (k : (0 ≤ p0 ∧ p0 < N 0) → ∀ h1 h2, HT h1 → h1 = sI h 437 5 0 → RSt h1 h2 nd 1 (n12) → K (if inst N (rh N) p0.toNat = -1 then 0 else (brkN N nd (delF (inst N (rh N)) p0.toNat) : Nat)) h2) : w_X14_without p0 K h := by
  unfold w_X14_without
  intro h1 eh1 t1 u1
  have eN1 : N = nw h1 := eN.trans (nw_fr (by rw [eh1]; exact sameC_sV (by decide))).symm
  have Z1 := NTm_5 T eh1 Z
  have L1 := HT_len t1
  refine c_X14_isPack ?_ (by rw [show hI h1 438 0 = N 0 by rw [eN1]; rfl]; exact W.1.1)
  intro x2 qx2
  rw [show hI h1 438 0 = N 0 by rw [eN1]; rfl] at qx2
  have b12 := W.1.2.1
  intro rx2 vx2
  refine c_X14_refused qx2 ?_
  intro x3 h4 qx3
  intro t4 u4
  intro rx3 vx3
  refine ⟨fun c45 => ?_, fun c45 => ?_⟩
  · obtain ⟨b_, e_⟩ : (0 ≤ p0 ∧ p0 < N 0) ∧ h4 = h1 := by
      rcases qx3 with ⟨_, y, z⟩ | ⟨y, _⟩
      · exact ⟨y, z⟩
      · omega
    subst e_
    have Lh4 := HT_len t4
    refine c_iS t4 eN1 W ?_
    intro a5 h6 f6 g6 l6 A6
    intro t6 u6
    have e6 := A6.2.2 p0.toNat (by omega)
    have k6 := hk_lt A6.1 (by decide)
    refine ⟨A6.1, ?_⟩
    refine ⟨(by rw [A6.2.1]; omega), ?_⟩
    refine ⟨fun c44 => ?_, fun c44 => ?_⟩
    · intro h9 eh9 t9 u9
      have ni : ¬ inst N (rh N) p0.toNat = -1 := by omega
      have f9 : Fr (fun _ => False) h4 h9 := fun b hb n => sameC_tr (f6 b hb n) (by rw [eh9]; exact sameC_sV (by omega))
      have A9 : AR h9 a5 (delF (inst N (rh N)) p0.toNat) := by
        refine ⟨by rw [eh9, hk_sV]; exact A6.1, by rw [eh9, hn_sV]; exact A6.2.1, fun i hi => ?_⟩
        unfold delF
        by_cases c : i = p0.toNat
        · rw [if_pos c, c, eh9]; exact hI_eq (by rw [A6.2.1]; omega) (rgk rfl)
        · rw [if_neg c, eh9, hI_ni (fun z => c z.symm)]; exact A6.2.2 i hi
      have l9 : h9.length = h6.length := by rw [eh9, len_sV]
      have x9_ : xhs h9 = xhs h6 := by rw [eh9, xhs_sV]
      have fd : fOK N (delF (inst N (rh N)) p0.toNat) := fOK_del fi
      have BK : ∀ gg, HT gg → Fr (fun _ => False) h4 gg → N = nw gg ∧ NTm gg nd m := fun gg tg fg => ⟨eN1.trans (nw_F t4 fg).symm, NTm_fr t4 (fun b x _ => fg b x id) (fun j _ => sameC_el (fg 437 (by omega) id) j) Z1⟩
      refine ⟨fun x y g => ∃ B : Nat, x = (B : Int) ∧ inCl N nd (delF (inst N (rh N)) p0.toNat) B ∧ (y = 0 → closedB N nd (delF (inst N (rh N)) p0.toNat) B) ∧ AR g a5 (rsF (delF (inst N (rh N)) p0.toNat) B) ∧ Fr (fun _ => False) h4 g ∧ g.length = h9.length ∧ xhs g = xhs h9, fun x y _ => if y = 0 then 0 else 13 - cntN 12 x.toNat.testBit, ?_, ?_⟩
      · refine ⟨0, rfl, ⟨by decide, fun q hq => (by rw [Nat.zero_testBit] at hq; cases hq), fun _ _ q hq => (by rw [Nat.zero_testBit] at hq; cases hq)⟩, fun y => by omega, (by rw [rs_0]; exact A9), f9, rfl, rfl⟩
      · intro x10 x11 h13 t13 s13 rx10 rx11 z14
        obtain ⟨B, eB, iB, cB, AB, gf, gl, gx⟩ := z14
        have iBl := iB.1
        refine ⟨fun c43 => ?_, fun c43 => ?_⟩
        · rw [if_neg ni, ← brk_is ⟨iB, cB c43⟩, ← eB] at k
          exact k b_ _ _ t4 eh1 (RSt_a t4 gf ⟨by have := g6.1; omega, by have := g6.2; omega⟩ (by have := u6.1; omega))
        · obtain ⟨eN13, Z13⟩ := BK h13 t13 gf
          have k13 := hk_lt AB.1 (by decide)
          refine ⟨fun y i => 0 ≤ i ∧ i ≤ 12 ∧ ∃ M : Nat, y = (M : Int) ∧ M < 4096 ∧ ∀ q, M.testBit q = true ↔ (q : Int) < i ∧ ¬ rsF (delF (inst N (rh N)) p0.toNat) B q = -1 ∧ ¬ needsP N nd (rsF (delF (inst N (rh N)) p0.toNat) B) q, fun _ i => (12 - i).toNat, ?_, ?_⟩
          · exact ⟨by omega, by omega, 0, rfl, by decide, fun q => ⟨fun z => (by rw [Nat.zero_testBit] at z; cases z), fun z => by omega⟩⟩
          · intro x15 x16 rx15 rx16 z17
            obtain ⟨i0, i1, M, eM, lM, hM⟩ := z17
            refine ⟨fun c42 => ?_, fun c42 => ?_⟩
            · refine ⟨fun i g => 0 ≤ i ∧ i ≤ 12 ∧ Fr (fun _ => False) h4 g ∧ g.length = h9.length ∧ xhs g = xhs h9 ∧ AR g a5 (upF (rsF (delF (inst N (rh N)) p0.toNat) B) M i), fun i _ => (12 - i).toNat, ?_, ?_⟩
              · exact ⟨by omega, by omega, gf, gl, gx, ⟨AB.1, AB.2.1, fun i hi => by rw [upF_n (by omega)]; exact AB.2.2 i hi⟩⟩
              · intro x18 h19 t19 s19 rx18 z20
                obtain ⟨j0, j1, qf, ql, qx, qA⟩ := z20
                refine ⟨fun c31 => ?_, fun c31 => ?_⟩
                · intro x21 ex21 rx21
                  have dN : ∀ q, M.testBit q = true → ¬ delF (inst N (rh N)) p0.toNat q = -1 ∧ ∀ B', closedB N nd (delF (inst N (rh N)) p0.toNat) B' → B'.testBit q = true := fun q hq => by
                    obtain ⟨y1, y2, y3⟩ := (hM q).mp hq
                    have tb : B.testBit q = false := by
                      cases e : B.testBit q with
                      | false => rfl
                      | true => rw [rsF_in e] at y2; exact absurd rfl y2
                    rw [rsF_out tb] at y2
                    exact ⟨y2, inCl_add (by omega) iB tb y2 y3⟩
                  refine ⟨⟨B ||| M, by rw [ex21, eB, eM, ior_nat (by omega) (by omega)], inCl_or iB lM dN, fun y0 => ?_, ⟨qA.1, qA.2.1, fun i hi => ?_⟩, qf, ql, qx⟩, ?_⟩
                  · have : M = 0 := by omega
                    rw [this, Nat.or_zero]
                    intro p hp nf tb
                    refine Classical.byContradiction fun nn => ?_
                    have := (hM p).mpr ⟨by omega, by rw [rsF_out tb]; exact nf, nn⟩
                    rw [show M = 0 by omega, Nat.zero_testBit] at this
                    cases this
                  · rw [qA.2.2 i hi]
                    by_cases c : M.testBit i = true
                    · rw [upF_y (by omega) c, rsF_in (by rw [Nat.testBit_or, c, Bool.or_true])]
                    · rw [upF_n (fun z => c z.2)]
                      unfold rsF
                      rw [Nat.testBit_or, bt c, Bool.or_false]
                  · dsimp only
                    rw [if_neg c43]
                    by_cases y0 : x15 = 0
                    · rw [if_pos y0]
                      have := cntN_le x10.toNat.testBit 12
                      omega
                    · rw [if_neg y0, ex21, eB, eM, ior_nat (by omega) (by omega), Int.toNat_natCast, Int.toNat_natCast]
                      obtain ⟨p, hp, b⟩ := tb_ex lM (by omega)
                      have tb : B.testBit p = false := by
                        cases e : B.testBit p with
                        | false => rfl
                        | true => exact absurd (rsF_in e) ((hM p).mp b).2.1
                      have := cntN_lt (g := B.testBit) (k := (B ||| M).testBit) 12 (fun i _ y => by rw [Nat.testBit_or, y]; rfl) ⟨p, hp, by rw [Nat.testBit_or, b, Bool.or_true], tb⟩
                      have := cntN_le (B ||| M).testBit 12
                      omega
                · have bi := bitI (a := M) (n := x18.toNat) (by omega) (by omega)
                  rw [← eM, show ((x18.toNat : Nat) : Int) = x18 by omega] at bi
                  have k19 := hk_lt qA.1 (by decide)
                  have rrg : rg (rsF (delF (inst N (rh N)) p0.toNat) B x18.toNat) := by
                    rw [← AB.2.2 x18.toNat (by omega)]
                    exact rgh _ _ _
                  refine ⟨fun v => v = if M.testBit x18.toNat = true then -1 else rsF (delF (inst N (rh N)) p0.toNat) B x18.toNat, ?_, ?_⟩
                  · intro x22 rx22 z23
                    refine ⟨qA.1, ?_⟩
                    refine ⟨(by rw [qA.2.1]; omega), ?_⟩
                    intro h26 eh26 t26 u26
                    intro x27 ex27 rx27
                    rw [wr_of (by omega) (by omega)] at ex27
                    refine ⟨⟨by omega, by omega, fun b hb n => sameC_tr (qf b hb n) (by rw [eh26]; exact sameC_sV (by omega)), by rw [eh26, len_sV]; exact ql, by rw [eh26, xhs_sV]; exact qx, ⟨by rw [eh26, hk_sV]; exact qA.1, by rw [eh26, hn_sV]; exact qA.2.1, fun i hi => ?_⟩⟩, by dsimp only; omega⟩
                    by_cases c : i = x18.toNat
                    · rw [c, eh26, hI_eq (by rw [qA.2.1]; omega) rx22, z23]
                      by_cases d : M.testBit x18.toNat = true
                      · rw [if_pos d, upF_y (by omega) d]
                      · rw [if_neg d, upF_n (fun z => d z.2)]
                    · rw [eh26, hI_ni (fun z => c z.symm), qA.2.2 i hi]
                      by_cases d : (i : Int) < x18 ∧ M.testBit i = true
                      · rw [upF_y d.1 d.2, upF_y (by omega) d.2]
                      · rw [upF_n d, upF_n (fun z => d ⟨by omega, z.2⟩)]
                  · refine ⟨fun c30 => ?_, fun c30 => ?_⟩
                    · refine ⟨qA.1, ?_⟩
                      refine ⟨(by rw [qA.2.1]; omega), ?_⟩
                      rw [qA.2.2 x18.toNat (by omega), upF_n (fun z => by omega)]
                      rw [if_neg (fun z => by rw [bi, if_pos z] at c30; exact c30 rfl)]
                    · rw [if_pos ?_]
                      cases e : M.testBit x18.toNat with
                      | true => rfl
                      | false => rw [bi, e] at c30; exact absurd (fun z => by cases z) c30
            · have e13 := AB.2.2 x16.toNat (by omega)
              have p2 : 2 ^ x16.toNat < 2 ^ 12 := Nat.pow_lt_pow_right (by decide) (by omega)
              refine ⟨AB.1, ?_⟩
              refine ⟨(by rw [AB.2.1]; omega), ?_⟩
              refine ⟨fun y => ∃ M1 : Nat, y = (M1 : Int) ∧ M1 < 4096 ∧ ∀ q, M1.testBit q = true ↔ q = x16.toNat ∧ ¬ rsF (delF (inst N (rh N)) p0.toNat) B q = -1 ∧ ¬ needsP N nd (rsF (delF (inst N (rh N)) p0.toNat) B) q, ?_, ?_⟩
              · intro x34 rx34 z35
                intro x36 ex36 rx36
                intro x37 ex37 rx37
                obtain ⟨M1, eM1, lM1, hM1⟩ := z35
                rw [wr_of (by omega) (by omega)] at ex37
                refine ⟨⟨by omega, by omega, M ||| M1, by rw [ex36, eM, eM1, ior_nat (by omega) (by omega)], Nat.or_lt_two_pow (n := 12) lM lM1, fun q => ?_⟩, by dsimp only; omega⟩
                rw [Nat.testBit_or, Bool.or_eq_true, hM q, hM1 q]
                constructor
                · rintro (⟨a, b⟩ | ⟨a, b⟩)
                  · exact ⟨by omega, b⟩
                  · exact ⟨by omega, b⟩
                · rintro ⟨a, b⟩
                  by_cases c : q = x16.toNat
                  · exact .inr ⟨c, b⟩
                  · exact .inl ⟨by omega, b⟩
              · refine ⟨¬ (¬ rsF (delF (inst N (rh N)) p0.toNat) B x16.toNat = -1 ∧ ¬ needsP N nd (rsF (delF (inst N (rh N)) p0.toNat) B) x16.toNat), ?_, ?_⟩
                · intro z38
                  refine ⟨0, rfl, by decide, fun q => ⟨fun z => (by rw [Nat.zero_testBit] at z; cases z), fun z => ?_⟩⟩
                  rw [z.1] at z
                  exact absurd z.2 z38
                · refine ⟨fun c41 => ?_, fun c41 => ?_⟩
                  · exact fun z => z.1 (by omega)
                  · refine c_X14_hasNeeds t13 eN13 W Z13 AB (fOK_rs fd) (by omega) (by omega) ?_
                    intro x39 qx39
                    intro rx39 vx39
                    refine ⟨fun c40 => ?_, fun c40 => ?_⟩
                    · exact fun z => z.2 ((bq1 qx39).2.2.1.mp c40)
                    · refine ⟨2 ^ x16.toNat, by rw [ishl1 (by omega)], p2, fun q => ?_⟩
                      rw [Nat.testBit_two_pow, decide_eq_true_eq]
                      exact ⟨fun z => ⟨z.symm, by rw [← z]; exact ⟨by omega, (bq1 qx39).2.1.mp (Decidable.not_not.mp c40)⟩⟩, fun z => z.1.symm⟩
    · rw [if_pos (show inst N (rh N) p0.toNat = -1 by omega)] at k
      exact k b_ _ _ t4 eh1 (RSt_a t4 f6 g6 u6.1)
  · have q_ : ¬ (0 ≤ p0 ∧ p0 < N 0) ∧ h4 = sI h1 437 5 1 := by
      rcases qx3 with ⟨y, _⟩ | ⟨_, y, z⟩
      · omega
      · exact ⟨y, z⟩
    exact k0 q_.1 _ _ _ t1 eh1 (RSt_mono (RSt_rf _ _) (by omega) (by omega)) t1 q_.2
theorem d_without {h : XH} {nd : Nat → ND} {o u p0 : Int} {c : Nat} (T : HT h) (R : Inv h nd o u c) {K : Int → XH → Prop} {J : XH → Prop} (k : ∀ h' o' u', HT h' → Inv h' nd o' u' (c + 1) → Gr (1 + 1) (xcs none + n12) h h' → J h') : w_L_without p0 (LDw h (fun g Q => w_X14_without p0 Q g) K J) h := by
  classical
  have W := R.1.2.1
  have C := R.1.1
  have hr := rh_lt W
  refine dask (e := if 0 ≤ p0 ∧ p0 < (nw h) 0 then 0 else 1) (x := if inst (nw h) (rh (nw h)) p0.toNat = -1 then 0 else (brkN (nw h) nd (delF (inst (nw h) (rh (nw h))) p0.toNat) : Nat)) (wL := fun Q => w_L_without p0 Q h) (wR := fun g Q => w_X14_without p0 Q g) (mkAe T R (fun Q q0 q1 => ?_)) (fun g Tg Rg eg => mkBe Tg Rg (by split <;> exact rgk rfl) (fun Q q0 q1 => ?_)) k
  · refine c_L_without T C W (DK_of (NTm_of R.1)) R.2.2.1  (fun y g t s => ?_) (fun y => q1 (if_pos y))
    have := q0 (by rw [if_neg y]; decide) g t s
    rw [if_neg y] at this
    exact this
  · refine c_X14_without (m := (hI g 437 7).toNat) Tg eg.symm (by rw [← eg]; exact Rg.1.2.1) (NTm_of Rg.1) (CS_i C hr).2.2.2 (fun y h1 h2 h3 t1 e1 r t2 e3 => ?_) (fun y => q1 (if_pos y))
    refine q0 (by rw [if_neg y]; decide) h1 h2 h3 t1 e1 r t2 ?_
    rw [if_neg y]
    exact e3
