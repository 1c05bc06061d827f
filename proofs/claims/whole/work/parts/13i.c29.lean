/-! WHAT MEETS WHAT: the class keeps it -/
theorem orN_n {P : Nat → Bool} {b : BitVec 64} {x : Int} (h0 : 0 ≤ x) (e : b = orN x.toNat P) (f : P x.toNat = false) : b = orN (x.toNat + 1) P := by
  show b = orN x.toNat P ||| (if P x.toNat = true then bit1 x.toNat else 0#64)
  rw [f, if_neg (by decide), BitVec.or_zero]; exact e
theorem orN_y {P : Nat → Bool} {b : BitVec 64} {x : Int} (h0 : 0 ≤ x ∧ x < 64) (e : b = orN x.toNat P) (t : P x.toNat = true) : b ||| lshl (1#64) x = orN (x.toNat + 1) P := by
  show b ||| lshl (1#64) x = orN x.toNat P ||| (if P x.toNat = true then bit1 x.toNat else 0#64)
  rw [if_pos t, ← e, show x = ((x.toNat : Nat) : Int) by omega, lshl1 (by omega), Int.toNat_natCast]
theorem c_meet0 {h : XH} {K : BitVec 64 → Prop} (k : K (0#64)) : w_X3_meeting 0 K h := by
  unfold w_X3_meeting
  refine ⟨fun b a => b = 0#64 ∧ a = 0, fun _ _ => 0, ⟨rfl, rfl⟩, ?_⟩
  rintro b a ⟨rfl, rfl⟩
  exact ⟨fun _ => k, fun n => absurd rfl n⟩
/-- the class's cells behind what it works out of needs -/
def MtQ (h g : XH) : Prop := Fr (fun b => 45 ≤ b ∧ b < 51) h g ∧ g.length = h.length ∧ xhs g = xhs h
theorem MtQ_rf (h : XH) : MtQ h h := ⟨Fr_rf _ _, rfl, rfl⟩
theorem MtQ_st {h g g1 : XH} {a i : Nat} {b : BitVec 64} (q : MtQ h g) (e : g1 = sL g a i b) (ha : 45 ≤ a ∧ a < 51) : MtQ h g1 := by
  refine ⟨Fr_tr q.1 (by rw [q.2.1]; exact Nat.le_refl _) (by rw [e]; exact Fr_sV ha), ?_, ?_⟩
  · rw [e, len_sV]; exact q.2.1
  · rw [e, xhs_sV]; exact q.2.2
theorem MtQ_CS {h g : XH} {N : Nat → Int} {nd : Nat → ND} {m : Nat} (T : HT h) (C : CS h 8 N nd) (W : WF N m) (q : MtQ h g) : CS g 8 N nd := by
  have L := HT_len T
  exact CS_fr (fun j hj => q.1 (8 + j) (by omega) (by omega)) (txt_fr T q.1 (fun b y => by omega)) (WF_b W) C
theorem hL_st {h g : XH} {a i : Nat} {b : BitVec 64} (e : g = sL h a i b) (hi : i < hn h a) (j : Nat) : hL g a j = if j = i then b else hL h a j := by
  by_cases c : j = i
  · rw [if_pos c, c, e]; exact hL_eq hi
  · rw [if_neg c, e]; exact hL_ni (fun z => c z.symm)
theorem hL_so {h g : XH} {a c i : Nat} {b : BitVec 64} (e : g = sL h a i b) (n : ¬ a = c) (j : Nat) : hL g c j = hL h c j := by rw [e]; exact hL_ne n
def MV (h : XH) (N : Nat → Int) (nd : Nat → ND) (v : Nat) : Prop := (∀ k : Nat, k < 3 → (k : Int) < nV N v 7 → hL h 45 (3 * v + k) = mNeed N nd (nV N v (8 + k))) ∧ (∀ k : Nat, k < 2 → (k : Int) < nV N v 12 → hL h 46 (2 * v + k) = mNeed N nd (nV N v (13 + k))) ∧ hL h 47 v = mNeed N nd (nV N v 6 - 1)
theorem MV_fr {h g : XH} {N : Nat → Int} {nd : Nat → ND} {v : Nat} (e45 : ∀ k, k < 3 → hL g 45 (3 * v + k) = hL h 45 (3 * v + k)) (e46 : ∀ k, k < 2 → hL g 46 (2 * v + k) = hL h 46 (2 * v + k)) (e47 : hL g 47 v = hL h 47 v) (z : MV h N nd v) : MV g N nd v :=
  ⟨fun k a b => (e45 k a).trans (z.1 k a b), fun k a b => (e46 k a).trans (z.2.1 k a b), e47.trans z.2.2⟩
theorem MV_o {h g : XH} {N : Nat → Int} {nd : Nat → ND} {v a i : Nat} {b : BitVec 64} (e : g = sL h a i b) (n : 48 ≤ a) (z : MV h N nd v) : MV g N nd v :=
  MV_fr (fun _ _ => hL_so e (by omega) _) (fun _ _ => hL_so e (by omega) _) (hL_so e (by omega) _) z
theorem mNeed_p {N : Nat → Int} {nd : Nat → ND} {x : Int} (h : 0 ≤ x) : mNeed N nd x = nMask N (nd x.toNat) := if_neg (by omega)
theorem mNeed_n {N : Nat → Int} {nd : Nat → ND} {x : Int} (h : x < 0) : mNeed N nd x = 0#64 := if_pos h
theorem c_meeting {a : Nat} {x : Int} {h : XH} {N : Nat → Int} {nd : Nat → ND} {m : Nat} (T : HT h) (C : CS h 8 N nd) (W : WF N m) (dk : DK nd m) (z : x < 0 ∧ a = 0 ∨ (0 ≤ x ∧ x < m) ∧ AtomR h a (nd x.toNat)) {K : BitVec 64 → Prop} (k : K (mNeed N nd x)) : w_X3_meeting a K h := by
  rcases z with ⟨z, rfl⟩ | ⟨z, A⟩
  · rw [mNeed_n z] at k; exact c_meet0 k
  · rw [mNeed_p z.1] at k; exact c_X3_meeting T C W A (dk _ (by omega)) k
def oP (N : Nat → Int) (p v : Nat) : Bool := decide (nV N v 0 = p) && decide (0 < nV N v 6)
def iP (N : Nat → Int) (d : ND) (p v : Nat) : Bool := decide (nV N v 0 = p) && rmet (rng d) (nV N v 1)
set_option maxHeartbeats 1000000 in
theorem c_X8_withOption {p0 : Int} {h : XH} {N : Nat → Int} {nd : Nat → ND} {m : Nat} (T : HT h) (C : CS h 8 N nd) (W : WF N m) (dk : DK nd m) (hp : 0 ≤ p0) {K : BitVec 64 → Prop} (k : K (oMask N p0.toNat)) : w_X8_withOption p0 K h := by
  unfold w_X8_withOption
  obtain ⟨p, rfl⟩ : ∃ p : Nat, p0 = p := ⟨p0.toNat, by omega⟩
  rw [Int.toNat_natCast] at k
  have w4 := W.1.2.2.1
  have w40 := W.1.2.2.2.1
  have V1 := (V80 C.1).2
  have vcN : vc N = (N 4).toNat := rfl
  refine ⟨fun b x => 0 ≤ x ∧ x ≤ N 4 ∧ b = orN x.toNat (oP N p), fun _ x => (N 4 - x).toNat, ?_, ?_⟩
  · exact ⟨by omega, w4, rfl⟩
  · intro b1 x2 rx2 z3
    obtain ⟨z0, z1, zb⟩ := z3
    refine ⟨fun c11 => ?_, fun c11 => ?_⟩
    · rw [zb, show x2.toNat = vc N by omega]
      exact k
    · obtain ⟨v0, v1, v2, v3, v4, v5, v6, -⟩ := V8 C.1 (show x2.toNat < vc N by omega)
      refine ⟨(by omega), ?_⟩
      refine ⟨fun b => b = orN (x2.toNat + 1) (oP N p), ?_, ?_⟩
      · intro b5 z6
        intro x7 ex7 rx7
        rw [wr_of (by omega) (by omega)] at ex7
        exact ⟨⟨by omega, by omega, by rw [z6, show x7.toNat = x2.toNat + 1 by omega]⟩, by dsimp only; omega⟩
      · refine ⟨fun c10 => ?_, fun c10 => ?_⟩
        · refine orN_n z0 zb ?_
          unfold oP
          rw [df (by omega), Bool.false_and]
        · refine ⟨fun c9 => ?_, fun c9 => ?_⟩
          · refine orN_n z0 zb ?_
            unfold oP
            rcases v6 with ⟨y, -⟩ | ⟨y, A⟩
            · rw [df (show ¬ 0 < nV N x2.toNat 6 by omega), Bool.and_false]
            · exact absurd c9 (AtomR_nz T A (dk _ (by have := W.1.2.2.2.2.1 x2.toNat (by omega); omega)))
          · intro b8 eb8
            rw [eb8]
            refine orN_y (by omega) zb ?_
            unfold oP
            rcases v6 with ⟨-, y⟩ | ⟨y, -⟩
            · exact absurd y c9
            · rw [dt (by omega), dt y]; rfl
set_option maxHeartbeats 1000000 in
theorem c_X8_inRangeOf {p0 : Int} {p1 : Nat} {d : ND} {h : XH} {N : Nat → Int} {nd : Nat → ND} {m : Nat} (T : HT h) (C : CS h 8 N nd) (W : WF N m) (hp : 0 ≤ p0) (S : SpanR h p1 d) (ok : ndOK d) {K : BitVec 64 → Prop} (k : K (orN (vc N) (iP N d p0.toNat))) : w_X8_inRangeOf p0 p1 K h := by
  unfold w_X8_inRangeOf
  obtain ⟨p, rfl⟩ : ∃ p : Nat, p0 = p := ⟨p0.toNat, by omega⟩
  rw [Int.toNat_natCast] at k
  have w4 := W.1.2.2.1
  have w40 := W.1.2.2.2.1
  have V1 := (V80 C.1).2
  have vcN : vc N = (N 4).toNat := rfl
  have okr : ∀ q ∈ rng d, sOK q := by
    unfold rng
    cases e : d.2 with
    | nil => exact absurd e ok.2.1
    | cons a l => exact (ok.2.2.2.1 a (by rw [e]; exact List.mem_cons_self ..)).2.2
  refine ⟨fun b x => 0 ≤ x ∧ x ≤ N 4 ∧ b = orN x.toNat (iP N d p), fun _ x => (N 4 - x).toNat, ?_, ?_⟩
  · exact ⟨by omega, w4, rfl⟩
  · intro b1 x2 rx2 z3
    obtain ⟨z0, z1, zb⟩ := z3
    refine ⟨fun c12 => ?_, fun c12 => ?_⟩
    · rw [zb, show x2.toNat = vc N by omega]
      exact k
    · obtain ⟨v0, v1, -⟩ := V8 C.1 (show x2.toNat < vc N by omega)
      have wv := W.1.2.2.2.2.1 x2.toNat (by omega)
      refine ⟨(by omega), ?_⟩
      refine ⟨fun b => b = orN (x2.toNat + 1) (iP N d p), ?_, ?_⟩
      · intro b5 z6
        intro x7 ex7 rx7
        rw [wr_of (by omega) (by omega)] at ex7
        exact ⟨⟨by omega, by omega, by rw [z6, show x7.toNat = x2.toNat + 1 by omega]⟩, by dsimp only; omega⟩
      · refine ⟨fun c11 => ?_, fun c11 => ?_⟩
        · refine orN_n z0 zb ?_
          unfold iP
          rw [df (by omega), Bool.false_and]
        · rw [v1]
          refine c_X10_isAnyMet T (by omega) S (nrm_ok okr) ?_
          intro x8 qx8
          intro rx8 vx8
          refine ⟨fun c10 => ?_, fun c10 => ?_⟩
          · refine orN_n z0 zb ?_
            unfold iP rmet rng
            rw [bt ((bq1 qx8).2.1.mp c10), Bool.and_false]
          · intro b9 eb9
            rw [eb9]
            refine orN_y (by omega) zb ?_
            unfold iP rmet rng
            rw [dt (by omega), (bq1 qx8).2.2.1.mp c10]
            rfl
theorem vers_at {h : XH} {N : Nat → Int} {m : Nat} (W : WV N m) (C : CSP h 8 N) {p : Nat} (hp : p < pc N) (j : Nat) : ((hL h 11 p) &&& (1099511627775#64)).getLsbD j = (decide (j < vc N) && decide (nV N j 0 = p)) := by
  have a := (P8 C hp).2.2.1 j
  have b12 := W.2.1
  have v40 := W.2.2.2.1
  have vcN : vc N = (N 4).toNat := rfl
  have pcN : pc N = (N 0).toNat := rfl
  rw [BitVec.getLsbD_and]
  by_cases hj : j < 64
  · have m40 : ∀ m : Fin 64, (1099511627775#64 : BitVec 64).getLsbD m.1 = decide (m.1 < 40) := by decide +kernel
    rw [m40 ⟨j, hj⟩]
    by_cases c : j < vc N ∧ nV N j 0 = p
    · rw [dt c.1, dt c.2, a.mpr (.inl c), dt (show j < 40 by omega)]
    · by_cases e : j < 40
      · rw [bt (fun z => (a.mp z).elim c (fun y => by omega)), Bool.false_and]
        by_cases x : j < vc N
        · rw [df (show ¬ nV N j 0 = (p : Int) from fun y => c ⟨x, y⟩), Bool.and_false]
        · rw [df x, Bool.false_and]
      · rw [df e, Bool.and_false, df (show ¬ j < vc N by omega), Bool.false_and]
  · rw [BitVec.getLsbD_of_ge _ _ (by omega), Bool.false_and, df (by omega), Bool.false_and]
/-- the versions of a package -/
def vMask (N : Nat → Int) (p : Nat) : BitVec 64 := orN (vc N) (fun v => decide (nV N v 0 = p))
theorem vers_e {h : XH} {N : Nat → Int} {m : Nat} (W : WV N m) (C : CSP h 8 N) {p : Nat} (hp : p < pc N) : (hL h 11 p) &&& (1099511627775#64) = vMask N p := by
  apply BitVec.eq_of_getLsbD_eq
  intro j _
  have := W.2.2.2.1
  unfold vMask
  rw [vers_at W C hp, orN_at _ _ _ (by unfold vc; omega)]
theorem barred_e {N : Nat → Int} {m : Nat} (W : WV N m) {p : Nat} (d : ND) : vMask N p &&& ((orN (vc N) (iP N d p)) ^^^ (18446744073709551615#64)) = pMask N d p := by
  apply BitVec.eq_of_getLsbD_eq
  intro j hj
  have := W.2.2.2.1
  have v64 : vc N ≤ 64 := by unfold vc; omega
  have al : ∀ m : Fin 64, (18446744073709551615#64 : BitVec 64).getLsbD m.1 = true := by decide +kernel
  unfold pMask vMask iP
  rw [BitVec.getLsbD_and, BitVec.getLsbD_xor, orN_at _ _ _ v64, orN_at _ _ _ v64, orN_at _ _ _ v64, al ⟨j, hj⟩]
  cases decide (j < vc N) <;> cases decide (nV N j 0 = p) <;> cases rmet (rng d) (nV N j 1) <;> rfl
set_option maxHeartbeats 1000000 in
theorem c_X8_versionsOf {p0 : Int} {h : XH} {N : Nat → Int} {nd : Nat → ND} {m : Nat} (T : HT h) (C : CS h 8 N nd) (W : WF N m) (hp : 0 ≤ p0 ∧ p0 < N 0) {K : BitVec 64 → Prop} (k : K (vMask N p0.toNat)) : w_X8_versionsOf p0 K h := by
  unfold w_X8_versionsOf
  have b12 := W.1.2.1
  refine ⟨(by omega), ?_⟩
  rw [vers_e W.1 C.2.1 (by unfold pc; omega)]
  exact k
set_option maxHeartbeats 4000000 in
theorem c_X3_renew {h : XH} {N : Nat → Int} {nd : Nat → ND} {m : Nat} (T : HT h) (C : CS h 8 N nd) (W : WF N m) (dk : DK nd m) {K : XH → Prop} (k : ∀ g, MtQ h g → MetOK g N nd → K g) : w_X3_renew K h := by
  unfold w_X3_renew
  have w4 := W.1.2.2.1
  have w40 := W.1.2.2.2.1
  have w0 := W.1.1
  have w12 := W.1.2.1
  have vcN : vc N = (N 4).toNat := rfl
  have hr := rh_lt W
  have cs : ∀ {g}, MtQ h g → CS g 8 N nd := fun q => MtQ_CS T C W q
  have n45 : ∀ {g}, HT g → hn g 45 = 120 := fun t => lyn (c := 101) (n := 120) t rfl
  have n46 : ∀ {g}, HT g → hn g 46 = 80 := fun t => lyn (c := 101) (n := 80) t rfl
  have n47 : ∀ {g}, HT g → hn g 47 = 40 := fun t => lyn (c := 101) (n := 40) t rfl
  have n48 : ∀ {g}, HT g → hn g 48 = 12 := fun t => lyn (c := 101) (n := 12) t rfl
  have n49 : ∀ {g}, HT g → hn g 49 = 8 := fun t => lyn (c := 101) (n := 8) t rfl
  have n50 : ∀ {g}, HT g → hn g 50 = 12 := fun t => lyn (c := 101) (n := 12) t rfl
  have k7 : ∀ {g}, HT g → hk g (rc (rh N)) = 7 := fun t => rc_k t hr
  refine ⟨fun x g => 0 ≤ x ∧ x ≤ N 4 ∧ MtQ h g ∧ (∀ v : Nat, v < x.toNat → MV g N nd v), fun x _ => (N 4 - x).toNat, ?_, ?_⟩
  · exact ⟨by omega, w4, MtQ_rf h, fun v hv => by omega⟩
  · intro x1 h3 t3 s3 rx1 z4
    obtain ⟨z0, z1, zq, zv⟩ := z4
    have C3 := cs zq
    have V1 := (V80 C3.1).2
    have P1 := (V80 C3.1).1
    refine ⟨fun c56 => ?_, fun c56 => ?_⟩
    · have r0 := (W.2.1 (rh N) hr).1
      have r8 := (W.2.1 (rh N) hr).2.1
      refine c_atH C3 W ?_
      refine ⟨fun x g => 0 ≤ x ∧ x ≤ nR N (rh N) 0 ∧ MtQ h g ∧ (∀ v : Nat, v < vc N → MV g N nd v) ∧ ∀ w : Nat, w < 8 → (w : Int) < x → hL g 49 w = mNeed N nd (nR N (rh N) (1 + w)), fun x _ => (nR N (rh N) 0 - x).toNat, ?_, ?_⟩
      · exact ⟨by omega, r0, zq, fun v hv => zv v (by omega), fun w _ y => by omega⟩
      · intro x6 h7 t7 s7 rx6 z8
        obtain ⟨y0, y1, yq, yv, yw⟩ := z8
        have C7 := cs yq
        have R7 := R8 (C7.2.2.1 (rh N) hr)
        have P7 := (V80 C7.1).1
        refine ⟨(k7 t7), ?_⟩
        refine ⟨fun c31 => ?_, fun c31 => ?_⟩
        · refine ⟨fun x g => 0 ≤ x ∧ x ≤ N 0 ∧ MtQ h g ∧ (∀ v : Nat, v < vc N → MV g N nd v) ∧ (∀ w : Nat, w < 8 → (w : Int) < nR N (rh N) 0 → hL g 49 w = mNeed N nd (nR N (rh N) (1 + w))) ∧ ∀ p : Nat, (p : Int) < x → hL g 48 p = oMask N p ∧ hL g 50 p = if nR N (rh N) (10 + p) = 0 then 0#64 else pMask N (nd (nR N (rh N) (10 + p) - 1).toNat) p, fun x _ => (N 0 - x).toNat, ?_, ?_⟩
          · exact ⟨by omega, w0, yq, yv, fun w a b => yw w a (by omega), fun p hp => by omega⟩
          · intro x10 h12 t12 s12 rx10 z13
            obtain ⟨u0, u1, uq, uv, uw, up⟩ := z13
            have C12 := cs uq
            have P12 := (V80 C12.1).1
            refine ⟨fun c26 => ?_, fun c26 => ?_⟩
            · exact k _ uq ⟨fun v hv => uv v hv, fun w a b => uw w a b, fun p hp => up p (by unfold pc at hp; omega)⟩
            · refine c_X8_withOption t12 C12 W dk (by omega) ?_
              refine ⟨(by omega), ?_⟩
              intro h16 eh16 t16 u16
              have q16 : MtQ h h16 := MtQ_st uq eh16 (by decide)
              have C16 := cs q16
              have R16 := R8 (C16.2.2.1 (rh N) hr)
              have pn := R16.2.2.2.1 x10.toNat (by omega)
              have pw := (W.2.1 (rh N) hr).2.2.2.2.2.2.1 x10.toNat (by omega)
              refine ⟨(k7 t16), ?_⟩
              intro a18 ea18
              refine ⟨fun b => b = if nR N (rh N) (10 + x10.toNat) = 0 then 0#64 else pMask N (nd (nR N (rh N) (10 + x10.toNat) - 1).toNat) x10.toNat, ?_, ?_⟩
              · intro b19 z20
                intro h21 eh21 t21 u21
                intro x22 ex22 rx22
                rw [wr_of (by omega) (by omega)] at ex22
                refine ⟨⟨by omega, by omega, MtQ_st q16 eh21 (by decide), fun v hv => MV_o eh21 (by decide) (MV_o eh16 (by decide) (uv v hv)), fun w a b => by rw [hL_so eh21 (by decide), hL_so eh16 (by decide)]; exact uw w a b, fun p hp => ?_⟩, by dsimp only; omega⟩
                rw [hL_so eh21 (show ¬ 50 = 48 by decide), hL_st eh16 (by rw [n48 t12]; omega), hL_st eh21 (by rw [n50 t16]; omega), hL_so eh16 (show ¬ 48 = 50 by decide)]
                by_cases c : p = x10.toNat
                · rw [if_pos c, if_pos c, c]; exact ⟨rfl, z20⟩
                · rw [if_neg c, if_neg c]; exact up p (by omega)
              · refine ⟨fun c25 => ?_, fun c25 => ?_⟩
                · have pS : ¬ nR N (rh N) (10 + x10.toNat) = 0 ∧ SpanR h16 a18 (nd (nR N (rh N) (10 + x10.toNat) - 1).toNat) := by
                    rcases pn with ⟨-, y⟩ | ⟨y, S⟩
                    · exact absurd (ea18.trans y) c25
                    · rw [ea18]; exact ⟨by omega, S⟩
                  refine c_X8_versionsOf t16 C16 W (by omega) ?_
                  refine c_X8_inRangeOf t16 C16 W (by omega) pS.2 (dk _ (by omega)) ?_
                  rw [if_neg pS.1]
                  exact barred_e W.1 _
                · rcases pn with ⟨y, -⟩ | ⟨y, S⟩
                  · rw [if_pos y]
                  · exact absurd (ea18.symm.trans (Classical.not_not.mp c25)) (SpanR_nz t16 S)
        · have rw1 := R7.2.1 x6.toNat (by omega) (by omega)
          have rw2 := (W.2.1 (rh N) hr).2.2.1 x6.toNat (by omega) (by omega)
          refine ⟨(by omega), ?_⟩
          refine c_meeting t7 C7 W dk (x := nR N (rh N) (1 + x6.toNat)) (rw1.elim (fun y => .inl ⟨by omega, y.2⟩) (fun y => .inr ⟨⟨y.1, by omega⟩, y.2⟩)) ?_
          intro h29 eh29 t29 u29
          intro x30 ex30 rx30
          rw [wr_of (by omega) (by omega)] at ex30
          refine ⟨⟨by omega, by omega, MtQ_st yq eh29 (by decide), fun v hv => MV_o eh29 (by decide) (yv v hv), fun w a b => ?_⟩, by dsimp only; omega⟩
          rw [hL_st eh29 (by rw [n49 t7]; omega)]
          by_cases c : w = x6.toNat
          · rw [if_pos c, c]
          · rw [if_neg c]; exact yw w a (by omega)
    · have hv : x1.toNat < vc N := by omega
      have wv := W.1.2.2.2.2.1 x1.toNat hv
      refine ⟨fun x g => 0 ≤ x ∧ x ≤ nV N x1.toNat 7 ∧ MtQ h g ∧ (∀ v : Nat, v < x1.toNat → MV g N nd v) ∧ ∀ k : Nat, k < 3 → (k : Int) < x → hL g 45 (3 * x1.toNat + k) = mNeed N nd (nV N x1.toNat (8 + k)), fun x _ => (nV N x1.toNat 7 - x).toNat, ?_, ?_⟩
      · exact ⟨by omega, wv.2.2.2.2.2.2.2.2.2.2.2.1, zq, zv, fun k _ y => by omega⟩
      · intro x32 h33 t33 s33 rx32 z34
        obtain ⟨z0b, z1b, zqb, zvb, znb⟩ := z34
        have C33 := cs zqb
        have V33 := V8 C33.1 hv
        refine ⟨(by omega), ?_⟩
        refine ⟨fun c55 => ?_, fun c55 => ?_⟩
        · refine ⟨fun x g => 0 ≤ x ∧ x ≤ nV N x1.toNat 12 ∧ MtQ h g ∧ (∀ v : Nat, v < x1.toNat → MV g N nd v) ∧ (∀ k : Nat, k < 3 → (k : Int) < nV N x1.toNat 7 → hL g 45 (3 * x1.toNat + k) = mNeed N nd (nV N x1.toNat (8 + k))) ∧ ∀ k : Nat, k < 2 → (k : Int) < x → hL g 46 (2 * x1.toNat + k) = mNeed N nd (nV N x1.toNat (13 + k)), fun x _ => (nV N x1.toNat 12 - x).toNat, ?_, ?_⟩
          · exact ⟨by omega, wv.2.2.2.2.2.2.2.2.2.2.2.2.2.2.2.2.1, zqb, zvb, fun k a b => znb k a (by omega), fun k _ y => by omega⟩
          · intro x36 h37 t37 s37 rx36 z38
            obtain ⟨z0c, z1c, zqc, zvc, znc, zbc⟩ := z38
            have C37 := cs zqc
            have V37 := V8 C37.1 hv
            refine ⟨fun c48 => ?_, fun c48 => ?_⟩
            · refine c_meeting t37 C37 W dk (x := nV N x1.toNat 6 - 1) (V37.2.2.2.2.2.2.1.elim (fun y => .inl ⟨by omega, y.2⟩) (fun y => .inr ⟨⟨by omega, by omega⟩, y.2⟩)) ?_
              intro h40 eh40 t40 u40
              intro x41 ex41 rx41
              rw [wr_of (by omega) (by omega)] at ex41
              have v40 : x1.toNat < 40 := by omega
              refine ⟨⟨by omega, by omega, MtQ_st zqc eh40 (by decide), fun v hv2 => ?_⟩, by dsimp only; omega⟩
              by_cases c : v = x1.toNat
              · subst c
                refine ⟨fun k a b => ?_, fun k a b => ?_, ?_⟩
                · rw [hL_so eh40 (by decide)]; exact znc k a b
                · rw [hL_so eh40 (by decide)]; exact zbc k a (by omega)
                · rw [hL_st eh40 (by rw [n47 t37]; omega), if_pos rfl]
              · refine MV_fr (fun _ _ => hL_so eh40 (by decide) _) (fun _ _ => hL_so eh40 (by decide) _) ?_ (zvc v (by omega))
                rw [hL_st eh40 (by rw [n47 t37]; omega), if_neg c]
            · intro x42 ex42 rx42
              rw [wr_of (x := x1 * 2) (by omega) (by omega), wr_of (by omega) (by omega)] at ex42
              have e42 : x42.toNat = 2 * x1.toNat + x36.toNat := by omega
              have bk := V37.2.2.2.2.2.2.2.2.2.2.1 x36.toNat (by omega) (by omega)
              have bw := wv.2.2.2.2.2.2.2.2.2.2.2.2.2.2.2.2.2.2.1 x36.toNat (by omega) (by omega)
              refine ⟨(by omega), ?_⟩
              refine c_meeting t37 C37 W dk (x := nV N x1.toNat (13 + x36.toNat)) (.inr ⟨by omega, by rw [e42]; exact bk⟩) ?_
              refine ⟨(by rw [wr_of (x := x1 * 2) (by omega) (by omega), wr_of (by omega) (by omega)]; omega), ?_⟩
              intro h46 eh46 t46 u46
              intro x47 ex47 rx47
              rw [wr_of (x := x1 * 2) (by omega) (by omega), wr_of (x := x1 * 2 + x36) (by omega) (by omega), show (x1 * 2 + x36).toNat = 2 * x1.toNat + x36.toNat by omega] at eh46
              rw [wr_of (by omega) (by omega)] at ex47
              have lt : 2 * x1.toNat + x36.toNat < hn h37 46 := by rw [n46 t37]; omega
              refine ⟨⟨by omega, by omega, MtQ_st zqc eh46 (by decide), fun v hv2 => MV_fr (fun _ _ => hL_so eh46 (by decide) _) (fun k hk => by rw [hL_st eh46 lt, if_neg (by omega)]) (hL_so eh46 (by decide) _) (zvc v hv2), fun k a b => by rw [hL_so eh46 (by decide)]; exact znc k a b, fun k a b => ?_⟩, by dsimp only; omega⟩
              rw [hL_st eh46 lt]
              by_cases c : k = x36.toNat
              · rw [if_pos (by omega), c]
              · rw [if_neg (by omega)]; exact zbc k a (by omega)
        · intro x49 ex49 rx49
          rw [wr_of (x := x1 * 3) (by omega) (by omega), wr_of (by omega) (by omega)] at ex49
          have e49 : x49.toNat = 3 * x1.toNat + x32.toNat := by omega
          have nk := (V33.2.2.2.2.2.2.2.2.1 x32.toNat (by omega) (by omega)).1
          have nw_ := wv.2.2.2.2.2.2.2.2.2.2.2.2.2.1 x32.toNat (by omega) (by omega)
          refine ⟨(by omega), ?_⟩
          refine c_meeting t33 C33 W dk (x := nV N x1.toNat (8 + x32.toNat)) (.inr ⟨by omega, by rw [e49]; exact nk⟩) ?_
          refine ⟨(by rw [wr_of (x := x1 * 3) (by omega) (by omega), wr_of (by omega) (by omega)]; omega), ?_⟩
          intro h53 eh53 t53 u53
          intro x54 ex54 rx54
          rw [wr_of (x := x1 * 3) (by omega) (by omega), wr_of (x := x1 * 3 + x32) (by omega) (by omega), show (x1 * 3 + x32).toNat = 3 * x1.toNat + x32.toNat by omega] at eh53
          rw [wr_of (by omega) (by omega)] at ex54
          have lt : 3 * x1.toNat + x32.toNat < hn h33 45 := by rw [n45 t33]; omega
          refine ⟨⟨by omega, by omega, MtQ_st zqb eh53 (by decide), fun v hv2 => MV_fr (fun k hk => by rw [hL_st eh53 lt, if_neg (by omega)]) (fun _ _ => hL_so eh53 (by decide) _) (hL_so eh53 (by decide) _) (zvb v hv2), fun k a b => ?_⟩, by dsimp only; omega⟩
          rw [hL_st eh53 lt]
          by_cases c : k = x32.toNat
          · rw [if_pos (by omega), c]
          · rw [if_neg (by omega)]; exact znb k a (by omega)
/-- the class works something out -/
def CSt (h h1 : XH) (N : Nat → Int) (nd : Nat → ND) : Prop := (CaC h N nd → CaC h1 N nd) ∧ Fr (fun b => b = 2 ∨ (44 ≤ b ∧ b < 86)) h h1 ∧ (∀ j, j = 9 ∨ j = 10 → el h1 2 j = el h 2 j) ∧ h1.length = h.length ∧ xhs h1 = xhs h
theorem CSt_rf (h : XH) (N : Nat → Int) (nd : Nat → ND) : CSt h h N nd := ⟨id, Fr_rf _ _, fun _ _ => rfl, rfl, rfl⟩
theorem CSt_tr {h h1 h2 : XH} {N : Nat → Int} {nd : Nat → ND} (a : CSt h h1 N nd) (b : CSt h1 h2 N nd) : CSt h h2 N nd :=
  ⟨fun z => b.1 (a.1 z), Fr_tr a.2.1 (by rw [a.2.2.2.1]; exact Nat.le_refl _) b.2.1, fun j hj => (b.2.2.1 j hj).trans (a.2.2.1 j hj), b.2.2.2.1.trans a.2.2.2.1, b.2.2.2.2.trans a.2.2.2.2⟩
theorem CSt_CS {h g : XH} {N : Nat → Int} {nd : Nat → ND} {m : Nat} (T : HT h) (C : CS h 8 N nd) (W : WF N m) (q : CSt h g N nd) : CS g 8 N nd := by
  have L := HT_len T
  exact CS_fr (fun j hj => q.2.1 (8 + j) (by omega) (by omega)) (txt_fr T q.2.1 (fun b y => by omega)) (WF_b W) C
theorem CSt_nw {h g : XH} {N : Nat → Int} {nd : Nat → ND} (T : HT h) (q : CSt h g N nd) : nw g = nw h := nw_fr (q.2.1 438 (by have := HT_len T; omega) (by decide))
/-- only what is worked out for the moment has changed -/
theorem CSt_s {h h1 : XH} {N : Nat → Int} {nd : Nat → ND} (T : HT h) (f : Fr (fun b => 79 ≤ b ∧ b < 86) h h1) (l : h1.length = h.length) (x : xhs h1 = xhs h) : CSt h h1 N nd := by
  have L := HT_len T
  have s2 : sameC h h1 2 := f 2 (by omega) (by omega)
  exact ⟨CaC_fr (fun b a c => f b (by omega) (by omega)) (sameC_el s2 11), Fr_mono f (fun b y => by omega), fun j _ => sameC_el s2 j, l, x⟩
theorem CSt_Inv {h h1 : XH} {nd : Nat → ND} {o u : Int} {c : Nat} (T : HT h) (R : Inv h nd o u c) (r : CSt h h1 (nw h) nd) : Inv h1 nd o u c := by
  obtain ⟨R1, R2, R3, R4⟩ := R
  have en := CSt_nw T r
  obtain ⟨r1, r2, r3, -, -⟩ := r
  have L := HT_len T
  have G : ∀ b, b < h.length → ¬ (b = 2 ∨ (44 ≤ b ∧ b < 86)) → sameC h h1 b := fun b hb n => r2 b hb n
  have s37 : sameC h h1 437 := G 437 (by omega) (by decide)
  have ep : ∀ k, pst h1 k = pst h k := fun k => pst_fr (G 439 (by omega) (by decide)) k
  obtain ⟨b1, b2, b3, b4, b5⟩ := R2
  refine ⟨Core_fr T R1 r2 (fun b y => by omega) (fun j hj => r3 j hj) (fun j _ => sameC_el s37 j) (TP_fr (G 3 (by omega) (by decide)) (G 4 (by omega) (by decide)) (G 441 (by omega) (by decide)) (sameC_I s37 9) (sameC_I s37 10) R1.2.2.2.2.2), ?_, ?_, ?_⟩
  · unfold Bd
    rw [sameC_I s37 4, sameC_I s37 7, en]
    exact ⟨b1, b2, b3, b4, fun k hk => by rw [ep]; exact b5 k hk⟩
  · rw [en]; exact r1 R3
  · rw [en]; exact CaR_fr (fun b x y => G b y (by omega)) (fun j _ => sameC_el s37 j) L R4
theorem Ask_c {h g : XH} {nd : Nat → ND} {o u : Int} {c : Nat} (T : HT h) (R : Inv h nd o u c) (r : CSt h g (nw h) nd) : Ask h g nd o u c 0 0 :=
  ⟨CSt_Inv T R r, CSt_nw T r, ⟨by rw [r.2.2.2.1]; omega, by rw [r.2.2.2.2]; omega⟩⟩
set_option maxHeartbeats 1000000 in
theorem c_X12_knowMet {h : XH} {N : Nat → Int} {nd : Nat → ND} {m : Nat} (T : HT h) (C : CS h 8 N nd) (W : WF N m) (dk : DK nd m) (CC : CaC h N nd) {K : XH → Prop} (k : ∀ g, CSt h g N nd → CaC g N nd → 1 ≤ hI g 2 11 → MetOK g N nd → K g) : w_X12_knowMet K h := by
  unfold w_X12_knowMet
  have L := HT_len T
  refine ⟨fun g => CSt h g N nd ∧ CaC g N nd ∧ 1 ≤ hI g 2 11 ∧ MetOK g N nd, ?_, ?_⟩
  · intro h1 t1 s1 z2
    exact k _ z2.1 z2.2.1 z2.2.2.1 z2.2.2.2
  · refine ⟨fun c5 => ?_, fun c5 => ?_⟩
    · exact ⟨CSt_rf _ _ _, CC, c5, CC.2.2.1 c5⟩
    · refine c_X3_renew T C W dk ?_
      intro h3 q3 m3
      intro t3 u3
      intro h4 eh4 t4 u4
      have s4 : ∀ b, ¬ b = 2 → sameC h3 h4 b := fun b n => by rw [eh4]; exact sameC_sV (fun z => n z.symm)
      have e11 : hI h4 2 11 = 1 := by rw [eh4]; exact hI_eq (lstn t3).2.2.2.1 (rgk rfl)
      have mk := MetOK_fr (fun b x y => s4 b (by omega)) m3
      have s2 : sameC h h3 2 := q3.1 2 (by omega) (by decide)
      have ca : CaC h N nd → CaC h4 N nd := fun z => by
        unfold CaC
        rw [e11]
        refine ⟨by decide, by decide, fun _ => mk, fun x => absurd x (by decide), fun x => absurd x (by decide), fun x => absurd x (by decide), fun c hc => ?_⟩
        rw [sameC_I (s4 58 (by decide)), sameC_I (q3.1 58 (by omega) (by decide))]
        exact z.2.2.2.2.2.2 c hc
      refine ⟨⟨ca, fun b hb n => sameC_tr (q3.1 b hb (by omega)) (s4 b (by omega)), fun j hj => ?_, ?_, ?_⟩, ca CC, by omega, mk⟩
      · rw [eh4, el_ni (by omega)]; exact sameC_el s2 j
      · rw [eh4, len_sV]; exact q3.2.1
      · rw [eh4, xhs_sV]; exact q3.2.2
