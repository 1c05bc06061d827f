/-! OWNER, CLASHES -/
theorem tw_st {A B F : Nat} {c : Nat → Nat} (ha : ∀ i, A.testBit i = decide (1 ≤ c i)) (hb : ∀ i, B.testBit i = decide (2 ≤ c i)) : (∀ i, (A ||| F).testBit i = decide (1 ≤ c i + (if F.testBit i = true then 1 else 0))) ∧ ∀ i, (B ||| (A &&& F)).testBit i = decide (2 ≤ c i + (if F.testBit i = true then 1 else 0)) := by
  refine ⟨fun i => ?_, fun i => ?_⟩
  · rw [Nat.testBit_or, ha]
    by_cases f : F.testBit i = true
    · rw [f, Bool.or_true, if_pos rfl, dt (by omega)]
    · rw [if_neg f, bt f, Bool.or_false, Nat.add_zero]
  · rw [Nat.testBit_or, Nat.testBit_and, ha, hb]
    by_cases f : F.testBit i = true
    · rw [f, Bool.and_true, if_pos rfl, ← Bool.decide_or]
      exact decide_eq_decide.mpr (by omega)
    · rw [if_neg f, bt f, Bool.and_false, Bool.or_false, Nat.add_zero]
/-- the files of a version -/
def fv (N : Nat → Int) (v : Nat) : Nat := (nV N v 2).toNat
theorem filesP_v {N : Nat → Int} {f : Nat → Int} {p v : Nat} (n : ¬ f p = -1) (e : slF N f p = v) : filesP N f p = fv N v := by
  unfold filesP fv
  rw [if_neg n, e, Int.toNat_natCast]
def owF (N : Nat → Int) (f : Nat → Int) (i : Nat) : Int := fnd 12 (fun p => (filesP N f p).testBit i)
/-- how many of a set have a file -/
def hasF (N : Nat → Int) (f : Nat → Int) (i : Nat) : Nat := cntN 12 (fun p => (filesP N f p).testBit i)
theorem hasF_s {N : Nat → Int} {m : Nat} (W : WV N m) {s : BitVec 64} {f : Nat → Int} (S : SetR N s f) (i : Nat) : cntN (vc N) (fun v => s.getLsbD v && (fv N v).testBit i) = hasF N f i := by
  have q := size_F W S (fun v => if (fv N v).testBit i = true then 1 else 0)
  have y1 := cntN_s (fun v => s.getLsbD v && (fv N v).testBit i) (vc N)
  have y2 := cntN_s (fun p => (filesP N f p).testBit i) 12
  have y3 : sumN (vc N) (fun v => if (s.getLsbD v && (fv N v).testBit i) = true then (1 : Int) else 0) = sumN (vc N) (fun v => if s.getLsbD v = true then (if (fv N v).testBit i = true then 1 else 0) else 0) := sumN_cg _ (fun v hv => by
    by_cases c : s.getLsbD v = true
    · rw [if_pos c, c, Bool.true_and]
    · rw [if_neg c, bt c, Bool.false_and]; rfl)
  have y4 : sumN 12 (fun p => if (filesP N f p).testBit i = true then (1 : Int) else 0) = sumN 12 (fun p => if f p = -1 then 0 else (if (fv N (slF N f p).toNat).testBit i = true then 1 else 0)) := sumN_cg _ (fun p hp => by
    by_cases c : f p = -1
    · rw [if_pos c]
      unfold filesP
      rw [if_pos c, Nat.zero_testBit]; rfl
    · rw [if_neg c]
      unfold filesP fv
      rw [if_neg c])
  unfold hasF
  omega
theorem ownF_s {N : Nat → Int} {m : Nat} (W : WV N m) {s : BitVec 64} {f : Nat → Int} (S : SetR N s f) (dj : ∀ p q : Nat, p < 12 → q < 12 → ¬ p = q → filesP N f p &&& filesP N f q = 0) {v i : Nat} (hv : v < vc N) (b : s.getLsbD v = true) (t : (fv N v).testBit i = true) : owF N f i = nV N v 0 := by
  have w := W.2.2.2.2.1 v hv
  have w1 := W.2.1
  have h40 : v < 40 := by have := W.2.2.2.1; unfold vc at hv; omega
  have x := ((S.1 v h40).mp b).2
  have n : ¬ f (nV N v 0).toNat = -1 := by omega
  have e := slF_r W (f := f) (p := (nV N v 0).toNat) hv (by omega) x
  have fp := filesP_v n e
  have : owF N f i = ((nV N v 0).toNat : Int) := by
    refine fnd_is (by omega) (by rw [fp]; exact t) (fun j hj => ?_)
    have d := dj j (nV N v 0).toNat (by omega) (by omega) (by omega)
    have := congrArg (fun n => n.testBit i) d
    rw [Nat.testBit_and, Nat.zero_testBit, fp, t, Bool.and_true] at this
    exact this
  omega
theorem ownF_n {N : Nat → Int} {m : Nat} (W : WV N m) {s : BitVec 64} {f : Nat → Int} (S : SetR N s f) {i : Nat} (a : ∀ v, v < vc N → (s.getLsbD v && (fv N v).testBit i) = false) : owF N f i = -1 := by
  refine fnd_no (fun p hp => ?_)
  by_cases n : f p = -1
  · unfold filesP
    rw [if_pos n, Nat.zero_testBit]
  · obtain ⟨v, hv, e, e0, e1, b⟩ := Set_v W S hp n
    have := a v hv
    rw [b, Bool.true_and] at this
    rw [filesP_v n e]
    exact this
/-- bit n of a mask told by a whole number -/
theorem bitZ {a n : Int} (hn : 0 ≤ n ∧ n < 32) (ha : 0 ≤ a ∧ a < 2147483648) : iand (ishr a n) 1 = if a.toNat.testBit n.toNat then 1 else 0 := by
  have := bitI (a := a.toNat) (n := n.toNat) (by omega) (by omega)
  rw [show ((a.toNat : Nat) : Int) = a by omega, show ((n.toNat : Nat) : Int) = n by omega] at this
  exact this
theorem bitZ0 {a n : Int} (hn : 0 ≤ n ∧ n < 32) (ha : 0 ≤ a ∧ a < 2147483648) : iand (ishr a n) 1 = 0 ↔ a.toNat.testBit n.toNat = false := by
  rw [bitZ hn ha]
  by_cases c : a.toNat.testBit n.toNat = true
  · rw [if_pos c, c]; simp
  · rw [if_neg c, bt c]; simp
theorem bitZ1 {a n : Int} (hn : 0 ≤ n ∧ n < 32) (ha : 0 ≤ a ∧ a < 2147483648) : iand (ishr a n) 1 = 1 ↔ a.toNat.testBit n.toNat = true := by
  rw [bitZ hn ha]
  by_cases c : a.toNat.testBit n.toNat = true
  · rw [if_pos c, c]; simp
  · rw [if_neg c, bt c]; simp
set_option maxHeartbeats 1000000 in
theorem c_X12_owner {p0 : Int} {h : XH} {N : Nat → Int} {nd : Nat → ND} {m : Nat} (T : HT h) (C : CS h 8 N nd) (W : WF N m) (dj : DJ N) {K : Int → Prop} {E : Nat → XH → Prop} (k0 : ¬ (0 ≤ p0 ∧ p0 < 31) → E 1 (nT h)) (k : 0 ≤ p0 ∧ p0 < 31 → K (owF N (inst N (rh N)) p0.toNat)) : w_X12_owner p0 K E h := by
  unfold w_X12_owner
  have V1 := (V80 C.1).2
  have w3 := W.1.2.2.1
  have w4 := W.1.2.2.2.1
  have SI := CS_i C (rh_lt W)
  refine ⟨_, fun z1 => z1, ?_⟩
  refine ⟨fun c14 => ?_, fun c14 => ?_⟩
  · exact k0 (by omega)
  · refine ⟨fun c13 => ?_, fun c13 => ?_⟩
    · refine ⟨fun v => 0 ≤ v ∧ v ≤ N 4 ∧ ∀ j : Nat, (j : Int) < v → ((hL h (rc (rh N)) 6).getLsbD j && (fv N j).testBit p0.toNat) = false, fun v => (N 4 - v).toNat, ?_, ?_⟩
      · exact ⟨by omega, w3, fun j hj => by omega⟩
      · intro x2 rx2 z3
        refine ⟨fun c12 => ?_, fun c12 => ?_⟩
        · rw [← ownF_n W.1 SI (i := p0.toNat) (fun j hj => z3.2.2 j (by unfold vc at hj; omega))]
          exact k (by omega)
        · obtain ⟨z0, z1, z2⟩ := z3
          have hv : x2.toNat < vc N := by unfold vc; omega
          have va := V8 C.1 hv
          have w := W.1.2.2.2.2.1 _ hv
          have rg2 := rgh h 15 x2.toNat
          rw [va.2.2.1] at rg2
          unfold rg at rg2
          refine c_atH C W ?_
          refine ⟨(rc_k T (rh_lt W)), ?_⟩
          refine c_X12_has (by omega) ?_
          intro x6 qx6
          intro rx6 vx6
          refine ⟨_, fun z7 => z7, ?_⟩
          refine ⟨fun c11 => ?_, fun c11 => ?_⟩
          · intro x8 ex8 rx8
            rw [wr_of (by omega) (by omega)] at ex8
            exact ⟨⟨by omega, by omega, fun j hj => by
              by_cases e : (j : Int) = x2
              · rw [show j = x2.toNat by omega, bt ((bq1 qx6).2.1.mp c11), Bool.false_and]
              · exact z2 j (by omega)⟩, by dsimp only; omega⟩
          · refine ⟨(by first | decide | omega | ((try simp (disch := omega) only [wr_of] at *); omega)), ?_⟩
            refine ⟨fun c10 => ?_, fun c10 => ?_⟩
            · intro x8 ex8 rx8
              rw [wr_of (by omega) (by omega)] at ex8
              rw [va.2.2.1] at c10
              have tb := (bitZ0 (by omega) (by omega)).mp c10
              exact ⟨⟨by omega, by omega, fun j hj => by
                by_cases e : (j : Int) = x2
                · rw [show j = x2.toNat by omega]
                  unfold fv
                  rw [tb, Bool.and_false]
                · exact z2 j (by omega)⟩, by dsimp only; omega⟩
            · rw [va.2.2.1] at c10
              have tb : (fv N x2.toNat).testBit p0.toNat = true := by
                cases y : (fv N x2.toNat).testBit p0.toNat with
                | true => rfl
                | false => exact absurd ((bitZ0 (by omega) (by omega)).mpr y) c10
              rw [va.1, ← ownF_s W.1 SI (dj (rh N) (rh_lt W)) hv ((bq1 qx6).2.2.1.mp c11) tb]
              exact k (by omega)
    · exact k0 (by omega)
set_option maxHeartbeats 1000000 in
theorem c_L_owner {p0 : Int} {h : XH} {N : Nat → Int} {nd : Nat → ND} {m : Nat} (T : HT h) (C : CS h 8 N nd) (W : WF N m) (dj : DJ N) {K : Int → XH → Prop} (k0 : ¬ (0 ≤ p0 ∧ p0 < 31) → K 1 (nT h)) (k : 0 ≤ p0 ∧ p0 < 31 → ∀ h6, h6 = sL h 467 0 (i2l (owF N (inst N (rh N)) p0.toNat)) → K 0 h6) : w_L_owner p0 K h := by
  unfold w_L_owner
  refine c_X12_owner T C W dj (fun q => ⟨rfl, k0 q⟩) (fun q => ?_)
  intro _
  intro h4 eh4 t4 u4
  exact k q _ eh4
set_option maxHeartbeats 1000000 in
theorem c_X14_owner {p0 : Int} {h : XH} {N : Nat → Int} {m : Nat} (T : HT h) (eN : N = nw h) (W : WF N m) (fi : fOK N (inst N (rh N))) {K : Int → XH → Prop} (k0 : ¬ (0 ≤ p0 ∧ p0 < 31) → ∀ h1 h2, HT h1 → h1 = sI h 437 5 0 → h2 = sI h1 437 5 1 → K 0 h2) (k : 0 ≤ p0 ∧ p0 < 31 → ∀ h1 h2, HT h1 → h1 = sI h 437 5 0 → Fr (fun _ => False) h1 h2 → Gr 1 (n12) h1 h2 → K (owF N (inst N (rh N)) p0.toNat) h2) : w_X14_owner p0 K h := by
  unfold w_X14_owner
  intro h1 eh1 t1 u1
  have eN1 : N = nw h1 := eN.trans (nw_fr (by rw [eh1]; exact sameC_sV (by decide))).symm
  refine c_X14_within ?_
  intro x2 qx2
  replace qx2 := bq_iff qx2 (show (0 ≤ p0 ∧ p0 ≤ 30) ↔ (0 ≤ p0 ∧ p0 < 31) by omega)
  intro rx2 vx2
  refine c_X14_refused qx2 ?_
  intro x3 h4 qx3
  intro t4 u4
  intro rx3 vx3
  refine ⟨fun c18 => ?_, fun c18 => ?_⟩
  · obtain ⟨b_, e_⟩ : (0 ≤ p0 ∧ p0 < 31) ∧ h4 = h1 := by
      rcases qx3 with ⟨_, y, z⟩ | ⟨y, _⟩
      · exact ⟨y, z⟩
      · omega
    subst e_
    refine c_iS t4 eN1 W ?_
    intro a5 h6 f6 g6 l6 A6
    have A0 := A6
    obtain ⟨B1, B2, B3⟩ := A6
    have eN6 := eN1.trans (nw_F t4 f6).symm
    intro t6 u6
    refine ⟨fun v => 0 ≤ v ∧ v ≤ 12 ∧ ∀ j : Nat, (j : Int) < v → (filesP N (inst N (rh N)) j).testBit p0.toNat = false, fun v => (12 - v).toNat, ?_, ?_⟩
    · exact ⟨by omega, by omega, fun j hj => by omega⟩
    · intro x7 rx7 z8
      refine ⟨fun c17 => ?_, fun c17 => ?_⟩
      · rw [show (-1 : Int) = owF N (inst N (rh N)) p0.toNat from (fnd_no (fun j hj => z8.2.2 j (by omega))).symm]
        exact k b_ _ _ t4 eh1 f6 g6
      · obtain ⟨z0, z1, z2⟩ := z8
        have b3 := B3 x7.toNat (by omega)
        refine ⟨B1, ?_⟩
        refine ⟨(by rw [B2]; omega), ?_⟩
        refine ⟨_, fun z11 => z11, ?_⟩
        refine ⟨fun c16 => ?_, fun c16 => ?_⟩
        · intro x12 ex12 rx12
          rw [wr_of (by omega) (by omega)] at ex12
          exact ⟨⟨by omega, by omega, fun j hj => by
            by_cases e : (j : Int) = x7
            · unfold filesP
              rw [show j = x7.toNat by omega, if_pos (by omega), Nat.zero_testBit]
            · exact z2 j (by omega)⟩, by dsimp only; omega⟩
        · have nf : ¬ inst N (rh N) x7.toNat = -1 := by omega
          obtain ⟨v, hv, e, -⟩ := fOK_v W.1 fi (show x7.toNat < 12 by omega) nf
          have v40 : v < 40 := by have := W.1.2.2.2.1; unfold vc at hv; omega
          have fp := filesP_v nf e
          have w := W.1.2.2.2.2.1 v hv
          refine c_X14_slotIn eN6 W.1 A0 fi (by omega) ?_
          rw [e]
          intro _
          refine c_X14_ver (by omega) ?_
          intro x14 ex14
          have e3 : x14 = nV N v 2 := by rw [ex14, eN6, Int.toNat_natCast]; rfl
          intro rx14
          unfold rg at rx14
          refine ⟨fun c15 => ?_, fun c15 => ?_⟩
          · intro x12 ex12 rx12
            rw [wr_of (by omega) (by omega)] at ex12
            have tb : (fv N v).testBit p0.toNat = false := by
              cases y : (fv N v).testBit p0.toNat with
              | false => rfl
              | true => exact absurd ((bitZ1 (by omega) (by omega)).mpr (by rw [e3]; exact y)) c15
            exact ⟨⟨by omega, by omega, fun j hj => by
              by_cases e : (j : Int) = x7
              · rw [show j = x7.toNat by omega, fp, tb]
              · exact z2 j (by omega)⟩, by dsimp only; omega⟩
          · have tb : (fv N v).testBit p0.toNat = true := by
              have := (bitZ1 (a := x14) (n := p0) (by omega) (by omega)).mp (by omega)
              rw [e3] at this
              exact this
            rw [show x7 = owF N (inst N (rh N)) p0.toNat by
              have : owF N (inst N (rh N)) p0.toNat = (x7.toNat : Int) := fnd_is (by omega) (by rw [fp]; exact tb) (fun j hj => z2 j (by omega))
              omega]
            exact k b_ _ _ t4 eh1 f6 g6
  · have q_ : ¬ (0 ≤ p0 ∧ p0 < 31) ∧ h4 = sI h1 437 5 1 := by
      rcases qx3 with ⟨y, _⟩ | ⟨_, y, z⟩
      · omega
      · exact ⟨y, z⟩
    exact k0 q_.1 _ _ t1 eh1 q_.2
theorem d_owner {h : XH} {nd : Nat → ND} {o u p0 : Int} {c : Nat} (T : HT h) (R : Inv h nd o u c) {K : Int → XH → Prop} {J : XH → Prop} (k : ∀ h' o' u', HT h' → Inv h' nd o' u' (c + 1) → Gr (1 + 1) (xcs none + (n12)) h h' → J h') : w_L_owner p0 (LDw h (fun g Q => w_X14_owner p0 Q g) K J) h :=
  dask (wL := fun Q => w_L_owner p0 Q h) (wR := fun g Q => w_X14_owner p0 Q g) (mkA T R (by decide) (fun Q k0 k => c_L_owner T R.1.1 R.1.2.1 R.2.1.2.2.2.1.2.2.2 k0 k)) (fun g Tg Rg eg => mkB Tg Rg (rgk rfl) (by decide) (fun Q k0 k => c_X14_owner Tg eg.symm R.1.2.1 (CS_fi R.1.1 R.1.2.1) k0 k)) k
set_option maxHeartbeats 1000000 in
theorem c_X12_clashes {h : XH} {N : Nat → Int} {nd : Nat → ND} {m : Nat} (T : HT h) (C : CS h 8 N nd) (W : WF N m) {K : Int → Prop} (k : K (cntN 32 (fun i => decide (2 ≤ hasF N (goal N (rh N)) i)) : Nat)) : w_X12_clashes K h := by
  unfold w_X12_clashes
  have V1 := (V80 C.1).2
  have w3 := W.1.2.2.1
  have w4 := W.1.2.2.2.1
  have SI := CS_g C (rh_lt W)
  refine ⟨fun a b v => 0 ≤ v ∧ v ≤ N 4 ∧ ∃ A B : Nat, a = A ∧ b = B ∧ A < 2147483648 ∧ B < 2147483648 ∧ (∀ i, A.testBit i = decide (1 ≤ cntN v.toNat (fun j => (hL h (rc (rh N)) 5).getLsbD j && (fv N j).testBit i))) ∧ ∀ i, B.testBit i = decide (2 ≤ cntN v.toNat (fun j => (hL h (rc (rh N)) 5).getLsbD j && (fv N j).testBit i)), fun _ _ v => (N 4 - v).toNat, ?_, ?_⟩
  · exact ⟨by omega, w3, 0, 0, rfl, rfl, by decide, by decide, fun i => by rw [Nat.zero_testBit]; rfl, fun i => by rw [Nat.zero_testBit]; rfl⟩
  · intro x1 x2 x3 rx1 rx2 rx3 z4
    refine ⟨fun c17 => ?_, fun c17 => ?_⟩
    · obtain ⟨z0, z1, A, B, eA, eB, lA, lB, hA, hB⟩ := z4
      rw [eB]
      refine c_J6_bitCount_0f7a4 lB ?_
      intro _
      rw [show cntN 32 B.testBit = cntN 32 (fun i => decide (2 ≤ hasF N (goal N (rh N)) i)) from cntN_cg _ (fun i _ => by rw [hB, show x3.toNat = vc N by unfold vc; omega, hasF_s W.1 SI])]
      exact k
    · obtain ⟨z0, z1, A, B, eA, eB, lA, lB, hA, hB⟩ := z4
      have hv : x3.toNat < vc N := by unfold vc; omega
      have va := V8 C.1 hv
      have w := W.1.2.2.2.2.1 _ hv
      have rg2 := rgh h 15 x3.toNat
      rw [va.2.2.1] at rg2
      unfold rg at rg2
      refine c_atH C W ?_
      refine ⟨(rc_k T (rh_lt W)), ?_⟩
      refine c_X12_has (by omega) ?_
      intro x8 qx8
      intro rx8 vx8
      refine ⟨_, fun x9 x10 rx9 rx10 z11 => z11, ?_⟩
      refine ⟨fun c16 => ?_, fun c16 => ?_⟩
      · intro x12 ex12 rx12
        rw [wr_of (by omega) (by omega)] at ex12
        have cs : ∀ i, cntN x12.toNat (fun j => (hL h (rc (rh N)) 5).getLsbD j && (fv N j).testBit i) = cntN x3.toNat (fun j => (hL h (rc (rh N)) 5).getLsbD j && (fv N j).testBit i) := fun i => by
          rw [ex12, cntN_st (by omega), bt ((bq1 qx8).2.1.mp c16), Bool.false_and]
          rfl
        exact ⟨⟨by omega, by omega, A, B, eA, eB, lA, lB, fun i => by rw [cs]; exact hA i, fun i => by rw [cs]; exact hB i⟩, by dsimp only; omega⟩
      · refine ⟨(by first | decide | omega | ((try simp (disch := omega) only [wr_of] at *); omega)), ?_⟩
        intro x14 ex14 rx14
        intro x15 ex15 rx15
        intro x12 ex12 rx12
        rw [wr_of (by omega) (by omega)] at ex12
        have cs : ∀ i, cntN x12.toNat (fun j => (hL h (rc (rh N)) 5).getLsbD j && (fv N j).testBit i) = cntN x3.toNat (fun j => (hL h (rc (rh N)) 5).getLsbD j && (fv N j).testBit i) + (if (fv N x3.toNat).testBit i = true then 1 else 0) := fun i => by
          rw [ex12, cntN_st (by omega), (bq1 qx8).2.2.1.mp c16, Bool.true_and]
        obtain ⟨s1, s2⟩ := tw_st (F := fv N x3.toNat) hA hB
        have eF : hI h 15 x3.toNat = ((fv N x3.toNat : Nat) : Int) := by rw [va.2.2.1]; unfold fv; omega
        have lF : fv N x3.toNat < 2147483648 := by unfold fv; omega
        have lAF : A &&& fv N x3.toNat < 2147483648 := Nat.lt_of_le_of_lt Nat.and_le_left lA
        rw [eF, eA, eB, iand_nat lA lF, ior_nat lB lAF] at ex14
        rw [eF, eA, ior_nat lA lF] at ex15
        exact ⟨⟨by omega, by omega, A ||| fv N x3.toNat, B ||| (A &&& fv N x3.toNat), ex15, ex14, Nat.or_lt_two_pow (n := 31) lA lF, Nat.or_lt_two_pow (n := 31) lB lAF, fun i => by rw [cs]; exact s1 i, fun i => by rw [cs]; exact s2 i⟩, by dsimp only; omega⟩
set_option maxHeartbeats 1000000 in
theorem c_X14_clashes {h : XH} {N : Nat → Int} {m : Nat} (T : HT h) (eN : N = nw h) (W : WF N m) (fg : fOK N (goal N (rh N))) {K : Int → XH → Prop} (k : ∀ h1 h2, HT h1 → h1 = sI h 437 5 0 → Fr (fun _ => False) h1 h2 → Gr 1 (n12) h1 h2 → K ((cntN 32 (fun i => decide (2 ≤ hasF N (goal N (rh N)) i)) : Nat)) h2) : w_X14_clashes K h := by
  unfold w_X14_clashes
  intro h1 eh1 t1 u1
  have eN1 : N = nw h1 := eN.trans (nw_fr (by rw [eh1]; exact sameC_sV (by decide))).symm
  refine c_gS t1 eN1 W ?_
  intro a2 h3 f3 g3 l3 A3
  have A0 := A3
  obtain ⟨B1, B2, B3⟩ := A3
  have eN3 := eN1.trans (nw_F t1 f3).symm
  intro t3 u3
  refine ⟨fun a b v => 0 ≤ v ∧ v ≤ 12 ∧ ∃ A B : Nat, a = A ∧ b = B ∧ A < 2147483648 ∧ B < 2147483648 ∧ (∀ i, A.testBit i = decide (1 ≤ cntN v.toNat (fun j => (filesP N (goal N (rh N)) j).testBit i))) ∧ ∀ i, B.testBit i = decide (2 ≤ cntN v.toNat (fun j => (filesP N (goal N (rh N)) j).testBit i)), fun _ _ v => (12 - v).toNat, ?_, ?_⟩
  · exact ⟨by omega, by omega, 0, 0, rfl, rfl, by decide, by decide, fun i => by rw [Nat.zero_testBit]; rfl, fun i => by rw [Nat.zero_testBit]; rfl⟩
  · intro x4 x5 x6 rx4 rx5 rx6 z8
    refine ⟨fun c20 => ?_, fun c20 => ?_⟩
    · obtain ⟨z0, z1, A, B, eA, eB, lA, lB, hA, hB⟩ := z8
      rw [eB]
      refine c_J6_bitCount_0f7a4 lB ?_
      intro _
      rw [show cntN 32 B.testBit = cntN 32 (fun i => decide (2 ≤ hasF N (goal N (rh N)) i)) from cntN_cg _ (fun i _ => by rw [hB, show x6.toNat = 12 by omega]; rfl)]
      exact k _ _ t1 eh1 f3 g3
    · obtain ⟨z0, z1, A, B, eA, eB, lA, lB, hA, hB⟩ := z8
      have b3 := B3 x6.toNat (by omega)
      refine ⟨B1, ?_⟩
      refine ⟨(by rw [B2]; omega), ?_⟩
      refine ⟨_, fun x12 rx12 z13 => z13, ?_⟩
      refine ⟨fun c19 => ?_, fun c19 => ?_⟩
      · have nf : ¬ goal N (rh N) x6.toNat = -1 := by omega
        obtain ⟨v, hv, e, -⟩ := fOK_v W.1 fg (show x6.toNat < 12 by omega) nf
        have v40 : v < 40 := by have := W.1.2.2.2.1; unfold vc at hv; omega
        have fp := filesP_v nf e
        have w := W.1.2.2.2.2.1 v hv
        refine c_X14_slotIn eN3 W.1 A0 fg (by omega) ?_
        rw [e]
        intro _
        refine c_X14_ver (by omega) ?_
        intro x18 ex18
        have e3 : x18 = nV N v 2 := by rw [ex18, eN3, Int.toNat_natCast]; rfl
        intro rx18
        unfold rg at rx18
        intro x14 ex14 rx14
        intro x15 ex15 rx15
        intro x16 ex16 rx16
        rw [wr_of (by omega) (by omega)] at ex16
        have eF : x18 = ((filesP N (goal N (rh N)) x6.toNat : Nat) : Int) := by rw [fp, e3]; unfold fv; omega
        have lF : filesP N (goal N (rh N)) x6.toNat < 2147483648 := by omega
        have lAF : A &&& filesP N (goal N (rh N)) x6.toNat < 2147483648 := Nat.lt_of_le_of_lt Nat.and_le_left lA
        obtain ⟨s1, s2⟩ := tw_st (F := filesP N (goal N (rh N)) x6.toNat) hA hB
        rw [eF, eA, eB, iand_nat lA lF, ior_nat lB lAF] at ex14
        rw [eF, eA, ior_nat lA lF] at ex15
        exact ⟨⟨by omega, by omega, _, _, ex15, ex14, Nat.or_lt_two_pow (n := 31) lA lF, Nat.or_lt_two_pow (n := 31) lB lAF, fun i => by rw [ex16, cntN_st (by omega)]; exact s1 i, fun i => by rw [ex16, cntN_st (by omega)]; exact s2 i⟩, by dsimp only; omega⟩
      · intro x14 ex14 rx14
        intro x15 ex15 rx15
        intro x16 ex16 rx16
        rw [wr_of (by omega) (by omega)] at ex16
        have eF : (0 : Int) = ((filesP N (goal N (rh N)) x6.toNat : Nat) : Int) := by unfold filesP; rw [if_pos (by omega)]; rfl
        have lF : filesP N (goal N (rh N)) x6.toNat < 2147483648 := by omega
        have lAF : A &&& filesP N (goal N (rh N)) x6.toNat < 2147483648 := Nat.lt_of_le_of_lt Nat.and_le_left lA
        obtain ⟨s1, s2⟩ := tw_st (F := filesP N (goal N (rh N)) x6.toNat) hA hB
        rw [eF, eA, eB, iand_nat lA lF, ior_nat lB lAF] at ex14
        rw [eF, eA, ior_nat lA lF] at ex15
        exact ⟨⟨by omega, by omega, _, _, ex15, ex14, Nat.or_lt_two_pow (n := 31) lA lF, Nat.or_lt_two_pow (n := 31) lB lAF, fun i => by rw [ex16, cntN_st (by omega)]; exact s1 i, fun i => by rw [ex16, cntN_st (by omega)]; exact s2 i⟩, by dsimp only; omega⟩
theorem d_clashes {h : XH} {nd : Nat → ND} {o u : Int} {c : Nat} (T : HT h) (R : Inv h nd o u c) {K : Int → XH → Prop} {J : XH → Prop} (k : ∀ h' o' u', HT h' → Inv h' nd o' u' (c + 1) → Gr 1 (n12) h h' → J h') : w_X12_clashes (LDp h (fun g Q => w_X14_clashes Q g) K J) h :=
  dasp (wL := fun Q => w_X12_clashes Q h) (wR := fun g Q => w_X14_clashes Q g) T R (fun Q k => c_X12_clashes T R.1.1 R.1.2.1  k) (fun g Tg Rg eg => mkP Tg Rg (fun Q k => c_X14_clashes Tg eg.symm R.1.2.1 (CS_fg R.1.1 R.1.2.1) k)) k
