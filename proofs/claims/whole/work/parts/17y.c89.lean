def ver1 (N : Nat → Int) (nd : Nat → ND) (p v k : Nat) : List Cl := needCl N 3 p (nV N v 1) (nd (nV N v (8 + k)).toNat) (bit1 v)
def ver2 (N : Nat → Int) (nd : Nat → ND) (p v k : Nat) : List Cl := banCl N (nd (nV N v (13 + k)).toNat) p v
def ver3 (N : Nat → Int) (nd : Nat → ND) (p v : Nat) : List Cl := if nV N v 6 = 0 then [] else needCl N 5 p (nV N v 1) (nd (nV N v 6 - 1).toNat) (bit1 v ||| oBit p)
theorem verCl_e {N : Nat → Int} {nd : Nat → ND} {p v : Nat} : verCl N nd p v = (List.range (nV N v 7).toNat).flatMap (ver1 N nd p v) ++ (List.range (nV N v 12).toNat).flatMap (ver2 N nd p v) ++ ver3 N nd p v := rfl
def pair1 (N : Nat → Int) (p v w : Nat) : Cl := (7, (p : Int), nV N v 1, 0#64, bit1 v ||| bit1 w)
theorem pairCl_e {N : Nat → Int} {p : Nat} : ∀ L : List Nat, pairCl N p L = (List.range L.length).flatMap fun i => (L.drop (i + 1)).map (pair1 N p (L.getD i 0)) := by
  intro L
  induction L with
  | nil => rfl
  | cons v l ih =>
    unfold pairCl
    rw [ih, List.length_cons, List.range_succ_eq_map, List.flatMap_cons, List.flatMap_map]
    rfl
set_option maxHeartbeats 4000000 in
theorem c_X1_tellVersion {p v : Nat} {l : List Cl} {h : XH} {N : Nat → Int} {nd : Nat → ND} {m : Nat} (T : HT h) (C : CS h 8 N nd) (W : WF N m) (dk : DK nd m) (M : MetOK h N nd) (hp : p < pc N) (hv : v < vc N) (z : TellOK h l) (lt : l.length + (verCl N nd p v).length ≤ 3712) {K : XH → Prop} (k : ∀ g, HT g → TQ h g → TellOK g (l ++ verCl N nd p v) → K g) : w_X1_tellVersion (p : Int) (v : Int) K h := by
  unfold w_X1_tellVersion
  have w12 := W.1.2.1
  have w00 := W.1.1
  have v40 := vc64 W.1
  have w4 := W.1.2.2.2.1
  have v40_ : v < 40 := by unfold vc at hv; omega
  have p12 : p < 12 := by unfold pc at hp; omega
  have wv := W.1.2.2.2.2.1 v hv
  obtain ⟨M1, M2, M3⟩ := M.1 v hv
  obtain ⟨w7, w7', w8, w11, w11', w12_, w12', w13, -⟩ := wv.2.2.2.2.2.2.2.2.2.2.2
  rw [verCl_e] at lt k
  simp only [List.length_append] at lt
  refine ⟨(by omega), ?_⟩
  intro x2 ex2 rx2
  rw [Int.toNat_natCast, (V8 C.1 hv).2.1] at ex2
  intro b3 eb3
  rw [lshl1 (by omega)] at eb3
  refine ⟨fun x g => ∃ j : Nat, x = (j : Int) ∧ (j : Int) ≤ nV N v 7 ∧ TQ h g ∧ TellOK g (l ++ (List.range j).flatMap (ver1 N nd p v)), fun x _ => (nV N v 7 - x).toNat, ?_, ?_⟩
  · exact ⟨0, rfl, by omega, TQ_rf _, by simp; exact z⟩
  · intro x4 h6 t6 s6 rx4 z7
    obtain ⟨j, ej, jl, q6, z6⟩ := z7
    have C6 := TQ_CS T C W q6
    have V6 := V8 C6.1 hv
    have e18 : hI h6 18 v = nV N v 7 := V6.2.2.2.2.2.2.2.1
    have rl := rf_le (f := ver1 N nd p v) (show j ≤ (nV N v 7).toNat by omega)
    refine ⟨fun c22 => ?_, fun c22 => ?_⟩
    · rw [Int.toNat_natCast, e18] at c22
      have j7 : j = (nV N v 7).toNat := by omega
      rw [j7] at z6
      refine ⟨fun x g => ∃ j : Nat, x = (j : Int) ∧ (j : Int) ≤ nV N v 12 ∧ TQ h g ∧ TellOK g (l ++ (List.range (nV N v 7).toNat).flatMap (ver1 N nd p v) ++ (List.range j).flatMap (ver2 N nd p v)), fun x _ => (nV N v 12 - x).toNat, ?_, ?_⟩
      · exact ⟨0, rfl, by omega, q6, by rw [List.range_zero, List.flatMap_nil, List.append_nil]; exact z6⟩
      · intro x8 h9 t9 s9 rx8 z10
        obtain ⟨i, ei, il, q9, z9⟩ := z10
        have C9 := TQ_CS T C W q9
        have V9 := V8 C9.1 hv
        have e21 : hI h9 21 v = nV N v 12 := V9.2.2.2.2.2.2.2.2.2.1
        have rm := rf_le (f := ver2 N nd p v) (show i ≤ (nV N v 12).toNat by omega)
        refine ⟨fun c17 => ?_, fun c17 => ?_⟩
        · rw [Int.toNat_natCast, e21] at c17
          have i12 : i = (nV N v 12).toNat := by omega
          rw [i12] at z9
          refine c_X12_switchOf (by omega) ?_
          rw [Int.toNat_natCast]
          rw [Int.toNat_natCast, eb3, ex2, sameC_L (TQ_s T q9 (by decide) (by decide)), M3]
          have O := V9.2.2.2.2.2.2.1
          by_cases c : nV N v 6 = 0
          · have r0 : hR h9 26 v = 0 := O.elim (fun y => y.2) (fun y => by have := y.1; omega)
            rw [r0]
            refine tell_null ?_
            intro t_ u_
            refine k h9 t9 q9 ?_
            have : ver3 N nd p v = [] := by unfold ver3; rw [if_pos c]
            rw [this, List.append_nil, ← List.append_assoc]
            exact z9
          have A := (O.resolve_left (fun y => c y.1)).2
          have n6 : 0 ≤ nV N v 6 - 1 := by have := wv.2.2.2.2.2.2.2.2.2.1; omega
          have e3 : ver3 N nd p v = needCl N 5 p (nV N v 1) (nd (nV N v 6 - 1).toNat) (bit1 v ||| bit1 (40 + p)) := by unfold ver3; rw [if_neg c]; rfl
          rw [mNeed_p n6]
          refine c_X1_tellNeed t9 C9 W (rgk rfl) (by unfold rg; omega) (by unfold rg; omega) A (dk _ (by have := wv.2.2.2.2.2.2.2.2.2.2.1; omega)) z9 (by simp only [List.length_append]; rw [← e3]; omega) ?_
          intro h12 th12 q12 z12
          intro t12 u12
          refine k _ th12 (TQ_tr q9 q12) ?_
          rw [e3, ← List.append_assoc, ← List.append_assoc]
          exact z12
        · rw [Int.toNat_natCast, e21] at c17
          have rm1 := rf_le (f := ver2 N nd p v) (show i + 1 ≤ (nV N v 12).toNat by omega)
          rw [rf_s, List.length_append] at rm1
          intro x13 ex13 rx13
          rw [wr_of (x := (v : Int) * 2) (by omega) (by omega), wr_of (by omega) (by omega)] at ex13
          refine ⟨(by omega), ?_⟩
          have n13 := w13 i (by omega) (by omega)
          rw [eb3, ex2, sameC_L (TQ_s T q9 (by decide) (by decide)), show x13.toNat = 2 * v + i by omega, M2 i (by omega) (by omega), mNeed_p n13.1]
          refine c_X1_tellBan t9 C9 W hp hv z9 (by simp only [List.length_append]; have e_ : (ver2 N nd p v i).length = (banCl N (nd (nV N v (13 + i)).toNat) p v).length := rfl; omega) ?_
          intro h15 th15 q15 z15
          intro t15 u15
          intro x16 ex16 rx16
          rw [wr_of (by omega) (by omega)] at ex16
          refine ⟨⟨i + 1, by omega, by omega, TQ_tr q9 q15, ?_⟩, by dsimp only; omega⟩
          rw [rf_s, ← List.append_assoc]
          exact z15
    · rw [Int.toNat_natCast, e18] at c22
      have rl1 := rf_le (f := ver1 N nd p v) (show j + 1 ≤ (nV N v 7).toNat by omega)
      rw [rf_s, List.length_append] at rl1
      intro x18 ex18 rx18
      rw [wr_of (x := (v : Int) * 3) (by omega) (by omega), wr_of (by omega) (by omega)] at ex18
      refine ⟨(by omega), ?_⟩
      have n8 := w8 j (by omega) (by omega)
      have A := (V6.2.2.2.2.2.2.2.2.1 j (by omega) (by omega)).1
      rw [eb3, ex2, sameC_L (TQ_s T q6 (by decide) (by decide)), show x18.toNat = 3 * v + j by omega, M1 j (by omega) (by omega), mNeed_p n8.1]
      refine c_X1_tellNeed t6 C6 W (rgk rfl) (by unfold rg; omega) (by unfold rg; omega) A (dk _ (by omega)) z6 (by simp only [List.length_append]; have e_ : (ver1 N nd p v j).length = (needCl N 3 (p : Int) (nV N v 1) (nd (nV N v (8 + j)).toNat) (bit1 v)).length := rfl; omega) ?_
      intro h20 th20 q20 z20
      intro t20 u20
      intro x21 ex21 rx21
      rw [wr_of (by omega) (by omega)] at ex21
      refine ⟨⟨j + 1, by omega, by omega, TQ_tr q6 q20, ?_⟩, by dsimp only; omega⟩
      rw [rf_s, ← List.append_assoc]
      exact z20
set_option maxHeartbeats 4000000 in
theorem c_X1_tellPairs {p : Nat} {l : List Cl} {h : XH} {N : Nat → Int} {nd : Nat → ND} {m : Nat} (T : HT h) (C : CS h 8 N nd) (W : WF N m) (hp : p < pc N) (z : TellOK h l) (lt : l.length + (pairCl N p (vsl N p)).length ≤ 3712) {K : XH → Prop} (k : ∀ g, HT g → TQ h g → TellOK g (l ++ pairCl N p (vsl N p)) → K g) : w_X1_tellPairs (p : Int) K h := by
  unfold w_X1_tellPairs
  have w12 := W.1.2.1
  have w00 := W.1.1
  have v40 := vc64 W.1
  have w4 := W.1.2.2.2.1
  have p12 : p < 12 := by unfold pc at hp; omega
  have n0 : (p : Int) < N 0 := by unfold pc at hp; omega
  obtain ⟨c10, c8, -⟩ := vsl_C W.1 C.2.1 hp
  rw [pairCl_e] at lt k
  refine ⟨fun x g => ∃ i : Nat, x = (i : Int) ∧ i ≤ (vsl N p).length ∧ TQ h g ∧ TellOK g (l ++ (List.range i).flatMap (fun i => ((vsl N p).drop (i + 1)).map (pair1 N p ((vsl N p).getD i 0)))), fun x _ => (((vsl N p).length : Int) - x).toNat, ?_, ?_⟩
  · exact ⟨0, rfl, Nat.zero_le _, TQ_rf _, by simp; exact z⟩
  · intro x1 h6 t6 s6 rx1 z7
    obtain ⟨i, ei, il, q6, z6⟩ := z7
    have i10 : hI h6 10 p = ((vsl N p).length : Nat) := (sameC_I (TQ_s T q6 (by decide) (by decide)) p).trans c10
    refine ⟨(by omega), ?_⟩
    refine ⟨fun c23 => ?_, fun c23 => ?_⟩
    · rw [Int.toNat_natCast, i10] at c23
      rw [show i = (vsl N p).length by omega] at z6
      exact k _ t6 q6 z6
    · rw [Int.toNat_natCast, i10] at c23
      have il2 : i < (vsl N p).length := by omega
      obtain ⟨v, ev⟩ : ∃ v, v = (vsl N p).getD i 0 := ⟨_, rfl⟩
      obtain ⟨v_, v0⟩ := vsl_get il2
      rw [← ev] at v_ v0
      have rl := rf_le (f := (fun i => ((vsl N p).drop (i + 1)).map (pair1 N p ((vsl N p).getD i 0)))) (show i + 1 ≤ (vsl N p).length by omega)
      rw [rf_s, List.length_append, List.length_map, List.length_drop] at rl
      rw [ei]
      refine c_X8_idAt t6 (TQ_CS T C W q6) W (by omega) (by simp; omega) ?_
      rw [Int.toNat_natCast, Int.toNat_natCast, ← ev]
      intro rx9
      intro x10 ex10 rx10
      refine ⟨fun x g => ∃ j : Nat, x = (i : Int) + 1 + (j : Int) ∧ i + 1 + j ≤ (vsl N p).length ∧ TQ h g ∧ TellOK g (l ++ (List.range i).flatMap (fun i => ((vsl N p).drop (i + 1)).map (pair1 N p ((vsl N p).getD i 0))) ++ (((vsl N p).drop (i + 1)).take j).map (pair1 N p v)), fun x _ => (((vsl N p).length : Int) - x).toNat, ?_, ?_⟩
      · rw [wr_of (by omega) (by omega)] at ex10
        exact ⟨0, by omega, by omega, q6, by rw [List.take_zero, List.map_nil, List.append_nil]; exact z6⟩
      · intro x11 h14 t14 s14 rx11 z15
        obtain ⟨j, ej, jl, q14, z14⟩ := z15
        have i10b : hI h14 10 p = ((vsl N p).length : Nat) := (sameC_I (TQ_s T q14 (by decide) (by decide)) p).trans c10
        have C14 := TQ_CS T C W q14
        refine ⟨fun c22 => ?_, fun c22 => ?_⟩
        · intro x16 ex16 rx16
          rw [i10b] at c22
          rw [wr_of (by omega) (by omega)] at ex16
          rw [List.take_of_length_le (by rw [List.length_drop]; omega)] at z14
          refine ⟨⟨i + 1, by omega, by omega, q14, ?_⟩, by dsimp only; omega⟩
          rw [rf_s, ← List.append_assoc, ← ev]
          exact z14
        · rw [i10b] at c22
          obtain ⟨w_, w0⟩ := vsl_get (N := N) (p := p) (i := i + 1 + j) (by omega)
          rw [show x11 = ((i + 1 + j : Nat) : Int) by omega]
          refine c_X8_idAt t14 C14 W (by omega) (by simp; omega) ?_
          rw [Int.toNat_natCast, Int.toNat_natCast]
          intro rx17
          intro b18 eb18
          refine ⟨(by omega), ?_⟩
          have e14 : hI h14 14 v = nV N v 1 := (V8 C14.1 v_).2.1
          have wv := W.1.2.2.2.2.1 v v_
          rw [lshl1 (by omega), lshl1 (by omega)] at eb18
          rw [Int.toNat_natCast, e14, eb18]
          refine c_X1_add t14 (rgk rfl) (by unfold rg; omega) (by unfold rg; omega) z14 (by simp only [List.length_append, List.length_map, List.length_take, List.length_drop]; omega) ?_
          intro h20 th20 q20 z20
          intro t20 u20
          intro x21 ex21 rx21
          rw [wr_of (by omega) (by omega)] at ex21
          refine ⟨⟨j + 1, by omega, by omega, TQ_tr q14 q20, ?_⟩, by dsimp only; omega⟩
          have : ((vsl N p).drop (i + 1)).take (j + 1) = ((vsl N p).drop (i + 1)).take j ++ [(vsl N p).getD (i + 1 + j) 0] := by
            rw [List.take_succ, List.getElem?_drop, List.getD_eq_getElem?_getD, List.getElem?_eq_getElem (by omega)]; rfl
          rw [this, List.map_append, ← List.append_assoc]
          exact z20
