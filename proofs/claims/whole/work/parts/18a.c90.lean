/-! HOW MANY TOLD CLAUSES THERE ARE AT MOST -/
theorem sumN_le {g k : Nat → Int} : ∀ n, (∀ i, i < n → g i ≤ k i) → sumN n g ≤ sumN n k := by
  intro n
  induction n with
  | zero => intro _; exact Int.le_refl _
  | succ n ih => intro a; rw [sumN_s, sumN_s]; have := ih (fun i hi => a i (by omega)); have := a n (by omega); omega
theorem sumN_cm {g : Nat → Int} {c : Int} : ∀ n, sumN n (fun i => c * g i) = c * sumN n g := by
  intro n
  induction n with
  | zero => exact (Int.mul_zero c).symm
  | succ n ih => rw [sumN_s, sumN_s, ih, Int.mul_add]
theorem sumN_k {c : Int} : ∀ n : Nat, sumN n (fun _ => c) = n * c := by
  intro n
  induction n with
  | zero => exact (Int.zero_mul c).symm
  | succ n ih => rw [sumN_s, ih, Int.natCast_add, Int.add_mul]; simp
theorem rf_sum {β : Type} {f : Nat → List β} : ∀ n, (((List.range n).flatMap f).length : Int) = sumN n (fun i => ((f i).length : Int)) := by
  intro n
  induction n with
  | zero => rfl
  | succ n ih => rw [rf_s, List.length_append, sumN_s, ← ih]; omega
theorem fm_bd {α β : Type} {f : α → List β} {c : Nat} : ∀ L : List α, (∀ v, v ∈ L → (f v).length ≤ c) → (L.flatMap f).length ≤ c * L.length := by
  intro L
  induction L with
  | nil => intro _; simp
  | cons x l ih =>
    intro a
    rw [List.flatMap_cons, List.length_append, List.length_cons, Nat.mul_succ]
    have := ih (fun v hv => a v (List.mem_cons_of_mem _ hv))
    have := a x List.mem_cons_self
    omega
theorem need_2 {N : Nat → Int} {k a c : Int} {d : ND} {no : BitVec 64} : (needCl N k a c d no).length ≤ 2 := by
  unfold needCl
  split <;> simp
/-- the versions of all packages that a rule takes -/
theorem vsl_all {N : Nat → Int} {m : Nat} (W : WV N m) (q : Nat → Bool) : sumN (pc N) (fun p => ((vsl N p).countP q : Int)) = (cntN (vc N) q : Int) := by
  have e : ∀ p, p < pc N → ((vsl N p).countP q : Int) = sumN (vc N) (fun v => if (decide (nV N v 0 = p) && q v) = true then 1 else 0) := fun p _ => by
    unfold vsl
    rw [vslN_cnt, cntN_s]
  rw [sumN_cg _ e, sumN_sw, cntN_s]
  refine sumN_cg _ (fun v hv => ?_)
  have w := W.2.2.2.2.1 v hv
  by_cases c : q v = true
  · rw [if_pos c]
    have p0 : (nV N v 0).toNat < pc N := by unfold pc; omega
    rw [sumN_1 (i := (nV N v 0).toNat) (pc N) p0 (fun j hj n => if_neg (fun y => by
      rw [Bool.and_eq_true, decide_eq_true_iff] at y
      exact n (by omega)))]
    rw [if_pos]
    rw [Bool.and_eq_true, decide_eq_true_iff]
    exact ⟨by omega, c⟩
  · rw [if_neg c]
    exact sumN_0 _ (fun p _ => if_neg (fun y => by rw [Bool.and_eq_true] at y; exact c y.2))
theorem vsl_sum {N : Nat → Int} {m : Nat} (W : WV N m) : sumN (pc N) (fun p => ((vsl N p).length : Int)) ≤ 40 := by
  have e := vsl_all W (fun _ => true)
  have : ∀ p, p < pc N → ((vsl N p).length : Int) = ((vsl N p).countP (fun _ => true) : Int) := fun p _ => by rw [List.countP_true]
  rw [sumN_cg _ this, e]
  have := cntN_le (fun _ => true) (vc N)
  have := W.2.2.2.1
  unfold vc at *
  omega
theorem ban_39 {N : Nat → Int} {m : Nat} (W : WV N m) {d : ND} {p v : Nat} (hv : v < vc N) : (banCl N d p v).length ≤ 39 := by
  have e := vsl_all W (fun w => !decide (w = v))
  have l : ((banCl N d p v).length : Int) ≤ sumN (pc N) (fun q => ((vsl N q).countP (fun w => !decide (w = v)) : Int)) := by
    unfold banCl
    rw [rf_sum]
    refine sumN_le _ (fun q _ => ?_)
    rw [List.length_map, ← List.countP_eq_length_filter]
    have := List.countP_mono_left (p := fun w => !decide (w = v) && nmet N d w) (q := fun w => !decide (w = v)) (l := vsl N q) (fun w _ y => by rw [Bool.and_eq_true] at y; exact y.1)
    omega
  rw [e] at l
  have lt := cntN_lt (g := fun w => !decide (w = v)) (k := fun _ => true) (vc N) (fun i _ _ => rfl) ⟨v, hv, rfl, by simp⟩
  have := cntN_le (fun _ => true) (vc N)
  have := W.2.2.2.1
  unfold vc at *
  omega
theorem ver_86 {N : Nat → Int} {nd : Nat → ND} {m : Nat} (W : WV N m) {p v : Nat} (hv : v < vc N) : (verCl N nd p v).length ≤ 86 := by
  obtain ⟨w7, w7', w8, w11, w11', w12_, w12', w13, -⟩ := (W.2.2.2.2.1 v hv).2.2.2.2.2.2.2.2.2.2.2
  unfold verCl
  rw [List.length_append, List.length_append]
  have a := fm_bd (f := fun k => needCl N 3 p (nV N v 1) (nd (nV N v (8 + k)).toNat) (bit1 v)) (c := 2) (List.range (nV N v 7).toNat) (fun _ _ => need_2)
  have b := fm_bd (f := fun k => banCl N (nd (nV N v (13 + k)).toNat) p v) (c := 39) (List.range (nV N v 12).toNat) (fun _ _ => ban_39 W hv)
  rw [List.length_range] at a b
  have c : (if nV N v 6 = 0 then [] else needCl N 5 p (nV N v 1) (nd (nV N v 6 - 1).toNat) (bit1 v ||| oBit p)).length ≤ 2 := by
    split
    · simp
    · exact need_2
  omega
def tri : Nat → Nat
  | 0 => 0
  | n + 1 => n + tri n
theorem pair_tri {N : Nat → Int} {p : Nat} : ∀ L : List Nat, (pairCl N p L).length = tri L.length := by
  intro L
  induction L with
  | nil => rfl
  | cons v l ih =>
    unfold pairCl
    rw [List.length_append, List.length_map, ih]; rfl
theorem tri_7 : ∀ k : Fin 9, 2 * tri k.1 ≤ 7 * k.1 := by decide
theorem told_le {h : XH} {N : Nat → Int} {nd : Nat → ND} {m : Nat} (W : WF N m) (C : CSP h 8 N) : (told N nd).length ≤ 3712 := by
  have r3 := rh_lt W
  have wr := W.2.1 _ r3
  have w12 := W.1.2.1
  have S := vsl_sum W.1
  have e1 := fm_bd (f := fun w => wishCl N nd (rh N) w) (c := 2) (List.range (nR N (rh N) 0).toNat) (fun w _ => by
    unfold wishCl
    split
    · simp
    · exact need_2)
  rw [List.length_range] at e1
  have e2 : (((List.range (pc N)).flatMap fun p => holdCl N (rh N) p).length : Int) ≤ sumN (pc N) (fun p => ((vsl N p).length : Int) + 2) := by
    rw [rf_sum]
    refine sumN_le _ (fun p _ => ?_)
    unfold holdCl
    split
    · split
      · rw [List.length_map]; omega
      · simp only [List.length_cons, List.length_nil]; omega
    · simp only [List.length_nil]; omega
  have e3 : (((List.range (pc N)).flatMap fun p => pinCl N nd (rh N) p).length : Int) ≤ sumN (pc N) (fun p => ((vsl N p).length : Int)) := by
    rw [rf_sum]
    refine sumN_le _ (fun p _ => ?_)
    unfold pinCl
    split
    · simp only [List.length_nil]; omega
    · rw [List.length_map]
      have := List.length_filter_le (fun v => !rmet (rng (nd (nR N (rh N) (10 + p) - 1).toNat)) (nV N v 1)) (vsl N p)
      omega
  have e4 : 2 * (((List.range (pc N)).flatMap fun p => packCl N nd p).length : Int) ≤ sumN (pc N) (fun p => 179 * ((vsl N p).length : Int) + 2) := by
    rw [rf_sum, ← sumN_cm]
    refine sumN_le _ (fun p hp => ?_)
    unfold packCl
    rw [List.length_append, List.length_append, pair_tri, List.length_singleton]
    have a := fm_bd (f := fun v => verCl N nd p v) (c := 86) (vsl N p) (fun v hv => ver_86 W.1 (vsl_mem.mp hv).1)
    have l8 := (vsl_C W.1 C hp).2.1
    have b := tri_7 ⟨(vsl N p).length, by omega⟩
    dsimp only at b
    omega
  rw [sumN_add, sumN_k] at e2
  rw [sumN_add, sumN_cm, sumN_k] at e4
  have p12 : (pc N : Int) ≤ 12 := by unfold pc; omega
  have t : (told N nd).length = ((List.range (nR N (rh N) 0).toNat).flatMap fun w => wishCl N nd (rh N) w).length + ((List.range (pc N)).flatMap fun p => holdCl N (rh N) p).length + ((List.range (pc N)).flatMap fun p => pinCl N nd (rh N) p).length + ((List.range (pc N)).flatMap fun p => packCl N nd p).length := by
    unfold told
    rw [List.length_append, List.length_append, List.length_append]; rfl
  have := wr.1
  have := wr.2.1
  omega
theorem pin_e {N : Nat → Int} {nd : Nat → ND} {m r p : Nat} (W : WV N m) : noneCl N 2 p (barN N nd r p) = pinCl N nd r p := by
  have v40 := vc64 W
  unfold pinCl barN
  by_cases c : nR N r (10 + p) = 0
  · rw [if_pos c, if_pos c]
    unfold noneCl
    rw [← fm_if]
    have : (vsl N p).filter (fun v => (0#64 : BitVec 64).getLsbD v) = [] := by
      rw [List.filter_eq_nil_iff]
      intro v _
      rw [BitVec.getLsbD_zero]; decide
    rw [this]; rfl
  · rw [if_neg c, if_neg c]
    unfold noneCl
    rw [← fm_if]
    congr 1
    refine List.filter_congr (fun v hv => ?_)
    obtain ⟨a, b⟩ := vsl_mem.mp hv
    unfold pMask
    rw [orN_at _ _ _ (by omega), decide_eq_true a, decide_eq_true b]; rfl
theorem hold_e {N : Nat → Int} {r p : Nat} (c : isHeld N r p = true) : holdCl N r p = hold1 N (inst N r) p := by unfold holdCl; rw [if_pos c]; rfl
set_option maxHeartbeats 8000000 in
theorem c_X1_tell {h : XH} {N : Nat → Int} {nd : Nat → ND} {m : Nat} (T : HT h) (C : CS h 8 N nd) (W : WF N m) (dk : DK nd m) (M : MetOK h N nd) {K : XH → Prop} (k : ∀ g, HT g → TQ h g → TellOK g (told N nd) → K g) : w_X1_tell K h := by
  unfold w_X1_tell
  have w12 := W.1.2.1
  have w00 := W.1.1
  have v40 := vc64 W.1
  have pcN : (pc N : Int) = N 0 := by unfold pc; omega
  obtain ⟨r, er⟩ : ∃ r, r = rh N := ⟨_, rfl⟩
  have r3 : r < 3 := by rw [er]; exact rh_lt W
  have rb := rc_lt r3
  have wr_ := W.2.1 r r3
  have R := R8 (C.2.2.1 r r3)
  have TL := told_le (nd := nd) W C.2.1
  have te : told N nd = (List.range (nR N r 0).toNat).flatMap (fun w => wishCl N nd r w) ++ (List.range (pc N)).flatMap (fun p => holdCl N r p) ++ (List.range (pc N)).flatMap (fun p => pinCl N nd r p) ++ (List.range (pc N)).flatMap (fun p => packCl N nd p) := by rw [er]; rfl
  rw [te] at TL k
  simp only [List.length_append] at TL
  intro h1 eh1 t1 u1
  have q1 : TQ h h1 := ⟨by rw [eh1]; exact Fr_sV ⟨by decide, by decide⟩, by rw [eh1, len_sV], by rw [eh1, xhs_sV], fun j n => by rw [eh1]; exact el_ni (fun y => n y.symm)⟩
  have z1 : TellOK h1 [] := ⟨by rw [eh1]; exact hI_eq (by rw [lyn (c := 2) (n := 9) T rfl]; decide) (rgk rfl), by decide, fun i hi => by cases hi⟩
  have C1 := TQ_CS T C W q1
  refine c_atH C1 W ?_
  rw [← er]
  refine ⟨fun x g => ∃ j : Nat, x = (j : Int) ∧ (j : Int) ≤ nR N r 0 ∧ TQ h g ∧ TellOK g ((List.range j).flatMap (fun w => wishCl N nd r w)), fun x _ => (nR N r 0 - x).toNat, ?_, ?_⟩
  · exact ⟨0, rfl, by have := wr_.1; omega, q1, z1⟩
  · intro x3 h4 t4 s4 rx3 z5
    obtain ⟨j, ej, jl, q, z_⟩ := z5
    have C4 := TQ_CS T C W q
    have R4 := R8 (C4.2.2.1 r r3)
    have i0 : hI h4 (rc r) 0 = nR N r 0 := R4.1
    have rl := rf_le (f := fun w => wishCl N nd r w) (show j ≤ (nR N r 0).toNat by omega)
    refine ⟨(rc_k t4 r3), ?_⟩
    refine ⟨fun c46 => ?_, fun c46 => ?_⟩
    · rw [i0] at c46
      rw [show j = (nR N r 0).toNat by omega] at z_
      refine ⟨fun x g => ∃ j : Nat, x = (j : Int) ∧ j ≤ pc N ∧ TQ h g ∧ TellOK g ((List.range (nR N r 0).toNat).flatMap (fun w => wishCl N nd r w) ++ (List.range j).flatMap (fun p => holdCl N r p)), fun x _ => ((pc N : Int) - x).toNat, ?_, ?_⟩
      · exact ⟨0, rfl, Nat.zero_le _, q, by rw [List.range_zero, List.flatMap_nil, List.append_nil]; exact z_⟩
      · intro x7 h8 t8 s8 rx7 z9
        obtain ⟨j, ej, jl, q, z_⟩ := z9
        have i9 : hI h8 9 0 = N 0 := (V80 (TQ_CS T C W q).1).1
        have R8_ := R8 ((TQ_CS T C W q).2.2.1 r r3)
        refine ⟨fun c42 => ?_, fun c42 => ?_⟩
        · rw [i9] at c42
          rw [show j = pc N by omega] at z_
          refine ⟨fun x g => ∃ j : Nat, x = (j : Int) ∧ j ≤ pc N ∧ TQ h g ∧ TellOK g ((List.range (nR N r 0).toNat).flatMap (fun w => wishCl N nd r w) ++ (List.range (pc N)).flatMap (fun p => holdCl N r p) ++ (List.range j).flatMap (fun p => pinCl N nd r p)), fun x _ => ((pc N : Int) - x).toNat, ?_, ?_⟩
          · exact ⟨0, rfl, Nat.zero_le _, q, by rw [List.range_zero, List.flatMap_nil, List.append_nil]; exact z_⟩
          · intro x11 h12 t12 s12 rx11 z13
            obtain ⟨j, ej, jl, q, z_⟩ := z13
            have i9 : hI h12 9 0 = N 0 := (V80 (TQ_CS T C W q).1).1
            refine ⟨fun c35 => ?_, fun c35 => ?_⟩
            · rw [i9] at c35
              rw [show j = pc N by omega] at z_
              refine ⟨fun x g => ∃ j : Nat, x = (j : Int) ∧ j ≤ pc N ∧ TQ h g ∧ TellOK g ((List.range (nR N r 0).toNat).flatMap (fun w => wishCl N nd r w) ++ (List.range (pc N)).flatMap (fun p => holdCl N r p) ++ (List.range (pc N)).flatMap (fun p => pinCl N nd r p) ++ (List.range j).flatMap (fun p => packCl N nd p)), fun x _ => ((pc N : Int) - x).toNat, ?_, ?_⟩
              · exact ⟨0, rfl, Nat.zero_le _, q, by rw [List.range_zero, List.flatMap_nil, List.append_nil]; exact z_⟩
              · intro x15 h17 t17 s17 rx15 z18
                obtain ⟨j, ej, jl, q, z_⟩ := z18
                have i9 : hI h17 9 0 = N 0 := (V80 (TQ_CS T C W q).1).1
                refine ⟨fun c31 => ?_, fun c31 => ?_⟩
                · rw [i9] at c31
                  rw [show j = pc N by omega] at z_
                  exact k _ t17 q z_
                · rw [i9] at c31
                  have jp : j < pc N := by omega
                  have j12 : j < 12 := by omega
                  obtain ⟨c10, c8, -⟩ := vsl_C W.1 C.2.1 jp
                  have rl := rf_le (f := fun p => packCl N nd p) (show j + 1 ≤ pc N by omega)
                  rw [rf_s, List.length_append] at rl
                  try dsimp only at rl
                  have pe : packCl N nd j = (vsl N j).flatMap (fun v => verCl N nd j v) ++ [(6, (j : Int), -1, oMask N j, oBit j)] ++ pairCl N j (vsl N j) := rfl
                  rw [pe] at rl
                  simp only [List.length_append, List.length_singleton] at rl
                  refine ⟨fun x g => ∃ i : Nat, x = (i : Int) ∧ i ≤ (vsl N j).length ∧ TQ h g ∧ TellOK g ((List.range (nR N r 0).toNat).flatMap (fun w => wishCl N nd r w) ++ (List.range (pc N)).flatMap (fun p => holdCl N r p) ++ (List.range (pc N)).flatMap (fun p => pinCl N nd r p) ++ (List.range j).flatMap (fun p => packCl N nd p) ++ ((vsl N j).take i).flatMap (fun v => verCl N nd j v)), fun x _ => (((vsl N j).length : Int) - x).toNat, ?_, ?_⟩
                  · exact ⟨0, rfl, Nat.zero_le _, q, by rw [List.take_zero, List.flatMap_nil, List.append_nil]; exact z_⟩
                  · intro x19 h20 t20 s20 rx19 z21
                    obtain ⟨i, ei, il, q20, z20⟩ := z21
                    have C20 := TQ_CS T C W q20
                    have M20 := TQ_M T M q20
                    have i10 : hI h20 10 j = ((vsl N j).length : Nat) := (sameC_I (TQ_s T q20 (by decide) (by decide)) j).trans c10
                    refine ⟨(by omega), ?_⟩
                    refine ⟨fun c30 => ?_, fun c30 => ?_⟩
                    · rw [ej, Int.toNat_natCast, i10] at c30
                      rw [List.take_of_length_le (by omega)] at z20
                      refine c_X12_switchOf (by omega) ?_
                      rw [ej, Int.toNat_natCast]
                      rw [(M20.2.2 j jp).1]
                      refine c_X1_add t20 (rgk rfl) (by unfold rg; omega) (rgk rfl) z20 (by simp only [List.length_append]; omega) ?_
                      intro h24 th24 q24 z24
                      intro t24 u24
                      refine c_X1_tellPairs th24 (TQ_CS t20 C20 W q24) W jp z24 (by simp only [List.length_append, List.length_singleton]; omega) ?_
                      intro h25 th25 q25 z25
                      intro t25 u25
                      intro x26 ex26 rx26
                      rw [wr_of (by omega) (by omega)] at ex26
                      refine ⟨⟨j + 1, by omega, by omega, TQ_tr (TQ_tr q20 q24) q25, ?_⟩, by dsimp only; omega⟩
                      rw [rf_s, pe]
                      simp only [List.append_assoc] at z25 ⊢
                      exact z25
                    · rw [ej, Int.toNat_natCast, i10] at c30
                      have il2 : i < (vsl N j).length := by omega
                      obtain ⟨v_, v0⟩ := vsl_get il2
                      have fs := fm_s (f := fun v => verCl N nd j v) (d := 0) il2
                      have fl := fm_le (L := vsl N j) (f := fun v => verCl N nd j v) (i + 1)
                      rw [fs, List.length_append] at fl
                      try dsimp only at fl
                      rw [ej, ei]
                      refine c_X8_idAt t20 C20 W (by omega) (by simp; omega) ?_
                      rw [Int.toNat_natCast, Int.toNat_natCast]
                      intro rx27
                      refine c_X1_tellVersion t20 C20 W dk M20 jp v_ z20 (by simp only [List.length_append]; omega) ?_
                      intro h28 th28 q28 z28
                      intro t28 u28
                      intro x29 ex29 rx29
                      rw [wr_of (by omega) (by omega)] at ex29
                      refine ⟨⟨i + 1, by omega, by omega, TQ_tr q20 q28, ?_⟩, by dsimp only; omega⟩
                      rw [fs, ← List.append_assoc]
                      exact z28
            · rw [i9] at c35
              have jp : j < pc N := by omega
              have rl := rf_le (f := fun p => pinCl N nd r p) (show j + 1 ≤ pc N by omega)
              rw [rf_s, List.length_append] at rl
              try dsimp only at rl
              have b50 : hL h12 50 j = barN N nd r j := by rw [sameC_L (TQ_s T q (by decide) (by decide)), er]; exact (M.2.2 j jp).2
              refine ⟨(by omega), ?_⟩
              rw [ej, Int.toNat_natCast, b50]
              refine c_X1_tellNone t12 (TQ_CS T C W q) W (rgk rfl) jp z_ (by rw [pin_e W.1]; simp only [List.length_append]; omega) ?_
              rw [pin_e W.1]
              intro h33 th33 q33 z33
              intro t33 u33
              intro x34 ex34 rx34
              rw [wr_of (by omega) (by omega)] at ex34
              refine ⟨⟨j + 1, by omega, by omega, TQ_tr q q33, ?_⟩, by dsimp only; omega⟩
              rw [rf_s, ← List.append_assoc]
              exact z33
        · rw [i9] at c42
          have jp : j < pc N := by omega
          have rl := rf_le (f := fun p => holdCl N r p) (show j + 1 ≤ pc N by omega)
          rw [rf_s, List.length_append] at rl
          try dsimp only at rl
          have i2 : hI h8 (rc r) 2 = nR N r 9 := R8_.2.2.1
          obtain ⟨a, ea⟩ : ∃ a : Nat, nR N r 9 = (a : Int) := ⟨(nR N r 9).toNat, by have := wr_.2.2.2.1; omega⟩
          have a4 : a < 4096 := by have := wr_.2.2.2.2.1; omega
          have bi := bit_ishr (n := j) a4 (by omega)
          have ih : isHeld N r j = a.testBit j := by unfold isHeld; rw [ea]; rfl
          refine ⟨(rc_k t8 r3), ?_⟩
          refine ⟨fun g => TQ h g ∧ TellOK g ((List.range (nR N r 0).toNat).flatMap (fun w => wishCl N nd r w) ++ (List.range (j + 1)).flatMap (fun p => holdCl N r p)), ?_, ?_⟩
          · intro h37 t37 s37 z38
            intro x39 ex39 rx39
            rw [wr_of (by omega) (by omega)] at ex39
            exact ⟨⟨j + 1, by omega, by omega, z38.1, z38.2⟩, by dsimp only; omega⟩
          · refine ⟨fun c41 => ?_, fun c41 => ?_⟩
            · rw [i2, ea, ej, bi] at c41
              have nh : ¬ isHeld N r j = true := fun y => by rw [ih] at y; rw [if_pos y] at c41; omega
              have : holdCl N r j = [] := by unfold holdCl; rw [if_neg nh]
              refine ⟨q, ?_⟩
              rw [rf_s, this, List.append_nil]
              exact z_
            · rw [i2, ea, ej, bi] at c41
              have yh : isHeld N r j = true := by
                rw [ih]
                exact Classical.byContradiction fun y => c41 (if_neg y)
              rw [hold_e yh] at rl
              rw [ej]
              refine c_X1_tellHold t8 (TQ_CS T C W q) W jp R8_.2.2.2.2.2.2.1 z_ ?_ ?_
              · simp only [List.length_append]
                show _ + (hold1 N (inst N r) j).length ≤ 3712
                omega
              intro h40 th40 q40 z40
              intro t40 u40
              refine ⟨TQ_tr q q40, ?_⟩
              rw [rf_s, hold_e yh, ← List.append_assoc]
              exact z40
    · rw [i0] at c46
      have rl1 := rf_le (f := fun w => wishCl N nd r w) (show j + 1 ≤ (nR N r 0).toNat by omega)
      rw [rf_s, List.length_append] at rl1
      try dsimp only at rl1
      refine ⟨(by have := wr_.2.1; omega), ?_⟩
      have w8 : j < 8 := by have := wr_.2.1; omega
      have b49 : hL h4 49 j = mNeed N nd (nR N r (1 + j)) := by rw [sameC_L (TQ_s T q (by decide) (by decide)), er]; exact M.2.1 j w8 (by show (j : Int) < nR N (rh N) 0; rw [← er]; omega)
      rw [ej, Int.toNat_natCast, b49]
      rcases R4.2.1 j w8 (by omega) with ⟨y1, y2⟩ | ⟨y1, A⟩
      · rw [show hR h4 (rc r + 1) j = 0 from y2]
        refine tell_null ?_
        intro t_ u_ x45 ex45 rx45
        rw [wr_of (by omega) (by omega)] at ex45
        have : wishCl N nd r j = [] := by unfold wishCl; rw [if_pos y1]
        refine ⟨⟨j + 1, by omega, by omega, q, ?_⟩, by dsimp only; omega⟩
        rw [rf_s, this, List.append_nil]
        exact z_
      have e1 : wishCl N nd r j = needCl N 0 j (-1) (nd (nR N r (1 + j)).toNat) 0#64 := by unfold wishCl; rw [if_neg (by omega)]
      rw [mNeed_p y1]
      rw [e1] at rl1
      refine c_X1_tellNeed t4 C4 W (rgk rfl) (by unfold rg; omega) (rgk rfl) A (dk _ (by have := wr_.2.2.1 j w8 (by omega); omega)) z_ (by omega) ?_
      intro h44 th44 q44 z44
      intro t44 u44
      intro x45 ex45 rx45
      rw [wr_of (by omega) (by omega)] at ex45
      refine ⟨⟨j + 1, by omega, by omega, TQ_tr q q44, ?_⟩, by dsimp only; omega⟩
      rw [rf_s, e1]
      exact z44
