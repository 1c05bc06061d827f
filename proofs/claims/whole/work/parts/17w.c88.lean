theorem hold_b {N : Nat → Int} {m : Nat} (W : WV N m) {s : BitVec 64} {f : Nat → Int} (S : SetR N s f) {p : Nat} (hp : p < 12) : s &&& vMask N p = if f p = -1 then 0#64 else bit1 (slF N f p).toNat := by
  have v40 := vc64 W
  refine bits_eq (fun j hj => ?_)
  have e : (s &&& vMask N p).getLsbD j = (s.getLsbD j && (decide (j < vc N) && decide (nV N j 0 = p))) := by
    rw [BitVec.getLsbD_and]
    unfold vMask
    rw [orN_at _ _ _ (by omega)]
  rw [e]
  by_cases c : f p = -1
  · rw [if_pos c, BitVec.getLsbD_zero]
    by_cases y : s.getLsbD j = true ∧ j < vc N ∧ nV N j 0 = p
    · obtain ⟨y1, y2, y3⟩ := y
      have := ((S.1 j (by have := W.2.2.2.1; unfold vc at y2; omega)).mp y1).2
      rw [y3, Int.toNat_natCast, c] at this
      have := (W.2.2.2.2.1 j y2).2.2.1
      omega
    · refine Classical.byContradiction fun z => y ?_
      rw [Bool.not_eq_false, Bool.and_eq_true, Bool.and_eq_true, decide_eq_true_iff, decide_eq_true_iff] at z
      exact z
  · rw [if_neg c]
    obtain ⟨v, hv, e0, e1⟩ := (S.2.2.2 p hp).resolve_left c
    rw [slF_r W hv e0 e1, Int.toNat_natCast, bit1_at (by omega)]
    by_cases y : j = v
    · rw [y, (S.1 v (by have := W.2.2.2.1; unfold vc at hv; omega)).mpr ⟨hv, by rw [e0, Int.toNat_natCast]; exact e1⟩, decide_eq_true hv, decide_eq_true e0, decide_eq_true rfl]; rfl
    · rw [decide_eq_false y]
      refine Classical.byContradiction fun z => y ?_
      rw [Bool.not_eq_false, Bool.and_eq_true, Bool.and_eq_true, decide_eq_true_iff, decide_eq_true_iff] at z
      obtain ⟨y1, y2, y3⟩ := z
      have q := ((S.1 j (by have := W.2.2.2.1; unfold vc at y2; omega)).mp y1).2
      rw [y3, Int.toNat_natCast] at q
      have a1 := W.2.2.2.2.1 j y2
      have a2 := W.2.2.2.2.1 v hv
      exact W.2.2.2.2.2.2 j v y2 hv (by omega) (by have := a1.2.2.1; have := a1.2.2.2.1; have := a2.2.2.1; have := a2.2.2.2.1; omega)
def hold1 (N : Nat → Int) (f : Nat → Int) (p : Nat) : List Cl :=
  if f p = -1 then (vsl N p).map fun v => (1, (p : Int), -1, 0#64, bit1 v)
  else [(1, (p : Int), -1, bit1 (slF N f p).toNat, 0#64), (1, (p : Int), -1, (if 1000000 ≤ f p then oBit p else 0#64), (if 1000000 ≤ f p then 0#64 else oBit p))]
theorem none_v {N : Nat → Int} {m p : Nat} (W : WV N m) : noneCl N 1 p (vMask N p) = (vsl N p).map fun v => (1, (p : Int), -1, 0#64, bit1 v) := by
  unfold noneCl
  rw [← fm_if]
  congr 1
  rw [List.filter_eq_self]
  intro v hv
  have v40 := vc64 W
  obtain ⟨a, b⟩ := vsl_mem.mp hv
  unfold vMask
  rw [orN_at _ _ _ (by omega), decide_eq_true a, decide_eq_true b]; rfl
set_option maxHeartbeats 1000000 in
theorem c_X1_tellHold {p : Nat} {s : BitVec 64} {f : Nat → Int} {l : List Cl} {h : XH} {N : Nat → Int} {nd : Nat → ND} {m : Nat} (T : HT h) (C : CS h 8 N nd) (W : WF N m) (hp : p < pc N) (S : SetR N s f) (z : TellOK h l) (lt : l.length + (hold1 N f p).length ≤ 3712) {K : XH → Prop} (k : ∀ g, HT g → TQ h g → TellOK g (l ++ hold1 N f p) → K g) : w_X1_tellHold (p : Int) s K h := by
  unfold w_X1_tellHold
  have w12 := W.1.2.1
  have v40 := vc64 W.1
  have n0 : (p : Int) < N 0 := by unfold pc at hp; omega
  have p12 : p < 12 := by omega
  have hb := hold_b W.1 S p12
  have ho := S.2.1 p p12
  refine c_X8_versionsOf T C W (by omega) ?_
  rw [Int.toNat_natCast]
  intro b2 eb2
  refine ⟨fun c19 => ?_, fun c19 => ?_⟩
  · rw [eb2, hb] at c19
    have nf : ¬ f p = -1 := fun y => c19 (if_pos y)
    rw [if_neg nf] at hb
    have e2 : hold1 N f p = [(1, (p : Int), -1, bit1 (slF N f p).toNat, 0#64), (1, (p : Int), -1, (if 1000000 ≤ f p then oBit p else 0#64), (if 1000000 ≤ f p then 0#64 else oBit p))] := by unfold hold1; rw [if_neg nf]
    rw [e2] at lt
    simp only [List.length_cons, List.length_nil] at lt
    refine c_X12_switchOf (by omega) ?_
    rw [Int.toNat_natCast]
    refine ⟨fun x => (x = 0 ∧ ¬ 1000000 ≤ f p) ∨ (x = 1 ∧ 1000000 ≤ f p), ?_, ?_⟩
    · intro x4 rx4 z5
      rw [eb2, hb]
      refine c_X1_add T (rgk rfl) (by unfold rg; omega) (rgk rfl) z (by omega) ?_
      intro h6 th6 q6 z6
      intro t6 u6
      refine ⟨fun b => b = if 1000000 ≤ f p then oBit p else 0#64, ?_, ?_⟩
      · intro b7 z8
        refine ⟨fun b => b = if 1000000 ≤ f p then 0#64 else oBit p, ?_, ?_⟩
        · intro b9 z10
          rw [z8, z10]
          refine c_X1_add th6 (rgk rfl) (by unfold rg; omega) (rgk rfl) z6 (by rw [List.length_append, List.length_singleton]; omega) ?_
          intro h11 th11 q11 z11
          intro t11 u11
          rw [List.append_assoc] at z11
          exact k _ th11 (TQ_tr q6 q11) (by rw [e2]; exact z11)
        · refine ⟨fun c13 => ?_, fun c13 => ?_⟩
          · refine c_X12_switchOf (by omega) ?_
            rw [Int.toNat_natCast]
            rw [if_neg (by omega)]; rfl
          · rw [if_pos (by omega)]
      · refine ⟨fun c15 => ?_, fun c15 => ?_⟩
        · rw [if_neg (by omega)]
        · refine c_X12_switchOf (by omega) ?_
          rw [Int.toNat_natCast]
          rw [if_pos (by omega)]; rfl
    · refine ⟨fun c16 => ?_, fun c16 => ?_⟩
      · rw [and_bit1 (by omega)] at c16
        exact .inl ⟨rfl, fun y => by rw [ho.mpr y] at c16; cases c16⟩
      · rw [and_bit1 (by omega)] at c16
        exact .inr ⟨rfl, ho.mp (Bool.not_eq_false _ ▸ c16)⟩
  · rw [eb2, hb] at c19
    have nf : f p = -1 := Classical.byContradiction fun y => c19 (by
      rw [if_neg y]
      intro z
      have := congrArg (fun b => b.getLsbD (slF N f p).toNat) z
      have s40 := slF_40 W f p
      simp only [bit1_at (show (slF N f p).toNat < 64 by omega)] at this
      simp at this)
    have e2 : hold1 N f p = noneCl N 1 p (vMask N p) := by rw [none_v W.1]; unfold hold1; rw [if_pos nf]
    refine c_X8_versionsOf T C W (by omega) ?_
    rw [Int.toNat_natCast]
    refine c_X1_tellNone T C W (rgk rfl) hp z (by rw [← e2]; exact lt) ?_
    rw [← e2]
    intro h18 th18 q18 z18
    intro t18 u18
    exact k _ th18 q18 z18
theorem rf_s {β : Type} {f : Nat → List β} {n : Nat} : (List.range (n + 1)).flatMap f = (List.range n).flatMap f ++ f n := by
  rw [List.range_succ, List.flatMap_append]; simp
theorem rf_le {β : Type} {f : Nat → List β} {k n : Nat} (h : k ≤ n) : ((List.range k).flatMap f).length ≤ ((List.range n).flatMap f).length := by
  induction n with
  | zero => rw [show k = 0 by omega]; exact Nat.le_refl _
  | succ n ih =>
    by_cases e : k = n + 1
    · rw [e]; exact Nat.le_refl _
    · rw [rf_s, List.length_append]
      have := ih (by omega)
      omega
def ban1 (N : Nat → Int) (d : ND) (p v q : Nat) : List Cl := (vsl N q).flatMap fun w => if (!decide (w = v) && nmet N d w) = true then [(4, (p : Int), nV N v 1, 0#64, bit1 v ||| bit1 w)] else []
theorem banCl_e {N : Nat → Int} {d : ND} {p v : Nat} : banCl N d p v = (List.range (pc N)).flatMap (ban1 N d p v) := by
  unfold banCl ban1
  congr 1
  funext q
  exact fm_if
theorem ban_b {N : Nat → Int} {m : Nat} (W : WV N m) {d : ND} {v w : Nat} (hv : v < vc N) (hw : w < vc N) : (nMask N d &&& (bit1 v ^^^ 18446744073709551615#64)).getLsbD w = (!decide (w = v) && nmet N d w) := by
  have v40 := vc64 W
  rw [BitVec.getLsbD_and, not_m1_at (by omega), bit1_at (by omega)]
  unfold nMask
  rw [orN_at _ _ _ (by omega), decide_eq_true hw, Bool.true_and, Bool.and_comm]
set_option maxHeartbeats 1000000 in
theorem c_X1_tellBan {p v : Nat} {d : ND} {l : List Cl} {h : XH} {N : Nat → Int} {nd : Nat → ND} {m : Nat} (T : HT h) (C : CS h 8 N nd) (W : WF N m) (hp : p < pc N) (hv : v < vc N) (z : TellOK h l) (lt : l.length + (banCl N d p v).length ≤ 3712) {K : XH → Prop} (k : ∀ g, HT g → TQ h g → TellOK g (l ++ banCl N d p v) → K g) : w_X1_tellBan (p : Int) (nV N v 1) (bit1 v) (nMask N d &&& (bit1 v ^^^ 18446744073709551615#64)) K h := by
  unfold w_X1_tellBan
  have w12 := W.1.2.1
  have w00 := W.1.1
  have v40 := vc64 W.1
  have wv := W.1.2.2.2.2.1 v hv
  have i9 : hI h 9 0 = N 0 := (V80 C.1).1
  have p12 : p < 12 := by unfold pc at hp; omega
  rw [banCl_e] at lt k
  refine ⟨fun x g => ∃ q : Nat, x = (q : Int) ∧ q ≤ pc N ∧ TQ h g ∧ TellOK g (l ++ (List.range q).flatMap (ban1 N d p v)), fun x _ => ((pc N : Int) - x).toNat, ?_, ?_⟩
  · exact ⟨0, rfl, Nat.zero_le _, TQ_rf _, by simp; exact z⟩
  · intro x1 h4 t4 s4 rx1 z5
    obtain ⟨q, eq, ql, q4, z4⟩ := z5
    have i9_ : hI h4 9 0 = N 0 := (sameC_I (TQ_s T q4 (by decide) (by decide)) 0).trans i9
    refine ⟨fun c20 => ?_, fun c20 => ?_⟩
    · rw [i9_] at c20
      have : q = pc N := by unfold pc at ql ⊢; omega
      rw [this] at z4
      exact k _ t4 q4 z4
    · rw [i9_] at c20
      have qp : q < pc N := by unfold pc; omega
      have q12 : q < 12 := by omega
      obtain ⟨c10, c8, -⟩ := vsl_C W.1 C.2.1 qp
      have rs := rf_s (f := ban1 N d p v) (n := q)
      have rl := rf_le (f := ban1 N d p v) (show q + 1 ≤ pc N by omega)
      rw [rs, List.length_append] at rl
      refine ⟨fun x g => ∃ j : Nat, x = (j : Int) ∧ j ≤ (vsl N q).length ∧ TQ h g ∧ TellOK g (l ++ (List.range q).flatMap (ban1 N d p v) ++ ((vsl N q).take j).flatMap (fun w => if (!decide (w = v) && nmet N d w) = true then [((4 : Int), (p : Int), nV N v 1, 0#64, bit1 v ||| bit1 w)] else [])), fun x _ => (((vsl N q).length : Int) - x).toNat, ?_, ?_⟩
      · exact ⟨0, rfl, Nat.zero_le _, q4, by rw [List.take_zero, List.flatMap_nil, List.append_nil]; exact z4⟩
      · intro x6 h8 t8 s8 rx6 z9
        obtain ⟨j, ej, jl, q8, z8⟩ := z9
        have i10 : hI h8 10 q = ((vsl N q).length : Nat) := (sameC_I (TQ_s T q8 (by decide) (by decide)) q).trans c10
        refine ⟨(by omega), ?_⟩
        refine ⟨fun c19 => ?_, fun c19 => ?_⟩
        · rw [eq, Int.toNat_natCast, i10] at c19
          intro x11 ex11 rx11
          rw [wr_of (by omega) (by omega)] at ex11
          rw [List.take_of_length_le (by omega)] at z8
          refine ⟨⟨q + 1, by omega, by omega, q8, ?_⟩, by dsimp only; omega⟩
          rw [rs, ← List.append_assoc]
          exact z8
        · rw [eq, Int.toNat_natCast, i10] at c19
          have jl2 : j < (vsl N q).length := by omega
          obtain ⟨w_, w0⟩ := vsl_get jl2
          have fs := fm_s (f := (fun w => if (!decide (w = v) && nmet N d w) = true then [((4 : Int), (p : Int), nV N v 1, 0#64, bit1 v ||| bit1 w)] else [])) (d := 0) jl2
          have fl := fm_le (L := vsl N q) (f := (fun w => if (!decide (w = v) && nmet N d w) = true then [((4 : Int), (p : Int), nV N v 1, 0#64, bit1 v ||| bit1 w)] else [])) (j + 1)
          rw [eq, ej]
          refine c_X8_idAt t8 (TQ_CS T C W q8) W (by omega) (by simp; omega) ?_
          rw [Int.toNat_natCast, Int.toNat_natCast]
          intro rx12
          refine c_X12_has (by omega) ?_
          rw [Int.toNat_natCast, ban_b W.1 hv w_]
          intro x13 qx13
          intro rx13 vx13
          refine ⟨fun g => TQ h g ∧ TellOK g (l ++ (List.range q).flatMap (ban1 N d p v) ++ ((vsl N q).take (j + 1)).flatMap (fun w => if (!decide (w = v) && nmet N d w) = true then [((4 : Int), (p : Int), nV N v 1, 0#64, bit1 v ||| bit1 w)] else [])), ?_, ?_⟩
          · intro h14 t14 s14 z15
            intro x16 ex16 rx16
            rw [wr_of (by omega) (by omega)] at ex16
            exact ⟨⟨j + 1, by omega, by omega, z15.1, z15.2⟩, by dsimp only; omega⟩
          · refine ⟨fun c18 => ?_, fun c18 => ?_⟩
            · refine ⟨q8, ?_⟩
              rw [fs, if_neg ((bq1 qx13).2.1.mp c18), List.append_nil]; exact z8
            · have b := (bq1 qx13).2.2.1.mp c18
              rw [lshl1 (by omega)]
              refine c_X1_add t8 (rgk rfl) (by unfold rg; omega) (by unfold rg; omega) z8 ?_ ?_
              · rw [fs, if_pos b] at fl
                have e : (ban1 N d p v q).length = (List.flatMap (fun w => if (!decide (w = v) && nmet N d w) = true then [((4 : Int), (p : Int), nV N v 1, 0#64, bit1 v ||| bit1 w)] else []) (vsl N q)).length := rfl
                simp only [List.length_append, List.length_singleton] at fl lt ⊢
                omega
              intro h17 th17 q17 z17
              intro t17 u17
              rw [fs, if_pos b, ← List.append_assoc]
              exact ⟨TQ_tr q8 q17, z17⟩
