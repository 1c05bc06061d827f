/-! TOLD CLAUSES, the class -/
def TQ (h g : XH) : Prop := Fr (fun b => 51 ≤ b ∧ b < 57) h g ∧ g.length = h.length ∧ xhs g = xhs h ∧ ∀ j, ¬ j = 3 → el g 51 j = el h 51 j
theorem TQ_rf (h : XH) : TQ h h := ⟨Fr_rf _ _, rfl, rfl, fun _ _ => rfl⟩
theorem TQ_tr {h g k : XH} (a : TQ h g) (b : TQ g k) : TQ h k := ⟨Fr_tr a.1 (by rw [a.2.1]; exact Nat.le_refl _) b.1, b.2.1.trans a.2.1, b.2.2.1.trans a.2.2.1, fun j n => (b.2.2.2 j n).trans (a.2.2.2 j n)⟩
theorem TQ_CS {h g : XH} {N : Nat → Int} {nd : Nat → ND} {m : Nat} (T : HT h) (C : CS h 8 N nd) (W : WF N m) (q : TQ h g) : CS g 8 N nd := by
  have L := HT_len T
  exact CS_fr (fun j hj => q.1 (8 + j) (by omega) (by omega)) (txt_fr T q.1 (fun b y => by omega)) (WF_b W) C
theorem TQ_M {h g : XH} {N : Nat → Int} {nd : Nat → ND} (T : HT h) (M : MetOK h N nd) (q : TQ h g) : MetOK g N nd := by
  have L := HT_len T
  exact MetOK_fr (fun b x y => q.1 b (by omega) (by omega)) M
theorem TQ_s {h g : XH} (T : HT h) (q : TQ h g) {b : Nat} (hb : b < 468) (n : ¬ (51 ≤ b ∧ b < 57)) : sameC h g b := by
  have L := HT_len T
  exact q.1 b (by omega) n
theorem TQ_X {h g : XH} (T : HT h) (q : TQ h g) {a : Nat} {d : ND} (A : AtomR h a d) : AtomR g a d := AtomR_fr (txt_fr T q.1 (fun b y => by omega)) A
theorem bits_eq {a b : BitVec 64} (h : ∀ j, j < 64 → a.getLsbD j = b.getLsbD j) : a = b := BitVec.eq_of_getLsbD_eq (fun j hj => h j hj)
theorem not_m1_at {b : BitVec 64} {j : Nat} (hj : j < 64) : (b ^^^ 18446744073709551615#64).getLsbD j = !b.getLsbD j := by
  have al : ∀ m : Fin 64, (18446744073709551615#64 : BitVec 64).getLsbD m.1 = true := by decide +kernel
  rw [BitVec.getLsbD_xor, al ⟨j, hj⟩, Bool.xor_true]
theorem fm_s {α β : Type} {L : List α} {f : α → List β} {k : Nat} {d : α} (h : k < L.length) : (L.take (k + 1)).flatMap f = (L.take k).flatMap f ++ f (L.getD k d) := by
  rw [List.take_succ, List.flatMap_append, List.getElem?_eq_getElem h, List.getD_eq_getElem?_getD, List.getElem?_eq_getElem h]
  simp
theorem fm_le {α β : Type} {L : List α} {f : α → List β} (k : Nat) : ((L.take k).flatMap f).length ≤ (L.flatMap f).length := by
  conv => rhs; rw [← List.take_append_drop k L, List.flatMap_append, List.length_append]
  omega
theorem fm_if {α β : Type} {L : List α} {q : α → Bool} {g : α → β} : (L.filter q).map g = L.flatMap (fun v => if q v = true then [g v] else []) := by
  induction L with
  | nil => rfl
  | cons x l ih =>
    rw [List.filter_cons, List.flatMap_cons]
    by_cases c : q x = true
    · rw [if_pos c, if_pos c, List.map_cons, ih]; rfl
    · rw [if_neg c, if_neg c, ih]; rfl
theorem app_getD {l : List Cl} {c : Cl} {i : Nat} : (l ++ [c]).getD i c0 = if i = l.length then c else l.getD i c0 := by
  rw [List.getD_eq_getElem?_getD, List.getD_eq_getElem?_getD]
  by_cases e : i = l.length
  · rw [if_pos e, e, List.getElem?_append_right (Nat.le_refl _), Nat.sub_self]; rfl
  · rw [if_neg e]
    by_cases y : i < l.length
    · rw [List.getElem?_append_left y]
    · rw [List.getElem?_eq_none (by simp; omega), List.getElem?_eq_none (by omega)]
set_option maxHeartbeats 4000000 in
theorem c_X1_add {p0 p1 p2 : Int} {p3 p4 : BitVec 64} {l : List Cl} {h : XH} (T : HT h) (r0 : rg p0) (r1 : rg p1) (r2 : rg p2) (z : TellOK h l) (lt : l.length < 3712) {K : XH → Prop} (k : ∀ g, HT g → TQ h g → TellOK g (l ++ [(p0, p1, p2, p3, p4)]) → K g) : w_X1_add p0 p1 p2 p3 p4 K h := by
  unfold w_X1_add
  have e3 : hI h 51 3 = (l.length : Nat) := z.1
  refine ⟨fun g => TQ h g ∧ TellOK g (l ++ [(p0, p1, p2, p3, p4)]), ?_, ?_⟩
  · intro h1 t1 s1 z2
    exact k _ t1 z2.1 z2.2
  · refine ⟨fun c14 => ?_, fun c14 => ?_⟩
    · omega
    · refine ⟨(by omega), ?_⟩
      intro h4 eh4 t4 u4
      have f4 : hI h4 51 3 = (l.length : Nat) := by rw [eh4, hI_ne (by decide)]; exact e3
      refine ⟨(by omega), ?_⟩
      intro h6 eh6 t6 u6
      have f6 : hI h6 51 3 = (l.length : Nat) := by rw [eh6, hI_ne (by decide)]; exact f4
      refine ⟨(by omega), ?_⟩
      intro h8 eh8 t8 u8
      have f8 : hI h8 51 3 = (l.length : Nat) := by rw [eh8, hI_ne (by decide)]; exact f6
      refine ⟨(by omega), ?_⟩
      intro h10 eh10 t10 u10
      have f10 : hI h10 51 3 = (l.length : Nat) := by rw [eh10, hI_ne (by decide)]; exact f8
      refine ⟨(by omega), ?_⟩
      intro h12 eh12 t12 u12
      intro h13 eh13 t13 u13
      have f12 : hI h12 51 3 = (l.length : Nat) := by rw [eh12, hI_ne (by decide)]; exact f10
      rw [e3, Int.toNat_natCast] at eh4
      rw [f4, Int.toNat_natCast] at eh6
      rw [f6, Int.toNat_natCast] at eh8
      rw [f8, Int.toNat_natCast] at eh10
      rw [f10, Int.toNat_natCast] at eh12
      rw [f12, wr_of (by omega) (by omega)] at eh13
      have len := z.2.1
      refine ⟨⟨?_, by rw [eh13, eh12, eh10, eh8, eh6, eh4]; simp only [len_sV], by rw [eh13, eh12, eh10, eh8, eh6, eh4]; simp only [xhs_sV], fun j n => ?_⟩, ?_, ?_, fun i hi => ?_⟩
      · rw [eh13, eh12, eh10, eh8, eh6, eh4]
        exact fun b _ n => sameC_tr (sameC_sV (fun y => n (by omega))) (sameC_tr (sameC_sV (fun y => n (by omega))) (sameC_tr (sameC_sV (fun y => n (by omega))) (sameC_tr (sameC_sV (fun y => n (by omega))) (sameC_tr (sameC_sV (fun y => n (by omega))) (sameC_sV (fun y => n (by omega)))))))
      · rw [eh13, el_ni (fun y => n y.symm), eh12, el_ne (by decide), eh10, el_ne (by decide), eh8, el_ne (by decide), eh6, el_ne (by decide), eh4, el_ne (by decide)]
      · rw [eh13, hI_eq (by rw [lyn (c := 2) (n := 9) t12 rfl]; decide) (by unfold rg; omega), List.length_append, List.length_singleton]; omega
      · rw [List.length_append, List.length_singleton]; omega
      · rw [List.length_append, List.length_singleton] at hi
        have v54 : hI h13 54 i = if i = l.length then p0 else hI h 54 i := by
          rw [eh13, hI_ne (by decide), eh12, hI_ne (by decide), eh10, hI_ne (by decide), eh8, hI_ne (by decide), eh6, hI_ne (by decide), eh4]
          by_cases c : i = l.length
          · rw [if_pos c, c]; exact hI_eq (by rw [lyn (c := 100) (n := 3712) T rfl]; omega) r0
          · rw [if_neg c]; exact hI_ni (fun y => c y.symm)
        have v55 : hI h13 55 i = if i = l.length then p1 else hI h 55 i := by
          rw [eh13, hI_ne (by decide), eh12, hI_ne (by decide), eh10, hI_ne (by decide), eh8, hI_ne (by decide), eh6]
          by_cases c : i = l.length
          · rw [if_pos c, c]; exact hI_eq (by rw [lyn (c := 100) (n := 3712) t4 rfl]; omega) r1
          · rw [if_neg c, hI_ni (fun y => c y.symm), eh4]; exact hI_ne (by decide)
        have v56 : hI h13 56 i = if i = l.length then p2 else hI h 56 i := by
          rw [eh13, hI_ne (by decide), eh12, hI_ne (by decide), eh10, hI_ne (by decide), eh8]
          by_cases c : i = l.length
          · rw [if_pos c, c]; exact hI_eq (by rw [lyn (c := 100) (n := 3712) t6 rfl]; omega) r2
          · rw [if_neg c, hI_ni (fun y => c y.symm), eh6, hI_ne (by decide), eh4]; exact hI_ne (by decide)
        have v52 : hL h13 52 i = if i = l.length then p3 else hL h 52 i := by
          rw [eh13, hL_ne (by decide), eh12, hL_ne (by decide), eh10]
          by_cases c : i = l.length
          · rw [if_pos c, c]; exact hL_eq (by rw [lyn (c := 101) (n := 3712) t8 rfl]; omega)
          · rw [if_neg c, hL_ni (fun y => c y.symm), eh8, hL_ne (by decide), eh6, hL_ne (by decide), eh4]; exact hL_ne (by decide)
        have v53 : hL h13 53 i = if i = l.length then p4 else hL h 53 i := by
          rw [eh13, hL_ne (by decide), eh12]
          by_cases c : i = l.length
          · rw [if_pos c, c]; exact hL_eq (by rw [lyn (c := 101) (n := 3712) t10 rfl]; omega)
          · rw [if_neg c, hL_ni (fun y => c y.symm), eh10, hL_ne (by decide), eh8, hL_ne (by decide), eh6, hL_ne (by decide), eh4]; exact hL_ne (by decide)
        rw [v54, v55, v56, v52, v53, app_getD]
        by_cases c : i = l.length
        · simp only [if_pos c]; exact ⟨rfl, rfl, rfl, rfl, rfl⟩
        · simp only [if_neg c]; exact z.2.2 i (by omega)
set_option maxHeartbeats 1000000 in
theorem c_X1_tellNeed {p0 p1 p2 : Int} {p3 : Nat} {d : ND} {no : BitVec 64} {l : List Cl} {h : XH} {N : Nat → Int} {nd : Nat → ND} {m : Nat} (T : HT h) (C : CS h 8 N nd) (W : WF N m) (r0 : rg p0) (r1 : rg p1) (r2 : rg p2) (A : AtomR h p3 d) (ok : ndOK d) (z : TellOK h l) (lt : l.length + (needCl N p0 p1 p2 d no).length ≤ 3712) {K : XH → Prop} (k : ∀ g, HT g → TQ h g → TellOK g (l ++ needCl N p0 p1 p2 d no) → K g) : w_X1_tellNeed p0 p1 p2 p3 (nMask N d) no K h := by
  unfold w_X1_tellNeed
  obtain ⟨nz, -⟩ := Atom_1 T A ok
  have hd1 : 1 ≤ (needCl N p0 p1 p2 d no).length := by unfold needCl; simp
  refine ⟨fun c8 => ?_, fun c8 => ?_⟩
  · refine c_X1_add T r0 r1 r2 z (by omega) ?_
    intro h1 th1 q1 z1
    intro t1 u1
    obtain ⟨-, A0, A1, A2, A3⟩ := Atom_1 T A ok
    obtain ⟨-, B0, B1, B2, -⟩ := Atom_1 th1 (TQ_X T q1 A) ok
    refine ⟨B0, ?_⟩
    refine ⟨fun g => TQ h g ∧ TellOK g (l ++ needCl N p0 p1 p2 d no), ?_, ?_⟩
    · intro h3 t3 s3 z4
      exact k _ t3 z4.1 z4.2
    · refine ⟨fun c7 => ?_, fun c7 => ?_⟩
      · have : needCl N p0 p1 p2 d no = [(p0, p1, p2, nMask N d, no)] := by unfold needCl; rw [if_neg (by omega)]
        rw [this]
        exact ⟨q1, z1⟩
      · rw [B1]
        refine c_X12_switchOf (by omega) ?_
        rw [Int.toNat_natCast]
        have e2 : needCl N p0 p1 p2 d no = [(p0, p1, p2, nMask N d, no), (p0, p1, p2, bit1 (40 + hdP d), no)] := by unfold needCl; rw [if_pos (by rcases ok.1 with y | y <;> omega)]; rfl
        refine c_X1_add th1 r0 r1 r2 z1 (by rw [e2] at lt; simp at lt; simp; omega) ?_
        intro h6 th6 q6 z6
        intro t6 u6
        rw [e2]
        rw [List.append_assoc] at z6
        exact ⟨TQ_tr q1 q6, z6⟩
  · exact absurd nz c8
def noneCl (N : Nat → Int) (k : Int) (p : Nat) (s : BitVec 64) : List Cl := (vsl N p).flatMap fun v => if s.getLsbD v = true then [(k, (p : Int), -1, 0#64, bit1 v)] else []
theorem tell_null {p0 p1 p2 : Int} {x y : BitVec 64} {h : XH} {K : XH → Prop} (k : K h) : w_X1_tellNeed p0 p1 p2 0 x y K h := by
  unfold w_X1_tellNeed
  exact ⟨fun n => absurd rfl n, fun _ => k⟩
set_option maxHeartbeats 1000000 in
theorem c_X1_tellNone {p0 : Int} {p : Nat} {s : BitVec 64} {l : List Cl} {h : XH} {N : Nat → Int} {nd : Nat → ND} {m : Nat} (T : HT h) (C : CS h 8 N nd) (W : WF N m) (r0 : rg p0) (hp : p < pc N) (z : TellOK h l) (lt : l.length + (noneCl N p0 p s).length ≤ 3712) {K : XH → Prop} (k : ∀ g, HT g → TQ h g → TellOK g (l ++ noneCl N p0 p s) → K g) : w_X1_tellNone p0 (p : Int) s K h := by
  unfold w_X1_tellNone
  have w12 := W.1.2.1
  have w40 := vc64 W.1
  have n0 : (p : Int) < N 0 := by unfold pc at hp; omega
  obtain ⟨c10, c8, -⟩ := vsl_C W.1 C.2.1 hp
  refine ⟨fun x g => ∃ j : Nat, x = (j : Int) ∧ j ≤ (vsl N p).length ∧ TQ h g ∧ TellOK g (l ++ ((vsl N p).take j).flatMap fun v => if s.getLsbD v = true then [(p0, (p : Int), -1, 0#64, bit1 v)] else []), fun x _ => (((vsl N p).length : Int) - x).toNat, ?_, ?_⟩
  · exact ⟨0, rfl, Nat.zero_le _, TQ_rf _, by rw [List.take_zero, List.flatMap_nil, List.append_nil]; exact z⟩
  · intro x1 h3 t3 s3 rx1 z4
    obtain ⟨j, ej, jl, q3, z3⟩ := z4
    have i10 : hI h3 10 p = ((vsl N p).length : Nat) := (sameC_I (TQ_s T q3 (by decide) (by decide)) p).trans c10
    refine ⟨(by unfold pc at hp; omega), ?_⟩
    refine ⟨fun c13 => ?_, fun c13 => ?_⟩
    · rw [Int.toNat_natCast, i10] at c13
      rw [List.take_of_length_le (by omega)] at z3
      exact k _ t3 q3 z3
    · rw [Int.toNat_natCast, i10] at c13
      have jl2 : j < (vsl N p).length := by omega
      obtain ⟨v_, v0⟩ := vsl_get jl2
      have fs := fm_s (f := fun v => if s.getLsbD v = true then [(p0, (p : Int), (-1 : Int), 0#64, bit1 v)] else []) (d := 0) jl2
      have fl := fm_le (L := vsl N p) (f := fun v => if s.getLsbD v = true then [(p0, (p : Int), (-1 : Int), 0#64, bit1 v)] else []) (j + 1)
      rw [ej]
      refine c_X8_idAt t3 (TQ_CS T C W q3) W (by omega) (by simp; omega) ?_
      rw [Int.toNat_natCast, Int.toNat_natCast]
      intro rx6
      refine c_X12_has (by omega) ?_
      rw [Int.toNat_natCast]
      intro x7 qx7
      intro rx7 vx7
      refine ⟨fun g => TQ h g ∧ TellOK g (l ++ ((vsl N p).take (j + 1)).flatMap fun v => if s.getLsbD v = true then [(p0, (p : Int), -1, 0#64, bit1 v)] else []), ?_, ?_⟩
      · intro h8 t8 s8 z9
        intro x10 ex10 rx10
        rw [wr_of (by omega) (by omega)] at ex10
        exact ⟨⟨j + 1, by omega, by omega, z9.1, z9.2⟩, by dsimp only; omega⟩
      · refine ⟨fun c12 => ?_, fun c12 => ?_⟩
        · refine ⟨q3, ?_⟩
          rw [fs, if_neg ((bq1 qx7).2.1.mp c12), List.append_nil]; exact z3
        · have b := (bq1 qx7).2.2.1.mp c12
          rw [lshl1 (by omega)]
          refine c_X1_add t3 r0 (by unfold rg; unfold pc at hp; omega) (rgk rfl) z3 ?_ ?_
          · unfold noneCl at lt
            rw [fs, if_pos b] at fl
            simp only [List.length_append, List.length_singleton] at fl lt ⊢
            omega
          intro h11 th11 q11 z11
          intro t11 u11
          rw [fs, if_pos b, ← List.append_assoc]
          exact ⟨TQ_tr q3 q11, z11⟩
