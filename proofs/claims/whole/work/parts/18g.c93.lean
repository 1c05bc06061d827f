/-! TOLD CLAUSES, the reference: a package -/
def T0P (h0 : XH) (nd : Nat → ND) (m : Nat) : Prop := HT h0 ∧ StR h0 ∧ DJo h0 ∧ NTm h0 nd m ∧ B45 h0
/-- told by now, and versions are sorted -/
def TS (N : Nat → Int) (h0 : XH) (R : Nat → Nat) (g : XH) (l : List Cl) : Prop := TT N h0 g l ∧ hI g 437 12 = hI g 437 4 ∧ hR g 442 = R
theorem TS_VL {N : Nat → Int} {h0 g : XH} {R : Nat → Nat} {l : List Cl} (z : TS N h0 R g l) {p : Nat} (hp : p < 12) : VL N p g (R p) := by
  obtain ⟨y1, y2, y3⟩ := z.1.2.2.2.2.2.2.1 z.2.1 p hp
  rw [← z.2.2]
  exact ⟨y1.1, y1.2, y2, y3⟩
theorem TS_nw {N : Nat → Int} {h0 g : XH} {R : Nat → Nat} {l : List Cl} {nd : Nat → ND} {m : Nat} (b : T0P h0 nd m) (eN : N = nw h0) (z : TS N h0 R g l) : N = nw g := eN.trans (TT_nw b.1 z.1).symm
theorem TS_Z {N : Nat → Int} {h0 g : XH} {R : Nat → Nat} {l : List Cl} {nd : Nat → ND} {m : Nat} (b : T0P h0 nd m) (z : TS N h0 R g l) : NTm g nd m := TT_m b.1 b.2.1 b.2.2.1 b.2.2.2.1 z.1
theorem c_addT {N : Nat → Int} {h0 h : XH} {R : Nat → Nat} {l : List Cl} {nd : Nat → ND} {m : Nat} {p0 p1 p2 : Int} {p3 p4 : BitVec 64} (b : T0P h0 nd m) (T : HT h) (r0 : rg p0) (r1 : rg p1) (r2 : rg p2) (z : TS N h0 R h l) (lt : l.length < 3712) {K : XH → Prop} (k : ∀ g, HT g → TS N h0 R g (l ++ [(p0, p1, p2, p3, p4)]) → K g) : w_X14_add p0 p1 p2 p3 p4 K h :=
  c_X14_add T r0 r1 r2 z.1.2.2.2.2.1.1 z.1.2.2.2.2.1.2 (TS_Z b z).1 (TT_B b.2.2.2.2 z.1) z.1.2.2.2.2.2.1 lt (fun g tg q => k g tg ⟨TT_AQ b.1 b.2.1 T z.1 q, by rw [(AQ_12 q).1, (AQ_12 q).2]; exact z.2.1, (funext (sameC_R (AQ_442 T z.1.2.2.2.2.1.1 q))).trans z.2.2⟩)
theorem c_needT {N : Nat → Int} {h0 h : XH} {R : Nat → Nat} {l : List Cl} {nd : Nat → ND} {m : Nat} {p0 p1 p2 x : Int} {no : BitVec 64} (b : T0P h0 nd m) (eN : N = nw h0) (W : WF N m) (T : HT h) (r0 : rg p0) (r1 : rg p1) (r2 : rg p2) (z : TS N h0 R h l) (hx : 0 ≤ x ∧ x < m) (lt : l.length + (needCl N p0 p1 p2 (nd x.toNat) no).length ≤ 3712) {K : XH → Prop} (k : ∀ g, HT g → TS N h0 R g (l ++ needCl N p0 p1 p2 (nd x.toNat) no) → K g) : w_X14_addNeed p0 p1 p2 (hR h (hR h 437 6) x.toNat) no K h :=
  c_X14_addNeed T (TS_nw b eN z) W b.1 b.2.1 b.2.2.1 b.2.2.2.1 b.2.2.2.2 r0 r1 r2 z.1 (TT_need (TS_Z b z) hx).2.2 ⟨x.toNat, by omega, rfl, rfl⟩ lt (fun g tg t e1 e2 => k g tg ⟨t, e2 z.2.1, e1.trans z.2.2⟩)
theorem c_vsT {p0 : Int} (hp : 0 ≤ p0 ∧ p0 < 12) {N : Nat → Int} {h0 h : XH} {R : Nat → Nat} {l : List Cl} {nd : Nat → ND} {m : Nat} (b : T0P h0 nd m) (eN : N = nw h0) (W : WF N m) (P8 : P8N N) (T : HT h) (z : TS N h0 R h l) {K : Nat → XH → Prop} (k : K (R p0.toNat) h) : w_X14_versionsOf p0 K h := by
  refine c_vs0 hp T (TS_nw b eN z) W P8 z.1.2.2.2.2.1.1 z.1.2.2.2.2.1.2 z.1.2.2.2.2.2.2.1 (fun g q v => ?_)
  rcases q.2.2 with ⟨e, -⟩ | ⟨n, -⟩
  · rw [e, z.2.2]; exact k
  · exact absurd z.2.1 n
/-- at first -/
theorem c_vsT0 {p0 : Int} (hp : 0 ≤ p0 ∧ p0 < 12) {N : Nat → Int} {h0 h : XH} {l : List Cl} {nd : Nat → ND} {m : Nat} (b : T0P h0 nd m) (eN : N = nw h0) (W : WF N m) (P8 : P8N N) (T : HT h) (z : TT N h0 h l) {K : Nat → XH → Prop} (k : ∀ g R, TS N h0 R g l → K (R p0.toNat) g) : w_X14_versionsOf p0 K h := by
  refine c_vs0 hp T (eN.trans (TT_nw b.1 z).symm) W P8 z.2.2.2.2.1.1 z.2.2.2.2.1.2 z.2.2.2.2.2.2.1 (fun g q v => ?_)
  exact k g _ ⟨TT_vs b.1 T z q, q.1, rfl⟩
theorem c_verT {N : Nat → Int} {h0 h : XH} {R : Nat → Nat} {l : List Cl} {nd : Nat → ND} {m : Nat} {v j : Nat} (b : T0P h0 nd m) (eN : N = nw h0) (z : TS N h0 R h l) (hv : v < 40) (hj : j < 20) {K : Int → Prop} (k : K (nV N v j)) : w_X14_ver (v : Int) (j : Int) K h := by
  refine c_X14_ver ⟨by omega, by omega, by omega, by omega⟩ (fun x ex => ?_)
  rw [ex, show hI h 438 (5 + 20 * (v : Int).toNat + (j : Int).toNat) = nw h (5 + 20 * v + j) from rfl, ← TS_nw b eN z]
  exact k
def oFold (N : Nat → Int) (L : List Nat) : BitVec 64 := L.foldl (fun b v => if 0 < nV N v 6 then b ||| bit1 v else b) 0#64
theorem oFold_at {N : Nat → Int} : ∀ (L : List Nat) (b : BitVec 64) (w : Nat), (∀ v, v ∈ L → v < 64) → (L.foldl (fun b v => if 0 < nV N v 6 then b ||| bit1 v else b) b).getLsbD w = (b.getLsbD w || (decide (w ∈ L) && decide (0 < nV N w 6))) := by
  intro L
  induction L with
  | nil => intro b w _; simp
  | cons x l ih =>
    intro b w h
    rw [List.foldl_cons, ih _ _ (fun v hv => h v (List.mem_cons_of_mem _ hv))]
    by_cases c : 0 < nV N x 6
    · rw [if_pos c, BitVec.getLsbD_or, bit1_at (h x List.mem_cons_self)]
      by_cases e : w = x
      · subst e; simp [c]
      · simp [e]
    · rw [if_neg c]
      by_cases e : w = x
      · subst e; simp [c]
      · simp [e]
theorem oFold_e {N : Nat → Int} {m p : Nat} (W : WV N m) : oFold N (vsl N p) = oMask N p := by
  have v40 := vc64 W
  refine bits_eq (fun j hj => ?_)
  unfold oFold oMask
  rw [oFold_at _ _ _ (fun v hv => by have := (vsl_mem.mp hv).1; omega), orN_at _ _ _ (by omega), BitVec.getLsbD_zero, Bool.false_or]
  by_cases c : j ∈ vsl N p
  · obtain ⟨a, b⟩ := vsl_mem.mp c
    rw [decide_eq_true c, decide_eq_true a, decide_eq_true b]; rfl
  · rw [decide_eq_false c]
    by_cases a : j < vc N
    · rw [decide_eq_true a, decide_eq_false (fun b => c (vsl_mem.mpr ⟨a, b⟩))]; rfl
    · rw [decide_eq_false a]; rfl
theorem oFold_s {N : Nat → Int} {L : List Nat} {j : Nat} (h : j < L.length) : oFold N (L.take (j + 1)) = if 0 < nV N (L.getD j 0) 6 then oFold N (L.take j) ||| bit1 (L.getD j 0) else oFold N (L.take j) := by
  unfold oFold
  rw [List.take_succ, List.getElem?_eq_getElem h, List.getD_eq_getElem?_getD, List.getElem?_eq_getElem h, List.foldl_append]
  rfl
set_option maxHeartbeats 16000000 in
theorem c_X14_tellOf {p : Nat} {l : List Cl} {nd : Nat → ND} {h0 : XH} {h : XH} {N : Nat → Int} {m : Nat} (T : HT h) (b0 : T0P h0 nd m) (eN : N = nw h0) (W : WF N m) (P8 : P8N N) (hp : p < pc N) (z : TT N h0 h l) (lt : l.length + (packCl N nd p).length ≤ 3712) {K : XH → Prop} (k : ∀ g, HT g → TT N h0 g (l ++ packCl N nd p) → K g) : w_X14_tellOf (p : Int) K h := by
  unfold w_X14_tellOf
  have w12 := W.1.2.1
  have w00 := W.1.1
  have v40 := vc64 W.1
  have w40 := W.1.2.2.2.1
  have p12 : p < 12 := by unfold pc at hp; omega
  have l8 := P8 p p12
  have m512 : (m : Int) ≤ 512 := by
    have a := b0.2.2.2.1.2
    have b := b0.2.2.2.1.1.2.1
    omega
  have pe : packCl N nd p = (vsl N p).flatMap (fun v => verCl N nd p v) ++ [(6, (p : Int), -1, oMask N p, oBit p)] ++ pairCl N p (vsl N p) := rfl
  rw [pe] at lt k
  simp only [List.length_append, List.length_singleton] at lt
  refine c_vsT0 (by omega) b0 eN W P8 T z ?_
  intro h2 R z2
  rw [Int.toNat_natCast]
  intro t2 u2
  have V2 := TS_VL z2 p12
  refine ⟨V2.1, ?_⟩
  refine ⟨(by have := V2.2.2.1; omega), ?_⟩
  intro x5 ex5 rx5
  rw [V2.2.2.1] at ex5
  refine ⟨fun b x g => ∃ j : Nat, x = (j : Int) ∧ j ≤ (vsl N p).length ∧ b = oFold N ((vsl N p).take j) ∧ TS N h0 R g (l ++ ((vsl N p).take j).flatMap (fun v => verCl N nd p v)), fun _ x _ => (((vsl N p).length : Int) - x).toNat, ?_, ?_⟩
  · exact ⟨0, rfl, Nat.zero_le _, rfl, by rw [List.take_zero, List.flatMap_nil, List.append_nil]; exact z2⟩
  · intro b6 x7 h16 t16 s16 rx7 z17
    obtain ⟨j, ej, jl, eb6, z16⟩ := z17
    have V16 := TS_VL z16 p12
    have fl0 := fm_le (L := vsl N p) (f := (fun v => verCl N nd p v)) j
    refine ⟨fun c117 => ?_, fun c117 => ?_⟩
    · rw [show j = (vsl N p).length by omega, List.take_length] at z16 eb6 fl0
      rw [oFold_e W.1] at eb6
      unfold w_X14_optionBit
      rw [wr_of (by omega) (by omega), show ((40 : Int) + (p : Int)) = ((40 + p : Nat) : Int) by omega, lshl1 (by omega), eb6]
      refine c_addT b0 t16 (rgk rfl) (by unfold rg; omega) (rgk rfl) z16 (by simp only [List.length_append]; omega) ?_
      intro h19 th19 z19_
      obtain ⟨l19, el19⟩ : ∃ l19, l19 = l ++ (vsl N p).flatMap (fun v => verCl N nd p v) ++ [(6, (p : Int), -1, oMask N p, bit1 (40 + p))] := ⟨_, rfl⟩
      rw [← el19] at z19_
      have ll19 : l19.length + (pairCl N p (vsl N p)).length ≤ 3712 := by rw [el19]; simp only [List.length_append, List.length_singleton]; omega
      rw [pairCl_e] at ll19
      intro t19 u19
      refine ⟨fun x g => ∃ i : Nat, x = (i : Int) ∧ i ≤ (vsl N p).length ∧ TS N h0 R g (l19 ++ (List.range i).flatMap (fun i => ((vsl N p).drop (i + 1)).map (pair1 N p ((vsl N p).getD i 0)))), fun x _ => (((vsl N p).length : Int) - x).toNat, ?_, ?_⟩
      · exact ⟨0, rfl, Nat.zero_le _, by simp; exact z19_⟩
      · intro x20 h22 t22 s22 rx20 z23
        obtain ⟨i, ei, il, z22⟩ := z23
        have V22 := TS_VL z22 p12
        refine ⟨V22.1, ?_⟩
        refine ⟨(by have := V22.2.2.1; omega), ?_⟩
        refine ⟨fun c41 => ?_, fun c41 => ?_⟩
        · rw [V22.2.2.1] at c41
          rw [show i = (vsl N p).length by omega, ← pairCl_e] at z22
          refine k _ t22 ?_
          rw [el19] at z22
          simp only [List.append_assoc] at z22 ⊢
          exact z22.1
        · rw [V22.2.2.1] at c41
          have il2 : i < (vsl N p).length := by omega
          obtain ⟨v, ev⟩ : ∃ v, v = (vsl N p).getD i 0 := ⟨_, rfl⟩
          obtain ⟨v_, v0⟩ := vsl_get il2
          rw [← ev] at v_ v0
          have wv := W.1.2.2.2.2.1 v v_
          have rl := rf_le (f := (fun i => ((vsl N p).drop (i + 1)).map (pair1 N p ((vsl N p).getD i 0)))) (show i + 1 ≤ (vsl N p).length by omega)
          rw [rf_s, List.length_append, List.length_map, List.length_drop] at rl
          intro x26 ex26 rx26
          refine ⟨fun x g => ∃ j : Nat, x = (i : Int) + 1 + (j : Int) ∧ i + 1 + j ≤ (vsl N p).length ∧ TS N h0 R g (l19 ++ (List.range i).flatMap (fun i => ((vsl N p).drop (i + 1)).map (pair1 N p ((vsl N p).getD i 0))) ++ (((vsl N p).drop (i + 1)).take j).map (pair1 N p v)), fun x _ => (((vsl N p).length : Int) - x).toNat, ?_, ?_⟩
          · rw [wr_of (by omega) (by omega)] at ex26
            exact ⟨0, by omega, by omega, by simp; simp at z22; exact z22⟩
          · intro x27 h28 t28 s28 rx27 z29
            obtain ⟨j2, ej2, jl2, z28⟩ := z29
            have V28 := TS_VL z28 p12
            refine ⟨V28.1, ?_⟩
            refine ⟨(by have := V28.2.2.1; omega), ?_⟩
            refine ⟨fun c40 => ?_, fun c40 => ?_⟩
            · intro x32 ex32 rx32
              rw [V28.2.2.1] at c40
              rw [wr_of (by omega) (by omega)] at ex32
              rw [List.take_of_length_le (by rw [List.length_drop]; omega)] at z28
              refine ⟨⟨i + 1, by omega, by omega, ?_⟩, by dsimp only; omega⟩
              rw [rf_s, ← List.append_assoc, ← ev]
              exact z28
            · rw [V28.2.2.1] at c40
              have jl3 : i + 1 + j2 < (vsl N p).length := by omega
              obtain ⟨w_, w0⟩ := vsl_get jl3
              have e28v : hI h28 (R p) x20.toNat = (v : Int) := by rw [show x20.toNat = i by omega, ev]; exact V28.2.2.2 i il2
              have e28w : hI h28 (R p) x27.toNat = (((vsl N p).getD (i + 1 + j2) 0 : Nat) : Int) := by rw [show x27.toNat = i + 1 + j2 by omega]; exact V28.2.2.2 _ jl3
              refine ⟨(by have := V28.2.2.1; omega), ?_⟩
              rw [e28v, show (1 : Int) = ((1 : Nat) : Int) from rfl]
              refine c_verT b0 eN z28 (by unfold vc at v_; omega) (by decide) ?_
              intro rx34
              try unfold w_X14_bit
              try rw [lshl1 (by omega)]
              refine ⟨(by have := V28.2.2.1; omega), ?_⟩
              rw [e28w]
              try unfold w_X14_bit
              try rw [lshl1 (by omega)]
              refine c_addT b0 t28 (rgk rfl) (by unfold rg; omega) (by unfold rg; omega) z28 (by simp only [List.length_append, List.length_map, List.length_take, List.length_drop]; omega) ?_
              intro h38 th38 z38
              intro t38 u38
              intro x39 ex39 rx39
              rw [wr_of (by omega) (by omega)] at ex39
              refine ⟨⟨j2 + 1, by omega, by omega, ?_⟩, by dsimp only; omega⟩
              have : ((vsl N p).drop (i + 1)).take (j2 + 1) = ((vsl N p).drop (i + 1)).take j2 ++ [(vsl N p).getD (i + 1 + j2) 0] := by
                rw [List.take_succ, List.getElem?_drop, List.getD_eq_getElem?_getD, List.getElem?_eq_getElem (by omega)]; rfl
              rw [this, List.map_append, ← List.append_assoc]
              exact z38
    · have jl1 : j < (vsl N p).length := by omega
      obtain ⟨v, ev⟩ : ∃ v, v = (vsl N p).getD j 0 := ⟨_, rfl⟩
      obtain ⟨v_, v0⟩ := vsl_get jl1
      rw [← ev] at v_ v0
      have v41 : v < 40 := by unfold vc at v_; omega
      have wv := W.1.2.2.2.2.1 v v_
      obtain ⟨w7, w7', w8, w11, w11', w12_, w12', w13, -⟩ := wv.2.2.2.2.2.2.2.2.2.2.2
      have fs := fm_s (f := (fun v => verCl N nd p v)) (d := 0) jl1
      rw [← ev] at fs
      have fl := fm_le (L := vsl N p) (f := (fun v => verCl N nd p v)) (j + 1)
      rw [fs] at fl
      try dsimp only at fs fl
      rw [verCl_e] at fs fl
      simp only [List.length_append] at fl
      have of := oFold_s (N := N) jl1
      rw [← ev] at of
      refine ⟨V16.1, ?_⟩
      refine ⟨(by have := V16.2.2.1; omega), ?_⟩
      intro x44 ex44 rx44
      have e44 : x44 = (v : Int) := by rw [ex44, show x7.toNat = j by omega, ev]; exact V16.2.2.2 j jl1
      try rw [e44]
      try rw [show (1 : Int) = ((1 : Nat) : Int) from rfl]
      refine c_verT b0 eN z16 v41 (by decide) ?_
      intro rx45
      refine ⟨fun x g => ∃ i : Nat, x = (i : Int) ∧ (i : Int) ≤ nV N v 7 ∧ TS N h0 R g (l ++ ((vsl N p).take j).flatMap (fun v => verCl N nd p v) ++ (List.range i).flatMap (ver1 N nd p v)), fun x _ => (nV N v 7 - x).toNat, ?_, ?_⟩
      · exact ⟨0, rfl, by omega, by rw [List.range_zero, List.flatMap_nil, List.append_nil]; exact z16⟩
      · intro x46 h47 t47 s47 rx46 z48
        obtain ⟨i, ei, il, z47⟩ := z48
        have rl0 := rf_le (f := ver1 N nd p v) (show i ≤ (nV N v 7).toNat by omega)
        try rw [e44]
        try rw [show (7 : Int) = ((7 : Nat) : Int) from rfl]
        refine c_verT b0 eN z47 v41 (by decide) ?_
        intro rx49
        refine ⟨fun c116 => ?_, fun c116 => ?_⟩
        · rw [show i = (nV N v 7).toNat by omega] at z47
          refine ⟨fun x g => ∃ b : Nat, x = (b : Int) ∧ (b : Int) ≤ nV N v 12 ∧ TS N h0 R g (l ++ ((vsl N p).take j).flatMap (fun v => verCl N nd p v) ++ (List.range (nV N v 7).toNat).flatMap (ver1 N nd p v) ++ (List.range b).flatMap (ver2 N nd p v)), fun x _ => (nV N v 12 - x).toNat, ?_, ?_⟩
          · exact ⟨0, rfl, by omega, by rw [List.range_zero, List.flatMap_nil, List.append_nil]; exact z47⟩
          · intro x50 h56 t56 s56 rx50 z57
            obtain ⟨b, eb, bl, z56⟩ := z57
            have rm0 := rf_le (f := ver2 N nd p v) (show b ≤ (nV N v 12).toNat by omega)
            try rw [e44]
            try rw [show (12 : Int) = ((12 : Nat) : Int) from rfl]
            refine c_verT b0 eN z56 v41 (by decide) ?_
            intro rx58
            refine ⟨fun c109 => ?_, fun c109 => ?_⟩
            · rw [show b = (nV N v 12).toNat by omega] at z56
              try rw [e44]
              try rw [show (6 : Int) = ((6 : Nat) : Int) from rfl]
              refine c_verT b0 eN z56 v41 (by decide) ?_
              intro rx59
              refine ⟨fun b g => b = oFold N ((vsl N p).take (j + 1)) ∧ TS N h0 R g (l ++ ((vsl N p).take (j + 1)).flatMap (fun v => verCl N nd p v)), ?_, ?_⟩
              · intro b60 h61 t61 s61 z62
                intro x63 ex63 rx63
                rw [wr_of (by omega) (by omega)] at ex63
                exact ⟨⟨j + 1, by omega, by omega, z62.1, z62.2⟩, by dsimp only; omega⟩
              · refine ⟨fun c73 => ?_, fun c73 => ?_⟩
                · have n6 : nV N v 6 = 0 := by have := wv.2.2.2.2.2.2.2.2.2.1; omega
                  have e3 : ver3 N nd p v = [] := by unfold ver3; rw [if_pos n6]
                  refine ⟨by rw [of, if_neg (by omega)]; exact eb6, ?_⟩
                  rw [fs, e3, List.append_nil]
                  simp only [List.append_assoc] at z56 ⊢
                  exact z56
                · have n6 : ¬ nV N v 6 = 0 := by omega
                  have e3 : ver3 N nd p v = needCl N 5 p (nV N v 1) (nd (nV N v 6 - 1).toNat) (bit1 v ||| bit1 (40 + p)) := by unfold ver3; rw [if_neg n6]; rfl
                  rw [e3] at fl fs
                  have m6 : 0 ≤ nV N v 6 - 1 ∧ nV N v 6 - 1 < m := by have := wv.2.2.2.2.2.2.2.2.2.2.1; omega
                  try rw [e44]
                  try rw [show (6 : Int) = ((6 : Nat) : Int) from rfl]
                  refine c_verT b0 eN z56 v41 (by decide) ?_
                  intro rx64
                  intro x65 ex65 rx65
                  rw [wr_of (by omega) (by omega)] at ex65
                  have Q := TT_need (TS_Z b0 z56) m6
                  refine ⟨Q.1, ?_⟩
                  refine ⟨(by rw [ex65]; exact ⟨m6.1, Q.2.1⟩), ?_⟩
                  try unfold w_X14_bit
                  try rw [e44]
                  try rw [lshl1 (by omega)]
                  unfold w_X14_optionBit
                  rw [wr_of (by omega) (by omega), show ((40 : Int) + (p : Int)) = ((40 + p : Nat) : Int) by omega, lshl1 (by omega)]
                  rw [ex65]
                  refine c_needT b0 eN W t56 (rgk rfl) (by unfold rg; omega) (by unfold rg; omega) z56 m6 (by simp only [List.length_append]; omega) ?_
                  intro h70 th70 z70
                  intro t70 u70
                  try unfold w_X14_bit
                  try rw [e44]
                  try rw [lshl1 (by omega)]
                  intro b72 eb72
                  refine ⟨by rw [of, if_pos (by omega), eb72, eb6], ?_⟩
                  rw [fs]
                  simp only [List.append_assoc] at z70 ⊢
                  exact z70
            · have rm1 := rf_le (f := ver2 N nd p v) (show b + 1 ≤ (nV N v 12).toNat by omega)
              rw [rf_s, List.length_append] at rm1
              have n13 := w13 b (by omega) (by omega)
              obtain ⟨d, ed⟩ : ∃ d, d = nd (nV N v (13 + b)).toNat := ⟨_, rfl⟩
              have ev2 : ver2 N nd p v b = (List.range (pc N)).flatMap (ban1 N d p v) := by unfold ver2; rw [← ed, banCl_e]
              rw [ev2] at rm1
              refine ⟨fun x g => ∃ q : Nat, x = (q : Int) ∧ q ≤ pc N ∧ TS N h0 R g (l ++ ((vsl N p).take j).flatMap (fun v => verCl N nd p v) ++ (List.range (nV N v 7).toNat).flatMap (ver1 N nd p v) ++ (List.range b).flatMap (ver2 N nd p v) ++ (List.range q).flatMap (ban1 N d p v)), fun x _ => ((pc N : Int) - x).toNat, ?_, ?_⟩
              · exact ⟨0, rfl, Nat.zero_le _, by rw [List.range_zero, List.flatMap_nil, List.append_nil]; exact z56⟩
              · intro x74 h79 t79 s79 rx74 z80
                obtain ⟨q, eq, ql, z79⟩ := z80
                have i79 : hI h79 438 0 = N 0 := by rw [TS_nw b0 eN z79]; rfl
                rw [i79]
                refine ⟨fun c108 => ?_, fun c108 => ?_⟩
                · intro x81 ex81 rx81
                  try rw [i79] at c108
                  rw [show q = pc N by unfold pc at ql ⊢; omega, ← ev2] at z79
                  rw [wr_of (by omega) (by omega)] at ex81
                  refine ⟨⟨b + 1, by omega, by omega, ?_⟩, by dsimp only; omega⟩
                  rw [rf_s, ← List.append_assoc]
                  exact z79
                · try rw [i79] at c108
                  have qp : q < pc N := by unfold pc; omega
                  have q12 : q < 12 := by omega
                  have q8 := P8 q (by unfold pc at qp; omega)
                  have rs := rf_s (f := ban1 N d p v) (n := q)
                  have rl := rf_le (f := ban1 N d p v) (show q + 1 ≤ pc N by omega)
                  rw [rs, List.length_append] at rl
                  refine c_vsT (by omega) b0 eN W P8 t79 z79 ?_
                  rw [show x74.toNat = q by omega]
                  have V79 := TS_VL z79 q12
                  intro t83 u83
                  refine ⟨V79.1, ?_⟩
                  refine ⟨(by have := V79.2.2.1; omega), ?_⟩
                  intro x86 ex86 rx86
                  rw [V79.2.2.1] at ex86
                  refine ⟨fun x g => ∃ i2 : Nat, x = (i2 : Int) ∧ i2 ≤ (vsl N q).length ∧ TS N h0 R g (l ++ ((vsl N p).take j).flatMap (fun v => verCl N nd p v) ++ (List.range (nV N v 7).toNat).flatMap (ver1 N nd p v) ++ (List.range b).flatMap (ver2 N nd p v) ++ (List.range q).flatMap (ban1 N d p v) ++ ((vsl N q).take i2).flatMap (fun w => if (!decide (w = v) && nmet N d w) = true then [((4 : Int), (p : Int), nV N v 1, 0#64, bit1 v ||| bit1 w)] else [])), fun x _ => (((vsl N q).length : Int) - x).toNat, ?_, ?_⟩
                  · exact ⟨0, rfl, Nat.zero_le _, by rw [List.take_zero, List.flatMap_nil, List.append_nil]; exact z79⟩
                  · intro x87 h89 t89 s89 rx87 z90
                    obtain ⟨i2, ei2, il2, z89⟩ := z90
                    have V89 := TS_VL z89 q12
                    refine ⟨fun c107 => ?_, fun c107 => ?_⟩
                    · intro x91 ex91 rx91
                      rw [List.take_of_length_le (show (vsl N q).length ≤ i2 by omega)] at z89
                      rw [wr_of (by omega) (by omega)] at ex91
                      refine ⟨⟨q + 1, by omega, by omega, ?_⟩, by dsimp only; omega⟩
                      rw [rs, ← List.append_assoc]
                      exact z89
                    · have jl2 : i2 < (vsl N q).length := by omega
                      obtain ⟨w, ew⟩ : ∃ w, w = (vsl N q).getD i2 0 := ⟨_, rfl⟩
                      obtain ⟨w_, w0⟩ := vsl_get jl2
                      rw [← ew] at w_ w0
                      have fs2 := fm_s (f := (fun w => if (!decide (w = v) && nmet N d w) = true then [((4 : Int), (p : Int), nV N v 1, 0#64, bit1 v ||| bit1 w)] else [])) (d := 0) jl2
                      rw [← ew] at fs2
                      have fl2 := fm_le (L := vsl N q) (f := (fun w => if (!decide (w = v) && nmet N d w) = true then [((4 : Int), (p : Int), nV N v 1, 0#64, bit1 v ||| bit1 w)] else [])) (i2 + 1)
                      refine ⟨V89.1, ?_⟩
                      refine ⟨(by have := V89.2.2.1; omega), ?_⟩
                      intro x94 ex94 rx94
                      have e94 : x94 = (w : Int) := by rw [ex94, show x87.toNat = i2 by omega, ew]; exact V89.2.2.2 i2 jl2
                      refine ⟨fun g => TS N h0 R g (l ++ ((vsl N p).take j).flatMap (fun v => verCl N nd p v) ++ (List.range (nV N v 7).toNat).flatMap (ver1 N nd p v) ++ (List.range b).flatMap (ver2 N nd p v) ++ (List.range q).flatMap (ban1 N d p v) ++ ((vsl N q).take (i2 + 1)).flatMap (fun w => if (!decide (w = v) && nmet N d w) = true then [((4 : Int), (p : Int), nV N v 1, 0#64, bit1 v ||| bit1 w)] else [])), ?_, ?_⟩
                      · intro h95 t95 s95 z96
                        intro x97 ex97 rx97
                        rw [wr_of (by omega) (by omega)] at ex97
                        exact ⟨⟨i2 + 1, by omega, by omega, z96⟩, by dsimp only; omega⟩
                      · refine ⟨fun c106 => ?_, fun c106 => ?_⟩
                        · rw [fs2, if_neg (by rw [show w = v by omega]; simp), List.append_nil]; exact z89
                        · have nv : ¬ w = v := fun y => c106 (by omega)
                          have Q := TT_need (TS_Z b0 z89) n13
                          try rw [e44]
                          rw [wr_of (by omega) (by omega), show ((13 : Int) + x50) = ((13 + b : Nat) : Int) by omega]
                          refine c_verT b0 eN z89 v41 (by omega) ?_
                          intro rx98
                          refine ⟨Q.1, ?_⟩
                          refine ⟨⟨n13.1, Q.2.1⟩, ?_⟩
                          rw [e94]
                          have A := Q.2.2
                          rw [← ed] at A
                          refine c_X14_meets t89 (TS_nw b0 eN z89) W A (by omega) (by simp; exact w_) ?_
                          rw [Int.toNat_natCast]
                          intro x101 qx101
                          intro rx101 vx101
                          refine ⟨fun c105 => ?_, fun c105 => ?_⟩
                          · rw [fs2, if_neg (fun y => by rw [Bool.and_eq_true] at y; exact (bq1 qx101).2.1.mp c105 y.2), List.append_nil]; exact z89
                          · have fy : (!decide (w = v) && nmet N d w) = true := by rw [(bq1 qx101).2.2.1.mp c105, decide_eq_false nv]; rfl
                            rw [fs2, if_pos fy] at fl2
                            simp only [List.length_append, List.length_singleton] at fl2
                            have eban : (ban1 N d p v q).length = (List.flatMap (fun w => if (!decide (w = v) && nmet N d w) = true then [((4 : Int), (p : Int), nV N v 1, 0#64, bit1 v ||| bit1 w)] else []) (vsl N q)).length := rfl
                            try unfold w_X14_bit
                            try rw [e44]
                            try rw [lshl1 (by omega)]
                            try unfold w_X14_bit
                            try rw [e94]
                            try rw [lshl1 (by omega)]
                            refine c_addT b0 t89 (rgk rfl) (by unfold rg; omega) (by unfold rg; omega) z89 (by simp only [List.length_append]; omega) ?_
                            intro h104 th104 z104
                            intro t104 u104
                            rw [fs2, if_pos fy, ← List.append_assoc]; exact z104
        · have rl1 := rf_le (f := ver1 N nd p v) (show i + 1 ≤ (nV N v 7).toNat by omega)
          rw [rf_s, List.length_append] at rl1
          have n8 := w8 i (by omega) (by omega)
          try rw [e44]
          rw [wr_of (by omega) (by omega), show ((8 : Int) + x46) = ((8 + i : Nat) : Int) by omega]
          refine c_verT b0 eN z47 v41 (by omega) ?_
          have Q := TT_need (TS_Z b0 z47) n8
          intro rx110
          refine ⟨Q.1, ?_⟩
          refine ⟨⟨n8.1, Q.2.1⟩, ?_⟩
          try unfold w_X14_bit
          try rw [e44]
          try rw [lshl1 (by omega)]
          refine c_needT b0 eN W t47 (rgk rfl) (by unfold rg; omega) (by unfold rg; omega) z47 n8 (by have e_ : (ver1 N nd p v i).length = (needCl N 3 (p : Int) (nV N v 1) (nd (nV N v (8 + i)).toNat) (bit1 v)).length := rfl; simp only [List.length_append]; omega) ?_
          intro h114 th114 z114
          intro t114 u114
          intro x115 ex115 rx115
          rw [wr_of (by omega) (by omega)] at ex115
          refine ⟨⟨i + 1, by omega, by omega, ?_⟩, by dsimp only; omega⟩
          rw [rf_s, ← List.append_assoc]
          exact z114
