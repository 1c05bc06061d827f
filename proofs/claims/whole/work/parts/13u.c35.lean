/-! FITTING: sets by their numbers -/
theorem RSt_n {h h1 : XH} {nd : Nat → ND} {n s : Nat} (T : HT h) (f : Fr (fun b => b = 437 ∨ (443 ≤ b ∧ b < 446) ∨ (462 ≤ b ∧ b < 467)) h h1) (e : ∀ j, (2 ≤ j ∧ j ≤ 12) ∨ (24 ≤ j ∧ j ≤ 33) ∨ (37 ≤ j ∧ j ≤ 41) ∨ (44 ≤ j ∧ j ≤ 55) → el h1 437 j = el h 437 j) (g : Gr n s h h1) (l : h.length ≤ h1.length) : RSt h h1 nd n s := by
  have L := HT_len T
  exact ⟨fun z => CaR_fr (fun b x y => f b y (by omega)) (fun j hj => e j (by omega)) L z, Fr_mono f (fun b y => by unfold RS; omega), fun j hj => e j (by omega), g, l, fun j hj => (congrArg gvR (e j (by unfold owP at hj; omega)))⟩
theorem setsN_1 (N : Nat → Int) : ∀ p, 1 ≤ setsN N p := by
  intro p
  induction p with
  | zero => exact Nat.le_refl _
  | succ p ih =>
    unfold setsN ways
    have : 1 ≤ ((vsl N p).length + 1) * (if hasO N p = true then 2 else 1) := Nat.mul_pos (by omega) (by split <;> decide)
    exact Nat.mul_pos ih this
theorem setsN_mono {N : Nat → Int} {p q : Nat} (h : p ≤ q) : setsN N p ≤ setsN N q := by
  induction q with
  | zero => rw [show p = 0 by omega]; exact Nat.le_refl _
  | succ q ih =>
    by_cases c : p = q + 1
    · rw [c]; exact Nat.le_refl _
    · have := ih (by omega)
      have w : 1 ≤ ways N q := by unfold ways; exact Nat.mul_pos (by omega) (by split <;> decide)
      show setsN N p ≤ setsN N q * ways N q
      exact Nat.le_trans this (Nat.le_mul_of_pos_right _ w)
theorem ways_le {N : Nat → Int} (P8 : P8N N) {p : Nat} (hp : p < 12) : ways N p ≤ 18 := by
  have := P8 p hp
  unfold ways
  split <;> omega
theorem hasO_e {N : Nat → Int} {p : Nat} : hasO N p = true ↔ ¬ oMask N p = 0#64 := by unfold hasO; rw [Bool.not_eq_true', decide_eq_false_iff_not]
theorem hasO_v {N : Nat → Int} {m : Nat} (W : WV N m) {p : Nat} : hasO N p = true ↔ ∃ v, v < vc N ∧ nV N v 0 = p ∧ 0 < nV N v 6 := by
  have v40 := vc64 W
  have al : (18446744073709551615#64 : BitVec 64) &&& oMask N p = oMask N p := by
    apply BitVec.eq_of_getLsbD_eq
    intro j hj
    have x : ∀ m : Fin 64, (18446744073709551615#64 : BitVec 64).getLsbD m.1 = true := by decide +kernel
    rw [BitVec.getLsbD_and, x ⟨j, hj⟩, Bool.true_and]
  rw [hasO_e, ← al]
  unfold oMask
  rw [and_orN (by omega)]
  constructor
  · rintro ⟨j, hj, -, z⟩
    rw [Bool.and_eq_true, decide_eq_true_eq, decide_eq_true_eq] at z
    exact ⟨j, hj, z⟩
  · rintro ⟨j, hj, a, b⟩
    have x : ∀ m : Fin 64, (18446744073709551615#64 : BitVec 64).getLsbD m.1 = true := by decide +kernel
    exact ⟨j, hj, x ⟨j, by omega⟩, by rw [dt a, dt b]; rfl⟩
theorem div_s {N : Nat → Int} {k p : Nat} : k / setsN N (p + 1) = k / setsN N p / ((vsl N p).length + 1) / (if hasO N p = true then 2 else 1) := by
  show k / (setsN N p * ways N p) = _
  unfold ways
  rw [← Nat.mul_assoc, ← Nat.div_div_eq_div_mul, ← Nat.div_div_eq_div_mul]
theorem CaR_40 {h h1 : XH} {N : Nat → Int} {nd : Nat → ND} (L : 468 ≤ h.length) (f : ∀ b, ¬ b = 437 → sameC h h1 b) (e : ∀ j, ¬ j = 40 → ¬ j = 41 → el h1 437 j = el h 437 j) (e40 : hI h1 437 40 = hI h 437 4) (e41 : hI h1 437 41 = fitting N nd (rh N)) (z : CaR h N nd) : CaR h1 N nd := by
  obtain ⟨a1, a2, a3, a4, a5, a6, a7, a8, cg⟩ := z
  have i : ∀ j, ¬ j = 40 → ¬ j = 41 → hI h1 437 j = hI h 437 j := fun j n1 n2 => congrArg gvI (e j n1 n2)
  unfold CaR
  rw [e40, e41, i 4 (by decide) (by decide), i 12 (by decide) (by decide), i 30 (by decide) (by decide), i 38 (by decide) (by decide), i 44 (by decide) (by decide), i 46 (by decide) (by decide)]
  refine ⟨by omega, ⟨StR_fr (fun b x y => f b (by omega)) (fun j hj => e j (by omega) (by omega)) a2.1, DJo_fr (fun b x y => f b (by omega)) L (fun j hj => e j (by unfold owP at hj; omega) (by unfold owP at hj; omega)) a2.2⟩, fun x => SortOK_fr (fun b x y => f b (by omega)) (f 442 (by decide)) (a3 x), fun x => TellOKR_fr a2.1 (fun b x y => f b (by omega)) (fun j hj => e j (by omega) (by omega)) (a4 x), fun x => OrdOK_fr (fun b x y => f b (by omega)) (fun j hj => e j (by omega) (by omega)) (a5 x), fun _ => rfl, fun x => ⟨(a7 x).1, CoreOKR_fr (fun b x y => f b (by omega)) (e 45 (by decide) (by decide)) (a7 x).2⟩, fun x => ⟨(a8 x).1, ProofOKR_fr (fun b x y => f b (by omega)) (e 47 (by decide) (by decide)) (a8 x).2⟩, CapG_fr a2.1 (fun b x y => f b (by omega)) (fun j hj => e j (by omega) (by omega)) (fun _ _ => rfl) cg⟩
/-- the bits of a package in the set with a number -/
def kbit (N : Nat → Int) (k p j : Nat) : Prop := (¬ digV N k p = 0 ∧ j = (vsl N p).getD (digV N k p - 1) 0) ∨ (digO N k p = true ∧ j = 40 + p)
theorem digV_lt {N : Nat → Int} {k p : Nat} : digV N k p < (vsl N p).length + 1 := Nat.mod_lt _ (by omega)
theorem setF_at {N : Nat → Int} {m : Nat} (W : WV N m) {k p : Nat} (hp : p < pc N) : (digV N k p = 0 ∧ setF N k p = -1) ∨ ∃ v, ¬ digV N k p = 0 ∧ v = (vsl N p).getD (digV N k p - 1) 0 ∧ v < vc N ∧ nV N v 0 = p ∧ setF N k p = nV N v 1 + (if digO N k p = true then 1000000 else 0) ∧ slF N (setF N k) p = v := by
  by_cases c : digV N k p = 0
  · exact .inl ⟨c, by unfold setF; rw [if_pos hp, if_pos c]⟩
  · have := digV_lt (N := N) (k := k) (p := p)
    obtain ⟨hv, e0⟩ := vsl_get (N := N) (p := p) (i := digV N k p - 1) (by omega)
    have es : setF N k p = nV N ((vsl N p).getD (digV N k p - 1) 0) 1 + (if digO N k p = true then 1000000 else 0) := by unfold setF; rw [if_pos hp, if_neg c]
    refine .inr ⟨_, c, rfl, hv, e0, es, slF_r W hv e0 ?_⟩
    rw [es]
    by_cases d : digO N k p = true
    · rw [if_pos d]; exact .inr rfl
    · rw [if_neg d]; exact .inl (by omega)
theorem setF_OK {N : Nat → Int} {m : Nat} (W : WV N m) (k : Nat) : fOK N (setF N k) := fun p hp => by
  by_cases c : p < pc N
  · rcases setF_at W (k := k) c with ⟨-, x⟩ | ⟨v, -, -, hv, e0, es, -⟩
    · exact .inl x
    · refine .inr ⟨v, hv, e0, ?_⟩
      rw [es]
      by_cases d : digO N k p = true
      · rw [if_pos d]; exact .inr rfl
      · rw [if_neg d]; exact .inl (by omega)
  · exact .inl (by unfold setF; rw [if_neg c])
theorem setF_R {N : Nat → Int} {m : Nat} (W : WV N m) {k : Nat} {b : BitVec 64} (e : ∀ j, b.getLsbD j = true ↔ ∃ p, p < pc N ∧ kbit N k p j) (is : setIs N k) : SetR N b (setF N k) := by
  refine SetR_mk W (setF_OK W k) (fun j => (e j).trans ?_)
  have key : ∀ p, p < pc N → (kbit N k p j ↔ mbit N (setF N k) p j) := by
    intro p hp
    unfold kbit mbit
    rcases setF_at W (k := k) hp with ⟨c, x⟩ | ⟨v, c, ev, hv, e0, es, el⟩
    · have o := is p hp c
      constructor
      · rintro (z | z)
        · exact absurd c z.1
        · rw [o] at z; cases z.1
      · exact fun z => absurd x z.1
    · have w := W.2.2.2.2.1 v hv
      rw [el, Int.toNat_natCast, ← ev, es]
      by_cases d : digO N k p = true
      · rw [if_pos d]
        constructor
        · rintro (z | z)
          · exact ⟨by omega, .inl z.2⟩
          · exact ⟨by omega, .inr ⟨z.2, by omega⟩⟩
        · rintro ⟨-, z | z⟩
          · exact .inl ⟨c, z⟩
          · exact .inr ⟨d, z.1⟩
      · rw [if_neg d]
        constructor
        · rintro (z | z)
          · exact ⟨by omega, .inl z.2⟩
          · exact absurd z.1 d
        · rintro ⟨-, z | z⟩
          · exact .inl ⟨c, z⟩
          · omega
  exact ⟨fun ⟨p, a, z⟩ => ⟨p, a, (key p a).mp z⟩, fun ⟨p, a, z⟩ => ⟨p, a, (key p a).mpr z⟩⟩
theorem setF_no {N : Nat → Int} {nd : Nat → ND} {m : Nat} (W : WV N m) {k : Nat} {b : BitVec 64} (e : ∀ j, b.getLsbD j = true ↔ ∃ p, p < pc N ∧ kbit N k p j) (is : ¬ setIs N k) : ¬ sB N nd b := by
  intro z
  have v40 := vc64 W
  have b12 := W.2.1
  have pcN : pc N = (N 0).toNat := rfl
  refine is (fun p hp c => bt fun d => ?_)
  have o := z.2 p hp ((e (40 + p)).mpr ⟨p, hp, .inr ⟨d, rfl⟩⟩)
  unfold oMask at o
  rw [and_orN (by omega)] at o
  obtain ⟨j, hj, bj, y⟩ := o
  rw [Bool.and_eq_true, decide_eq_true_eq, decide_eq_true_eq] at y
  obtain ⟨q, hq, w⟩ := (e j).mp bj
  rcases w with ⟨x1, x2⟩ | ⟨-, x2⟩
  · have := digV_lt (N := N) (k := k) (p := q)
    obtain ⟨g1, g2⟩ := vsl_get (N := N) (p := q) (i := digV N k q - 1) (by omega)
    rw [← x2] at g2
    have : p = q := by omega
    subst this
    exact x1 c
  · omega
set_option maxHeartbeats 1000000 in
theorem c_X3_setsToGoThrough {h : XH} {N : Nat → Int} {nd : Nat → ND} {m : Nat} (T : HT h) (C : CS h 8 N nd) (W : WF N m) (M : MetOK h N nd) {K : Int → Prop} (k : ∀ x : Int, (x = (setMany N : Nat) ∧ setMany N ≤ 5000 ∨ x = 5001 ∧ 5000 < setMany N) → K x) : w_X3_setsToGoThrough K h := by
  unfold w_X3_setsToGoThrough
  have w0 := W.1.1
  have b12 := W.1.2.1
  have pcN : pc N = (N 0).toNat := rfl
  have P1 := (V80 C.1).1
  have p8 := P8N_of W.1 C.2.1
  refine ⟨fun a x => 0 ≤ x ∧ x ≤ N 0 ∧ a = (setsN N x.toNat : Nat) ∧ a < 100000, fun _ x => (N 0 - x).toNat, ?_, ?_⟩
  · exact ⟨by omega, w0, rfl, by decide⟩
  · intro x1 x2 rx1 rx2 z3
    obtain ⟨z0, z1, za, zb⟩ := z3
    refine ⟨x1 = (setMany N : Nat) ∨ 5000 < x1 ∧ 5000 < setMany N, ?_, ?_⟩
    · intro z4
      refine ⟨fun x => x = (setMany N : Nat) ∧ setMany N ≤ 5000 ∨ x = 5001 ∧ 5000 < setMany N, ?_, ?_⟩
      · intro x5 rx5 z6
        exact k _ z6
      · refine ⟨fun c7 => ?_, fun c7 => ?_⟩
        · rcases z4 with y | y
          · exact .inl ⟨y, by omega⟩
          · omega
        · rcases z4 with y | y
          · exact .inr ⟨rfl, by omega⟩
          · exact .inr ⟨rfl, y.2⟩
    · refine ⟨fun c15 => ?_, fun c15 => ?_⟩
      · exact .inl (by rw [za, show x2.toNat = pc N by omega]; rfl)
      · refine ⟨fun c14 => ?_, fun c14 => ?_⟩
        · have := setsN_mono (N := N) (p := x2.toNat) (q := pc N) (by omega)
          exact .inr ⟨c14, by unfold setMany; omega⟩
        · obtain ⟨l1, l2, -⟩ := vsl_C W.1 C.2.1 (p := x2.toNat) (by omega)
          have mo := (M.2.2 x2.toNat (by omega)).1
          have wl := ways_le p8 (p := x2.toNat) (by omega)
          have st : setsN N (x2.toNat + 1) = setsN N x2.toNat * ways N x2.toNat := rfl
          refine ⟨(by omega), ?_⟩
          refine ⟨fun x => x = ((if hasO N x2.toNat = true then 2 else 1 : Nat) : Int), ?_, ?_⟩
          · intro x9 rx9 z10
            intro x11 ex11 rx11
            intro x12 ex12 rx12
            have ew : (((vsl N x2.toNat).length : Nat) + 1 : Int) * x9 = (ways N x2.toNat : Nat) := by
              rw [z10]
              unfold ways
              rw [Int.natCast_mul]
              rfl
            have bw : (ways N x2.toNat : Int) ≤ 18 := by omega
            have bm : x1 * (ways N x2.toNat : Int) = (setsN N (x2.toNat + 1) : Nat) := by rw [za, st, Int.natCast_mul]
            have bb : setsN N (x2.toNat + 1) ≤ 5000 * 18 := by
              rw [st]
              exact Nat.mul_le_mul (by omega) wl
            rw [l1, wr_of (x := ((vsl N x2.toNat).length : Nat) + 1) (by omega) (by omega), ew, wr_of (x := (ways N x2.toNat : Int)) (by omega) (by omega), bm, wr_of (by omega) (by omega)] at ex11
            rw [wr_of (by omega) (by omega)] at ex12
            exact ⟨⟨by omega, by omega, by rw [ex11, show x12.toNat = x2.toNat + 1 by omega], by omega⟩, by dsimp only; omega⟩
          · refine ⟨fun c13 => ?_, fun c13 => ?_⟩
            · rw [mo] at c13
              rw [if_neg (fun z => hasO_e.mp z c13)]; rfl
            · rw [mo] at c13
              rw [if_pos (hasO_e.mpr c13)]; rfl
set_option maxHeartbeats 1000000 in
theorem c_X3_setNumber {k0 : Nat} {h : XH} {N : Nat → Int} {nd : Nat → ND} {m : Nat} (T : HT h) (C : CS h 8 N nd) (W : WF N m) (M : MetOK h N nd) (hk : k0 < 5001) {K : BitVec 64 → Prop} (k : ∀ b : BitVec 64, (∀ j, b.getLsbD j = true ↔ ∃ p, p < pc N ∧ kbit N k0 p j) → K b) : w_X3_setNumber (k0 : Int) K h := by
  unfold w_X3_setNumber
  have w0 := W.1.1
  have b12 := W.1.2.1
  have w40 := vc64 W.1
  have pcN : pc N = (N 0).toNat := rfl
  have P1 := (V80 C.1).1
  refine ⟨fun a b x => 0 ≤ x ∧ x ≤ N 0 ∧ a = (k0 / setsN N x.toNat : Nat) ∧ ∀ j, b.getLsbD j = true ↔ ∃ p : Nat, (p : Int) < x ∧ kbit N k0 p j, fun _ _ x => (N 0 - x).toNat, ?_, ?_⟩
  · exact ⟨by omega, w0, by show _ = ((k0 / 1 : Nat) : Int); rw [Nat.div_one], fun j => ⟨fun z => (by rw [BitVec.getLsbD_zero] at z; cases z), fun ⟨p, y, _⟩ => by omega⟩⟩
  · intro x2 b3 x4 rx2 rx4 z7
    obtain ⟨z0, z1, za, zb⟩ := z7
    refine ⟨fun c31 => ?_, fun c31 => ?_⟩
    · exact k _ (fun j => (zb j).trans ⟨fun ⟨p, x, y⟩ => ⟨p, by omega, y⟩, fun ⟨p, x, y⟩ => ⟨p, by omega, y⟩⟩)
    · obtain ⟨p, rfl⟩ : ∃ p : Nat, x4 = p := ⟨x4.toNat, by omega⟩
      rw [Int.toNat_natCast] at za
      obtain ⟨l1, l2, l3⟩ := vsl_C W.1 C.2.1 (p := p) (by omega)
      have mo := (M.2.2 p (by omega)).1
      have kd : k0 / setsN N p ≤ k0 := Nat.div_le_self _ _
      have zn0 : 0 ≤ x2 := by rw [za]; exact Int.natCast_nonneg _
      refine ⟨(by omega), ?_⟩
      intro x9 ex9 rx9
      rw [Int.toNat_natCast, l1, wr_of (by omega) (by omega)] at ex9
      refine ⟨(by omega), ?_⟩
      intro x11 ex11 rx11
      rw [irem_pos rx2 rx9 (by omega) (by omega)] at ex11
      have e11 : x11 = (digV N k0 p : Nat) := by rw [ex11, ex9, za]; unfold digV; rfl
      have dl := digV_lt (N := N) (k := k0) (p := p)
      refine ⟨(by omega), ?_⟩
      intro x13 ex13 rx13
      rw [idiv_pos rx2 rx9 (by omega) (by omega)] at ex13
      have e13 : x13 = (k0 / setsN N p / ((vsl N p).length + 1) : Nat) := by rw [ex13, ex9, za]; rfl
      have kd2 : k0 / setsN N p / ((vsl N p).length + 1) ≤ k0 := Nat.le_trans (Nat.div_le_self _ _) kd
      have zn1 : 0 ≤ x13 := by rw [e13]; exact Int.natCast_nonneg _
      refine ⟨fun b => ∀ j, b.getLsbD j = true ↔ ¬ digV N k0 p = 0 ∧ j = (vsl N p).getD (digV N k0 p - 1) 0, ?_, ?_⟩
      · intro b14 z15
        intro b16 eb16
        refine ⟨fun a b => a = (k0 / setsN N (p + 1) : Nat) ∧ ∀ j, b.getLsbD j = true ↔ b3.getLsbD j = true ∨ kbit N k0 p j, ?_, ?_⟩
        · intro x18 b19 rx18 z20
          intro x21 ex21 rx21
          rw [wr_of (by omega) (by omega)] at ex21
          have e21 : x21.toNat = p + 1 := by omega
          refine ⟨⟨by omega, by omega, by rw [e21]; exact z20.1, fun j => ?_⟩, by dsimp only; omega⟩
          rw [z20.2 j, zb j]
          constructor
          · rintro (⟨q, a, b⟩ | b)
            · exact ⟨q, by omega, b⟩
            · exact ⟨p, by omega, b⟩
          · rintro ⟨q, a, b⟩
            by_cases c : q = p
            · rw [c] at b; exact .inr b
            · exact .inl ⟨q, by omega, b⟩
        · refine ⟨fun c28 => ?_, fun c28 => ?_⟩
          · rw [Int.toNat_natCast, mo] at c28
            have nh : ¬ hasO N p = true := fun z => hasO_e.mp z c28
            have nd_ : ¬ digO N k0 p = true := fun z => by unfold digO at z; rw [Bool.and_eq_true] at z; exact nh z.1
            refine ⟨by rw [e13, div_s, if_neg nh, Nat.div_one], fun j => ?_⟩
            unfold kbit
            rw [eb16, BitVec.getLsbD_or, Bool.or_eq_true, z15 j]
            exact ⟨fun z => z.elim .inl (fun y => .inr (.inl y)), fun z => z.elim .inl (fun y => y.elim .inr (fun w => absurd w.1 nd_))⟩
          · rw [Int.toNat_natCast, mo] at c28
            have yh : hasO N p = true := hasO_e.mpr c28
            have di : irem x13 2 = (k0 / setsN N p / ((vsl N p).length + 1) % 2 : Nat) := by rw [irem_pos rx13 (rgk rfl) (by omega) (by decide), e13]; rfl
            have do_ : digO N k0 p = true ↔ k0 / setsN N p / ((vsl N p).length + 1) % 2 = 1 := by unfold digO; rw [yh, Bool.true_and, decide_eq_true_eq]
            refine ⟨fun b => ∀ j, b.getLsbD j = true ↔ digO N k0 p = true ∧ j = 40 + p, ?_, ?_⟩
            · intro b22 z23
              intro b24 eb24
              intro x25 ex25 rx25
              rw [idiv_pos rx13 (rgk rfl) (by omega) (by decide)] at ex25
              refine ⟨by rw [ex25, e13, div_s, if_pos yh]; rfl, fun j => ?_⟩
              unfold kbit
              rw [eb24, eb16, BitVec.getLsbD_or, BitVec.getLsbD_or, Bool.or_eq_true, Bool.or_eq_true, z15 j, z23 j]
              exact ⟨fun z => z.elim (fun y => y.elim .inl (fun w => .inr (.inl w))) (fun y => .inr (.inr y)), fun z => z.elim (fun y => .inl (.inl y)) (fun y => y.elim (fun w => .inl (.inr w)) .inr)⟩
            · refine ⟨fun c27 => ?_, fun c27 => ?_⟩
              · refine c_X12_switchOf (by omega) ?_
                rw [Int.toNat_natCast]
                intro j
                rw [bit1_at (by omega), decide_eq_true_eq]
                exact ⟨fun z => ⟨do_.mpr (by omega), z⟩, fun z => z.2⟩
              · intro j
                rw [BitVec.getLsbD_zero]
                exact ⟨fun z => (by cases z), fun z => by have := do_.mp z.1; omega⟩
      · refine ⟨fun c30 => ?_, fun c30 => ?_⟩
        · rw [wr_of (x := x11 - 1) (by omega) (by omega)]
          obtain ⟨vg1, vg2⟩ := vsl_get (N := N) (p := p) (i := digV N k0 p - 1) (by omega)
          refine c_X8_idAt T C W ⟨by omega, by omega⟩ (by rw [Int.toNat_natCast]; omega) ?_
          rw [Int.toNat_natCast, show (x11 - 1).toNat = digV N k0 p - 1 by omega]
          intro _
          intro j
          rw [lshl1 (by omega), bit1_at (by omega), decide_eq_true_eq]
          exact ⟨fun z => ⟨by omega, z⟩, fun z => z.2⟩
        · intro j
          rw [BitVec.getLsbD_zero]
          exact ⟨fun z => (by cases z), fun z => by omega⟩
set_option maxHeartbeats 1000000 in
theorem c_X12_fitting {h : XH} {N : Nat → Int} {nd : Nat → ND} {m : Nat} (T : HT h) (C : CS h 8 N nd) (W : WF N m) (dk : DK nd m) (CC : CaC h N nd) {K : Int → XH → Prop} (k : ∀ g, HT g → CSt h g N nd → K (fitting N nd (rh N)) g) : w_X12_fitting K h := by
  unfold w_X12_fitting
  have hr := rh_lt W
  refine c_X12_knowMet T C W dk CC ?_
  intro h1 s1 cc1 k1 m1
  intro t1 u1
  have C1 := CSt_CS T C W s1
  refine c_X3_setsToGoThrough t1 C1 W m1 ?_
  intro x2 qx2
  intro rx2
  refine ⟨fun c14 => ?_, fun c14 => ?_⟩
  · refine ⟨fun a x => 0 ≤ x ∧ x ≤ x2 ∧ a = (fitsN N nd (rh N) x.toNat : Nat) ∧ a ≤ x, fun _ x => (x2 - x).toNat, ?_, ?_⟩
    · exact ⟨by omega, by omega, rfl, by omega⟩
    · intro x3 x4 rx3 rx4 z5
      obtain ⟨z0, z1, za, zl⟩ := z5
      refine ⟨fun c13 => ?_, fun c13 => ?_⟩
      · have em : setMany N ≤ 5000 ∧ x2 = (setMany N : Nat) := by omega
        have : fitting N nd (rh N) = x3 := by
          unfold fitting
          rw [if_neg (by omega), za, show x4.toNat = setMany N by omega]
        rw [this] at k
        exact k _ t1 s1
      · obtain ⟨k0, rfl⟩ : ∃ k0 : Nat, x4 = k0 := ⟨x4.toNat, by omega⟩
        rw [Int.toNat_natCast] at za
        refine c_X3_setNumber t1 C1 W m1 (by omega) ?_
        intro b6 qb6
        refine c_X3_isFitting t1 C1 W dk m1 ?_
        intro x7 qx7
        replace qx7 : bq x7 (setIs N k0 ∧ fitP N nd (rh N) (setF N k0)) := bq_iff qx7 (by
          by_cases is : setIs N k0
          · rw [fit_F W dk hr (setF_R W.1 qb6 is) (CS_i C1 hr)]
            exact ⟨fun z => ⟨is, z⟩, fun z => z.2⟩
          · exact ⟨fun z => absurd z.2.2 (setF_no W.1 qb6 is), fun z => absurd z.1 is⟩)
        have st : fitsN N nd (rh N) (k0 + 1) = fitsN N nd (rh N) k0 + (@ite _ (setIs N k0 ∧ fitP N nd (rh N) (setF N k0)) (Classical.propDecidable _) 1 0) := rfl
        intro rx7 vx7
        refine ⟨fun y => x3 + y = (fitsN N nd (rh N) (k0 + 1) : Nat) ∧ (y = 0 ∨ y = 1), ?_, ?_⟩
        · intro x8 rx8 z9
          intro x10 ex10 rx10
          intro x11 ex11 rx11
          rw [wr_of (by omega) (by omega)] at ex10 ex11
          refine ⟨⟨by omega, by omega, by rw [ex10, show x11.toNat = k0 + 1 by omega]; exact z9.1, by omega⟩, by dsimp only; omega⟩
        · refine ⟨fun c12 => ?_, fun c12 => ?_⟩
          · rw [st, if_neg ((bq1 qx7).2.1.mp c12)]
            exact ⟨by omega, .inl rfl⟩
          · rw [st, if_pos ((bq1 qx7).2.2.1.mp c12)]
            exact ⟨by omega, .inr rfl⟩
  · have : fitting N nd (rh N) = -1 := by unfold fitting; rw [if_pos (by omega)]
    rw [this] at k
    exact k _ t1 s1
set_option maxHeartbeats 1000000 in
theorem c_X14_hasOption {p0 : Int} {h : XH} {N : Nat → Int} {m : Nat} (T : HT h) (eN : N = nw h) (W : WF N m) (hp : 0 ≤ p0) {K : Int → Prop} (k : ∀ x, bq x (hasO N p0.toNat = true) → K x) : w_X14_hasOption p0 K h := by
  unfold w_X14_hasOption
  have w4 := W.1.2.2.1
  have v40 := vc64 W.1
  have vcN : vc N = (N 4).toNat := rfl
  have e4 : hI h 438 4 = N 4 := by rw [eN]; rfl
  have EV : ∀ v j : Nat, hI h 438 (5 + 20 * v + j) = nV N v j := fun v j => by rw [eN]; rfl
  refine ⟨fun a x => 0 ≤ x ∧ x ≤ N 4 ∧ bq a (∃ w : Nat, (w : Int) < x ∧ nV N w 0 = p0 ∧ 0 < nV N w 6), fun _ x => (N 4 - x).toNat, ?_, ?_⟩
  · exact ⟨by omega, w4, bqF (fun ⟨w, y, _⟩ => by omega)⟩
  · intro x1 x2 rx1 rx2 z3
    obtain ⟨z0, z1, zb⟩ := z3
    refine ⟨fun c15 => ?_, fun c15 => ?_⟩
    · refine ⟨vOr zb, ?_⟩
      refine k _ (bq_iff zb ?_)
      rw [hasO_v W.1]
      exact ⟨fun ⟨w, a, b, c⟩ => ⟨w, by omega, by omega, c⟩, fun ⟨w, a, b, c⟩ => ⟨w, by omega, by omega, c⟩⟩
    · refine ⟨fun y => bq y (∃ w : Nat, (w : Int) < x2 + 1 ∧ nV N w 0 = p0 ∧ 0 < nV N w 6), ?_, ?_⟩
      · intro x5 rx5 z6
        intro x7 ex7 rx7
        rw [wr_of (by omega) (by omega)] at ex7
        exact ⟨⟨by omega, by omega, by rw [ex7]; exact z6⟩, by dsimp only; omega⟩
      · refine ⟨∃ w : Nat, (w : Int) < x2 + 1 ∧ nV N w 0 = p0 ∧ 0 < nV N w 6, ?_, ?_⟩
        · intro z8
          exact bqT z8
        · refine ⟨fun c14 => ?_, fun c14 => ?_⟩
          · obtain ⟨w, a, b⟩ := (bq1 zb).2.2.1.mp c14
            exact ⟨w, by omega, b⟩
          · refine c_X14_ver (by omega) ?_
            rw [EV, show (0 : Int).toNat = 0 from rfl]
            intro x9 ex9
            have nn := (bq1 zb).2.1.mp (Decidable.not_not.mp c14)
            have ns : ¬ (nV N x2.toNat 0 = p0 ∧ 0 < nV N x2.toNat 6) → ¬ ∃ w : Nat, (w : Int) < x2 + 1 ∧ nV N w 0 = p0 ∧ 0 < nV N w 6 := fun n ⟨w, a, b⟩ => by
              by_cases c : w = x2.toNat
              · rw [c] at b; exact n b
              · exact nn ⟨w, by omega, b⟩
            intro rx9
            refine ⟨¬ ∃ w : Nat, (w : Int) < x2 + 1 ∧ nV N w 0 = p0 ∧ 0 < nV N w 6, ?_, ?_⟩
            · intro z10
              exact bqF z10
            · refine ⟨fun c13 => ?_, fun c13 => ?_⟩
              · exact ns (fun z => c13 (ex9.trans z.1))
              · refine c_X14_ver (by omega) ?_
                rw [EV, show (6 : Int).toNat = 6 from rfl]
                intro x11 ex11
                intro rx11
                refine ⟨fun c12 => ?_, fun c12 => ?_⟩
                · exact ns (fun z => by omega)
                · exact ⟨x2.toNat, by omega, by omega, by omega⟩
set_option maxHeartbeats 1000000 in
theorem c_vsC {p0 : Int} (hp : 0 ≤ p0 ∧ p0 < 12) {h : XH} {N : Nat → Int} (so : hI h 437 12 = hI h 437 4) (S : SortOK h N) {K : Nat → XH → Prop} (k : ∀ a, a = hR h 442 p0.toNat → VL N p0.toNat h a → K a h) : w_X14_versionsOf p0 K h := by
  unfold w_X14_versionsOf
  refine ⟨fun g => g = h, ?_, ?_⟩
  · intro h2 t2 s2 z3
    refine ⟨hp, ?_⟩
    rw [z3]
    obtain ⟨y1, y2, y3⟩ := S p0.toNat (by omega)
    exact k _ rfl ⟨y1.1, y1.2, y2, y3⟩
  · refine ⟨fun c16 => ?_, fun c16 => ?_⟩
    · rfl
    · exact absurd so c16
set_option maxHeartbeats 1000000 in
theorem c_X14_setMany {h : XH} {N : Nat → Int} {m : Nat} {nd : Nat → ND} (T : HT h) (eN : N = nw h) (W : WF N m) (P8 : P8N N) (CR : CaR h N nd) {K : Int → XH → Prop} (k : ∀ (x : Int) h1, RSt h h1 nd 24 (12 * nA8) → (0 < N 0 → hI h1 437 12 = hI h1 437 4) → (x = (setMany N : Nat) ∧ setMany N ≤ 5000 ∨ 5000 < x ∧ 5000 < setMany N) → K x h1) : w_X14_setMany K h := by
  unfold w_X14_setMany
  have w0 := W.1.1
  have b12 := W.1.2.1
  have pcN : pc N = (N 0).toNat := rfl
  have L := HT_len T
  refine ⟨fun a x g => 0 ≤ x ∧ x ≤ N 0 ∧ a = (setsN N x.toNat : Nat) ∧ a < 100000 ∧ RSt h g nd 24 (12 * nA8) ∧ h.length ≤ g.length ∧ (0 < x → hI g 437 12 = hI g 437 4) ∧ (x = 0 → g = h), fun _ x _ => (N 0 - x).toNat, ?_, ?_⟩
  · exact ⟨by omega, w0, rfl, by decide, RSt_mono (RSt_rf _ _) (by omega) (by omega), Nat.le_refl _, fun z => by omega, fun _ => rfl⟩
  · intro x1 x2 h3 t3 s3 rx1 rx2 z4
    obtain ⟨z0, z1, za, zb, zr, zl, zs, zh⟩ := z4
    have eN3 : N = nw h3 := eN.trans (RSt_nw T zr).symm
    have e0 : hI h3 438 0 = N 0 := by rw [eN3]; rfl
    refine ⟨(x1 = (setMany N : Nat) ∧ setMany N ≤ 5000 ∨ 5000 < x1 ∧ 5000 < setMany N) ∧ (0 < N 0 → 0 < x2), ?_, ?_⟩
    · intro z5
      exact k _ _ zr (fun y => zs (z5.2 y)) z5.1
    · refine ⟨fun c17 => ?_, fun c17 => ?_⟩
      · have e : x1 = (setMany N : Nat) := by rw [za, show x2.toNat = pc N by omega]; rfl
        exact ⟨by omega, fun y => by omega⟩
      · refine ⟨fun c16 => ?_, fun c16 => ?_⟩
        · have := setsN_mono (N := N) (p := x2.toNat) (q := pc N) (by omega)
          refine ⟨.inr ⟨c16, by unfold setMany; omega⟩, fun _ => ?_⟩
          by_cases c : x2 = 0
          · rw [za, c] at c16
            have : (5000 : Int) < ((1 : Nat) : Int) := c16
            omega
          · omega
        · have CR3 : CaR h3 N nd := by have := zr.1; rw [← eN] at this; exact this CR
          refine c_vs2 (by omega) t3 eN3 W P8 CR3 ?_
          intro a6 h7 r7 i7 s7 v7
          have r37 : RSt h h7 nd 24 (12 * nA8) := by
            by_cases c : x2 = 0
            · rw [zh c] at r7; exact r7
            · rw [i7 (zs (by omega))]; exact zr
          intro t7 u7
          refine ⟨v7.1, ?_⟩
          refine ⟨(by have := P8 x2.toNat (by omega); have := v7.2.2.1; omega), ?_⟩
          refine c_X14_hasOption t7 (eN3.trans (RSt_nw t3 r7).symm) W (by omega) ?_
          intro x10 qx10
          have n7 := v7.2.2.1
          have wl := ways_le P8 (p := x2.toNat) (by omega)
          have p8_ := P8 x2.toNat (by omega)
          have st : setsN N (x2.toNat + 1) = setsN N x2.toNat * ways N x2.toNat := rfl
          intro rx10 vx10
          refine ⟨fun x => x = ((if hasO N x2.toNat = true then 2 else 1 : Nat) : Int), ?_, ?_⟩
          · intro x11 rx11 z12
            intro x13 ex13 rx13
            intro x14 ex14 rx14
            have ew : (((vsl N x2.toNat).length : Nat) + 1 : Int) * x11 = (ways N x2.toNat : Nat) := by
              rw [z12]
              unfold ways
              rw [Int.natCast_mul]
              rfl
            have bw : (ways N x2.toNat : Int) ≤ 18 := by omega
            have bm : x1 * (ways N x2.toNat : Int) = (setsN N (x2.toNat + 1) : Nat) := by rw [za, st, Int.natCast_mul]
            have bb : setsN N (x2.toNat + 1) ≤ 5000 * 18 := by
              rw [st]
              exact Nat.mul_le_mul (by omega) wl
            rw [n7, wr_of (x := ((vsl N x2.toNat).length : Nat) + 1) (by omega) (by omega), ew, wr_of (x := (ways N x2.toNat : Int)) (by omega) (by omega), bm, wr_of (by omega) (by omega)] at ex13
            rw [wr_of (by omega) (by omega)] at ex14
            exact ⟨⟨by omega, by omega, by rw [ex13, show x14.toNat = x2.toNat + 1 by omega], by omega, r37, by have := u7.1; omega, fun _ => s7, fun y => by omega⟩, by dsimp only; omega⟩
          · refine ⟨fun c15 => ?_, fun c15 => ?_⟩
            · rw [if_neg ((bq1 qx10).2.1.mp c15)]; rfl
            · rw [if_pos ((bq1 qx10).2.2.1.mp c15)]; rfl
theorem SortOK_fr2 {h g : XH} {N : Nat → Int} {p1 : Nat} (T : HT h) (f : Fr (fun b => b = p1 ∨ b = 437) h g) (q0 : 468 ≤ p1) (nq : ∀ p, p < 12 → ¬ hR h 442 p = p1) (z : SortOK h N) : SortOK g N := by
  have L := HT_len T
  intro p hp
  obtain ⟨a1, a2, a3⟩ := z p hp
  have s : sameC h g 442 := f 442 (by omega) (by omega)
  have s1 : sameC h g (hR h 442 p) := f _ (hk_lt a1.1 (by decide)) (by have := nq p hp; omega)
  rw [sameC_R s, sameC_n s1, sameC_k s1]
  exact ⟨a1, a2, fun i hi => by rw [sameC_I s1]; exact a3 i hi⟩
set_option maxHeartbeats 2000000 in
theorem c_X14_laySet {k0 p1 : Nat} (kb : k0 < 5001) {h : XH} {N : Nat → Int} {m : Nat} (T : HT h) (eN : N = nw h) (W : WF N m) (P8 : P8N N) (hk1 : hk h p1 = 100) (hn1 : hn h p1 = 12) (q0 : 468 ≤ p1) (SO : 0 < N 0 → SortOK h N ∧ hI h 437 12 = hI h 437 4 ∧ ∀ p, p < 12 → ¬ hR h 442 p = p1) {K : Int → XH → Prop} (k : ∀ x h1, Fr (fun b => b = p1) h h1 → h1.length = h.length → xhs h1 = xhs h → AR h1 p1 (setF N k0) → bq x (setIs N k0) → K x h1) : w_X14_laySet (k0 : Int) p1 K h := by
  unfold w_X14_laySet
  have w0 := W.1.1
  have b12 := W.1.2.1
  have v40 := vc64 W.1
  have pcN : pc N = (N 0).toNat := rfl
  have L := HT_len T
  have lp := hk_lt hk1 (by decide)
  refine ⟨fun a s x g => 0 ≤ x ∧ x ≤ 12 ∧ a = (k0 / setsN N (min x.toNat (pc N)) : Nat) ∧ bq s (∀ q : Nat, (q : Int) < x → q < pc N → digV N k0 q = 0 → digO N k0 q = false) ∧ Fr (fun b => b = p1) h g ∧ g.length = h.length ∧ xhs g = xhs h ∧ hk g p1 = 100 ∧ hn g p1 = 12 ∧ ∀ q : Nat, (q : Int) < x → hI g p1 q = setF N k0 q, fun _ _ x _ => (12 - x).toNat, ?_, ?_⟩
  · exact ⟨by omega, by omega, by rw [show min (0 : Int).toNat (pc N) = 0 from Nat.min_eq_left (Nat.zero_le _)]; show _ = ((k0 / 1 : Nat) : Int); rw [Nat.div_one], bqT (fun q hq => by omega), Fr_rf _ _, rfl, rfl, hk1, hn1, fun q hq => by omega⟩
  · intro x1 x2 x3 h7 t7 s7 rx1 rx2 rx3 z8
    obtain ⟨z0, z1, za, zs, zf, zl, zx, zk, zn, zv⟩ := z8
    refine ⟨fun c61 => ?_, fun c61 => ?_⟩
    · refine ⟨vOr zs, ?_⟩
      exact k _ _ zf zl zx ⟨zk, zn, fun i hi => zv i (by omega)⟩ (bq_iff zs ⟨fun y q hq => y q (by omega) hq, fun y q _ hq => y q hq⟩)
    · refine ⟨zk, ?_⟩
      refine ⟨(by omega), ?_⟩
      intro h12 eh12 t12 u12
      obtain ⟨p, rfl⟩ : ∃ p : Nat, x3 = p := ⟨x3.toNat, by omega⟩
      rw [Int.toNat_natCast] at eh12 za
      have s12 : ∀ b, ¬ b = p1 → sameC h7 h12 b := fun b n => by rw [eh12]; exact sameC_sV (fun z => n z.symm)
      have f12 : Fr (fun b => b = p1) h h12 := fun b hb n => sameC_tr (zf b hb n) (s12 b n)
      have l12 : h12.length = h.length := by rw [eh12, len_sV]; exact zl
      have y12 : xhs h12 = xhs h := by rw [eh12, xhs_sV]; exact zx
      have k12 : hk h12 p1 = 100 ∧ hn h12 p1 = 12 := by rw [eh12, hk_sV, hn_sV]; exact ⟨zk, zn⟩
      have eN12 : N = nw h12 := eN.trans (nw_fr (f12 438 (by omega) (by omega))).symm
      have e0 : hI h12 438 0 = N 0 := by rw [eN12]; rfl
      refine ⟨fun a s g => a = (k0 / setsN N (min (p + 1) (pc N)) : Nat) ∧ bq s (∀ q : Nat, (q : Int) < (p : Int) + 1 → q < pc N → digV N k0 q = 0 → digO N k0 q = false) ∧ Fr (fun b => b = p1) h g ∧ g.length = h.length ∧ xhs g = xhs h ∧ hk g p1 = 100 ∧ hn g p1 = 12 ∧ ∀ q : Nat, (q : Int) < (p : Int) + 1 → hI g p1 q = setF N k0 q, ?_, ?_⟩
      · intro x13 x14 h18 t18 s18 rx13 rx14 z19
        intro x20 ex20 rx20
        rw [wr_of (by omega) (by omega)] at ex20
        obtain ⟨y1, y2, y3⟩ := z19
        exact ⟨⟨by omega, by omega, by rw [show x20.toNat = p + 1 by omega]; exact y1, by rw [ex20]; exact y2, y3.1, y3.2.1, y3.2.2.1, y3.2.2.2.1, y3.2.2.2.2.1, fun q hq => y3.2.2.2.2.2 q (by omega)⟩, by dsimp only; omega⟩
      · refine ⟨fun c60 => ?_, fun c60 => ?_⟩
        · have hp : p < pc N := by omega
          obtain ⟨SO1, SO2, nq⟩ := SO (by omega)
          rw [Nat.min_eq_left (by omega)] at za
          refine c_vsC (by omega) (by rw [sameC_I (f12 437 (by omega) (by omega)), sameC_I (f12 437 (by omega) (by omega))]; exact SO2) (SortOK_fr2 T (Fr_mono f12 (fun _ y => .inl y)) q0 nq SO1) ?_
          rw [Int.toNat_natCast]
          intro a21 e21 v21
          obtain ⟨V1, V2, V3, V4⟩ := v21
          have p8_ := P8 p (by omega)
          have n21 : ¬ a21 = p1 := by rw [e21, sameC_R (f12 442 (by omega) (by omega))]; exact nq p (by omega)
          intro _ _
          refine ⟨V1, ?_⟩
          refine ⟨(by omega), ?_⟩
          refine ⟨(by rw [V3, wr_of (by omega) (by omega)]; omega), ?_⟩
          intro x26 ex26 rx26
          have kd : k0 / setsN N p ≤ k0 := Nat.div_le_self _ _
          have zn0 : 0 ≤ x1 := by rw [za]; exact Int.natCast_nonneg _
          rw [V3, wr_of (x := ((vsl N p).length : Nat) + 1) (by omega) (by omega), irem_pos rx1 (by unfold rg; omega) (by omega) (by omega)] at ex26
          have e26 : x26 = (digV N k0 p : Nat) := by rw [ex26, za]; unfold digV; rfl
          have dl := digV_lt (N := N) (k := k0) (p := p)
          refine ⟨(by omega), ?_⟩
          refine ⟨(by rw [V3, wr_of (by omega) (by omega)]; omega), ?_⟩
          intro x29 ex29 rx29
          rw [V3, wr_of (x := ((vsl N p).length : Nat) + 1) (by omega) (by omega), idiv_pos rx1 (by unfold rg; omega) (by omega) (by omega)] at ex29
          have e29 : x29 = (k0 / setsN N p / ((vsl N p).length + 1) : Nat) := by rw [ex29, za]; rfl
          have kd2 : k0 / setsN N p / ((vsl N p).length + 1) ≤ k0 := Nat.le_trans (Nat.div_le_self _ _) kd
          have zn1 : 0 ≤ x29 := by rw [e29]; exact Int.natCast_nonneg _
          have di : irem x29 2 = (k0 / setsN N p / ((vsl N p).length + 1) % 2 : Nat) := by rw [irem_pos rx29 (rgk rfl) (by omega) (by decide), e29]; rfl
          have sa := setF_at W.1 (k := k0) hp
          refine c_X14_hasOption t12 eN12 W (by omega) ?_
          rw [Int.toNat_natCast]
          intro x30 qx30
          intro rx30 vx30
          refine ⟨fun x => bq x (digO N k0 p = true), ?_, ?_⟩
          · intro x31 rx31 z32
            refine c_X14_hasOption t12 eN12 W (by omega) ?_
            rw [Int.toNat_natCast]
            intro x33 qx33
            intro rx33 vx33
            refine ⟨fun x => x = ((if hasO N p = true then 2 else 1 : Nat) : Int), ?_, ?_⟩
            · intro x34 rx34 z35
              refine ⟨(by rw [z35]; split <;> decide), ?_⟩
              intro x37 ex37 rx37
              have e37 : x37 = (k0 / setsN N (p + 1) : Nat) := by
                rw [idiv_pos rx29 rx34 (by omega) (by rw [z35]; split <;> decide)] at ex37
                rw [ex37, e29, z35, div_s]
                rfl
              refine ⟨fun v => v = setF N k0 p, ?_, ?_⟩
              · intro x38 rx38 z39
                refine ⟨(by rw [k12.2]; omega), ?_⟩
                intro h41 eh41 t41 u41
                rw [z39] at eh41
                have s41 : ∀ b, ¬ b = p1 → sameC h12 h41 b := fun b n => by rw [eh41]; exact sameC_sV (fun z => n z.symm)
                have v41 : ∀ q : Nat, (q : Int) < (p : Int) + 1 → hI h41 p1 q = setF N k0 q := fun q hq => by
                  by_cases c : q = p
                  · rw [c, eh41]; exact hI_eq (by rw [k12.2]; omega) (by rw [← z39]; exact rx38)
                  · rw [eh41, hI_ni (fun z => c z.symm), eh12, hI_ni (fun z => c z.symm)]; exact zv q (by omega)
                refine ⟨fun s => bq s (∀ q : Nat, (q : Int) < (p : Int) + 1 → q < pc N → digV N k0 q = 0 → digO N k0 q = false), ?_, ?_⟩
                · intro x42 rx42 z43
                  exact ⟨by rw [Nat.min_eq_left (by omega)]; exact e37, z43, fun b hb n => sameC_tr (f12 b hb n) (s41 b n), by rw [eh41, len_sV]; exact l12, by rw [eh41, xhs_sV]; exact y12, by rw [eh41, hk_sV]; exact k12.1, by rw [eh41, hn_sV]; exact k12.2, v41⟩
                · refine ⟨¬ (∀ q : Nat, (q : Int) < (p : Int) + 1 → q < pc N → digV N k0 q = 0 → digO N k0 q = false), ?_, ?_⟩
                  · intro z44
                    exact bqF z44
                  · refine ⟨fun c48 => ?_, fun c48 => ?_⟩
                    · exact fun z => (bq1 zs).2.1.mp c48 (fun q hq => z q (by omega))
                    · refine ⟨∀ q : Nat, (q : Int) < (p : Int) + 1 → q < pc N → digV N k0 q = 0 → digO N k0 q = false, ?_, ?_⟩
                      · intro z45
                        exact bqT z45
                      · refine ⟨fun c47 => ?_, fun c47 => ?_⟩
                        · have zz := (bq1 zs).2.2.1.mp c48
                          intro q hq hqp dv
                          by_cases c : q = p
                          · subst c; omega
                          · exact zz q (by omega) hqp dv
                        · refine ⟨fun c46 => ?_, fun c46 => ?_⟩
                          · intro z
                            have := z p (by omega) hp (by omega)
                            rw [(bq1 z32).2.2.1.mp c46] at this
                            cases this
                          · have zz := (bq1 zs).2.2.1.mp c48
                            intro q hq hqp dv
                            by_cases c : q = p
                            · subst c; exact bt ((bq1 z32).2.1.mp (Decidable.not_not.mp c46))
                            · exact zz q (by omega) hqp dv
              · refine ⟨fun c55 => ?_, fun c55 => ?_⟩
                · intro x49 ex49 rx49
                  rw [wr_of (by omega) (by omega)] at ex49
                  obtain ⟨v, d0, ev, hv, g0, es, -⟩ := sa.resolve_left (fun z => c55 (by omega))
                  have wv := W.1.2.2.2.2.1 v hv
                  have eg : hI h12 a21 x49.toNat = (v : Nat) := by rw [V4 x49.toNat (by omega), ev, show x49.toNat = digV N k0 p - 1 by omega]
                  refine ⟨(by omega), ?_⟩
                  rw [eg]
                  refine c_X14_ver (by omega) ?_
                  rw [Int.toNat_natCast, show hI h12 438 (5 + 20 * v + (1 : Int).toNat) = nV N v 1 by rw [eN12]; rfl]
                  intro x51 ex51
                  intro rx51
                  refine ⟨fun x => x = if digO N k0 p = true then 1000000 else 0, ?_, ?_⟩
                  · intro x52 rx52 z53
                    rw [wr_of (by rw [z53]; split <;> omega) (by rw [z53]; split <;> omega), es, z53, ex51]
                  · refine ⟨fun c54 => ?_, fun c54 => ?_⟩
                    · rw [if_neg ((bq1 z32).2.1.mp c54)]
                    · rw [if_pos ((bq1 z32).2.2.1.mp c54)]
                · rcases sa with ⟨-, y⟩ | ⟨v, d0, -⟩
                  · exact y.symm
                  · omega
            · refine ⟨fun c56 => ?_, fun c56 => ?_⟩
              · rw [if_neg ((bq1 qx33).2.1.mp c56)]; rfl
              · rw [if_pos ((bq1 qx33).2.2.1.mp c56)]; rfl
          · refine ⟨¬ digO N k0 p = true, ?_, ?_⟩
            · intro z57
              exact bqF z57
            · refine ⟨fun c59 => ?_, fun c59 => ?_⟩
              · intro z
                unfold digO at z
                rw [Bool.and_eq_true] at z
                exact (bq1 qx30).2.1.mp c59 z.1
              · refine ⟨fun c58 => ?_, fun c58 => ?_⟩
                · intro z
                  unfold digO at z
                  rw [Bool.and_eq_true, decide_eq_true_eq] at z
                  omega
                · refine bqT ?_
                  unfold digO
                  rw [(bq1 qx30).2.2.1.mp c59, dt (by omega)]; rfl
        · have ge : pc N ≤ p := by omega
          refine ⟨by rw [Nat.min_eq_right (by omega)]; rw [Nat.min_eq_right (by omega)] at za; exact za, bq_iff zs ⟨fun y q hq hqp => y q (by omega) hqp, fun y q hq hqp => y q (by omega) hqp⟩, f12, l12, y12, k12.1, k12.2, fun q hq => ?_⟩
          by_cases c : q = p
          · rw [c, eh12, hI_eq (by rw [zn]; omega) (rgk rfl)]; unfold setF; rw [if_neg (by omega)]
          · rw [eh12, hI_ni (fun z => c z.symm)]; exact zv q (by omega)
set_option maxHeartbeats 2000000 in
theorem c_goThrough0 {h : XH} {N : Nat → Int} {m : Nat} {nd : Nat → ND} (T : HT h) (eN : N = nw h) (W : WF N m) (P8 : P8N N) (CR : CaR h N nd) (Z : NTm h nd m) (fi : fOK N (inst N (rh N))) {K : Int → XH → Prop} (k : ∀ h1, RSt h h1 nd 26 (12 * nA8 + 2 * n12) → K (fitting N nd (rh N)) h1) : w_X14_goThrough 0 0 K h := by
  unfold w_X14_goThrough
  have L := HT_len T
  refine c_X14_setMany T eN W P8 CR ?_
  intro x1 h2 r2 so2 qx1
  intro t2 u2
  intro rx1
  have L2 := HT_len t2
  have eN2 : N = nw h2 := eN.trans (RSt_nw T r2).symm
  have CR2 : CaR h2 N nd := by have := r2.1; rw [← eN] at this; exact this CR
  have Z2 : NTm h2 nd m := ⟨RSt_NT T CR.2.1.1 CR.2.1.2 r2.2.1 (congrArg gvR (r2.2.2.1 6 (by decide))) (congrArg gvI (r2.2.2.1 7 (by decide))) Z.1, by rw [show hI h2 437 7 = hI h 437 7 from congrArg gvI (r2.2.2.1 7 (by decide))]; exact Z.2⟩
  intro h3 eh3 t3 u3
  intro h4 eh4 t4 u4
  have f4 : Fr (fun b => b = 437) h2 h4 := fun b _ n => by rw [eh4, eh3]; exact sameC_tr (sameC_sV (fun z => n z.symm)) (sameC_sV (fun z => n z.symm))
  have l4 : h4.length = h2.length := by rw [eh4, len_sV, eh3, len_sV]
  have x4_ : xhs h4 = xhs h2 := by rw [eh4, xhs_sV, eh3, xhs_sV]
  have e437 : ∀ j, ¬ j = 42 → ¬ j = 43 → el h4 437 j = el h2 437 j := fun j n1 n2 => by rw [eh4, el_ni (fun z => n2 z.symm), eh3, el_ni (fun z => n1 z.symm)]
  have e42 : hI h4 437 42 = 0 := by rw [eh4, hI_ni (by decide), eh3]; exact hI_eq (by rw [(lstn t2).2.2.2.2.1]; decide) (rgk rfl)
  have e43 : hI h4 437 43 = 0 := by rw [eh4]; exact hI_eq (by rw [(lstn t3).2.2.2.2.1]; decide) (rgk rfl)
  have r4 : RSt h2 h4 nd 0 0 := RSt_n t2 (Fr_mono f4 (fun _ y => .inl y)) (fun j hj => e437 j (by omega) (by omega)) ⟨by omega, by omega⟩ (by omega)
  have eN4 : N = nw h4 := eN2.trans (nw_fr (f4 438 (by omega) (by decide))).symm
  refine ⟨fun c49 => ?_, fun c49 => ?_⟩
  · refine c_iS t4 eN4 W ?_
    intro a5 h6 f6 g6 l6 A6
    intro t6 u6
    intro a7 h8 ea7 eh8 t8 u8 ca7 la7
    have f8 : Fr (fun _ => False) h4 h8 := fun b hb n => sameC_tr (f6 b hb n) (by rw [eh8]; exact sameC_app (by have := u6.1; omega))
    have l8 : h8.length = h6.length + 1 := by rw [eh8]; unfold nA; exact len_app _ _
    have g8 : Gr 2 (2 * n12) h4 h8 := by
      have := Gr_tr g6 (by rw [eh8]; exact Gr_n12 _ : Gr 1 n12 h6 h8)
      exact Gr_mono this (by omega) (by omega)
    have a7l : h4.length ≤ a7 := by have := u6.1; omega
    have lh4 : h.length ≤ h4.length := by have := r2.2.2.2.2.1; omega
    have r28 : RSt h h8 nd (24 + 0 + 2) (12 * nA8 + 0 + 2 * n12) := RSt_tr T (by omega) (RSt_tr T r2.2.2.2.2.1 r2 r4) (RSt_a t4 f8 g8 (by have := u6.1; omega))
    have L8 := HT_len t8
    have eN8 : N = nw h8 := eN4.trans (nw_F t4 f8).symm
    have Z4 : NTm h4 nd m := NTm_fr t2 (fun b x y => f4 b x (by omega)) (fun j hj => e437 j (by omega) (by omega)) Z2
    have SO8 : 0 < N 0 → SortOK h8 N ∧ hI h8 437 12 = hI h8 437 4 := fun y => by
      have s2 := so2 y
      refine ⟨SortOK_fr (fun b x w => sameC_tr (f4 b w (by omega)) (f8 b (by omega) id)) (sameC_tr (f4 442 (by omega) (by decide)) (f8 442 (by omega) id)) (CR2.2.2.1 s2), ?_⟩
      have e : ∀ j, j = 12 ∨ j = 4 → hI h8 437 j = hI h2 437 j := fun j hj => congrArg gvI ((sameC_el (f8 437 (by omega) id) j).trans (e437 j (by omega) (by omega)))
      rw [e 12 (.inl rfl), e 4 (.inr rfl)]; exact s2
    have nq8 : 0 < N 0 → ∀ p, p < 12 → ¬ hR h8 442 p = a7 := fun y p hp e => by
      have := (CR2.2.2.1 (so2 y) p hp).1.1
      have := hk_lt this (by decide)
      rw [sameC_R (f8 442 (by omega) id), sameC_R (f4 442 (by omega) (by decide))] at e
      omega
    refine ⟨fun a x g => 0 ≤ x ∧ x ≤ x1 ∧ a = (fitsN N nd (rh N) x.toNat : Nat) ∧ a ≤ x ∧ Fr (fun b => b = a7 ∨ b = 437) h8 g ∧ g.length = h8.length ∧ xhs g = xhs h8 ∧ (∀ j, ¬ j = 42 → ¬ j = 43 → el g 437 j = el h8 437 j) ∧ hk g a7 = 100 ∧ hn g a7 = 12 ∧ hI g 437 42 = 0 ∧ hI g 437 43 = 0, fun _ x _ => (x1 - x).toNat, ?_, ?_⟩
    · exact ⟨by omega, by omega, rfl, by omega, Fr_rf _ _, rfl, rfl, fun _ _ _ => rfl, ca7, la7, (sameC_I (f8 437 (by omega) id) 42).trans e42, (sameC_I (f8 437 (by omega) id) 43).trans e43⟩
    · intro x9 x10 h11 t11 s11 rx9 rx10 z12
      obtain ⟨z0, z1, za, zle, zf, zl, zx, ze, zk, zn, z42, z43⟩ := z12
      refine ⟨fun c48 => ?_, fun c48 => ?_⟩
      · have : fitting N nd (rh N) = x9 := by
          unfold fitting
          rw [if_neg (by omega), za, show x10.toNat = setMany N by omega]
        rw [← this]
        have r411 : RSt h4 h11 nd 2 (2 * n12) := RSt_n t4 (fun b hb n => sameC_tr (f8 b hb id) (zf b (by omega) (by omega))) (fun j hj => (ze j (by omega) (by omega)).trans (sameC_el (f8 437 (by omega) id) j)) ⟨by have := g8.1; omega, by have := g8.2; omega⟩ (by omega)
        exact k _ (RSt_mono (RSt_tr T (by omega) (RSt_tr T r2.2.2.2.2.1 r2 r4) r411) (by omega) (by omega))
      · obtain ⟨k0, rfl⟩ : ∃ k0 : Nat, x10 = k0 := ⟨x10.toNat, by omega⟩
        rw [Int.toNat_natCast] at za
        have eN11 : N = nw h11 := eN8.trans (nw_fr (zf 438 (by omega) (by omega))).symm
        refine c_X14_laySet (by omega) t11 eN11 W P8 zk zn (by omega) (fun y => ?_) ?_
        · obtain ⟨s1, s2⟩ := SO8 y
          refine ⟨SortOK_fr2 t8 zf (by omega) (nq8 y) s1, ?_, fun p hp => ?_⟩
          · rw [show hI h11 437 12 = hI h8 437 12 from congrArg gvI (ze 12 (by decide) (by decide)), show hI h11 437 4 = hI h8 437 4 from congrArg gvI (ze 4 (by decide) (by decide))]
            exact s2
          · rw [sameC_R (zf 442 (by omega) (by omega))]
            exact nq8 y p hp
        intro x13 h14 f14 l14 y14 A14 qx13
        intro t14 u14
        intro rx13 vx13
        have ze14 : ∀ j, el h14 437 j = el h11 437 j := fun j => sameC_el (f14 437 (by omega) (by omega)) j
        have zf14 : Fr (fun b => b = a7 ∨ b = 437) h8 h14 := fun b hb n => sameC_tr (zf b hb n) (f14 b (by omega) (by omega))
        have st : fitsN N nd (rh N) (k0 + 1) = fitsN N nd (rh N) k0 + (@ite _ (setIs N k0 ∧ fitP N nd (rh N) (setF N k0)) (Classical.propDecidable _) 1 0) := rfl
        have G14 : Fr (fun b => b = a7 ∨ b = 437) h8 h14 ∧ h14.length = h8.length ∧ xhs h14 = xhs h8 ∧ (∀ j, ¬ j = 42 → ¬ j = 43 → el h14 437 j = el h8 437 j) ∧ hk h14 a7 = 100 ∧ hn h14 a7 = 12 ∧ hI h14 437 42 = 0 ∧ hI h14 437 43 = 0 := ⟨zf14, by omega, by omega, fun j n1 n2 => (ze14 j).trans (ze j n1 n2), A14.1, A14.2.1, (congrArg gvI (ze14 42)).trans z42, (congrArg gvI (ze14 43)).trans z43⟩
        have eN14 : N = nw h14 := eN8.trans (nw_fr (zf14 438 (by omega) (by omega))).symm
        have Z14 : NTm h14 nd m := NTm_fr t4 (fun b x y => sameC_tr (f8 b x id) (zf14 b (by omega) (by omega))) (fun j hj => ((ze14 j).trans (ze j (by omega) (by omega))).trans (sameC_el (f8 437 (by omega) id) j)) Z4
        refine ⟨fun y g => y = (fitsN N nd (rh N) (k0 + 1) : Nat) ∧ y ≤ (k0 : Int) + 1 ∧ Fr (fun b => b = a7 ∨ b = 437) h8 g ∧ g.length = h8.length ∧ xhs g = xhs h8 ∧ (∀ j, ¬ j = 42 → ¬ j = 43 → el g 437 j = el h8 437 j) ∧ hk g a7 = 100 ∧ hn g a7 = 12 ∧ hI g 437 42 = 0 ∧ hI g 437 43 = 0, ?_, ?_⟩
        · intro x15 h16 t16 s16 rx15 z17
          intro x18 ex18 rx18
          rw [wr_of (by omega) (by omega)] at ex18
          obtain ⟨y1, y2, y3⟩ := z17
          exact ⟨⟨by omega, by omega, by rw [show x18.toNat = k0 + 1 by omega]; exact y1, by omega, y3⟩, by dsimp only; omega⟩
        · refine ⟨fun c47 => ?_, fun c47 => ?_⟩
          · exact ⟨by rw [st, if_neg (fun z => (bq1 qx13).2.1.mp c47 z.1)]; exact za, by omega, G14⟩
          · refine c_X14_fitsHere t14 eN14 W Z14 A14 (setF_OK W.1 k0) ?_
            intro x19 qx19
            intro rx19 vx19
            refine ⟨fun c46 => ?_, fun c46 => ?_⟩
            · intro x20 ex20 rx20
              rw [wr_of (by omega) (by omega)] at ex20
              refine ⟨fun y g => y = 0 ∧ g = h14, ?_, ?_⟩
              · intro x21 h22 t22 s22 rx21 z23
                refine ⟨(.inl z23.1), ?_⟩
                intro h25 eh25 t25 u25
                rw [z23.1, z23.2] at eh25
                obtain ⟨G1, G2, G3, G4, G5, G6, G7, G8⟩ := G14
                have e25 : ∀ j, ¬ j = 42 → el h25 437 j = el h14 437 j := fun j n => by rw [eh25]; exact el_ni (fun z => n z.symm)
                have e2543 : hI h25 437 43 = 0 := (congrArg gvI (e25 43 (by decide))).trans G8
                have n437 : 43 < hn h14 437 := by rw [(lstn t14).2.2.2.2.1]; decide
                refine ⟨fun y => y = 0, ?_, ?_⟩
                · intro x26 rx26 z27
                  refine ⟨(.inl z27), ?_⟩
                  intro h29 eh29 t29 u29
                  rw [z27] at eh29
                  have s29 : ∀ b, ¬ b = 437 → sameC h14 h29 b := fun b n => by rw [eh29, eh25]; exact sameC_tr (sameC_sV (fun z => n z.symm)) (sameC_sV (fun z => n z.symm))
                  refine ⟨?_, by omega, fun b hb n => sameC_tr (G1 b hb n) (s29 b (by omega)), by rw [eh29, len_sV, eh25, len_sV]; exact G2, by rw [eh29, xhs_sV, eh25, xhs_sV]; exact G3, fun j n1 n2 => ?_, (sameC_k (s29 a7 (by omega))).trans G5, (sameC_n (s29 a7 (by omega))).trans G6, ?_, ?_⟩
                  · rw [ex20, st, if_pos ⟨(bq1 qx13).2.2.1.mp c47, (bq1 qx19).2.2.1.mp c46⟩]
                    omega
                  · rw [eh29, el_ni (fun z => n2 z.symm), e25 j n1]; exact G4 j n1 n2
                  · rw [eh29, hI_ni (by decide), eh25]; exact hI_eq (by omega) (rgk rfl)
                  · rw [eh29]; exact hI_eq (by rw [(lstn t25).2.2.2.2.1]; decide) (rgk rfl)
                · refine ⟨False, ?_, ?_⟩
                  · intro z30
                    exact z30.elim
                  · refine ⟨fun c36 => ?_, fun c36 => ?_⟩
                    · exact absurd e2543 c36
                    · refine ⟨True, ?_, ?_⟩
                      · intro z31
                        rfl
                      · refine ⟨fun c35 => ?_, fun c35 => ?_⟩
                        · trivial
                        · exact absurd rfl c35
              · refine ⟨fun _ => False, ?_, ?_⟩
                · intro h37 t37 s37 z38
                  exact z38.elim
                · refine ⟨fun c45 => ?_, fun c45 => ?_⟩
                  · exact absurd G14.2.2.2.2.2.2.1 c45
                  · refine ⟨fun g => g = h14, ?_, ?_⟩
                    · intro h39 t39 s39 z40
                      exact ⟨rfl, z40⟩
                    · refine ⟨fun c44 => ?_, fun c44 => ?_⟩
                      · rfl
                      · exact absurd rfl c44
            · exact ⟨by rw [st, if_neg (fun z => (bq1 qx19).2.1.mp (Decidable.not_not.mp c46) z.2)]; exact za, by omega, G14⟩
  · have : fitting N nd (rh N) = -1 := by unfold fitting; rw [if_pos (by omega)]
    rw [← this]
    exact k _ (RSt_mono (RSt_tr T r2.2.2.2.2.1 r2 r4) (by omega) (by omega))
set_option maxHeartbeats 1000000 in
theorem c_X14_fitting {h : XH} {N : Nat → Int} {m : Nat} {nd : Nat → ND} (T : HT h) (eN : N = nw h) (W : WF N m) (P8 : P8N N) (CR : CaR h N nd) (Z : NTm h nd m) (fi : fOK N (inst N (rh N))) {K : Int → XH → Prop} (k : ∀ h1 h2, HT h1 → h1 = sI h 437 5 0 → RSt h1 h2 nd 26 (12 * nA8 + 2 * n12) → K (fitting N nd (rh N)) h2) : w_X14_fitting K h := by
  unfold w_X14_fitting
  intro h1 eh1 t1 u1
  have eN1 : N = nw h1 := eN.trans (nw_fr (by rw [eh1]; exact sameC_sV (by decide))).symm
  have CR1 : CaR h1 N nd := by rw [eh1]; exact CaR_fr (fun b x _ => sameC_sV (by omega)) (fun j hj => el_ni (by omega)) (HT_len T) CR
  have Z1 := NTm_5 T eh1 Z
  have L1 := HT_len t1
  refine ⟨fun g => RSt h1 g nd 26 (12 * nA8 + 2 * n12) ∧ hI g 437 41 = fitting N nd (rh N), ?_, ?_⟩
  · intro h2 t2 s2 z3
    rw [z3.2]
    exact k _ _ t1 eh1 z3.1
  · refine ⟨fun c8 => ?_, fun c8 => ?_⟩
    · exact ⟨RSt_mono (RSt_rf _ _) (by omega) (by omega), CR1.2.2.2.2.2.1 c8⟩
    · refine c_goThrough0 t1 eN1 W P8 CR1 Z1 fi ?_
      intro h5 r5
      intro t5 u5
      intro rx4
      intro h6 eh6 t6 u6
      intro h7 eh7 t7 u7
      have L5 := HT_len t5
      have n437 : ∀ {g}, HT g → hn g 437 = 64 := fun t => (lstn t).2.2.2.2.1
      have s7 : ∀ b, ¬ b = 437 → sameC h5 h7 b := fun b n => by rw [eh7, eh6]; exact sameC_tr (sameC_sV (fun z => n z.symm)) (sameC_sV (fun z => n z.symm))
      have e7 : ∀ j, ¬ j = 40 → ¬ j = 41 → el h7 437 j = el h5 437 j := fun j n1 n2 => by rw [eh7, el_ni (fun z => n1 z.symm), eh6, el_ni (fun z => n2 z.symm)]
      have e41 : hI h7 437 41 = fitting N nd (rh N) := by rw [eh7, hI_ni (by decide), eh6]; exact hI_eq (by rw [n437 t5]; decide) rx4
      have e40 : hI h7 437 40 = hI h5 437 4 := by rw [eh7, hI_eq (by rw [n437 t6]; decide) (rgh _ _ _), eh6, hI_ni (by decide)]
      have CR5 : CaR h5 N nd := by have := r5.1; rw [← eN1] at this; exact this CR1
      have r57 : RSt h5 h7 nd 0 0 := by
        refine ⟨fun z => ?_, fun b _ n => s7 b (fun y => n (.inl y)), fun j hj => e7 j (by omega) (by omega), ⟨by rw [eh7, len_sV, eh6, len_sV]; omega, by rw [eh7, xhs_sV, eh6, xhs_sV]; omega⟩, by rw [eh7, len_sV, eh6, len_sV]; omega, fun j hj => (congrArg gvR (e7 j (by unfold owP at hj; omega) (by unfold owP at hj; omega)))⟩
        rw [RSt_nw t1 r5, ← eN1]
        exact CaR_40 L5 (fun b n => s7 b n) e7 e40 e41 CR5
      exact ⟨RSt_mono (RSt_tr t1 r5.2.2.2.2.1 r5 r57) (by omega) (by omega), e41⟩
theorem d_fitting {h : XH} {nd : Nat → ND} {o u : Int} {c : Nat} (T : HT h) (R : Inv h nd o u c) {K : Int → XH → Prop} {J : XH → Prop} (k : ∀ h' o' u', HT h' → Inv h' nd o' u' (c + 1) → Gr (0 + 26) (0 + (12 * nA8 + 2 * n12)) h h' → J h') : w_X12_fitting  (LDq h (fun g Q => w_X14_fitting  Q g) K J) h := by
  have W := R.1.2.1
  have C := R.1.1
  have hr := rh_lt W
  refine dasq (x := fitting (nw h) nd (rh (nw h))) (wL := fun Q => w_X12_fitting  Q h) (wR := fun g Q => w_X14_fitting  Q g) (mkAq T R (fun Q q => ?_)) (fun g Tg Rg eg => mkBq Tg Rg (fun Q q => ?_)) k
  · exact c_X12_fitting T C W (DK_of (NTm_of R.1)) R.2.2.1  q
  · exact c_X14_fitting (m := (hI g 437 7).toNat) (nd := nd) Tg eg.symm (by rw [← eg]; exact Rg.1.2.1) (P8_of R) (by have := Rg.2.2.2; rw [eg] at this; exact this) (NTm_of Rg.1) (CS_i C hr).2.2.2 q
