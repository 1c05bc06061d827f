/-! WHETHER A SET IS SOUND, WHETHER IT FITS: in bits, by packages -/
def hdP (d : ND) : Nat := ((d.2.headD (0, [])).1).toNat
def mB (N : Nat → Int) (d : ND) (s : BitVec 64) : Prop := ¬ s &&& nMask N d = 0#64 ∧ (d.1 = 1 → s.getLsbD (40 + hdP d) = true)
def nB (N : Nat → Int) (nd : Nat → ND) (s : BitVec 64) (v : Nat) : Prop := (∀ k : Nat, (k : Int) < nV N v 7 → mB N (nd (nV N v (8 + k)).toNat) s) ∧ (s.getLsbD (40 + (nV N v 0).toNat) = true → ¬ nV N v 6 = 0 → mB N (nd (nV N v 6 - 1).toNat) s)
def bB (N : Nat → Int) (nd : Nat → ND) (s : BitVec 64) (v : Nat) : Prop := ∃ k : Nat, (k : Int) < nV N v 12 ∧ ∃ j, j < vc N ∧ ¬ j = v ∧ s.getLsbD j = true ∧ nmet N (nd (nV N v (13 + k)).toNat) j = true
def sB (N : Nat → Int) (nd : Nat → ND) (s : BitVec 64) : Prop := (∀ v, v < vc N → s.getLsbD v = true → nB N nd s v ∧ ¬ bB N nd s v) ∧ ∀ p, p < pc N → s.getLsbD (40 + p) = true → ¬ s &&& oMask N p = 0#64
def barN (N : Nat → Int) (nd : Nat → ND) (r p : Nat) : BitVec 64 := if nR N r (10 + p) = 0 then 0#64 else pMask N (nd (nR N r (10 + p) - 1).toNat) p
def fB (N : Nat → Int) (nd : Nat → ND) (r : Nat) (t s : BitVec 64) : Prop :=
  (∀ w : Nat, (w : Int) < nR N r 0 → ¬ nR N r (1 + w) = -1 → mB N (nd (nR N r (1 + w)).toNat) s) ∧
  (∀ p, p < pc N → s &&& barN N nd r p = 0#64 ∧ (isHeld N r p = true → (s ^^^ t) &&& wMask N p = 0#64)) ∧ sB N nd s
theorem and_orN {s : BitVec 64} {P : Nat → Bool} {n : Nat} (h : n ≤ 64) : ¬ s &&& orN n P = 0#64 ↔ ∃ j, j < n ∧ s.getLsbD j = true ∧ P j = true := by
  rw [bvz]
  constructor
  · intro a
    refine Classical.byContradiction fun c => a fun j hj => ?_
    rw [BitVec.getLsbD_and, orN_at _ _ _ h]
    cases x : s.getLsbD j with
    | false => rfl
    | true =>
      cases y : P j with
      | false => simp
      | true =>
        by_cases z : j < n
        · exact absurd ⟨j, z, x, y⟩ c
        · rw [df z]; rfl
  · rintro ⟨j, hj, x, y⟩ a
    have := a j (by omega)
    rw [BitVec.getLsbD_and, orN_at _ _ _ h, x, y, dt hj] at this
    cases this
theorem ban_z {s : BitVec 64} {P : Nat → Bool} {n v : Nat} (h : n ≤ 64) (hv : v < 64) : ¬ (s &&& orN n P) &&& ((lshl (1#64) (v : Int)) ^^^ (18446744073709551615#64)) = 0#64 ↔ ∃ j, j < n ∧ ¬ j = v ∧ s.getLsbD j = true ∧ P j = true := by
  have al : ∀ m : Fin 64, (18446744073709551615#64 : BitVec 64).getLsbD m.1 = true := by decide +kernel
  have e : (s &&& orN n P) &&& ((lshl (1#64) (v : Int)) ^^^ (18446744073709551615#64)) = s &&& orN n (fun j => P j && !decide (j = v)) := by
    apply BitVec.eq_of_getLsbD_eq
    intro j hj
    rw [lshl1 hv, BitVec.getLsbD_and, BitVec.getLsbD_and, BitVec.getLsbD_and, BitVec.getLsbD_xor, orN_at _ _ _ h, orN_at _ _ _ h, bit1_at hv, al ⟨j, hj⟩]
    cases s.getLsbD j <;> cases decide (j < n) <;> cases P j <;> cases decide (j = v) <;> rfl
  rw [e, and_orN h]
  constructor
  · rintro ⟨j, a, b, c⟩
    rw [Bool.and_eq_true, Bool.not_eq_true', decide_eq_false_iff_not] at c
    exact ⟨j, a, c.2, b, c.1⟩
  · rintro ⟨j, a, n, b, c⟩
    exact ⟨j, a, b, by rw [c, df n]; rfl⟩
theorem vc64 {N : Nat → Int} {m : Nat} (W : WV N m) : vc N ≤ 40 := by have := W.2.2.2.1; unfold vc; omega
theorem S_in {N : Nat → Int} {m : Nat} (W : WV N m) {s : BitVec 64} {f : Nat → Int} (S : SetR N s f) {v : Nat} (hv : v < vc N) (b : s.getLsbD v = true) : ∃ p : Nat, p < 12 ∧ nV N v 0 = p ∧ ¬ f p = -1 ∧ slF N f p = v ∧ (f p = nV N v 1 ∨ f p = nV N v 1 + 1000000) := by
  have w := W.2.2.2.2.1 v hv
  have b12 := W.2.1
  have v40 := vc64 W
  have e := ((S.1 v (by omega)).mp b).2
  refine ⟨(nV N v 0).toNat, by omega, by omega, by omega, slF_r W hv (by omega) e, e⟩
theorem am_1 {N : Nat → Int} {a : Int × List (Int × Int × Int)} {j : Nat} (h : am N 1 a j = true) : nV N j 0 = a.1 := by
  unfold am at h
  rw [df (show ¬ (1 : Int) = 0 by decide), Bool.false_and, Bool.or_false, Bool.and_eq_true, decide_eq_true_eq] at h
  exact h.1
theorem nmet_1 {N : Nat → Int} {d : ND} (ok : ndOK d) (e : d.1 = 1) {j : Nat} (h : nmet N d j = true) : nV N j 0 = (hdP d : Nat) ∧ hdP d < 12 := by
  have l1 := ok.2.2.1 e
  unfold nmet at h
  rw [e] at h
  unfold hdP
  match q : d.2, l1 with
  | [a], _ =>
    rw [q] at h
    simp only [List.any_cons, List.any_nil, Bool.or_false] at h
    have a0 := ok.2.2.2.1 a (by rw [q]; exact List.mem_singleton.mpr rfl)
    have := am_1 h
    simp only [List.headD_cons]
    omega
theorem mB_F {N : Nat → Int} {m : Nat} (W : WV N m) {s : BitVec 64} {f : Nat → Int} (S : SetR N s f) {d : ND} (ok : ndOK d) : mB N d s ↔ mP N d f := by
  have v40 := vc64 W
  unfold mB nMask
  rw [and_orN (by omega)]
  constructor
  · rintro ⟨⟨j, hj, b, n⟩, o⟩
    obtain ⟨p, hp, e0, nf, es, e1⟩ := S_in W S hj b
    refine ⟨p, hp, nf, fun y => ?_, by rw [es, Int.toNat_natCast]; exact n⟩
    obtain ⟨z1, z2⟩ := nmet_1 ok y n
    have : hdP d = p := by omega
    rw [← S.2.1 p hp, ← this]
    exact o y
  · rintro ⟨p, hp, nf, o, n⟩
    obtain ⟨v, hv, es, e0, e1, b⟩ := Set_v W S hp nf
    rw [es, Int.toNat_natCast] at n
    refine ⟨⟨v, hv, b, n⟩, fun y => ?_⟩
    obtain ⟨z1, z2⟩ := nmet_1 ok y n
    have : hdP d = p := by omega
    rw [this]
    exact (S.2.1 p hp).mpr (o y)
theorem nB_F {N : Nat → Int} {nd : Nat → ND} {m : Nat} (W : WV N m) (dk : DK nd m) {s : BitVec 64} {f : Nat → Int} (S : SetR N s f) {v p : Nat} (hv : v < vc N) (hp : p < 12) (e0 : nV N v 0 = p) (es : slF N f p = v) : nB N nd s v ↔ needsP N nd f p := by
  have w := W.2.2.2.2.1 v hv
  unfold nB needsP
  rw [es, Int.toNat_natCast, e0, Int.toNat_natCast, S.2.1 p hp]
  constructor
  · intro ⟨a, b⟩
    exact ⟨fun k hk => (mB_F W S (dk _ (by have := w.2.2.2.2.2.2.2.2.2.2.2.2.2.1 k (by omega) hk; omega))).mp (a k hk), fun x y => (mB_F W S (dk _ (by omega))).mp (b x y)⟩
  · intro ⟨a, b⟩
    exact ⟨fun k hk => (mB_F W S (dk _ (by have := w.2.2.2.2.2.2.2.2.2.2.2.2.2.1 k (by omega) hk; omega))).mpr (a k hk), fun x y => (mB_F W S (dk _ (by omega))).mpr (b x y)⟩
theorem snd_F {N : Nat → Int} {nd : Nat → ND} {m : Nat} (W : WV N m) (dk : DK nd m) {s : BitVec 64} {f : Nat → Int} (S : SetR N s f) : sB N nd s ↔ sndP N nd f := by
  have v40 := vc64 W
  have b12 := W.2.1
  constructor
  · intro ⟨a, b⟩ p hp nf
    obtain ⟨v, hv, es, e0, e1, bv⟩ := Set_v W S hp nf
    obtain ⟨a1, a2⟩ := a v hv bv
    have w := W.2.2.2.2.1 v hv
    refine ⟨(nB_F W dk S hv hp e0 es).mp a1, fun o => ?_, fun k hk q hq nq fq => ?_⟩
    · have y := b p (by unfold pc; omega) ((S.2.1 p hp).mpr o)
      unfold oMask at y
      rw [and_orN (by omega)] at y
      obtain ⟨j, hj, bj, z⟩ := y
      rw [Bool.and_eq_true, decide_eq_true_eq, decide_eq_true_eq] at z
      obtain ⟨p', hp', e0', nf', es', e1'⟩ := S_in W S hj bj
      have : p' = p := by omega
      subst this
      rw [es', Int.toNat_natCast]
      omega
    · obtain ⟨u, hu, us, u0, u1, bu⟩ := Set_v W S hq fq
      rw [es, Int.toNat_natCast] at hk ⊢
      rw [us, Int.toNat_natCast]
      refine bt fun y => a2 ⟨k, hk, u, hu, fun z => ?_, bu, y⟩
      rw [z] at u0
      omega
  · intro a
    refine ⟨fun v hv bv => ?_, fun p hp o => ?_⟩
    · obtain ⟨p, hp, e0, nf, es, e1⟩ := S_in W S hv bv
      obtain ⟨a1, a2, a3⟩ := a p hp nf
      rw [es, Int.toNat_natCast] at a3
      refine ⟨(nB_F W dk S hv hp e0 es).mpr a1, fun ⟨k, hk, j, hj, nj, bj, y⟩ => ?_⟩
      obtain ⟨q, hq, q0, nq, qs, q1⟩ := S_in W S hj bj
      have := a3 k hk q hq (fun z => nj (by subst z; omega)) nq
      rw [qs, Int.toNat_natCast, y] at this
      cases this
    · have p12 : p < 12 := by unfold pc at hp; omega
      have o' := (S.2.1 p p12).mp o
      have nf : ¬ f p = -1 := by omega
      obtain ⟨v, hv, es, e0, e1, bv⟩ := Set_v W S p12 nf
      have a2 := (a p p12 nf).2.1 o'
      rw [es, Int.toNat_natCast] at a2
      unfold oMask
      rw [and_orN (by omega)]
      refine ⟨v, hv, bv, ?_⟩
      have w := W.2.2.2.2.1 v hv
      rw [dt e0, dt (by omega)]; rfl
theorem cIn_v {N : Nat → Int} {m : Nat} (W : WV N m) {f : Nat → Int} {v p : Nat} (hv : v < vc N) (e : f p = nV N v 1 ∨ f p = nV N v 1 + 1000000) : cIn f p = nV N v 1 := by
  have w := W.2.2.2.2.1 v hv
  unfold cIn
  rw [if_neg (by omega)]
  omega
theorem fit_F {N : Nat → Int} {nd : Nat → ND} {m : Nat} (W : WF N m) (dk : DK nd m) {r : Nat} (hr : r < 3) {s t : BitVec 64} {f : Nat → Int} (S : SetR N s f) (T : SetR N t (inst N r)) : fB N nd r t s ↔ fitP N nd r f := by
  have v40 := vc64 W.1
  have b12 := W.1.2.1
  obtain ⟨r1, r2, r3, r4, r5, r6, r7, -⟩ := W.2.1 r hr
  have h1 : (∀ w : Nat, (w : Int) < nR N r 0 → ¬ nR N r (1 + w) = -1 → mB N (nd (nR N r (1 + w)).toNat) s) ↔ (∀ w : Nat, (w : Int) < nR N r 0 → ¬ nR N r (1 + w) = -1 → mP N (nd (nR N r (1 + w)).toNat) f) := by
    constructor
    · intro a w hw n
      have := r3 w (by omega) hw
      exact (mB_F W.1 S (dk _ (by omega))).mp (a w hw n)
    · intro a w hw n
      have := r3 w (by omega) hw
      exact (mB_F W.1 S (dk _ (by omega))).mpr (a w hw n)
  have h2 : ∀ p, p < 12 → ((s &&& barN N nd r p = 0#64) ↔ (¬ nR N r (10 + p) = 0 → ¬ f p = -1 → rmet (rng (nd (nR N r (10 + p) - 1).toNat)) (cIn f p) = true)) := by
    intro p hp
    unfold barN
    by_cases z : nR N r (10 + p) = 0
    · rw [if_pos z]
      exact ⟨fun _ n => absurd z n, fun _ => BitVec.and_zero⟩
    · rw [if_neg z]
      have e := and_orN (s := s) (P := fun v => decide (nV N v 0 = p) && !rmet (rng (nd (nR N r (10 + p) - 1).toNat)) (nV N v 1)) (n := vc N) (by omega)
      constructor
      · intro a _ nf
        obtain ⟨v, hv, es, e0, e1, bv⟩ := Set_v W.1 S hp nf
        rw [cIn_v W.1 hv e1]
        refine Classical.byContradiction fun c => e.mpr ⟨v, hv, bv, ?_⟩ a
        rw [dt e0, bt c]; rfl
      · intro a
        refine Classical.byContradiction fun c => ?_
        obtain ⟨j, hj, bj, y⟩ := e.mp c
        rw [Bool.and_eq_true, decide_eq_true_eq, Bool.not_eq_true'] at y
        obtain ⟨q, hq, q0, nq, qs, q1⟩ := S_in W.1 S hj bj
        have : q = p := by omega
        subst this
        have := a z nq
        rw [cIn_v W.1 hj q1, y.2] at this
        cases this
  have h3 : ∀ p, p < 12 → ((s ^^^ t) &&& wMask N p = 0#64 ↔ f p = inst N r p) := by
    intro p hp
    have := unl_F W.1 S T hp
    unfold unlP at this
    by_cases c : f p = inst N r p
    · rw [dt c] at this
      exact ⟨fun _ => c, fun _ => by simpa using this⟩
    · rw [df c] at this
      exact ⟨fun y => by rw [dt y] at this; simp at this, fun y => absurd y c⟩
  unfold fB fitP
  rw [h1, snd_F W.1 dk S]
  constructor
  · intro ⟨a, b, c⟩
    refine ⟨fun p hp => ?_, a, c⟩
    by_cases q : p < pc N
    · obtain ⟨b1, b2⟩ := b p q
      exact ⟨fun x => (h3 p hp).mp (b2 x), (h2 p hp).mp b1⟩
    · refine ⟨fun x => ?_, fun n => absurd ((r7 p hp).2.2 (by unfold pc at q; omega)) n⟩
      have := r6 p hp x
      unfold pc at q
      omega
  · intro ⟨b, a, c⟩
    refine ⟨a, fun p hp => ?_, c⟩
    have p12 : p < 12 := by unfold pc at hp; omega
    obtain ⟨b1, b2⟩ := b p p12
    exact ⟨(h2 p p12).mpr b2, fun x => (h3 p p12).mpr (b1 x)⟩
theorem Atom_1 {h : XH} {a : Nat} {d : ND} (T : HT h) (A : AtomR h a d) (ok : ndOK d) : ¬ a = 0 ∧ hk h a = 1 ∧ hI h a 0 = (hdP d : Nat) ∧ hI h a 1 = d.1 ∧ hdP d < 12 := by
  refine ⟨AtomR_nz T A ok, ?_⟩
  unfold AtomR at A
  unfold hdP
  cases e : d.2 with
  | nil => exact absurd e ok.2.1
  | cons q l =>
    have o := ok.2.2.2.1 q (by rw [e]; exact List.mem_cons_self ..)
    rw [e] at A
    obtain ⟨a1, a2, a3, -⟩ := A
    simp only [List.headD_cons]
    exact ⟨a1, by omega, a3, by omega⟩
set_option maxHeartbeats 1000000 in
theorem c_X3_isMet {p0 : Nat} {p2 : BitVec 64} {d : ND} {h : XH} {N : Nat → Int} {nd : Nat → ND} {m : Nat} (T : HT h) (C : CS h 8 N nd) (W : WF N m) (A : AtomR h p0 d) (ok : ndOK d) {K : Int → Prop} (k : ∀ x, bq x (mB N d p2) → K x) : w_X3_isMet p0 (nMask N d) p2 K h := by
  unfold w_X3_isMet
  obtain ⟨nz, A0, A1, A2, A3⟩ := Atom_1 T A ok
  refine ⟨fun x => bq x (d.1 = 1 → p2.getLsbD (40 + hdP d) = true), ?_, ?_⟩
  · intro x1 rx1 z2
    refine ⟨fun x => bq x (mB N d p2), ?_, ?_⟩
    · intro x3 rx3 z4
      refine ⟨vOr z4, ?_⟩
      exact k _ z4
    · refine ⟨¬ mB N d p2, ?_, ?_⟩
      · intro z6
        exact bqF z6
      · refine ⟨fun c8 => ?_, fun c8 => ?_⟩
        · exact fun z => z.1 c8
        · refine ⟨fun c7 => ?_, fun c7 => ?_⟩
          · exact fun z => (bq1 z2).2.1.mp c7 z.2
          · exact bqT ⟨c8, (bq1 z2).2.2.1.mp c7⟩
  · refine ⟨d.1 = 1 → p2.getLsbD (40 + hdP d) = true, ?_, ?_⟩
    · intro z9
      exact bqT z9
    · refine ⟨fun c14 => ?_, fun c14 => ?_⟩
      · exact absurd c14 nz
      · refine ⟨A0, ?_⟩
        refine ⟨fun c13 => ?_, fun c13 => ?_⟩
        · exact fun y => by omega
        · rw [A1]
          refine c_X12_switchOf (by omega) ?_
          rw [Int.toNat_natCast]
          refine ⟨fun c12 => ?_, fun c12 => ?_⟩
          · rw [and_bit1 (by omega)] at c12
            refine bqF (fun z => ?_)
            rw [z (by rcases ok.1 with y | y <;> omega)] at c12
            cases c12
          · rw [and_bit1 (by omega)] at c12
            exact fun _ => by cases e : p2.getLsbD (40 + hdP d) with | true => rfl | false => exact absurd e c12
set_option maxHeartbeats 1000000 in
theorem c_X3_isOptionOn {p0 : Int} {p1 : BitVec 64} {h : XH} {N : Nat → Int} {nd : Nat → ND} {m : Nat} (T : HT h) (C : CS h 8 N nd) (W : WF N m) (dk : DK nd m) (hp : 0 ≤ p0) (hv : p0.toNat < vc N) {K : Int → Prop} (k : ∀ x, bq x (¬ nV N p0.toNat 6 = 0 ∧ p1.getLsbD (40 + (nV N p0.toNat 0).toNat) = true) → K x) : w_X3_isOptionOn p0 p1 K h := by
  unfold w_X3_isOptionOn
  have v40 := vc64 W.1
  obtain ⟨v0, v1, v2, v3, v4, v5, v6, -⟩ := V8 C.1 hv
  have wv := W.1.2.2.2.2.1 p0.toNat hv
  have b12 := W.1.2.1
  refine ⟨(by omega), ?_⟩
  refine ⟨fun x => bq x (¬ nV N p0.toNat 6 = 0 ∧ p1.getLsbD (40 + (nV N p0.toNat 0).toNat) = true), ?_, ?_⟩
  · intro x2 rx2 z3
    refine ⟨vOr z3, ?_⟩
    exact k _ z3
  · refine ⟨¬ (¬ nV N p0.toNat 6 = 0 ∧ p1.getLsbD (40 + (nV N p0.toNat 0).toNat) = true), ?_, ?_⟩
    · intro z5
      exact bqF z5
    · refine ⟨fun c8 => ?_, fun c8 => ?_⟩
      · rcases v6 with ⟨y, -⟩ | ⟨y, A⟩
        · exact fun z => z.1 y
        · exact absurd c8 (AtomR_nz T A (dk _ (by omega)))
      · rw [v0]
        refine c_X12_switchOf (by omega) ?_
        refine ⟨fun c7 => ?_, fun c7 => ?_⟩
        · rw [and_bit1 (by omega)] at c7
          exact fun z => by rw [c7] at z; exact absurd z.2 (by decide)
        · rw [and_bit1 (by omega)] at c7
          refine bqT ⟨?_, ?_⟩
          · rcases v6 with ⟨-, y⟩ | ⟨y, -⟩
            · exact absurd y c8
            · omega
          · cases e : p1.getLsbD (40 + (nV N p0.toNat 0).toNat) with | true => rfl | false => exact absurd e c7
set_option maxHeartbeats 1000000 in
theorem c_X3_areNeedsMet {p0 : Int} {p1 : BitVec 64} {h : XH} {N : Nat → Int} {nd : Nat → ND} {m : Nat} (T : HT h) (C : CS h 8 N nd) (W : WF N m) (dk : DK nd m) (M : MetOK h N nd) (hp : 0 ≤ p0) (hv : p0.toNat < vc N) {K : Int → Prop} (k : ∀ x, bq x (nB N nd p1 p0.toNat) → K x) : w_X3_areNeedsMet p0 p1 K h := by
  unfold w_X3_areNeedsMet
  have v40 := vc64 W.1
  have V := V8 C.1 hv
  have wv := W.1.2.2.2.2.1 p0.toNat hv
  obtain ⟨M1, M2, M3⟩ := M.1 p0.toNat hv
  have e7 := V.2.2.2.2.2.2.2.1
  refine ⟨fun x => 0 ≤ x ∧ x ≤ nV N p0.toNat 7 ∧ ∀ k : Nat, (k : Int) < x → mB N (nd (nV N p0.toNat (8 + k)).toNat) p1, fun x => (nV N p0.toNat 7 - x).toNat, ?_, ?_⟩
  · exact ⟨by omega, by omega, fun k hk => by omega⟩
  · intro x1 rx1 z3
    obtain ⟨z0, z1, zm⟩ := z3
    refine ⟨(by omega), ?_⟩
    refine ⟨fun c18 => ?_, fun c18 => ?_⟩
    · refine c_X3_isOptionOn T C W dk hp hv ?_
      intro x5 qx5
      intro rx5 vx5
      refine ⟨fun x => bq x (nB N nd p1 p0.toNat), ?_, ?_⟩
      · intro x6 rx6 z7
        refine ⟨vOr z7, ?_⟩
        exact k _ z7
      · refine ⟨p1.getLsbD (40 + (nV N p0.toNat 0).toNat) = true → ¬ nV N p0.toNat 6 = 0 → mB N (nd (nV N p0.toNat 6 - 1).toNat) p1, ?_, ?_⟩
        · intro z9
          exact bqT ⟨fun k hk => zm k (by omega), z9⟩
        · refine ⟨fun c12 => ?_, fun c12 => ?_⟩
          · exact fun y z => absurd ⟨z, y⟩ ((bq1 qx5).2.1.mp c12)
          · obtain ⟨on, ob⟩ := (bq1 qx5).2.2.1.mp c12
            have A : AtomR h (hR h 26 p0.toNat) (nd (nV N p0.toNat 6 - 1).toNat) := V.2.2.2.2.2.2.1.elim (fun y => absurd y.1 on) (fun y => y.2)
            rw [M3, mNeed_p (by omega)]
            refine c_X3_isMet T C W A (dk _ (by omega)) ?_
            intro x10 qx10
            intro rx10 vx10
            refine ⟨fun c11 => ?_, fun c11 => ?_⟩
            · exact bqF (fun z => (bq1 qx10).2.1.mp c11 (z.2 ob on))
            · exact fun _ _ => (bq1 qx10).2.2.1.mp c11
    · intro x13 ex13 rx13
      rw [wr_of (x := p0 * 3) (by omega) (by omega), wr_of (by omega) (by omega)] at ex13
      have e13 : x13.toNat = 3 * p0.toNat + x1.toNat := by omega
      have nk := V.2.2.2.2.2.2.2.2.1 x1.toNat (by omega) (by omega)
      have nw_ := wv.2.2.2.2.2.2.2.2.2.2.2.2.2.1 x1.toNat (by omega) (by omega)
      refine ⟨(by omega), ?_⟩
      rw [e13, M1 x1.toNat (by omega) (by omega), mNeed_p (by omega)]
      refine c_X3_isMet T C W nk.1 (dk _ (by omega)) ?_
      intro x15 qx15
      intro rx15 vx15
      refine ⟨fun c17 => ?_, fun c17 => ?_⟩
      · intro x16 ex16 rx16
        rw [wr_of (by omega) (by omega)] at ex16
        refine ⟨⟨by omega, by omega, fun k hk => ?_⟩, by dsimp only; omega⟩
        by_cases c : k = x1.toNat
        · rw [c]; exact (bq1 qx15).2.2.1.mp c17
        · exact zm k (by omega)
      · exact k _ (bqF (fun z => (bq1 qx15).2.1.mp (Decidable.not_not.mp c17) (z.1 x1.toNat (by omega))))
set_option maxHeartbeats 1000000 in
theorem c_X3_isBanMet {p0 : Int} {p1 : BitVec 64} {h : XH} {N : Nat → Int} {nd : Nat → ND} {m : Nat} (T : HT h) (C : CS h 8 N nd) (W : WF N m) (M : MetOK h N nd) (hp : 0 ≤ p0) (hv : p0.toNat < vc N) {K : Int → Prop} (k : ∀ x, bq x (bB N nd p1 p0.toNat) → K x) : w_X3_isBanMet p0 p1 K h := by
  unfold w_X3_isBanMet
  have v40 := vc64 W.1
  have V := V8 C.1 hv
  have wv := W.1.2.2.2.2.1 p0.toNat hv
  obtain ⟨M1, M2, M3⟩ := M.1 p0.toNat hv
  have e12 := V.2.2.2.2.2.2.2.2.2.1
  refine ⟨fun x => 0 ≤ x ∧ x ≤ nV N p0.toNat 12 ∧ ∀ k : Nat, (k : Int) < x → ¬ ∃ j, j < vc N ∧ ¬ j = p0.toNat ∧ p1.getLsbD j = true ∧ nmet N (nd (nV N p0.toNat (13 + k)).toNat) j = true, fun x => (nV N p0.toNat 12 - x).toNat, ?_, ?_⟩
  · exact ⟨by omega, by omega, fun k hk => by omega⟩
  · intro x1 rx1 z2
    obtain ⟨z0, z1, zm⟩ := z2
    refine ⟨(by omega), ?_⟩
    refine ⟨fun c8 => ?_, fun c8 => ?_⟩
    · exact k _ (bqF (fun ⟨i, hi, y⟩ => zm i (by omega) y))
    · intro x4 ex4 rx4
      rw [wr_of (x := p0 * 2) (by omega) (by omega), wr_of (by omega) (by omega)] at ex4
      have nw_ := wv.2.2.2.2.2.2.2.2.2.2.2.2.2.2.2.2.2.2.1 x1.toNat (by omega) (by omega)
      have e4 : x4.toNat = 2 * p0.toNat + x1.toNat := by omega
      have ep : ((p0.toNat : Nat) : Int) = p0 := by omega
      have v0 : vc N ≤ 64 := by omega
      have v1 : p0.toNat < 64 := by omega
      have bz := ban_z (s := p1) (P := nmet N (nd (nV N p0.toNat (13 + x1.toNat)).toNat)) (n := vc N) (v := p0.toNat) v0 v1
      rw [ep] at bz
      rw [e4, M2 x1.toNat (by omega) (by omega), mNeed_p (by omega)]
      refine ⟨(by omega), ?_⟩
      refine ⟨fun c7 => ?_, fun c7 => ?_⟩
      · intro x6 ex6 rx6
        rw [wr_of (by omega) (by omega)] at ex6
        refine ⟨⟨by omega, by omega, fun k hk => ?_⟩, by dsimp only; omega⟩
        by_cases c : k = x1.toNat
        · rw [c]; exact fun y => bz.mpr y c7
        · exact zm k (by clear bz; omega)
      · exact k _ (bqT ⟨x1.toNat, by omega, bz.mp c7⟩)
set_option maxHeartbeats 1000000 in
theorem c_X3_isSoundSet {p0 : BitVec 64} {h : XH} {N : Nat → Int} {nd : Nat → ND} {m : Nat} (T : HT h) (C : CS h 8 N nd) (W : WF N m) (dk : DK nd m) (M : MetOK h N nd) {K : Int → Prop} (k : ∀ x, bq x (sB N nd p0) → K x) : w_X3_isSoundSet p0 K h := by
  unfold w_X3_isSoundSet
  have v40 := vc64 W.1
  have w4 := W.1.2.2.1
  have w0 := W.1.1
  have w12 := W.1.2.1
  have vcN : vc N = (N 4).toNat := rfl
  have pcN : pc N = (N 0).toNat := rfl
  obtain ⟨P1, V1⟩ := V80 C.1
  refine ⟨fun x => 0 ≤ x ∧ x ≤ N 4 ∧ ∀ v, v < x.toNat → p0.getLsbD v = true → nB N nd p0 v ∧ ¬ bB N nd p0 v, fun x => (N 4 - x).toNat, ?_, ?_⟩
  · exact ⟨by omega, w4, fun v hv => by omega⟩
  · intro x1 rx1 z2
    obtain ⟨z0, z1, zm⟩ := z2
    refine ⟨fun c21 => ?_, fun c21 => ?_⟩
    · refine ⟨fun x => 0 ≤ x ∧ x ≤ N 0 ∧ ∀ p, p < x.toNat → p0.getLsbD (40 + p) = true → ¬ p0 &&& oMask N p = 0#64, fun x => (N 0 - x).toNat, ?_, ?_⟩
      · exact ⟨by omega, w0, fun p hp => by omega⟩
      · intro x3 rx3 z4
        obtain ⟨y0, y1, ym⟩ := z4
        refine ⟨fun c11 => ?_, fun c11 => ?_⟩
        · exact k _ (bqT ⟨fun v hv => zm v (by omega), fun p hp => ym p (by omega)⟩)
        · refine c_X12_switchOf (by omega) ?_
          refine ⟨p0.getLsbD (40 + x3.toNat) = true → ¬ p0 &&& oMask N x3.toNat = 0#64, ?_, ?_⟩
          · intro z6
            intro x7 ex7 rx7
            rw [wr_of (by omega) (by omega)] at ex7
            refine ⟨⟨by omega, by omega, fun p hp => ?_⟩, by dsimp only; omega⟩
            by_cases c : p = x3.toNat
            · rw [c]; exact z6
            · exact ym p (by omega)
          · refine ⟨fun c10 => ?_, fun c10 => ?_⟩
            · rw [and_bit1 (by omega)] at c10
              exact fun y => by rw [y] at c10; cases c10
            · have mo := (M.2.2 x3.toNat (by omega)).1
              refine ⟨(by omega), ?_⟩
              refine ⟨fun c9 => ?_, fun c9 => ?_⟩
              · rw [mo] at c9
                exact fun _ => c9
              · rw [mo] at c9
                refine k _ (bqF (fun z => c9 (z.2 x3.toNat (by omega) ?_)))
                rw [and_bit1 (by omega)] at c10
                cases e : p0.getLsbD (40 + x3.toNat) with | true => rfl | false => exact absurd e c10
    · refine c_X12_has (by omega) ?_
      intro x12 qx12
      intro rx12 vx12
      refine ⟨p0.getLsbD x1.toNat = true → nB N nd p0 x1.toNat ∧ ¬ bB N nd p0 x1.toNat, ?_, ?_⟩
      · intro z13
        intro x14 ex14 rx14
        rw [wr_of (by omega) (by omega)] at ex14
        refine ⟨⟨by omega, by omega, fun v hv => ?_⟩, by dsimp only; omega⟩
        by_cases c : v = x1.toNat
        · rw [c]; exact z13
        · exact zm v (by omega)
      · refine ⟨fun c20 => ?_, fun c20 => ?_⟩
        · exact fun y => absurd y ((bq1 qx12).2.1.mp c20)
        · refine c_X3_areNeedsMet T C W dk M (by omega) (by omega) ?_
          intro x15 qx15
          intro rx15 vx15
          refine ⟨p0.getLsbD x1.toNat = true ∧ ¬ (nB N nd p0 x1.toNat ∧ ¬ bB N nd p0 x1.toNat), ?_, ?_⟩
          · intro z16
            exact k _ (bqF (fun z => z16.2 (z.1 x1.toNat (by omega) z16.1)))
          · refine ⟨fun c19 => ?_, fun c19 => ?_⟩
            · exact ⟨(bq1 qx12).2.2.1.mp c20, fun y => (bq1 qx15).2.1.mp c19 y.1⟩
            · refine c_X3_isBanMet T C W M (by omega) (by omega) ?_
              intro x17 qx17
              intro rx17 vx17
              refine ⟨fun c18 => ?_, fun c18 => ?_⟩
              · exact fun _ => ⟨(bq1 qx15).2.2.1.mp c19, (bq1 qx17).2.1.mp c18⟩
              · exact ⟨(bq1 qx12).2.2.1.mp c20, fun y => y.2 ((bq1 qx17).2.2.1.mp c18)⟩
set_option maxHeartbeats 1000000 in
theorem c_X3_isFitting {p0 : BitVec 64} {h : XH} {N : Nat → Int} {nd : Nat → ND} {m : Nat} (T : HT h) (C : CS h 8 N nd) (W : WF N m) (dk : DK nd m) (M : MetOK h N nd) {K : Int → Prop} (k : ∀ x, bq x (fB N nd (rh N) (hL h (rc (rh N)) 6) p0) → K x) : w_X3_isFitting p0 K h := by
  unfold w_X3_isFitting
  have hr := rh_lt W
  have w0 := W.1.1
  have w12 := W.1.2.1
  have pcN : pc N = (N 0).toNat := rfl
  obtain ⟨P1, V1⟩ := V80 C.1
  have R := R8 (C.2.2.1 (rh N) hr)
  obtain ⟨r1, r2, r3, r4, r5, r6, r7, -⟩ := W.2.1 (rh N) hr
  obtain ⟨M1, M2, M3⟩ := M
  have R0 := R.1
  refine c_atH C W ?_
  refine ⟨fun x => 0 ≤ x ∧ x ≤ nR N (rh N) 0 ∧ ∀ w : Nat, (w : Int) < x → ¬ nR N (rh N) (1 + w) = -1 → mB N (nd (nR N (rh N) (1 + w)).toNat) p0, fun x => (nR N (rh N) 0 - x).toNat, ?_, ?_⟩
  · exact ⟨by omega, r1, fun w hw => by omega⟩
  · intro x2 rx2 z3
    obtain ⟨z0, z1, zm⟩ := z3
    refine ⟨(rc_k T hr), ?_⟩
    refine ⟨fun c26 => ?_, fun c26 => ?_⟩
    · refine ⟨fun x => 0 ≤ x ∧ x ≤ N 0 ∧ ∀ p, p < x.toNat → p0 &&& barN N nd (rh N) p = 0#64 ∧ (isHeld N (rh N) p = true → (p0 ^^^ (hL h (rc (rh N)) 6)) &&& wMask N p = 0#64), fun x => (N 0 - x).toNat, ?_, ?_⟩
      · exact ⟨by omega, w0, fun p hp => by omega⟩
      · intro x5 rx5 z7
        obtain ⟨y0, y1, ym⟩ := z7
        refine ⟨fun c19 => ?_, fun c19 => ?_⟩
        · refine c_X3_isSoundSet T C W dk ⟨M1, M2, M3⟩ ?_
          intro x8 qx8
          intro rx8 vx8
          exact k _ (bq_iff qx8 ⟨fun z => ⟨fun w hw => zm w (by omega), fun p hp => ym p (by omega), z⟩, fun z => z.2.2⟩)
        · have bi := bitI (a := (nR N (rh N) 9).toNat) (n := x5.toNat) (by omega) (by omega)
          rw [show (((nR N (rh N) 9).toNat : Nat) : Int) = hI h (rc (rh N)) 2 by rw [R.2.2.1]; omega, show ((x5.toNat : Nat) : Int) = x5 by omega] at bi
          have mb : hL h 50 x5.toNat = barN N nd (rh N) x5.toNat := (M3 x5.toNat (by omega)).2
          have wb := P8_w C.2.1 (by have := W.1.2.2.1; have := W.1.2.2.2.1; omega) (p := x5.toNat) (by omega) (by omega)
          refine ⟨fun x => bq x (isHeld N (rh N) x5.toNat = true), ?_, ?_⟩
          · intro x9 rx9 z10
            refine ⟨(by omega), ?_⟩
            refine ⟨¬ (p0 &&& barN N nd (rh N) x5.toNat = 0#64 ∧ (isHeld N (rh N) x5.toNat = true → (p0 ^^^ (hL h (rc (rh N)) 6)) &&& wMask N x5.toNat = 0#64)), ?_, ?_⟩
            · intro z12
              exact k _ (bqF (fun z => z12 (z.2.1 x5.toNat (by omega))))
            · refine ⟨fun c17 => ?_, fun c17 => ?_⟩
              · exact fun z => c17 (by rw [mb]; exact z.1)
              · refine ⟨isHeld N (rh N) x5.toNat = true → (p0 ^^^ (hL h (rc (rh N)) 6)) &&& wMask N x5.toNat = 0#64, ?_, ?_⟩
                · intro z13
                  intro x14 ex14 rx14
                  rw [wr_of (by omega) (by omega)] at ex14
                  rw [mb] at c17
                  refine ⟨⟨by omega, by omega, fun p hp => ?_⟩, by dsimp only; omega⟩
                  by_cases c : p = x5.toNat
                  · rw [c]; exact ⟨Decidable.not_not.mp c17, z13⟩
                  · exact ym p (by omega)
                · refine ⟨fun c16 => ?_, fun c16 => ?_⟩
                  · exact fun y => absurd y ((bq1 z10).2.1.mp c16)
                  · refine ⟨fun c15 => ?_, fun c15 => ?_⟩
                    · rw [wb] at c15
                      exact fun _ => c15
                    · rw [wb] at c15
                      exact fun z => c15 (z.2 ((bq1 z10).2.2.1.mp c16))
          · refine ⟨fun c18 => ?_, fun c18 => ?_⟩
            · refine bqF (fun y => ?_)
              unfold isHeld at y
              rw [bi, if_pos y] at c18
              cases c18
            · refine bqT ?_
              unfold isHeld
              cases e : (nR N (rh N) 9).toNat.testBit x5.toNat with
              | true => rfl
              | false => rw [bi, e] at c18; exact absurd rfl c18
    · have rw1 := R.2.1 x2.toNat (by omega) (by omega)
      have rw2 := r3 x2.toNat (by omega) (by omega)
      refine ⟨(by omega), ?_⟩
      refine ⟨¬ nR N (rh N) (1 + x2.toNat) = -1 → mB N (nd (nR N (rh N) (1 + x2.toNat)).toNat) p0, ?_, ?_⟩
      · intro z21
        intro x22 ex22 rx22
        rw [wr_of (by omega) (by omega)] at ex22
        refine ⟨⟨by omega, by omega, fun w hw => ?_⟩, by dsimp only; omega⟩
        by_cases c : w = x2.toNat
        · rw [c]; exact z21
        · exact zm w (by omega)
      · refine ⟨fun c25 => ?_, fun c25 => ?_⟩
        · rcases rw1 with y | ⟨y, A⟩
          · exact fun n => absurd y.1 n
          · exact absurd c25 (AtomR_nz T A (dk _ (by omega)))
        · have A : 0 ≤ nR N (rh N) (1 + x2.toNat) ∧ AtomR h (hR h (rc (rh N) + 1) x2.toNat) (nd (nR N (rh N) (1 + x2.toNat)).toNat) := rw1.elim (fun y => absurd y.2 c25) id
          have mw : hL h 49 x2.toNat = nMask N (nd (nR N (rh N) (1 + x2.toNat)).toNat) := (M2 x2.toNat (by omega) (by show _ < nR N (rh N) 0; omega)).trans (mNeed_p A.1)
          rw [mw]
          refine c_X3_isMet T C W A.2 (dk _ (by omega)) ?_
          intro x23 qx23
          intro rx23 vx23
          refine ⟨fun c24 => ?_, fun c24 => ?_⟩
          · exact fun _ => (bq1 qx23).2.2.1.mp c24
          · exact k _ (bqF (fun z => (bq1 qx23).2.1.mp (Decidable.not_not.mp c24) (z.1 x2.toNat (by omega) (by omega))))
