/-! SCRIPTS, FETCHES -/
def scrX (o : Bool × List Nat) : Int := if o.1 = true then -((o.2.length : Nat) : Int) else (o.2.length : Nat)
theorem sI_id {h : XH} (T : HT h) {a i : Nat} (k : hk h a = 100) (hi : i < hn h a) : sI h a i (hI h a i) = h := by
  obtain ⟨vk_, vs, e, l, g⟩ := el_arr (u := 0) T.1 k (by decide) hi
  show sV h a i (Value.int (J (hI h a i))) = h
  rw [el_I' T vk_]
  obtain ⟨lt, e2⟩ := List.getElem?_eq_some_iff.mp g
  have hc : cset (xcell h a) i (el h a i) = xcell h a := by
    rw [e]
    show some (Sum.inr (0, vs.set i (el h a i))) = some (Sum.inr (0, vs))
    rw [← e2, List.set_getElem_self]
  unfold sV
  rw [hc]
  have la := xcell_lt e
  have hx : h[a]'la = xcell h a := by
    unfold xcell
    rw [List.getElem?_eq_getElem la]
    rfl
  rw [← hx, List.set_getElem_self]
/-- the package's version that comes -/
def comF (f g : Nat → Int) (p : Nat) : Int := if f p = -1 ∨ cIn f p = cIn g p then -1 else f p
def comC (f g : Nat → Int) (p : Nat) : Bool := !decide (comF f g p = -1)
def comL (f g : Nat → Int) (L : List Nat) : List Nat := L.filter (comC f g)
theorem fOK_com {N : Nat → Int} {f g : Nat → Int} (S : fOK N f) : fOK N (comF f g) := fun p hp => by
  unfold comF
  by_cases c : f p = -1 ∨ cIn f p = cIn g p
  · rw [if_pos c]; exact .inl rfl
  · rw [if_neg c]; exact S p hp
/-- the versions of a set that another has not -/
theorem com_S {N : Nat → Int} {m : Nat} (W : WV N m) {s t : BitVec 64} {f g : Nat → Int} (S : SetR N s f) (T : SetR N t g) : ∃ b, SetR N b (comF f g) ∧ ∀ v, v < 40 → b.getLsbD v = (s &&& (t ^^^ (18446744073709551615#64))).getLsbD v := by
  have v40 := vc64 W
  have b12 := W.2.1
  have al : ∀ m : Fin 64, (18446744073709551615#64 : BitVec 64).getLsbD m.1 = true := by decide +kernel
  have bits : ∀ j, j < 64 → (s &&& (t ^^^ (18446744073709551615#64))).getLsbD j = (s.getLsbD j && !(t.getLsbD j)) := fun j hj => by
    rw [BitVec.getLsbD_and, BitVec.getLsbD_xor, al ⟨j, hj⟩]
    cases t.getLsbD j <;> rfl
  refine ⟨orN 64 (fun j => (decide (j < 40) && (s.getLsbD j && !(t.getLsbD j))) || (decide (40 ≤ j ∧ j < 52) && decide (1000000 ≤ comF f g (j - 40)))), ⟨fun v hv => ?_, fun p hp => ?_, fun j hj => ?_, ?_⟩, fun v hv => ?_⟩
  · rw [orN_at _ _ 64 (by omega), dt (show v < 64 by omega), Bool.true_and, dt hv, Bool.true_and, df (show ¬ (40 ≤ v ∧ v < 52) by omega), Bool.false_and, Bool.or_false, Bool.and_eq_true]
    have x1 := S.1 v hv
    have x2 := T.1 v hv
    by_cases c : v < vc N
    · have w := W.2.2.2.2.1 v c
      have p12 : (nV N v 0).toNat < 12 := by omega
      have ca : (f (nV N v 0).toNat = nV N v 1 ∨ f (nV N v 0).toNat = nV N v 1 + 1000000) → cIn f (nV N v 0).toNat = nV N v 1 := cIn_v W c
      have cb : (g (nV N v 0).toNat = nV N v 1 ∨ g (nV N v 0).toNat = nV N v 1 + 1000000) → cIn g (nV N v 0).toNat = nV N v 1 := cIn_v W c
      have cc : cIn g (nV N v 0).toNat = nV N v 1 → (g (nV N v 0).toNat = nV N v 1 ∨ g (nV N v 0).toNat = nV N v 1 + 1000000) := fun y => by
        rcases T.2.2.2 _ p12 with z | ⟨u, hu, u0, u1⟩
        · rw [cIn_0 z] at y; omega
        · have := cIn_v W hu u1
          rw [this] at y
          rw [← y]; exact u1
      constructor
      · intro ⟨a, b⟩
        have fa := (x1.mp a).2
        refine ⟨c, ?_⟩
        have : ¬ (f (nV N v 0).toNat = -1 ∨ cIn f (nV N v 0).toNat = cIn g (nV N v 0).toNat) := fun y => by
          rcases y with y | y
          · omega
          · rw [ca fa] at y
            rw [x2.mpr ⟨c, cc y.symm⟩] at b; cases b
        unfold comF
        rw [if_neg this]
        exact fa
      · intro ⟨_, y⟩
        unfold comF at y
        by_cases d : f (nV N v 0).toNat = -1 ∨ cIn f (nV N v 0).toNat = cIn g (nV N v 0).toNat
        · rw [if_pos d] at y; omega
        · rw [if_neg d] at y
          refine ⟨x1.mpr ⟨c, y⟩, ?_⟩
          cases z : t.getLsbD v with
          | false => rfl
          | true => exact absurd (.inr ((ca y).trans (cb (x2.mp z).2).symm)) d
    · exact ⟨fun y => absurd (x1.mp y.1).1 c, fun y => absurd y.1 c⟩
  · rw [orN_at _ _ 64 (by omega), dt (show 40 + p < 64 by omega), Bool.true_and, df (show ¬ 40 + p < 40 by omega), Bool.false_and, Bool.false_or, dt (show 40 ≤ 40 + p ∧ 40 + p < 52 by omega), Bool.true_and, Nat.add_sub_cancel_left, decide_eq_true_eq]
  · rw [orN_at _ _ 64 (by omega), df (show ¬ j < 40 by omega), Bool.false_and, Bool.false_or, df (show ¬ (40 ≤ j ∧ j < 52) by omega), Bool.false_and, Bool.and_false]
  · exact fOK_com S.2.2.2
  · rw [orN_at _ _ 64 (by omega), dt (show v < 64 by omega), Bool.true_and, dt hv, Bool.true_and, df (show ¬ (40 ≤ v ∧ v < 52) by omega), Bool.false_and, Bool.or_false, bits v (by omega)]
theorem sch_mem {N : Nat → Int} {nd : Nat → ND} {f : Nat → Int} : ∀ n l, l < 4096 → ∀ p, p ∈ (sch N nd f n l).1 → p < 12 ∧ l.testBit p = true := by
  intro n
  induction n with
  | zero => intro l _ p hp; cases hp
  | succ n ih =>
    intro l hl p hp
    by_cases c : free N nd f l = -1
    · rw [sch_n c] at hp; cases hp
    · rw [sch_s c] at hp
      obtain ⟨q, e, hq, tb, -⟩ := (free_cs N nd f l).resolve_left (fun y => c y.1)
      rw [e, Int.toNat_natCast] at hp
      rcases List.mem_cons.mp hp with y | y
      · rw [y]; exact ⟨hq, tb⟩
      · obtain ⟨a, b⟩ := ih _ (rmB_lt hl) p y
        rw [rmB_at, Bool.and_eq_true] at b
        exact ⟨a, b.1⟩
theorem cnt_pt {a b : Nat → Bool} {p : Nat} (ne : ∀ i, ¬ i = p → a i = b i) (bp : b p = false) : ∀ n, cntN n a = cntN n b + (if p < n ∧ a p = true then 1 else 0) := by
  intro n
  induction n with
  | zero => rw [if_neg (by omega)]; rfl
  | succ n ih =>
    unfold cntN
    rw [ih]
    by_cases e : n = p
    · subst e
      have e1 : (if n < n + 1 ∧ a n = true then 1 else 0) = (if a n = true then 1 else 0 : Nat) := by simp
      rw [bp, e1, if_neg (show ¬ (n < n ∧ a n = true) from fun z => Nat.lt_irrefl _ z.1), if_neg (show ¬ false = true by decide)]
    · have e1 : (if p < n + 1 ∧ a p = true then 1 else 0) = (if p < n ∧ a p = true then 1 else 0 : Nat) := by
        have : (p < n + 1) = (p < n) := propext ⟨fun _ => by omega, fun _ => by omega⟩
        simp only [this]
      rw [ne n e, e1]; omega
theorem cnt_rm {c : Nat → Bool} {l p : Nat} (tb : l.testBit p = true) (n : Nat) : cntN n (fun i => l.testBit i && c i) = cntN n (fun i => (rmB l p).testBit i && c i) + (if p < n ∧ c p = true then 1 else 0) := by
  have := cnt_pt (a := fun i => l.testBit i && c i) (b := fun i => (rmB l p).testBit i && c i) (p := p) (fun i hi => by
    rw [rmB_at, df (fun z => hi z.symm), Bool.not_false, Bool.and_true]) (by
    rw [rmB_at, tb, dt (show p = p from rfl)]; rfl) n
  rw [tb, Bool.true_and] at this
  exact this
theorem sch_cnt {N : Nat → Int} {nd : Nat → ND} {f : Nat → Int} {c : Nat → Bool} : ∀ n l, l < 4096 → (sch N nd f n l).2 = 0 → ((sch N nd f n l).1.filter c).length = cntN 12 (fun p => l.testBit p && c p) := by
  have z0 : cntN 12 (fun p => (0 : Nat).testBit p && c p) = 0 := by
    have : ∀ n, cntN n (fun p => (0 : Nat).testBit p && c p) = 0 := fun n => by
      induction n with
      | zero => rfl
      | succ n ih => unfold cntN; rw [ih]; simp
    exact this 12
  intro n
  induction n with
  | zero =>
    intro l hl e
    have : l = 0 := e
    rw [this, z0]; rfl
  | succ n ih =>
    intro l hl e
    by_cases d : free N nd f l = -1
    · rw [sch_n d] at e ⊢
      have : l = 0 := e
      rw [this, z0]; rfl
    · rw [sch_s d] at e ⊢
      obtain ⟨q, eq, hq, tb, -⟩ := (free_cs N nd f l).resolve_left (fun y => d y.1)
      rw [eq, Int.toNat_natCast] at e ⊢
      have i1 := ih _ (rmB_lt hl) e
      rw [cnt_rm tb 12]
      by_cases k : c q = true
      · rw [List.filter_cons_of_pos k, List.length_cons, i1, if_pos ⟨hq, k⟩]
      · rw [List.filter_cons_of_neg k, i1, if_neg (fun z => k z.2), Nat.add_zero]
theorem Arr_mem {N : Nat → Int} {nd : Nat → ND} {f : Nat → Int} {b : Bool} {L : List Nat} (A : Arr N nd f b L) (k : Nat) (hk : k < L.length) : L.getD k 0 < 12 ∧ (b = false → ¬ f (L.getD k 0) = -1) := by
  rcases A with ⟨-, eb, eL⟩ | ⟨-, eb, s, d, hs, -, -, r1, r2, r3⟩
  · have hm : L.getD k 0 ∈ (sch N nd f 12 (thM f)).1 := by
      rw [← eL, List.getD_eq_getElem?_getD, List.getElem?_eq_getElem hk]
      exact List.getElem_mem hk
    obtain ⟨a, c⟩ := sch_mem 12 _ (orM_lt _ 12) _ hm
    exact ⟨a, fun _ => (thM_at.mp c).2⟩
  · refine ⟨?_, fun y => by rw [eb] at y; cases y⟩
    cases k with
    | zero => rw [r2]; exact hs
    | succ k => exact (r3 k (by omega)).1
theorem Arr_cnt {N : Nat → Int} {nd : Nat → ND} {f g : Nat → Int} {L : List Nat} (A : Arr N nd f false L) : (comL f g L).length = cntN 12 (comC f g) := by
  rcases A with ⟨e0, -, eL⟩ | ⟨-, eb, -⟩
  · unfold comL
    rw [eL, sch_cnt 12 (thM f) (orM_lt _ 12) e0]
    refine cntN_cg 12 (fun i hi => ?_)
    cases c : comC f g i with
    | false => rw [Bool.and_false]
    | true =>
      rw [Bool.and_true]
      refine thM_at.mpr ⟨hi, fun y => ?_⟩
      unfold comC comF at c
      rw [if_pos (.inl y)] at c
      simp at c
  · cases eb
theorem fil_s (c : Nat → Bool) (L : List Nat) (k : Nat) (hk : k < L.length) : (L.take (k + 1)).filter c = (L.take k).filter c ++ (if c (L.getD k 0) = true then [L.getD k 0] else []) := by
  rw [List.take_succ_eq_append_getElem hk, List.filter_append, List.getD_eq_getElem?_getD, List.getElem?_eq_getElem hk]
  by_cases y : c L[k] = true
  · rw [List.filter_cons_of_pos y]; simp [y]
  · rw [List.filter_cons_of_neg y]; simp [y]
theorem fil_at (c : Nat → Bool) (L : List Nat) (k : Nat) (hk : k < L.length) (y : c (L.getD k 0) = true) : ((L.take k).filter c).length < (L.filter c).length ∧ (L.filter c).getD ((L.take k).filter c).length 0 = L.getD k 0 := by
  have e : L.filter c = (L.take k).filter c ++ (L.getD k 0 :: (L.drop (k + 1)).filter c) := by
    have l2 : L = L.take k ++ (L.getD k 0 :: L.drop (k + 1)) := by
      rw [List.getD_eq_getElem?_getD, List.getElem?_eq_getElem hk]
      show L = L.take k ++ (L[k] :: L.drop (k + 1))
      rw [← List.drop_eq_getElem_cons hk, List.take_append_drop]
    have := congrArg (List.filter c) l2
    rw [List.filter_append, List.filter_cons_of_pos y] at this
    exact this
  rw [e]
  refine ⟨by rw [List.length_append, List.length_cons]; omega, ?_⟩
  rw [List.getD_eq_getElem?_getD, List.getElem?_append_right (Nat.le_refl _), Nat.sub_self]; rfl
theorem fil_le (c : Nat → Bool) (L : List Nat) (k : Nat) : ((L.take k).filter c).length ≤ (L.filter c).length := by
  have : L.filter c = (L.take k).filter c ++ (L.drop k).filter c := by rw [← List.filter_append, List.take_append_drop]
  rw [this, List.length_append]; omega
/-- where a version's file is got -/
def okM (N : Nat → Int) (s m : Nat) : Bool := decide (N (1715 + 81 * m + 2 * s) = 1) && decide (N (1716 + 81 * m + 2 * s) = nV N s 4)
def mirK (N : Nat → Int) (t : Int) (s : Nat) : Int := fnd (N 3).toNat (fun k => okM N s ((t + (k : Int)) % N 3).toNat)
def mirN (N : Nat → Int) (t : Int) (s : Nat) : Int := if mirK N t s = -1 then -1 else (t + mirK N t s) % N 3
theorem mirN_is {N : Nat → Int} {t : Int} {s k : Nat} (h3 : (k : Int) < N 3) (o : okM N s ((t + (k : Int)) % N 3).toNat = true) (a : ∀ j : Nat, j < k → okM N s ((t + (j : Int)) % N 3).toNat = false) : mirN N t s = (t + k) % N 3 := by
  have : mirK N t s = k := fnd_is (by omega) o a
  unfold mirN
  rw [this, if_neg (by omega)]
theorem mirN_no {N : Nat → Int} {t : Int} {s : Nat} (a : ∀ j : Nat, (j : Int) < N 3 → okM N s ((t + (j : Int)) % N 3).toNat = false) : mirN N t s = -1 := by
  have : mirK N t s = -1 := fnd_no (fun j hj => a j (by omega))
  unfold mirN
  rw [this]; rfl
theorem mirN_r {N : Nat → Int} {t : Int} {s : Nat} (w : 0 ≤ N 3 ∧ N 3 ≤ 3) : -1 ≤ mirN N t s ∧ mirN N t s < 3 := by
  unfold mirN
  by_cases c : mirK N t s = -1
  · rw [if_pos c]; omega
  · rw [if_neg c]
    have : 0 < N 3 := by
      rcases fnd_cs (fun k => okM N s ((t + (k : Int)) % N 3).toNat) (N 3).toNat with ⟨e, -⟩ | ⟨i, e, hi, -⟩
      · exact absurd e c
      · omega
    have a1 := Int.emod_nonneg (t + mirK N t s) (show N 3 ≠ 0 by omega)
    have a2 := Int.emod_lt_of_pos (t + mirK N t s) this
    omega
/-- how many are fetched, before the place k -/
def ftN (N : Nat → Int) (f : Nat → Int) (M : List Nat) : Nat → Int
  | 0 => N 2
  | k + 1 => ftN N f M k + (if mirN N (ftN N f M k) (slF N f (M.getD k 0)).toNat = -1 then 0 else 1)
theorem ftN_b (N : Nat → Int) (f : Nat → Int) (M : List Nat) : ∀ k : Nat, N 2 ≤ ftN N f M k ∧ ftN N f M k ≤ N 2 + k := by
  intro k
  induction k with
  | zero => exact ⟨Int.le_refl _, by show N 2 ≤ _; omega⟩
  | succ k ih =>
    show N 2 ≤ ftN N f M k + _ ∧ ftN N f M k + _ ≤ _
    split <;> omega
theorem c_abs {p0 : Int} {K : Int → Prop} {h : XH} (r : rg p0) (n : -2147483648 < p0) (k : K (if 0 ≤ p0 then p0 else -p0)) : w_J9_abs_0f7a4 p0 K h := by
  unfold w_J9_abs_0f7a4
  refine ⟨fun y => y = if 0 ≤ p0 then p0 else -p0, fun x _ e => by rw [e]; exact k, fun c => (if_pos c).symm, fun c => ?_⟩
  unfold rg at r
  rw [wr_of (by omega) (by omega), if_neg c]
def LsR (h : XH) (a : Nat) (M : List Nat) : Prop := hk h a = 100 ∧ hn h a = M.length ∧ ∀ i, i < M.length → hI h a i = (M.getD i 0 : Nat)
set_option maxHeartbeats 1000000 in
theorem c_X12_scripts {h : XH} {N : Nat → Int} {nd : Nat → ND} {m : Nat} (T : HT h) (C : CS h 8 N nd) (W : WF N m) (dk : DK nd m) (CC : CaC h N nd) {K : Int → XH → Prop} (k : ∀ g, HT g → CSt h g N nd → K (scrX (arrO N nd (goal N (rh N)))) g) : w_X12_scripts K h := by
  unfold w_X12_scripts
  have hr := rh_lt W
  refine c_X12_knowMet T C W dk CC ?_
  intro h1 s1 cc1 k1 m1
  intro t1 u1
  have C1 := CSt_CS T C W s1
  refine c_atH C1 W ?_
  refine ⟨(rc_k t1 hr), ?_⟩
  refine c_X2_arrange t1 C1 W dk m1 (CS_g C1 hr) ?_
  intro h4 b L A4 l12 f4 _ e7 e6 e82
  have ao := arr_is A4
  intro t4 u4
  have s4 := CSt_tr s1 (CSt_s (nd := nd) (N := N) t1 (Fr_mono f4.1 (fun b y => by omega)) f4.2.1 f4.2.2)
  have C4 := CSt_CS T C W s4
  refine ⟨fun y => y = scrX (arrO N nd (goal N (rh N))), ?_, ?_⟩
  · intro x5 rx5 z6
    rw [z6]
    exact k _ t4 s4
  · refine ⟨fun c7 => ?_, fun c7 => ?_⟩
    · rw [ao, e6]
      unfold scrX
      cases b with
      | false => rfl
      | true => rw [e7] at c7; cases c7
    · rw [ao, e6, wr_of (by omega) (by omega)]
      unfold scrX
      cases b with
      | false => exact absurd e7 c7
      | true => rfl
set_option maxHeartbeats 1000000 in
theorem c_X14_scripts {nd : Nat → ND} {h : XH} {N : Nat → Int} {m : Nat} (T : HT h) (eN : N = nw h) (W : WF N m) (Z : NTm h nd m) (fg : fOK N (goal N (rh N))) (fi : fOK N (inst N (rh N))) {K : Int → XH → Prop} (k : ∀ h1 h2, HT h1 → h1 = sI h 437 5 0 → RSt h1 h2 nd 2 (2 * n12) → K (scrX (arrO N nd (goal N (rh N)))) h2) : w_X14_scripts K h := by
  unfold w_X14_scripts
  intro h1 eh1 t1 u1
  have eN1 : N = nw h1 := eN.trans (nw_fr (by rw [eh1]; exact sameC_sV (by decide))).symm
  have Z1 := NTm_5 T eh1 Z
  have L1 := HT_len t1
  refine c_gS t1 eN1 W ?_
  intro a2 h3 f3 g3 l3 A3
  intro t3 u3
  have eN3 : N = nw h3 := eN1.trans (nw_F t1 f3).symm
  have Z3 : NTm h3 nd m := NTm_fr t1 (fun b x _ => f3 b x id) (fun j _ => sameC_el (f3 437 (by omega) id) j) Z1
  have L3 := HT_len t3
  refine c_X14_findScripts t3 eN3 W Z3 A3 fg (by omega) ?_
  intro h4 b L A4 l12 f4 l4 g4 e4 e61 e465
  have ao := arr_is A4
  intro t4 u4
  have eN4 : N = nw h4 := eN3.trans (nw_fr (f4 438 (by omega) (by decide))).symm
  have r4 : RSt h1 h4 nd 2 (2 * n12) := RSt_mono (RSt_tr t1 u3.1 (RSt_a t1 f3 g3 u3.1) (RSt_n t3 (Fr_mono f4 (fun b y => by omega)) (fun j hj => e4 j (by omega)) g4 l4)) (by omega) (by omega)
  have L4 := HT_len t4
  rw [show hI h4 437 61 = scrX (arrO N nd (goal N (rh N))) by rw [ao]; exact e61]
  exact k _ _ t1 eh1 r4
theorem d_scripts {h : XH} {nd : Nat → ND} {o u : Int} {c : Nat} (T : HT h) (R : Inv h nd o u c) {K : Int → XH → Prop} {J : XH → Prop} (k : ∀ h' o' u', HT h' → Inv h' nd o' u' (c + 1) → Gr (0 + 2) (0 + (2 * n12)) h h' → J h') : w_X12_scripts  (LDq h (fun g Q => w_X14_scripts  Q g) K J) h := by
  have W := R.1.2.1
  have C := R.1.1
  have hr := rh_lt W
  refine dasq (x := scrX (arrO (nw h) nd (goal (nw h) (rh (nw h))))) (wL := fun Q => w_X12_scripts  Q h) (wR := fun g Q => w_X14_scripts  Q g) (mkAq T R (fun Q q => ?_)) (fun g Tg Rg eg => mkBq Tg Rg (fun Q q => ?_)) k
  · exact c_X12_scripts T C W (DK_of (NTm_of R.1)) R.2.2.1  q
  · exact c_X14_scripts (m := (hI g 437 7).toNat) (nd := nd) Tg eg.symm (by rw [← eg]; exact Rg.1.2.1) (NTm_of Rg.1) (CS_g C hr).2.2.2 (CS_i C hr).2.2.2 q
set_option maxHeartbeats 1000000 in
theorem c_X12_scriptAt {p0 : Int} {h : XH} {N : Nat → Int} {nd : Nat → ND} {m : Nat} (T : HT h) (C : CS h 8 N nd) (W : WF N m) (dk : DK nd m) (CC : CaC h N nd) {K : Int → XH → Prop} {E : Nat → XH → Prop} (k0 : ¬ (0 ≤ p0 ∧ p0 < (((arrO N nd (goal N (rh N))).2.length : Nat) : Int)) → ∀ g, HT g → CSt h g N nd → E 2 (nT g)) (k : (0 ≤ p0 ∧ p0 < (((arrO N nd (goal N (rh N))).2.length : Nat) : Int)) → ∀ g, HT g → CSt h g N nd → K (((((arrO N nd (goal N (rh N))).2.getD p0.toNat 0 : Nat) : Int))) g) : w_X12_scriptAt p0 K E h := by
  unfold w_X12_scriptAt
  have hr := rh_lt W
  refine c_X12_knowMet T C W dk CC ?_
  intro h1 s1 cc1 k1 m1
  intro t1 u1
  have C1 := CSt_CS T C W s1
  refine c_atH C1 W ?_
  refine ⟨(rc_k t1 hr), ?_⟩
  refine c_X2_arrange t1 C1 W dk m1 (CS_g C1 hr) ?_
  intro h4 b L A4 l12 f4 _ e7 e6 e82
  have ao := arr_is A4
  have o2 : (arrO N nd (goal N (rh N))).2 = L := by rw [ao]
  rw [o2] at k k0
  intro t4 u4
  have s4 := CSt_tr s1 (CSt_s (nd := nd) (N := N) t1 (Fr_mono f4.1 (fun b y => by omega)) f4.2.1 f4.2.2)
  have C4 := CSt_CS T C W s4
  refine ⟨¬ (0 ≤ p0 ∧ p0 < ((L.length : Nat) : Int)), ?_, ?_⟩
  · intro z5
    exact k0 z5 _ t4 s4
  · refine ⟨fun c8 => ?_, fun c8 => ?_⟩
    · omega
    · refine ⟨fun c7 => ?_, fun c7 => ?_⟩
      · refine ⟨(by omega), ?_⟩
        rw [e82 p0.toNat (by omega)]
        exact k ⟨by omega, by omega⟩ _ t4 s4
      · omega
set_option maxHeartbeats 1000000 in
theorem c_L_scriptAt {p1 : Int} {h : XH} {N : Nat → Int} {nd : Nat → ND} {m : Nat} (T : HT h) (C : CS h 8 N nd) (W : WF N m) (dk : DK nd m) (CC : CaC h N nd) {K : Int → XH → Prop} (k0 : ¬ (0 ≤ p1 ∧ p1 < (((arrO N nd (goal N (rh N))).2.length : Nat) : Int)) → ∀ g, HT g → CSt h g N nd → K 1 (nT g)) (k : (0 ≤ p1 ∧ p1 < (((arrO N nd (goal N (rh N))).2.length : Nat) : Int)) → ∀ g g6, HT g → CSt h g N nd → g6 = sL g 467 0 (i2l (((((arrO N nd (goal N (rh N))).2.getD p1.toNat 0 : Nat) : Int)))) → K 0 g6) : w_L_scriptAt p1 K h := by
  unfold w_L_scriptAt
  refine c_X12_scriptAt T C W dk CC (fun q g t s => ⟨rfl, k0 q g t s⟩) (fun q g t s => ?_)
  intro tx ux _
  intro h5 eh5 t5 u5
  exact k q _ _ t s eh5
set_option maxHeartbeats 1000000 in
theorem c_X14_scriptAt {p0 : Int} {nd : Nat → ND} {h : XH} {N : Nat → Int} {m : Nat} (T : HT h) (eN : N = nw h) (W : WF N m) (Z : NTm h nd m) (fg : fOK N (goal N (rh N))) (fi : fOK N (inst N (rh N))) {K : Int → XH → Prop} (k0 : ¬ (0 ≤ p0 ∧ p0 < (((arrO N nd (goal N (rh N))).2.length : Nat) : Int)) → ∀ h1 h2 h3, HT h1 → h1 = sI h 437 5 0 → RSt h1 h2 nd 2 (2 * n12) → HT h2 → h3 = sI h2 437 5 1 → K 0 h3) (k : (0 ≤ p0 ∧ p0 < (((arrO N nd (goal N (rh N))).2.length : Nat) : Int)) → ∀ h1 h2, HT h1 → h1 = sI h 437 5 0 → RSt h1 h2 nd 2 (2 * n12) → K (((((arrO N nd (goal N (rh N))).2.getD p0.toNat 0 : Nat) : Int))) h2) : w_X14_scriptAt p0 K h := by
  unfold w_X14_scriptAt
  intro h1 eh1 t1 u1
  have eN1 : N = nw h1 := eN.trans (nw_fr (by rw [eh1]; exact sameC_sV (by decide))).symm
  have Z1 := NTm_5 T eh1 Z
  have L1 := HT_len t1
  refine c_gS t1 eN1 W ?_
  intro a2 h3 f3 g3 l3 A3
  intro t3 u3
  have eN3 : N = nw h3 := eN1.trans (nw_F t1 f3).symm
  have Z3 : NTm h3 nd m := NTm_fr t1 (fun b x _ => f3 b x id) (fun j _ => sameC_el (f3 437 (by omega) id) j) Z1
  have L3 := HT_len t3
  refine c_X14_findScripts t3 eN3 W Z3 A3 fg (by omega) ?_
  intro h4 b L A4 l12 f4 l4 g4 e4 e61 e465
  have ao := arr_is A4
  have o2 : (arrO N nd (goal N (rh N))).2 = L := by rw [ao]
  rw [o2] at k k0
  have rg61 : -12 ≤ hI h4 437 61 ∧ hI h4 437 61 ≤ 12 := by rw [e61]; split <;> omega
  have ab61 : (if 0 ≤ hI h4 437 61 then hI h4 437 61 else -(hI h4 437 61)) = ((L.length : Nat) : Int) := by
    rw [e61]
    by_cases c : b = true
    · rw [if_pos c]; split <;> omega
    · rw [if_neg c]; split <;> omega
  intro t4 u4
  have eN4 : N = nw h4 := eN3.trans (nw_fr (f4 438 (by omega) (by decide))).symm
  have r4 : RSt h1 h4 nd 2 (2 * n12) := RSt_mono (RSt_tr t1 u3.1 (RSt_a t1 f3 g3 u3.1) (RSt_n t3 (Fr_mono f4 (fun b y => by omega)) (fun j hj => e4 j (by omega)) g4 l4)) (by omega) (by omega)
  have L4 := HT_len t4
  refine c_abs (by unfold rg; omega) (by omega) ?_
  rw [ab61]
  intro _
  rw [wr_of (by omega) (by omega)]
  refine c_X14_within ?_
  intro x6 qx6
  replace qx6 := bq_iff qx6 (show _ ↔ (0 ≤ p0 ∧ p0 < ((L.length : Nat) : Int)) by omega)
  intro rx6 vx6
  refine c_X14_refused qx6 ?_
  intro x7 h8 qx7
  intro t8 u8
  intro rx7 vx7
  refine ⟨fun x => (0 ≤ p0 ∧ p0 < ((L.length : Nat) : Int)) ∧ h8 = h4 ∧ x = ((L.getD p0.toNat 0 : Nat) : Int) ∨ ¬ (0 ≤ p0 ∧ p0 < ((L.length : Nat) : Int)) ∧ h8 = sI h4 437 5 1 ∧ x = 0, ?_, ?_⟩
  · intro x9 rx9 z10
    rcases z10 with ⟨y1, y2, y3⟩ | ⟨y1, y2, y3⟩
    · rw [y2, y3]; exact k y1 _ _ t1 eh1 r4
    · rw [y3]; exact k0 y1 _ _ _ t1 eh1 r4 t4 y2
  · refine ⟨fun c12 => ?_, fun c12 => ?_⟩
    · obtain ⟨b_2, e_2⟩ : (0 ≤ p0 ∧ p0 < ((L.length : Nat) : Int)) ∧ h8 = h4 := by
        rcases qx7 with ⟨_, y, z⟩ | ⟨y, _⟩
        · exact ⟨y, z⟩
        · omega
      subst e_2
      refine ⟨(by omega), ?_⟩
      exact .inl ⟨b_2, rfl, e465 p0.toNat (by omega)⟩
    · have q_2 : ¬ (0 ≤ p0 ∧ p0 < ((L.length : Nat) : Int)) ∧ h8 = sI h4 437 5 1 := by
        rcases qx7 with ⟨y, _⟩ | ⟨_, y, z⟩
        · omega
        · exact ⟨y, z⟩
      exact .inr ⟨q_2.1, q_2.2, rfl⟩
theorem d_scriptAt {h : XH} {nd : Nat → ND} {o u p : Int} {c : Nat} (T : HT h) (R : Inv h nd o u c) {K : Int → XH → Prop} {J : XH → Prop} (k : ∀ h' o' u', HT h' → Inv h' nd o' u' (c + 1) → Gr (1 + 2) (xcs none + 2 * n12) h h' → J h') : w_L_scriptAt p (LDw h (fun g Q => w_X14_scriptAt p Q g) K J) h := by
  classical
  have W := R.1.2.1
  have C := R.1.1
  have hr := rh_lt W
  refine dask (e := if 0 ≤ p ∧ p < (((arrO (nw h) nd (goal (nw h) (rh (nw h)))).2.length : Nat) : Int) then 0 else 1) (x := ((((arrO (nw h) nd (goal (nw h) (rh (nw h)))).2.getD p.toNat 0 : Nat) : Int))) (wL := fun Q => w_L_scriptAt p Q h) (wR := fun g Q => w_X14_scriptAt p Q g) (mkAe T R (fun Q q0 q1 => ?_)) (fun g Tg Rg eg => mkBe Tg Rg (by split <;> exact rgk rfl) (fun Q q0 q1 => ?_)) k
  · refine c_L_scriptAt T C W (DK_of (NTm_of R.1)) R.2.2.1  (fun y g t s => ?_) (fun y => q1 (if_pos y))
    have := q0 (by rw [if_neg y]; decide) g t s
    rw [if_neg y] at this
    exact this
  · refine c_X14_scriptAt (m := (hI g 437 7).toNat) Tg eg.symm (by rw [← eg]; exact Rg.1.2.1) (NTm_of Rg.1) (CS_g C hr).2.2.2 (CS_i C hr).2.2.2 (fun y h1 h2 h3 t1 e1 r t2 e3 => ?_) (fun y => q1 (if_pos y))
    refine q0 (by rw [if_neg y]; decide) h1 h2 h3 t1 e1 r t2 ?_
    rw [if_neg y]
    exact e3
