/-! ROWS THAT DIFFER IN WHAT IS NOT LOOKED AT -/
def E8 (N M : Nat → Int) : Prop := ∀ i, i < 805 → ¬ i = 2 → M i = N i
section E8s
variable {N M : Nat → Int} {nd : Nat → ND} {m : Nat}
theorem E8_rf (N : Nat → Int) : E8 N N := fun _ _ _ => rfl
theorem E8_tr {P : Nat → Int} (a : E8 N M) (b : E8 M P) : E8 N P := fun i x y => (b i x y).trans (a i x y)
theorem E8_v (E : E8 N M) {v k : Nat} (hv : v < 40) (hk : k < 20) : nV M v k = nV N v k := E _ (by omega) (by omega)
theorem E8_c (E : E8 N M) : vc M = vc N := by unfold vc; rw [E 4 (by decide) (by decide)]
theorem E8_p (E : E8 N M) : pc M = pc N := by unfold pc; rw [E 0 (by decide) (by decide)]
theorem E8_r (E : E8 N M) : rh M = rh N := by unfold rh; rw [E 1 (by decide) (by decide)]
theorem E8_sl (E : E8 N M) (W : WF N m) (f : Nat → Int) (p : Nat) : slF M f p = slF N f p := by
  unfold slF
  rw [slotF_cg (fun i x y => E i y (by omega)) W.1.2.2.2.1]
theorem slF_40 (W : WF N m) (f : Nat → Int) (p : Nat) : (slF N f p).toNat < 40 := by
  have w3 := W.1.2.2.1
  have w4 := W.1.2.2.2.1
  unfold slF
  by_cases c : f p = -1
  · rw [if_pos c]; decide
  · rw [if_neg c]
    have := (slotF_r (N := N) (p := p) (c := f p % 1000000) w3)
    omega
theorem n7_3 (W : WF N m) {v : Nat} (hv : v < 40) : nV N v 7 ≤ 3 ∧ nV N v 12 ≤ 2 := by
  by_cases c : v < vc N
  · have w := W.1.2.2.2.2.1 v c
    exact ⟨w.2.2.2.2.2.2.2.2.2.2.2.2.1, w.2.2.2.2.2.2.2.2.2.2.2.2.2.2.2.2.2.1⟩
  · have z := W.1.2.2.2.2.2.1 v (by omega) hv
    rw [z 7 (by decide), z 12 (by decide)]; omega
theorem n15_2 (W : WF N m) {v : Nat} (hv : v < 40) : nV N v 15 ≤ 2 := by
  by_cases c : v < vc N
  · have w := W.1.2.2.2.2.1 v c
    exact w.2.2.2.2.2.2.2.2.2.2.2.2.2.2.2.2.2.2.2.2.1
  · have z := W.1.2.2.2.2.2.1 v (by omega) hv
    rw [z 15 (by decide)]; omega
theorem anyB_cg {l : List Nat} {f g : Nat → Bool} (h : ∀ x ∈ l, f x = g x) : l.any f = l.any g := by
  induction l with
  | nil => rfl
  | cons a l ih => rw [List.any_cons, List.any_cons, h a (by simp), ih (fun x hx => h x (by simp [hx]))]
theorem E8_nm (E : E8 N M) (W : WF N m) (d : ND) {v : Nat} (hv : v < 40) : nmet M d v = nmet N d v := by
  unfold nmet
  congr 1
  funext a
  unfold am
  rw [E8_v E hv (by decide), E8_v E hv (by decide), E8_v E hv (by decide)]
  congr 2
  have n15 := n15_2 W hv
  refine anyB_cg (fun g hg => ?_)
  have := List.mem_range.mp hg
  rw [E8_v E hv (by omega), E8_v E hv (by omega)]
theorem E8_mask (E : E8 N M) (W : WF N m) (d : ND) : nMask M d = nMask N d := by
  have w4 := W.1.2.2.2.1
  unfold nMask
  rw [E8_c E]
  exact orN_cg _ (fun v hv => E8_nm E W d (by unfold vc at hv; omega))
theorem E8_om (E : E8 N M) (W : WF N m) (p : Nat) : oMask M p = oMask N p := by
  have w4 := W.1.2.2.2.1
  unfold oMask
  rw [E8_c E]
  exact orN_cg _ (fun v hv => by rw [E8_v E (by unfold vc at hv; omega) (by decide), E8_v E (by unfold vc at hv; omega) (by decide)])
theorem E8_pm (E : E8 N M) (W : WF N m) (d : ND) (p : Nat) : pMask M d p = pMask N d p := by
  have w4 := W.1.2.2.2.1
  unfold pMask
  rw [E8_c E]
  exact orN_cg _ (fun v hv => by rw [E8_v E (by unfold vc at hv; omega) (by decide), E8_v E (by unfold vc at hv; omega) (by decide)])
theorem E8_Met {h : XH} (E : E8 N M) (W : WF N m) (er : ∀ k, k < 23 → nR M (rh N) k = nR N (rh N) k) (z : MetOK h N nd) : MetOK h M nd := by
  have w4 := W.1.2.2.2.1
  have w1 := W.1.2.1
  have r1 : (M 1).toNat = rh N := E8_r E
  have n1 : (N 1).toNat = rh N := rfl
  have mn : ∀ x, mNeed M nd x = mNeed N nd x := fun x => by unfold mNeed; rw [E8_mask E W]
  obtain ⟨z1, z2, z3⟩ := z
  unfold MetOK
  rw [E8_c E, E8_p E, r1]
  rw [n1] at z2 z3
  refine ⟨fun v hv => ?_, fun w hw hk => ?_, fun p hp => ?_⟩
  · have v40 : v < 40 := by unfold vc at hv; omega
    obtain ⟨y1, y2, y3⟩ := z1 v hv
    rw [E8_v E v40 (by decide), E8_v E v40 (by decide), E8_v E v40 (by decide)]
    exact ⟨fun k h3 hk => by rw [mn, E8_v E v40 (by omega)]; exact y1 k h3 hk, fun k h2 hk => by rw [mn, E8_v E v40 (by omega)]; exact y2 k h2 hk, by rw [mn]; exact y3⟩
  · rw [er 0 (by decide)] at hk
    rw [mn, er (1 + w) (by omega)]
    exact z2 w hw hk
  · have p12 : p < 12 := by unfold pc at hp; omega
    rw [E8_om E W, E8_pm E W, er (10 + p) (by omega)]
    exact z3 p hp
theorem E8_ah (E : E8 N M) (W : WF N m) (f : Nat → Int) : ahB M nd f = ahB N nd f := by
  funext p q
  unfold ahB
  have q40 := slF_40 W f q
  have p40 := slF_40 W f p
  have n7 := (n7_3 W q40).1
  rw [E8_sl E W, E8_sl E W, E8_v E q40 (by decide), E8_v E q40 (by decide)]
  congr 1
  refine anyB_cg (fun n hn => ?_)
  have := List.mem_range.mp hn
  rw [E8_v E q40 (by omega), E8_nm E W _ p40]
theorem Arr_cg {f : Nat → Int} (e : ahB M nd f = ahB N nd f) (b : Bool) (L : List Nat) : Arr M nd f b L ↔ Arr N nd f b L := by
  have e1 : ahM M nd f = ahM N nd f := funext fun q => by unfold ahM; rw [e]
  have e2 : free M nd f = free N nd f := funext fun l => by unfold free; rw [e1]
  have e3 : ∀ n l, sch M nd f n l = sch N nd f n l := by
    intro n
    induction n with
    | zero => intro l; rfl
    | succ n ih => intro l; unfold sch; rw [e2, ih]
  have e4 : restN M nd f = restN N nd f := by unfold restN; rw [e3]
  have e5 : ∀ s d p, U M nd f s d p ↔ U N nd f s d p := by
    intro s d
    induction d with
    | zero => intro p; exact Iff.rfl
    | succ d ih =>
      intro p
      show (s < p ∧ ∃ q, q < 12 ∧ U M nd f s d q ∧ ahB M nd f p q = true) ↔ (s < p ∧ ∃ q, q < 12 ∧ U N nd f s d q ∧ ahB N nd f p q = true)
      rw [e]
      simp only [ih]
  have e6 : U M nd f = U N nd f := funext fun s => funext fun d => funext fun p => propext (e5 s d p)
  have e7 : rgU M nd f = rgU N nd f := funext fun s => funext fun d => by unfold rgU; rw [e6, e]
  have e8 : md M nd f = md N nd f := funext fun s => funext fun d => funext fun p => by unfold md; rw [e6]
  unfold Arr Ring RowOK
  rw [e3, e4, e7, e8, e]
theorem E8_mP (E : E8 N M) (W : WF N m) (d : ND) (f : Nat → Int) : mP M d f ↔ mP N d f := by
  unfold mP
  constructor
  · rintro ⟨p, h1, h2, h3, h4⟩
    rw [E8_sl E W, E8_nm E W _ (slF_40 W f p)] at h4
    exact ⟨p, h1, h2, h3, h4⟩
  · rintro ⟨p, h1, h2, h3, h4⟩
    exact ⟨p, h1, h2, h3, by rw [E8_sl E W, E8_nm E W _ (slF_40 W f p)]; exact h4⟩
theorem E8_snd (E : E8 N M) (W : WF N m) : sndP M nd = sndP N nd := by
  funext f
  refine propext ?_
  have one : ∀ {A B : Nat → Int}, WF A m → E8 A B → sndP A nd f → sndP B nd f := fun {A B} W E z p hp n => by
    obtain ⟨z1, z2, z3⟩ := z p hp n
    have s40 := slF_40 W f p
    have n7 := n7_3 W s40
    unfold needsP at z1 ⊢
    rw [E8_sl E W, E8_v E s40 (by decide), E8_v E s40 (by decide), E8_v E s40 (by decide)]
    refine ⟨⟨fun k hk => ?_, fun h6 n6 => ?_⟩, z2, fun b hb q hq nq fq => ?_⟩
    · rw [E8_v E s40 (by omega), E8_mP E W]; exact z1.1 k hk
    · rw [E8_mP E W]; exact z1.2 h6 n6
    · rw [E8_v E s40 (by omega), E8_sl E W, E8_nm E W _ (slF_40 W f q)]; exact z3 b hb q hq nq fq
  exact ⟨fun z p hp n => by
    obtain ⟨z1, z2, z3⟩ := z p hp n
    have s40 := slF_40 W f p
    have n7 := n7_3 W s40
    unfold needsP at z1 ⊢
    rw [E8_sl E W, E8_v E s40 (by decide), E8_v E s40 (by decide)] at z1
    rw [E8_sl E W, E8_v E s40 (by decide)] at z2
    rw [E8_sl E W, E8_v E s40 (by decide)] at z3
    refine ⟨⟨fun k hk => ?_, fun h6 n6 => ?_⟩, z2, fun b hb q hq nq fq => ?_⟩
    · have := z1.1 k hk
      rw [E8_v E s40 (by omega), E8_mP E W] at this; exact this
    · have := z1.2 h6 n6
      rw [E8_mP E W] at this; exact this
    · have := z3 b hb q hq nq fq
      rw [E8_v E s40 (by omega), E8_sl E W, E8_nm E W _ (slF_40 W f q)] at this; exact this, fun z => one W E z⟩
theorem E8_st (E : E8 N M) (W : WF N m) (f g : Nat → Int) : stepsOf M nd f g = stepsOf N nd f g := by
  have e := E8_snd (nd := nd) E W
  have en : nextS M nd = nextS N nd := by
    funext f g l
    unfold nextS
    rw [e]
  have el : ∀ n f l, stepsL M nd g n f l = stepsL N nd g n f l := by
    intro n
    induction n with
    | zero => intro f l; rfl
    | succ n ih => intro f l; unfold stepsL; rw [en, ih]
  exact el _ _ _
theorem E8_fO (E : E8 N M) (W : WF N m) {f : Nat → Int} (z : fOK N f) : fOK M f := fun p hp => by
  have w4 := W.1.2.2.2.1
  refine (z p hp).imp id ?_
  rintro ⟨v, hv, e1, e2⟩
  have v40 : v < 40 := by unfold vc at hv; omega
  exact ⟨v, by rw [E8_c E]; exact hv, by rw [E8_v E v40 (by decide)]; exact e1, by rw [E8_v E v40 (by decide)]; exact e2⟩
theorem E8_S {s : BitVec 64} {f : Nat → Int} (E : E8 N M) (W : WF N m) (z : SetR N s f) : SetR M s f := by
  have w4 := W.1.2.2.2.1
  obtain ⟨z1, z2, z3, z4⟩ := z
  refine ⟨fun v hv => ?_, z2, z3, E8_fO E W z4⟩
  rw [z1 v hv, E8_c E, E8_v E hv (by decide), E8_v E hv (by decide)]
end E8s
