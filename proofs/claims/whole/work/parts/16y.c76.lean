/-! FETCHING -/
theorem mP_cgf {N : Nat → Int} {d : ND} {f f' : Nat → Int} (e : ∀ p, p < 12 → f' p = f p) (z : mP N d f) : mP N d f' := by
  obtain ⟨p, h1, h2, h3, h4⟩ := z
  exact ⟨p, h1, by rw [e p h1]; exact h2, by rw [e p h1]; exact h3, by rw [slF_cgp (e p h1)]; exact h4⟩
theorem snd_cgf {N : Nat → Int} {nd : Nat → ND} {f f' : Nat → Int} (e : ∀ p, p < 12 → f' p = f p) (z : sndP N nd f) : sndP N nd f' := fun p hp n => by
  rw [e p hp] at n
  obtain ⟨z1, z2, z3⟩ := z p hp n
  unfold needsP at z1 ⊢
  rw [slF_cgp (e p hp), e p hp]
  exact ⟨⟨fun k hk => mP_cgf e (z1.1 k hk), fun h6 n6 => mP_cgf e (z1.2 h6 n6)⟩, z2, fun b hb q hq nq fq => by rw [e q hq] at fq; rw [slF_cgp (e q hq)]; exact z3 b hb q hq nq fq⟩
theorem snd_iff {N : Nat → Int} {nd : Nat → ND} {f f' : Nat → Int} (e : ∀ p, p < 12 → f' p = f p) : sndP N nd f' ↔ sndP N nd f := ⟨snd_cgf (fun p hp => (e p hp).symm), snd_cgf e⟩
theorem mv_cg {a : Nat} {f f' g g' : Nat → Int} (e : ∀ p, p < 12 → f' p = f p) (e2 : ∀ p, p < 12 → g' p = g p) : ∀ p, p < 12 → mvF a f' g' p = mvF a f g p := fun p hp => by unfold mvF; rw [e p hp, e2 p hp]
theorem next_cgf {N : Nat → Int} {nd : Nat → ND} {f f' g g' : Nat → Int} (e : ∀ p, p < 12 → f' p = f p) (e2 : ∀ p, p < 12 → g' p = g p) (l : Nat) : nextS N nd f' g' l = nextS N nd f g l := by
  unfold nextS
  have : (fun p => l.testBit p && @decide (sndP N nd (mvF (2 ^ p) f' g')) (Classical.propDecidable _)) = (fun p => l.testBit p && @decide (sndP N nd (mvF (2 ^ p) f g)) (Classical.propDecidable _)) := by
    funext p
    congr 1
    have y := snd_iff (N := N) (nd := nd) (mv_cg (a := 2 ^ p) e e2)
    rw [propext y]
  rw [this]
theorem steps_cgf {N : Nat → Int} {nd : Nat → ND} {f f' g g' : Nat → Int} (e : ∀ p, p < 12 → f' p = f p) (e2 : ∀ p, p < 12 → g' p = g p) : stepsOf N nd f' g' = stepsOf N nd f g := by
  have el : ∀ n (f f' : Nat → Int) l, (∀ p, p < 12 → f' p = f p) → stepsL N nd g' n f' l = stepsL N nd g n f l := by
    intro n
    induction n with
    | zero => intro f f' l _; rfl
    | succ n ih =>
      intro f f' l h
      unfold stepsL
      rw [next_cgf h e2, ih _ _ _ (mv_cg h e2)]
  unfold stepsOf
  rw [orM_cg 12 (fun p hp => by rw [e p hp, e2 p hp])]
  exact el _ _ _ _ e
theorem comF_cg {f f' g g' : Nat → Int} {p : Nat} (e : f' p = f p) (e2 : g' p = g p) : comF f' g' p = comF f g p := by unfold comF cIn; rw [e, e2]
/-- what is fetched: the row then, and the package that is not got; -1 -/
def fet (g : Nat → Int) : (Nat → Int) → List Nat → (Nat → Int) × Int
  | N, [] => (N, -1)
  | N, p :: l => if mirN N (N 2) (slF N g p).toNat = -1 then (mfN N (N 2) (slF N g p).toNat, (p : Int)) else fet g (feN (mfN N (N 2) (slF N g p).toNat)) l
def fetA (g : Nat → Int) (N : Nat → Int) (M : List Nat) : (Nat → Int) × Int := if N 3 ≤ 0 then (N, -1) else fet g N M
theorem fet_s {g N : Nat → Int} {p : Nat} {l : List Nat} : fet g N (p :: l) = if mirN N (N 2) (slF N g p).toNat = -1 then (mfN N (N 2) (slF N g p).toNat, (p : Int)) else fet g (feN (mfN N (N 2) (slF N g p).toNat)) l := rfl
/-- a row on the way: k files have come -/
def FW (N P : Nat → Int) (k : Nat) : Prop := (∀ i, ¬ i = 2 → (∀ j, j < 3 → ¬ i = 1714 + 81 * j) → P i = N i) ∧ P 2 = N 2 + k ∧ ∀ j, j < 3 → N (1714 + 81 * j) ≤ P (1714 + 81 * j) ∧ P (1714 + 81 * j) ≤ N (1714 + 81 * j) + 3 * k
theorem FW_0 (N : Nat → Int) : FW N N 0 := ⟨fun _ _ _ => rfl, by omega, fun j _ => ⟨Int.le_refl _, by omega⟩⟩
theorem FW_E {N P : Nat → Int} {k : Nat} (z : FW N P k) : E8 N P := fun i h n => z.1 i n (fun j hj => by omega)
theorem FW_mf {N P : Nat → Int} {k s : Nat} {t : Int} (z : FW N P k) (h3 : 0 < N 3 ∧ N 3 ≤ 3) : FW N (feN (mfN P t s)) (k + 1) ∧ (∀ i, ¬ i = 2 → (∀ j, j < 3 → ¬ i = 1714 + 81 * j) → mfN P t s i = N i) ∧ mfN P t s 2 = N 2 + k ∧ (∀ j, j < 3 → N (1714 + 81 * j) ≤ mfN P t s (1714 + 81 * j) ∧ mfN P t s (1714 + 81 * j) ≤ N (1714 + 81 * j) + 3 * (k + 1)) := by
  have p3 : P 3 = N 3 := z.1 3 (by decide) (fun j hj => by omega)
  have h3' : 0 < P 3 ∧ P 3 ≤ 3 := by omega
  have n3 : (if mirK P t s = -1 then (P 3).toNat else (mirK P t s).toNat) ≤ 3 := by
    split
    · omega
    · rcases fnd_cs (fun k => okM P s ((t + (k : Int)) % P 3).toNat) (P 3).toNat with ⟨e, -⟩ | ⟨i, e, hi, -⟩
      · have : mirK P t s = -1 := e
        omega
      · have : mirK P t s = i := e
        omega
  have a1 : ∀ i, ¬ i = 2 → (∀ j, j < 3 → ¬ i = 1714 + 81 * j) → mfN P t s i = N i := fun i n2 n => (mb_at h3' i n _).trans (z.1 i n2 n)
  have a2 : mfN P t s 2 = N 2 + k := (mb_at h3' 2 (fun j hj => by omega) _).trans z.2.1
  have a3 : ∀ j, j < 3 → N (1714 + 81 * j) ≤ mfN P t s (1714 + 81 * j) ∧ mfN P t s (1714 + 81 * j) ≤ N (1714 + 81 * j) + 3 * (k + 1) := fun j hj => by
    have b := mb_b (N := P) (t := t) (s := s) h3' j (if mirK P t s = -1 then (P 3).toNat else (mirK P t s).toNat)
    have c := z.2.2 j hj
    have : mfN P t s (1714 + 81 * j) = mbN P t s (if mirK P t s = -1 then (P 3).toNat else (mirK P t s).toNat) (1714 + 81 * j) := rfl
    omega
  refine ⟨⟨fun i n2 n => by rw [fe_at i n2]; exact a1 i n2 n, by rw [fe_2, a2]; omega, fun j hj => by rw [fe_at _ (by omega)]; have := a3 j hj; omega⟩, a1, a2, a3⟩
theorem WF_mf {N : Nat → Int} {m s : Nat} {t : Int} (W : WF N m) (h3 : 0 < N 3 ∧ N 3 ≤ 3) (lk : ∀ k : Nat, k < 3 → N (1714 + 81 * k) + 3 ≤ 100000) : WF (mfN N t s) m := by
  refine WF_mb W h3 lk _ ?_
  split
  · omega
  · rcases fnd_cs (fun k => okM N s ((t + (k : Int)) % N 3).toNat) (N 3).toNat with ⟨e, -⟩ | ⟨i, e, hi, -⟩
    · have : mirK N t s = -1 := e
      omega
    · have : mirK N t s = i := e
      omega
/-- where fetching ends -/
theorem fet_W {N : Nat → Int} {m : Nat} {g : Nat → Int} (W : WF N m) (h3 : 0 < N 3) (l2 : N 2 + 12 ≤ 12000) (lk : ∀ k : Nat, k < 3 → N (1714 + 81 * k) + 36 ≤ 100000) : ∀ (l : List Nat) (P : Nat → Int) (k : Nat), k + l.length ≤ 12 → WF P m → FW N P k → WF (fet g P l).1 m ∧ (fet g P l).1 2 ≤ N 2 + 12 ∧ N 2 ≤ (fet g P l).1 2 ∧ (∀ j, j < 3 → N (1714 + 81 * j) ≤ (fet g P l).1 (1714 + 81 * j) ∧ (fet g P l).1 (1714 + 81 * j) ≤ N (1714 + 81 * j) + 36) ∧ ∀ i, ¬ i = 2 → (∀ j, j < 3 → ¬ i = 1714 + 81 * j) → (fet g P l).1 i = N i := by
  have h3' : 0 < N 3 ∧ N 3 ≤ 3 := ⟨h3, W.2.2.2.2.2.2.2.1⟩
  intro l
  induction l with
  | nil => intro P k hk WP F; exact ⟨WP, by have := F.2.1; show P 2 ≤ _; simp at hk; omega, by have := F.2.1; show _ ≤ P 2; omega, fun j hj => by have := F.2.2 j hj; simp at hk; show _ ≤ P _ ∧ P _ ≤ _; omega, F.1⟩
  | cons p l ih =>
    intro P k hk WP F
    have p3 : P 3 = N 3 := F.1 3 (by decide) (fun j hj => by omega)
    have hk' : k + l.length + 1 ≤ 12 := by simp at hk; omega
    have lkP : ∀ j : Nat, j < 3 → P (1714 + 81 * j) + 3 ≤ 100000 := fun j hj => by have := F.2.2 j hj; have := lk j hj; omega
    have WM := WF_mf (s := (slF P g p).toNat) (t := P 2) WP (by omega) lkP
    obtain ⟨F1, a1, a2, a3⟩ := FW_mf (s := (slF P g p).toNat) (t := P 2) F h3'
    rw [fet_s]
    split
    · exact ⟨WM, by show mfN _ _ _ 2 ≤ _; omega, by show _ ≤ mfN _ _ _ 2; omega, fun j hj => by have := a3 j hj; show _ ≤ mfN _ _ _ _ ∧ mfN _ _ _ _ ≤ _; omega, a1⟩
    · exact ih _ (k + 1) (by omega) (WF_fe WM (by omega)) F1
