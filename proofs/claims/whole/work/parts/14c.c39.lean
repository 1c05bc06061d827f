/-! THE ORDER OF SCRIPTS, A RING -/
/-- p is ahead of q -/
def ahB (N : Nat → Int) (nd : Nat → ND) (f : Nat → Int) (p q : Nat) : Bool :=
  !decide (f q = -1) && !decide (f p = -1) && !decide (p = q) && (List.range (nV N (slF N f q).toNat 7).toNat).any (fun n => (nV N (slF N f q).toNat 11).toNat.testBit n && nmet N (nd (nV N (slF N f q).toNat (8 + n)).toNat) (slF N f p).toNat)
def ahM (N : Nat → Int) (nd : Nat → ND) (f : Nat → Int) (q : Nat) : Nat := orM 12 (fun p => ahB N nd f p q)
def thM (f : Nat → Int) : Nat := orM 12 (fun p => !decide (f p = -1))
def free (N : Nat → Int) (nd : Nat → ND) (f : Nat → Int) (l : Nat) : Int := fnd 12 (fun p => l.testBit p && decide (ahM N nd f p &&& l = 0))
def rmB (l p : Nat) : Nat := l ^^^ (l &&& 2 ^ p)
def sch (N : Nat → Int) (nd : Nat → ND) (f : Nat → Int) : Nat → Nat → List Nat × Nat
  | 0, l => ([], l)
  | n + 1, l => if free N nd f l = -1 then ([], l) else ((free N nd f l).toNat :: (sch N nd f n (rmB l (free N nd f l).toNat)).1, (sch N nd f n (rmB l (free N nd f l).toNat)).2)
theorem ahB_e {N : Nat → Int} {nd : Nat → ND} {f : Nat → Int} {p q : Nat} : ahB N nd f p q = true ↔ ¬ f q = -1 ∧ ¬ f p = -1 ∧ ¬ p = q ∧ ∃ n : Nat, (n : Int) < nV N (slF N f q).toNat 7 ∧ (nV N (slF N f q).toNat 11).toNat.testBit n = true ∧ nmet N (nd (nV N (slF N f q).toNat (8 + n)).toNat) (slF N f p).toNat = true := by
  unfold ahB
  rw [Bool.and_eq_true, Bool.and_eq_true, Bool.and_eq_true, Bool.not_eq_true', Bool.not_eq_true', Bool.not_eq_true', decide_eq_false_iff_not, decide_eq_false_iff_not, decide_eq_false_iff_not, List.any_eq_true, and_assoc, and_assoc]
  constructor
  · rintro ⟨a, b, c, n, hn, y⟩
    rw [Bool.and_eq_true] at y
    exact ⟨a, b, c, n, by have := List.mem_range.mp hn; omega, y⟩
  · rintro ⟨a, b, c, n, hn, y⟩
    exact ⟨a, b, c, n, List.mem_range.mpr (by omega), by rw [Bool.and_eq_true]; exact y⟩
theorem ahM_at {N : Nat → Int} {nd : Nat → ND} {f : Nat → Int} {p q : Nat} : (ahM N nd f q).testBit p = true ↔ p < 12 ∧ ahB N nd f p q = true := by
  unfold ahM
  rw [orM_at, Bool.and_eq_true, decide_eq_true_eq]
theorem ahM_lt (N : Nat → Int) (nd : Nat → ND) (f : Nat → Int) (q : Nat) : ahM N nd f q < 4096 := orM_lt _ 12
theorem thM_at {f : Nat → Int} {p : Nat} : (thM f).testBit p = true ↔ p < 12 ∧ ¬ f p = -1 := by
  unfold thM
  rw [orM_at, Bool.and_eq_true, decide_eq_true_eq, Bool.not_eq_true', decide_eq_false_iff_not]
theorem rmB_at {l p q : Nat} : (rmB l p).testBit q = (l.testBit q && !decide (p = q)) := by unfold rmB; rw [tb_rem, Nat.testBit_two_pow]
theorem and_0 {a b : Nat} : a &&& b = 0 ↔ ∀ i, ¬ (a.testBit i = true ∧ b.testBit i = true) := by
  constructor
  · intro h i ⟨x, y⟩
    have : (a &&& b).testBit i = true := by rw [Nat.testBit_and, x, y]; rfl
    rw [h, Nat.zero_testBit] at this; cases this
  · intro h
    apply Nat.eq_of_testBit_eq
    intro i
    rw [Nat.testBit_and, Nat.zero_testBit]
    cases x : a.testBit i with
    | false => rfl
    | true =>
      cases y : b.testBit i with
      | false => rfl
      | true => exact absurd ⟨x, y⟩ (h i)
theorem free_cs (N : Nat → Int) (nd : Nat → ND) (f : Nat → Int) (l : Nat) : (free N nd f l = -1 ∧ ∀ p, p < 12 → l.testBit p = true → ∃ q, l.testBit q = true ∧ ahB N nd f q p = true) ∨ ∃ p : Nat, free N nd f l = p ∧ p < 12 ∧ l.testBit p = true ∧ ∀ q, ahB N nd f q p = true → q < 12 → l.testBit q = false := by
  unfold free
  rcases fnd_cs (fun p => l.testBit p && decide (ahM N nd f p &&& l = 0)) 12 with ⟨e, a⟩ | ⟨i, e, hi, pi, -⟩
  · refine .inl ⟨e, fun p hp b => ?_⟩
    have := a p hp
    rw [b, Bool.true_and, decide_eq_false_iff_not, and_0] at this
    refine Classical.byContradiction fun c => this (fun i y => c ⟨i, y.2, (ahM_at.mp y.1).2⟩)
  · rw [Bool.and_eq_true, decide_eq_true_eq, and_0] at pi
    refine .inr ⟨i, e, hi, pi.1, fun q hq h12 => bt fun y => pi.2 q ⟨ahM_at.mpr ⟨h12, hq⟩, y⟩⟩
/-- what a run of the order gives -/
theorem sch_s {N : Nat → Int} {nd : Nat → ND} {f : Nat → Int} {n l : Nat} (h : ¬ free N nd f l = -1) : sch N nd f (n + 1) l = ((free N nd f l).toNat :: (sch N nd f n (rmB l (free N nd f l).toNat)).1, (sch N nd f n (rmB l (free N nd f l).toNat)).2) := by
  show (if _ then _ else _) = _
  rw [if_neg h]
theorem sch_n {N : Nat → Int} {nd : Nat → ND} {f : Nat → Int} {n l : Nat} (h : free N nd f l = -1) : sch N nd f n l = ([], l) := by
  cases n with
  | zero => rfl
  | succ n =>
    show (if _ then _ else _) = _
    rw [if_pos h]
theorem rmB_cnt {l p : Nat} (hp : p < 12) (b : l.testBit p = true) : cntN 12 (rmB l p).testBit < cntN 12 l.testBit :=
  cntN_lt 12 (fun i _ y => by rw [rmB_at, Bool.and_eq_true] at y; exact y.1) ⟨p, hp, b, by rw [rmB_at, dt rfl, Bool.not_true, Bool.and_false]⟩
theorem rmB_lt {l p : Nat} (h : l < 4096) : rmB l p < 4096 := rem_lt h
/-- whoever isn't in the rest has nobody of the rest ahead, and those ahead come earlier -/
theorem sch_in {N : Nat → Int} {nd : Nat → ND} {f : Nat → Int} : ∀ (n l : Nat), l < 4096 → cntN 12 l.testBit ≤ n → (sch N nd f n l).2 < 4096 ∧ (∀ p, (sch N nd f n l).2.testBit p = true → l.testBit p = true) ∧ free N nd f (sch N nd f n l).2 = -1 ∧ (sch N nd f n l).1.length ≤ n ∧
    ∃ rk : Nat → Nat, ∀ q, l.testBit q = true → (sch N nd f n l).2.testBit q = false → ∀ p, p < 12 → ahB N nd f p q = true → (sch N nd f n l).2.testBit p = false ∧ (l.testBit p = true → rk p < rk q) := by
  intro n
  induction n with
  | zero =>
    intro l hl hc
    have : l = 0 := cnt_0 hl (by omega)
    subst this
    refine ⟨hl, fun _ h => h, ?_, Nat.le_refl _, fun _ => 0, fun q hq => by rw [Nat.zero_testBit] at hq; cases hq⟩
    rcases free_cs N nd f 0 with ⟨e, -⟩ | ⟨p, -, -, b, -⟩
    · exact e
    · rw [Nat.zero_testBit] at b; cases b
  | succ n ih =>
    intro l hl hc
    by_cases c : free N nd f l = -1
    · rw [sch_n c]
      exact ⟨hl, fun _ h => h, c, Nat.zero_le _, fun _ => 0, fun q hq hn => by rw [hq] at hn; cases hn⟩
    · rw [sch_s c]
      rcases free_cs N nd f l with ⟨e, -⟩ | ⟨p, e, hp, b, a⟩
      · exact absurd e c
      · rw [e, Int.toNat_natCast]
        have rc := rmB_cnt hp b
        obtain ⟨i1, i2, i3, i4, rk, i5⟩ := ih (rmB l p) (rmB_lt hl) (by omega)
        refine ⟨i1, fun q hq => ?_, i3, by rw [List.length_cons]; omega, fun q => if q = p then 0 else rk q + 1, fun q hq hn r hr y => ?_⟩
        · have := i2 q hq
          rw [rmB_at, Bool.and_eq_true] at this
          exact this.1
        · by_cases qp : q = p
          · subst qp
            have lr := a r y hr
            have : (sch N nd f n (rmB l q)).2.testBit r = false := by
              cases z : (sch N nd f n (rmB l q)).2.testBit r with
              | false => rfl
              | true =>
                have := i2 r z
                rw [rmB_at, lr] at this; cases this
            exact ⟨this, fun z => by rw [lr] at z; cases z⟩
          · obtain ⟨j1, j2⟩ := i5 q (by rw [rmB_at, hq, df (fun z => qp z.symm)]; rfl) hn r hr y
            refine ⟨j1, fun z => ?_⟩
            dsimp only
            rw [if_neg qp]
            by_cases rp : r = p
            · rw [if_pos rp]; omega
            · rw [if_neg rp]
              have := j2 (by rw [rmB_at, z, df (fun y => rp y.symm)]; rfl)
              omega
/-! walks -/
def U (N : Nat → Int) (nd : Nat → ND) (f : Nat → Int) (s : Nat) : Nat → Nat → Prop
  | 0, p => p = s
  | d + 1, p => s < p ∧ ∃ q, q < 12 ∧ U N nd f s d q ∧ ahB N nd f p q = true
def rgU (N : Nat → Int) (nd : Nat → ND) (f : Nat → Int) (s d : Nat) : Prop := ∃ q, q < 12 ∧ U N nd f s d q ∧ ahB N nd f s q = true
def md (N : Nat → Int) (nd : Nat → ND) (f : Nat → Int) (s d p : Nat) : Prop := U N nd f s d p ∧ ∀ e, e < d → ¬ U N nd f s e p
def Ring (N : Nat → Int) (nd : Nat → ND) (f : Nat → Int) (s d : Nat) : Prop := rgU N nd f s d ∧ ∀ e, e < d → ¬ rgU N nd f s e
def RowOK (N : Nat → Int) (nd : Nat → ND) (f : Nat → Int) (s d : Nat) (L : List Nat) : Prop :=
  L.length = d + 1 ∧ L.getD 0 0 = s ∧ ∀ k, k < d → L.getD (k + 1) 0 < 12 ∧ (md N nd f s (d - k) (L.getD (k + 1) 0) ∧ ahB N nd f (L.getD k 0) (L.getD (k + 1) 0) = true) ∧ ∀ p, p < L.getD (k + 1) 0 → ¬ (md N nd f s (d - k) p ∧ ahB N nd f (L.getD k 0) p = true)
def restN (N : Nat → Int) (nd : Nat → ND) (f : Nat → Int) : Nat := (sch N nd f 12 (thM f)).2
def Arr (N : Nat → Int) (nd : Nat → ND) (f : Nat → Int) (b : Bool) (L : List Nat) : Prop :=
  (restN N nd f = 0 ∧ b = false ∧ L = (sch N nd f 12 (thM f)).1) ∨ (¬ restN N nd f = 0 ∧ b = true ∧ ∃ s d, s < 12 ∧ Ring N nd f s d ∧ (∀ r e, r < s → ¬ rgU N nd f r e) ∧ RowOK N nd f s d L)
theorem RowOK_u {N : Nat → Int} {nd : Nat → ND} {f : Nat → Int} {s d : Nat} {L M : List Nat} (a : RowOK N nd f s d L) (b : RowOK N nd f s d M) : L = M := by
  obtain ⟨a1, a2, a3⟩ := a
  obtain ⟨b1, b2, b3⟩ := b
  have e : ∀ k, k < d + 1 → L.getD k 0 = M.getD k 0 := by
    intro k
    induction k with
    | zero => intro _; rw [a2, b2]
    | succ k ih =>
      intro hk
      have i := ih (by omega)
      obtain ⟨-, x2, x3⟩ := a3 k (by omega)
      obtain ⟨-, y2, y3⟩ := b3 k (by omega)
      rw [← i] at y2 y3
      have n1 : ¬ L.getD (k + 1) 0 < M.getD (k + 1) 0 := fun z => y3 _ z x2
      have n2 : ¬ M.getD (k + 1) 0 < L.getD (k + 1) 0 := fun z => x3 _ z y2
      omega
  refine List.ext_getElem (by omega) (fun i h1 h2 => ?_)
  have := e i (by omega)
  rw [List.getD_eq_getElem?_getD, List.getD_eq_getElem?_getD, List.getElem?_eq_getElem h1, List.getElem?_eq_getElem h2] at this
  exact this
theorem Arr_u {N : Nat → Int} {nd : Nat → ND} {f : Nat → Int} {b c : Bool} {L M : List Nat} (x : Arr N nd f b L) (y : Arr N nd f c M) : b = c ∧ L = M := by
  rcases x with ⟨x1, x2, x3⟩ | ⟨x1, x2, s, d, hs, x3, x4, x5⟩
  · rcases y with ⟨-, y2, y3⟩ | ⟨y1, -⟩
    · exact ⟨x2.trans y2.symm, x3.trans y3.symm⟩
    · exact absurd x1 y1
  · rcases y with ⟨y1, -⟩ | ⟨-, y2, t, e, ht, y3, y4, y5⟩
    · exact absurd y1 x1
    · have es : s = t := by
        have n1 : ¬ s < t := fun z => y4 s d z x3.1
        have n2 : ¬ t < s := fun z => x4 t e z y3.1
        omega
      subst es
      have ed : d = e := by
        have n1 : ¬ d < e := fun z => y3.2 d z x3.1
        have n2 : ¬ e < d := fun z => x3.2 e z y3.1
        omega
      subst ed
      exact ⟨x2.trans y2.symm, RowOK_u x5 y5⟩
noncomputable def arrO (N : Nat → Int) (nd : Nat → ND) (f : Nat → Int) : Bool × List Nat := Classical.epsilon (fun o => Arr N nd f o.1 o.2)
theorem arr_is {N : Nat → Int} {nd : Nat → ND} {f : Nat → Int} {b : Bool} {L : List Nat} (x : Arr N nd f b L) : arrO N nd f = (b, L) := by
  have s : Arr N nd f (arrO N nd f).1 (arrO N nd f).2 := Classical.epsilon_spec (p := fun o : Bool × List Nat => Arr N nd f o.1 o.2) ⟨(b, L), x⟩
  obtain ⟨e1, e2⟩ := Arr_u s x
  exact Prod.ext e1 e2
theorem U_lt {N : Nat → Int} {nd : Nat → ND} {f : Nat → Int} {s d p : Nat} (hs : s < 12) (h : U N nd f s d p) (fp : d = 0 ∨ True) : s ≤ p := by
  cases d with
  | zero => have : p = s := h; omega
  | succ d => have := h.1; omega
/-- shortest rings are short -/
theorem md_prev {N : Nat → Int} {nd : Nat → ND} {f : Nat → Int} {s d p : Nat} (h : md N nd f s (d + 1) p) : ∃ q, q < 12 ∧ md N nd f s d q ∧ ahB N nd f p q = true := by
  obtain ⟨⟨sp, q, hq, u, y⟩, n⟩ := h
  exact ⟨q, hq, ⟨u, fun e he z => n (e + 1) (by omega) ⟨sp, q, hq, z, y⟩⟩, y⟩
theorem md_le {N : Nat → Int} {nd : Nat → ND} {f : Nat → Int} {s p : Nat} : ∀ d, md N nd f s d p → ∀ e, e ≤ d → ∃ q, (e = d ∧ q = p ∨ q < 12) ∧ md N nd f s e q := by
  intro d
  induction d generalizing p with
  | zero => intro h e he; exact ⟨p, .inl ⟨by omega, rfl⟩, by rw [show e = 0 by omega]; exact h⟩
  | succ d ih =>
    intro h e he
    by_cases c : e = d + 1
    · exact ⟨p, .inl ⟨c, rfl⟩, by rw [c]; exact h⟩
    · obtain ⟨q, hq, m, -⟩ := md_prev h
      obtain ⟨r, hr, mr⟩ := ih m e (by omega)
      exact ⟨r, .inr (hr.elim (fun y => by rw [y.2]; exact hq) id), mr⟩
/-- no more than twelve, one by one -/
noncomputable def seenB (P : Nat → Nat → Prop) (k p : Nat) : Bool := @decide (∃ e, e ≤ k ∧ P e p) (Classical.propDecidable _)
theorem seenB_e {P : Nat → Nat → Prop} {k p : Nat} : seenB P k p = true ↔ ∃ e, e ≤ k ∧ P e p := by
  classical
  unfold seenB
  exact @decide_eq_true_iff _ (Classical.propDecidable _)
theorem cnt_seen {P : Nat → Nat → Prop} {d : Nat} (ex : ∀ e, e ≤ d → ∃ q, q < 12 ∧ P e q ∧ ∀ k, k < e → ¬ P k q) : d ≤ 11 := by
  have cn : ∀ k : Nat, k ≤ d → k + 1 ≤ cntN 12 (seenB P k) := by
    intro k
    induction k with
    | zero =>
      intro _
      obtain ⟨q, hq, m, -⟩ := ex 0 (by omega)
      have := cntN_lt (g := fun _ => false) (k := seenB P 0) 12 (fun _ _ y => by cases y) ⟨q, hq, seenB_e.mpr ⟨0, Nat.le_refl _, m⟩, rfl⟩
      omega
    | succ k ih =>
      intro hk
      have a := ih (by omega)
      obtain ⟨q, hq, m, n⟩ := ex (k + 1) hk
      have := cntN_lt (g := seenB P k) (k := seenB P (k + 1)) 12 (fun i _ y => by
        obtain ⟨e, he, me⟩ := seenB_e.mp y
        exact seenB_e.mpr ⟨e, by omega, me⟩) ⟨q, hq, seenB_e.mpr ⟨k + 1, Nat.le_refl _, m⟩, bt fun y => by
        obtain ⟨e, he, me⟩ := seenB_e.mp y
        exact n e (by omega) me⟩
      omega
  have := cn d (Nat.le_refl _)
  have := cntN_le (seenB P d) 12
  omega
theorem md_short {N : Nat → Int} {nd : Nat → ND} {f : Nat → Int} {s d p : Nat} (hp : p < 12) (h : md N nd f s d p) : d ≤ 11 := by
  refine cnt_seen (P := fun e q => md N nd f s e q) (fun e he => ?_)
  obtain ⟨q, hq, m⟩ := md_le d h e he
  exact ⟨q, hq.elim (fun y => by rw [y.2]; exact hp) id, m, fun k hk z => m.2 k hk z.1⟩
theorem rg_md {N : Nat → Int} {nd : Nat → ND} {f : Nat → Int} {s d q : Nat} (hq : q < 12) (h : ∀ e, e < d → ¬ rgU N nd f s e) (u : U N nd f s d q) (y : ahB N nd f s q = true) : md N nd f s d q := ⟨u, fun e he z => h e he ⟨q, hq, z, y⟩⟩
theorem Ring_short {N : Nat → Int} {nd : Nat → ND} {f : Nat → Int} {s d : Nat} (h : Ring N nd f s d) : d ≤ 11 := by
  obtain ⟨⟨q, hq, u, y⟩, n⟩ := h
  exact md_short hq (rg_md hq n u y)
theorem rg_least {N : Nat → Int} {nd : Nat → ND} {f : Nat → Int} {s : Nat} : ∀ d, rgU N nd f s d → ∃ e, e ≤ d ∧ Ring N nd f s e := by
  intro d
  induction d using Nat.strongRecOn with
  | ind d ih =>
    intro h
    by_cases c : ∃ e, e < d ∧ rgU N nd f s e
    · obtain ⟨e, he, r⟩ := c
      obtain ⟨k, hk, z⟩ := ih e he r
      exact ⟨k, by omega, z⟩
    · exact ⟨d, Nat.le_refl _, h, fun e he z => c ⟨e, he, z⟩⟩
theorem Ring_pos {N : Nat → Int} {nd : Nat → ND} {f : Nat → Int} {s d : Nat} (h : rgU N nd f s d) : 1 ≤ d := by
  cases d with
  | zero =>
    obtain ⟨q, _, u, y⟩ := h
    have : q = s := u
    exact absurd this.symm (ahB_e.mp y).2.2.1
  | succ d => omega
/-- the next one in the ring is there -/
theorem row_next {N : Nat → Int} {nd : Nat → ND} {f : Nat → Int} {s d p e : Nat} (R : Ring N nd f s d) (h : e = d ∧ p = s ∨ md N nd f s (e + 1) p) : ∃ q, q < 12 ∧ md N nd f s e q ∧ ahB N nd f p q = true := by
  rcases h with ⟨rfl, rfl⟩ | h
  · obtain ⟨⟨q, hq, u, y⟩, n⟩ := R
    exact ⟨q, hq, rg_md hq n u y, y⟩
  · exact md_prev h
/-! the rest holds a ring -/
def itr (g : Nat → Nat) : Nat → Nat → Nat
  | 0, x => x
  | n + 1, x => g (itr g n x)
theorem itr_add (g : Nat → Nat) (a x : Nat) : ∀ b, itr g (a + b) x = itr g b (itr g a x) := by
  intro b
  induction b with
  | zero => rfl
  | succ b ih => show g (itr g (a + b) x) = g (itr g b (itr g a x)); rw [ih]
theorem itr_ring {N : Nat → Int} {nd : Nat → ND} {f : Nat → Int} {g : Nat → Nat} {s : Nat} (hs : s < 12) (hg : ∀ t, itr g t s < 12 ∧ ahB N nd f (itr g (t + 1) s) (itr g t s) = true) {L : Nat} (hL : 1 ≤ L) (e : itr g L s = s) (m : ∀ t, s ≤ itr g t s) : ∃ d, rgU N nd f s d := by
  have key : ∀ t, (∃ d, rgU N nd f s d) ∨ (U N nd f s t (itr g t s) ∧ (1 ≤ t → ¬ itr g t s = s)) := by
    intro t
    induction t with
    | zero => exact .inr ⟨rfl, fun z => by omega⟩
    | succ t ih =>
      rcases ih with r | ⟨u, -⟩
      · exact .inl r
      · by_cases c : itr g (t + 1) s = s
        · refine .inl ⟨t, itr g t s, (hg t).1, u, ?_⟩
          have := (hg t).2
          rw [c] at this
          exact this
        · exact .inr ⟨⟨by have := m (t + 1); omega, itr g t s, (hg t).1, u, (hg t).2⟩, fun _ => c⟩
  rcases key L with r | ⟨-, n⟩
  · exact r
  · exact absurd e (n hL)
theorem rest_ring {N : Nat → Int} {nd : Nat → ND} {f : Nat → Int} {l : Nat} (hl : l < 4096) (n : ¬ l = 0) (fr : free N nd f l = -1) : ∃ s d, s < 12 ∧ rgU N nd f s d := by
  classical
  have pre : ∀ p, p < 12 → l.testBit p = true → ∃ q, q < 12 ∧ l.testBit q = true ∧ ahB N nd f q p = true := fun p hp b => by
    rcases free_cs N nd f l with ⟨-, a⟩ | ⟨i, e, -⟩
    · obtain ⟨q, b1, y⟩ := a p hp b
      refine ⟨q, ?_, b1, y⟩
      refine Classical.byContradiction fun c => ?_
      have : l.testBit q = false := Nat.testBit_lt_two_pow (Nat.lt_of_lt_of_le hl (by have := Nat.pow_le_pow_right (n := 2) (by decide) (show 12 ≤ q by omega); omega))
      rw [b1] at this; cases this
    · omega
  let g : Nat → Nat := fun p => if h : p < 12 ∧ l.testBit p = true then (pre p h.1 h.2).choose else 0
  have gs : ∀ p, p < 12 → l.testBit p = true → g p < 12 ∧ l.testBit (g p) = true ∧ ahB N nd f (g p) p = true := fun p hp b => by
    have e : g p = (pre p hp b).choose := dif_pos ⟨hp, b⟩
    rw [e]
    exact (pre p hp b).choose_spec
  obtain ⟨x0, h0, b0⟩ := tb_ex hl n
  have orb : ∀ x, x < 12 → l.testBit x = true → ∀ t, itr g t x < 12 ∧ l.testBit (itr g t x) = true := fun x hx bx t => by
    induction t with
    | zero => exact ⟨hx, bx⟩
    | succ t ih => obtain ⟨y1, y2, -⟩ := gs _ ih.1 ih.2; exact ⟨y1, y2⟩
  -- two of the first 13 are the same
  have per : ∃ x L, x < 12 ∧ l.testBit x = true ∧ 1 ≤ L ∧ itr g L x = x := by
    refine Classical.byContradiction fun no => ?_
    have dis : ∀ i j, i < j → ¬ itr g i x0 = itr g j x0 := fun i j hij e => no ⟨itr g i x0, j - i, (orb x0 h0 b0 i).1, (orb x0 h0 b0 i).2, by omega, by rw [← itr_add, show i + (j - i) = j by omega]; exact e.symm⟩
    have := cnt_seen (P := fun i q => itr g i x0 = q) (d := 12) (fun e _ => ⟨itr g e x0, (orb x0 h0 b0 e).1, rfl, fun k hk => dis k e hk⟩)
    omega
  -- the least of them
  have least : ∀ x, (∃ L, x < 12 ∧ l.testBit x = true ∧ 1 ≤ L ∧ itr g L x = x) → ∃ s L, s < 12 ∧ l.testBit s = true ∧ 1 ≤ L ∧ itr g L s = s ∧ ∀ t, s ≤ itr g t s := by
    intro x
    induction x using Nat.strongRecOn with
    | ind x ih =>
      rintro ⟨L, hx, bx, hL, e⟩
      by_cases c : ∃ t, itr g t x < x
      · obtain ⟨t, ht⟩ := c
        refine ih _ ht ⟨L, (orb x hx bx t).1, (orb x hx bx t).2, hL, ?_⟩
        rw [← itr_add, Nat.add_comm, itr_add, e]
      · exact ⟨x, L, hx, bx, hL, e, fun t => by
          refine Classical.byContradiction fun z => c ⟨t, by omega⟩⟩
  obtain ⟨x, L, hx, bx, hL, e⟩ := per
  obtain ⟨s, L, hs, bs, hL, e, m⟩ := least x ⟨L, hx, bx, hL, e⟩
  obtain ⟨d, r⟩ := itr_ring (N := N) (nd := nd) (f := f) hs (fun t => ⟨(orb s hs bs t).1, (gs _ (orb s hs bs t).1 (orb s hs bs t).2).2.2⟩) hL e m
  exact ⟨s, d, hs, r⟩
/-! what isn't in the rest is in no ring -/
theorem rest_f {N : Nat → Int} {nd : Nat → ND} {f : Nat → Int} : restN N nd f < 4096 ∧ free N nd f (restN N nd f) = -1 ∧ ∃ rk : Nat → Nat, ∀ q, q < 12 → (restN N nd f).testBit q = false → ∀ p, p < 12 → ahB N nd f p q = true → (restN N nd f).testBit p = false ∧ rk p < rk q := by
  obtain ⟨i1, -, i3, -, rk, i5⟩ := sch_in (N := N) (nd := nd) (f := f) 12 (thM f) (orM_lt _ 12) (cntN_le _ 12)
  refine ⟨i1, i3, rk, fun q hq hn p hp y => ?_⟩
  obtain ⟨a, b, -⟩ := ahB_e.mp y
  obtain ⟨j1, j2⟩ := i5 q (thM_at.mpr ⟨hq, a⟩) hn p hp y
  exact ⟨j1, j2 (thM_at.mpr ⟨hp, b⟩)⟩
theorem U_12 {N : Nat → Int} {nd : Nat → ND} {f : Nat → Int} {s d p : Nat} (hs : s < 12) (h : U N nd f s d p) (h12 : d = 0 ∨ p < 12) : p < 12 := by
  cases d with
  | zero => have : p = s := h; omega
  | succ d => exact h12.resolve_left (by omega)
theorem out_U {N : Nat → Int} {nd : Nat → ND} {f : Nat → Int} {s : Nat} (hs : s < 12) (o : (restN N nd f).testBit s = false) {rk : Nat → Nat} (h : ∀ q, q < 12 → (restN N nd f).testBit q = false → ∀ p, p < 12 → ahB N nd f p q = true → (restN N nd f).testBit p = false ∧ rk p < rk q) : ∀ d p, p < 12 → U N nd f s d p → (restN N nd f).testBit p = false ∧ rk p ≤ rk s := by
  intro d
  induction d with
  | zero => intro p _ u; have : p = s := u; subst this; exact ⟨o, Nat.le_refl _⟩
  | succ d ih =>
    intro p hp u
    obtain ⟨-, q, hq, uq, y⟩ := u
    obtain ⟨a, b⟩ := ih q hq uq
    obtain ⟨c, e⟩ := h q hq a p hp y
    exact ⟨c, by omega⟩
theorem out_ring {N : Nat → Int} {nd : Nat → ND} {f : Nat → Int} {s d : Nat} (hs : s < 12) (r : rgU N nd f s d) : (restN N nd f).testBit s = true := by
  obtain ⟨-, -, rk, h⟩ := rest_f (N := N) (nd := nd) (f := f)
  cases o : (restN N nd f).testBit s with
  | true => rfl
  | false =>
    obtain ⟨q, hq, u, y⟩ := r
    obtain ⟨a, b⟩ := out_U hs o h d q hq u
    have := (h q hq a s hs y).2
    omega
/-- ahead of one of the rest: of those that are in it -/
theorem in_rest {N : Nat → Int} {nd : Nat → ND} {f : Nat → Int} {p q : Nat} (hq : q < 12) (hp : p < 12) (y : ahB N nd f p q = true) (b : (restN N nd f).testBit p = true) : (restN N nd f).testBit q = true := by
  obtain ⟨-, -, rk, h⟩ := rest_f (N := N) (nd := nd) (f := f)
  cases o : (restN N nd f).testBit q with
  | true => rfl
  | false => rw [(h q hq o p hp y).1] at b; cases b
