/-! VERSIONS OF A PACKAGE, the oldest first -/
theorem insV_mem {N : Nat → Int} {v w : Nat} : ∀ l : List Nat, w ∈ insV N v l ↔ w = v ∨ w ∈ l := by
  intro l
  induction l with
  | nil => unfold insV; simp
  | cons a l ih =>
    unfold insV
    by_cases c : nV N a 1 > nV N v 1
    · rw [if_pos c]; simp
    · rw [if_neg c, List.mem_cons, ih, List.mem_cons]
      constructor
      · rintro (y | y | y)
        · exact .inr (.inl y)
        · exact .inl y
        · exact .inr (.inr y)
      · rintro (y | y | y)
        · exact .inr (.inl y)
        · exact .inl y
        · exact .inr (.inr y)
theorem insV_len {N : Nat → Int} {v : Nat} : ∀ l : List Nat, (insV N v l).length = l.length + 1 := by
  intro l
  induction l with
  | nil => rfl
  | cons a l ih =>
    unfold insV
    by_cases c : nV N a 1 > nV N v 1
    · rw [if_pos c]; rfl
    · rw [if_neg c, List.length_cons, ih]; rfl
/-- sorted by codes -/
def srt (N : Nat → Int) : List Nat → Prop
  | [] => True
  | a :: l => (∀ w, w ∈ l → nV N a 1 < nV N w 1) ∧ srt N l
theorem insV_srt {N : Nat → Int} {v : Nat} : ∀ l : List Nat, (∀ w, w ∈ l → ¬ nV N w 1 = nV N v 1) → srt N l → srt N (insV N v l) := by
  intro l
  induction l with
  | nil => intro _ _; unfold insV; exact ⟨fun w hw => by simp at hw, trivial⟩
  | cons a l ih =>
    intro n s
    have na := n a (List.mem_cons_self ..)
    unfold insV
    by_cases c : nV N a 1 > nV N v 1
    · rw [if_pos c]
      refine ⟨fun w hw => ?_, s⟩
      rcases List.mem_cons.mp hw with y | y
      · rw [y]; exact c
      · have := s.1 w y; omega
    · rw [if_neg c]
      refine ⟨fun w hw => ?_, ih (fun w hw => n w (List.mem_cons_of_mem _ hw)) s.2⟩
      rcases (insV_mem l).mp hw with y | y
      · rw [y]; omega
      · exact s.1 w y
/-- where it is put -/
theorem insV_at {N : Nat → Int} {v : Nat} : ∀ (l : List Nat) (i : Nat), i ≤ l.length → (∀ j (hj : j < l.length), j < i → ¬ nV N l[j] 1 > nV N v 1) → (∀ hi : i < l.length, nV N l[i] 1 > nV N v 1) → insV N v l = l.take i ++ v :: l.drop i := by
  intro l
  induction l with
  | nil => intro i hi _ _; rw [show i = 0 by simp at hi; omega]; rfl
  | cons a l ih =>
    intro i hi lo up
    cases i with
    | zero =>
      have : nV N a 1 > nV N v 1 := up (by simp)
      unfold insV
      rw [if_pos this]; rfl
    | succ i =>
      have : ¬ nV N a 1 > nV N v 1 := lo 0 (by simp) (by omega)
      unfold insV
      rw [if_neg this, ih i (by simp at hi; omega) (fun j hj hji => lo (j + 1) (by simp; omega) (by omega)) (fun hi => up (by simp; omega))]
      rfl
theorem srt_lt {N : Nat → Int} : ∀ (l : List Nat), srt N l → ∀ i j (hi : i < l.length) (hj : j < l.length), i < j → nV N l[i] 1 < nV N l[j] 1 := by
  intro l
  induction l with
  | nil => intro _ i j hi; simp at hi
  | cons a l ih =>
    intro s i j hi hj hij
    cases j with
    | zero => omega
    | succ j =>
      cases i with
      | zero => exact s.1 _ (List.getElem_mem ..)
      | succ i => exact ih s.2 i j (by simp at hi; omega) (by simp at hj; omega) (by omega)
theorem srt_uq {N : Nat → Int} : ∀ (l k : List Nat), srt N l → srt N k → (∀ w, w ∈ l ↔ w ∈ k) → l = k := by
  intro l
  induction l with
  | nil =>
    intro k _ _ m
    cases k with
    | nil => rfl
    | cons b k => exact absurd ((m b).mpr (List.mem_cons_self ..)) (by simp)
  | cons a l ih =>
    intro k sl sk m
    cases k with
    | nil => exact absurd ((m a).mp (List.mem_cons_self ..)) (by simp)
    | cons b k =>
      have e : a = b := by
        rcases List.mem_cons.mp ((m a).mp (List.mem_cons_self ..)) with y | y
        · exact y
        · rcases List.mem_cons.mp ((m b).mpr (List.mem_cons_self ..)) with z | z
          · exact z.symm
          · have := sk.1 a y
            have := sl.1 b z
            omega
      subst e
      rw [ih k sl.2 sk.2 (fun w => ⟨fun hw => ?_, fun hw => ?_⟩)]
      · rcases List.mem_cons.mp ((m w).mp (List.mem_cons_of_mem _ hw)) with y | y
        · have := sl.1 w hw
          rw [y] at this
          omega
        · exact y
      · rcases List.mem_cons.mp ((m w).mpr (List.mem_cons_of_mem _ hw)) with y | y
        · have := sk.1 w hw
          rw [y] at this
          omega
        · exact y
theorem vslN_s {N : Nat → Int} {p n : Nat} : vslN N p (n + 1) = if nV N n 0 = p then insV N n (vslN N p n) else vslN N p n := rfl
theorem vslN_mem {N : Nat → Int} {p w : Nat} : ∀ n, w ∈ vslN N p n ↔ w < n ∧ nV N w 0 = p := by
  intro n
  induction n with
  | zero => unfold vslN; simp
  | succ n ih =>
    unfold vslN
    by_cases c : nV N n 0 = p
    · rw [if_pos c, insV_mem, ih]
      constructor
      · rintro (y | y)
        · rw [y]; exact ⟨by omega, c⟩
        · exact ⟨by omega, y.2⟩
      · intro y
        by_cases e : w = n
        · exact .inl e
        · exact .inr ⟨by omega, y.2⟩
    · rw [if_neg c, ih]
      constructor
      · intro y; exact ⟨by omega, y.2⟩
      · intro y
        have : ¬ w = n := fun z => c (by rw [← z]; exact y.2)
        exact ⟨by omega, y.2⟩
theorem vslN_srt {N : Nat → Int} {m p : Nat} (W : WV N m) : ∀ n, n ≤ vc N → srt N (vslN N p n) := by
  intro n
  induction n with
  | zero => intro _; exact trivial
  | succ n ih =>
    intro hn
    unfold vslN
    by_cases c : nV N n 0 = p
    · rw [if_pos c]
      refine insV_srt _ (fun w hw e => ?_) (ih (by omega))
      obtain ⟨w1, w2⟩ := (vslN_mem n).mp hw
      have := W.2.2.2.2.2.2 w n (by omega) (by omega) (w2.trans c.symm) e
      omega
    · rw [if_neg c]; exact ih (by omega)
theorem vsl_mem {N : Nat → Int} {p w : Nat} : w ∈ vsl N p ↔ w < vc N ∧ nV N w 0 = p := vslN_mem _
theorem vsl_srt {N : Nat → Int} {m p : Nat} (W : WV N m) : srt N (vsl N p) := vslN_srt W _ (Nat.le_refl _)
theorem vslN_le {N : Nat → Int} {p : Nat} : ∀ n k, n ≤ k → (vslN N p n).length ≤ (vslN N p k).length := by
  intro n k h
  induction k with
  | zero => rw [show n = 0 by omega]; exact Nat.le_refl _
  | succ k ih =>
    by_cases e : n = k + 1
    · rw [e]; exact Nat.le_refl _
    · have := ih (by omega)
      rw [vslN_s]
      by_cases c : nV N k 0 = p
      · rw [if_pos c, insV_len]; omega
      · rw [if_neg c]; exact this
theorem vsl_get {N : Nat → Int} {p i : Nat} (hi : i < (vsl N p).length) : (vsl N p).getD i 0 < vc N ∧ nV N ((vsl N p).getD i 0) 0 = p := by
  rw [List.getD_eq_getElem?_getD, List.getElem?_eq_getElem hi]
  exact vsl_mem.mp (List.getElem_mem hi)
/-- the class keeps them so -/
theorem vsl_C {h : XH} {N : Nat → Int} {m p : Nat} (W : WV N m) (C : CSP h 8 N) (hp : p < pc N) : hI h 10 p = ((vsl N p).length : Nat) ∧ (vsl N p).length ≤ 8 ∧ ∀ i, i < (vsl N p).length → hI h 12 (8 * p + i) = ((vsl N p).getD i 0 : Nat) := by
  obtain ⟨a1, a2, a3, a4, a5, a6⟩ := P8 C hp
  have e : vsl N p = (List.range (hI h 10 p).toNat).map (fun i => (hI h 12 (8 * p + i)).toNat) := by
    refine srt_uq _ _ (vsl_srt W) ?_ (fun w => ?_)
    · have : ∀ (a k : Nat), a + k = (hI h 10 p).toNat → srt N ((List.range' a k).map (fun i => (hI h 12 (8 * p + i)).toNat)) := by
        intro a k
        induction k generalizing a with
        | zero => intro _; exact trivial
        | succ k ih =>
          intro e
          rw [List.range'_succ, List.map_cons]
          refine ⟨fun w hw => ?_, ih (a + 1) (by omega)⟩
          obtain ⟨j, hj, ej⟩ := List.mem_map.mp hw
          have := List.mem_range'_1.mp hj
          rw [← ej]
          exact a6 a j (by omega) (by omega)
      rw [List.range_eq_range']
      exact this 0 _ (by omega)
    · rw [vsl_mem, List.mem_map]
      constructor
      · intro ⟨w1, w2⟩
        obtain ⟨i, hi, ei⟩ := a5 w w1 w2
        exact ⟨i, List.mem_range.mpr (by omega), by rw [ei]; rfl⟩
      · rintro ⟨i, hi, ei⟩
        obtain ⟨v, v1, v2, v3⟩ := a4 i (by have := List.mem_range.mp hi; omega)
        rw [v2, Int.toNat_natCast] at ei
        rw [← ei]
        exact ⟨v1, v3⟩
  have l : (vsl N p).length = (hI h 10 p).toNat := by rw [e]; simp
  refine ⟨by omega, by omega, fun i hi => ?_⟩
  rw [e] at hi ⊢
  rw [List.getD_eq_getElem?_getD, List.getElem?_eq_getElem hi, Option.getD_some, List.getElem_map, List.getElem_range]
  obtain ⟨v, v1, v2, v3⟩ := a4 i (by simp at hi; omega)
  rw [v2]; rfl
/-- no package has more than 8 versions -/
def P8N (N : Nat → Int) : Prop := ∀ p, p < 12 → (vsl N p).length ≤ 8
theorem P8N_of {h : XH} {N : Nat → Int} {m : Nat} (W : WV N m) (C : CSP h 8 N) : P8N N := fun p hp => by
  by_cases c : p < pc N
  · exact (vsl_C W C c).2.1
  · cases e : vsl N p with
    | nil => simp
    | cons a l =>
      have := vsl_mem.mp (show a ∈ vsl N p by rw [e]; exact List.mem_cons_self ..)
      have w := W.2.2.2.2.1 a this.1
      unfold pc at c
      omega
/-- what the reference's sort has laid: the first x places hold the list l -/
def lay (h : XH) (a : Nat) (l : List Nat) : Prop := hk h a = 100 ∧ hn h a = 8 ∧ ∀ j, j < l.length → hI h a j = (l.getD j 0 : Nat)
def nA8 : Nat := xcs (some (.inr (0, List.replicate 8 (v0 0)))) + xcs (some (.inr (0, List.replicate 8 (v0 0))))
theorem xcs_le {n k : Nat} (h : n ≤ k) : xcs (some (.inr (0, List.replicate n (v0 0)))) ≤ xcs (some (.inr (0, List.replicate k (v0 0)))) := by
  unfold xcs
  simp
  omega
/-- a list of versions lies in a row of its own -/
def VL (N : Nat → Int) (p : Nat) (h : XH) (a : Nat) : Prop := hk h a = 100 ∧ 468 ≤ a ∧ hn h a = (vsl N p).length ∧ ∀ i, i < (vsl N p).length → hI h a i = ((vsl N p).getD i 0 : Nat)
set_option maxHeartbeats 1000000 in
theorem c_X14_sort {p : Nat} (hp : p < 12) {h : XH} {N : Nat → Int} {m : Nat} (T : HT h) (eN : N = nw h) (W : WF N m) (P8 : P8N N) {K : Nat → XH → Prop} (k : ∀ a h1, Fr (fun _ => False) h h1 → Gr 2 nA8 h h1 → h.length ≤ a → VL N p h1 a → K a h1) : w_X14_sort (p : Int) K h := by
  unfold w_X14_sort
  have L := HT_len T
  have w4 := W.1.2.2.2.1
  have w3 := W.1.2.2.1
  have w12 := W.1.2.1
  have N4 : N 4 = hI h 438 4 := by rw [eN]; rfl
  have vcN : vc N = (N 4).toNat := rfl
  have P8p := P8 p hp
  intro a1 h2 ea1 eh2 t2 u2 ca1 la1
  have f2 : Fr (fun _ => False) h h2 := fun b hb _ => by rw [eh2]; exact sameC_app hb
  have l2 : h2.length = h.length + 1 := by rw [eh2]; unfold nA; rw [len_app]
  have x2 : xhs h2 = xhs h + xcs (some (.inr (0, List.replicate 8 (v0 0)))) := by rw [eh2, xhs_nA]
  refine ⟨fun n v g => 0 ≤ v ∧ v ≤ N 4 ∧ n = ((vslN N p v.toNat).length : Nat) ∧ Fr (fun b => b = a1) h2 g ∧ g.length = h2.length ∧ xhs g = xhs h2 ∧ lay g a1 (vslN N p v.toNat), fun _ v _ => (N 4 - v).toNat, ?_, ?_⟩
  · exact ⟨by omega, w3, rfl, Fr_rf _ _, rfl, rfl, ca1, la1, fun j hj => by simp [vslN] at hj⟩
  · intro x3 x4 h6 t6 s6 rx3 rx4 z7
    refine ⟨fun c41 => ?_, fun c41 => ?_⟩
    · obtain ⟨z0, z1, zn, zf, zl, zx, zk, z8, zv⟩ := z7
      have en6 : hI h6 438 4 = N 4 := by rw [sameC_I (zf 438 (by omega) (by omega)), sameC_I (f2 438 (by omega) id), N4]
      have ev : x4.toNat = vc N := by omega
      rw [ev] at zn zv
      have zn2 : x3 = ((vsl N p).length : Nat) := zn
      have zv2 : ∀ j, j < (vsl N p).length → hI h6 a1 j = ((vsl N p).getD j 0 : Nat) := zv
      refine ⟨(by omega), ?_⟩
      intro a9 h10 ea9 eh10 t10 u10 ca9 la9
      have n1 : hn h10 a1 = 8 := by rw [sameC_n (show sameC h6 h10 a1 by rw [eh10]; exact sameC_app (by omega))]; exact z8
      refine ⟨(by exact HX_hk u10 zk (by decide)), ?_⟩
      refine ⟨(by omega), ?_⟩
      intro h13 eh13 t13 u13
      have s10 : ∀ b, b < h6.length → sameC h6 h10 b := fun b hb => by rw [eh10]; exact sameC_app hb
      have k1 : hk h10 a1 = 100 := HX_hk u10 zk (by decide)
      have e13 := el_cA (h := h10) (a := a1) (sp := 0) (b := a9) (dp := 0) (n := x3.toNat) (t := t10) (u := 0) k1 ca9 (by decide) (by omega) (by omega)
      have x13 : xhs h13 = xhs h10 := by rw [eh13]; exact xhs_cA (t := t10) (u := 0) k1 ca9 (by decide) (by omega) (by omega)
      refine k _ _ (fun b hb _ => ?_) ⟨?_, ?_⟩ (by omega) ⟨HX_hk u13 ca9 (by decide), by omega, ?_, fun i hi => ?_⟩
      · refine sameC_tr (sameC_tr (sameC_tr (f2 b hb id) (zf b (by omega) (by omega))) (s10 b (by omega))) ?_
        rw [eh13]; exact sameC_cA (by omega)
      · rw [eh13, len_cA, eh10]; unfold nA; rw [len_app]; omega
      · rw [x13, eh10, xhs_nA, zx, x2]
        have := xcs_le (show x3.toNat ≤ 8 by omega)
        unfold nA8
        omega
      · rw [show hn h13 a9 = hn h10 a9 from congrArg Prod.snd (u13.2 a9 (hk_lt ca9 (by decide)))]; omega
      · unfold hI
        rw [eh13, e13, if_pos ⟨by omega, by omega⟩, Nat.zero_add, Nat.sub_zero, sameC_el (s10 a1 (by omega))]
        exact zv2 i hi
    · obtain ⟨z0, z1, zn, zf, zl, zx, zk, z8, zv⟩ := z7
      have en6 : hI h6 438 4 = N 4 := by rw [sameC_I (zf 438 (by omega) (by omega)), sameC_I (f2 438 (by omega) id), N4]
      have nw6 : nw h6 = N := by rw [nw_fr (zf 438 (by omega) (by omega)), nw_fr (f2 438 (by omega) id), eN]
      have hv : x4.toNat < vc N := by omega
      have le8 : (vslN N p (x4.toNat + 1)).length ≤ 8 := Nat.le_trans (vslN_le _ _ (by omega)) P8p
      have vs := vslN_s (N := N) (p := p) (n := x4.toNat)
      refine c_X14_ver (by omega) ?_
      intro x14 ex14
      have e14 : x14 = nV N x4.toNat 0 := by rw [ex14, ← nw6]; rfl
      intro rx14
      refine ⟨fun n g => n = ((vslN N p (x4.toNat + 1)).length : Nat) ∧ Fr (fun b => b = a1) h2 g ∧ g.length = h2.length ∧ xhs g = xhs h2 ∧ lay g a1 (vslN N p (x4.toNat + 1)), ?_, ?_⟩
      · intro x15 h17 t17 s17 rx15 z18
        intro x19 ex19 rx19
        rw [wr_of (by omega) (by omega)] at ex19
        obtain ⟨y1, y2, y3, y4, y5⟩ := z18
        refine ⟨⟨by omega, by omega, ?_, y2, y3, y4, ?_⟩, by dsimp only; omega⟩
        · rw [ex19, show (x4 + 1).toNat = x4.toNat + 1 by omega]; exact y1
        · rw [ex19, show (x4 + 1).toNat = x4.toNat + 1 by omega]; exact y5
      · refine ⟨fun c40 => ?_, fun c40 => ?_⟩
        · rw [if_neg (by omega)] at vs
          rw [vs]
          exact ⟨zn, zf, zl, zx, zk, z8, zv⟩
        · rw [if_pos (by omega)] at vs
          rw [vs, insV_len] at le8
          have sr := vslN_srt (p := p) W.1 x4.toNat (by omega)
          have gd : ∀ j, j < (vslN N p x4.toNat).length → (vslN N p x4.toNat).getD j 0 < vc N := fun j hj => by
            rw [List.getD_eq_getElem?_getD, List.getElem?_eq_getElem hj]
            have := ((vslN_mem _).mp (List.getElem_mem hj)).1
            exact Nat.lt_trans this hv
          refine ⟨fun i g => 0 ≤ i ∧ i ≤ x3 ∧ Fr (fun b => b = a1) h2 g ∧ g.length = h2.length ∧ xhs g = xhs h2 ∧ hk g a1 = 100 ∧ hn g a1 = 8 ∧ (∀ j : Nat, (j : Int) < i → hI g a1 j = ((vslN N p x4.toNat).getD j 0 : Nat)) ∧ ∀ j : Nat, i ≤ j → (j : Int) < x3 → hI g a1 (j + 1) = ((vslN N p x4.toNat).getD j 0 : Nat) ∧ nV N x4.toNat 1 < nV N ((vslN N p x4.toNat).getD j 0) 1, fun i _ => i.toNat, ?_, ?_⟩
          · exact ⟨by omega, by omega, zf, zl, zx, zk, z8, fun j hj => zv j (by omega), fun j hj hj2 => by omega⟩
          · intro x20 h21 t21 s21 rx20 z22
            obtain ⟨i0, i1, jf, jl, jx, jk, j8, jlo, jup⟩ := z22
            have nw21 : nw h21 = N := by rw [nw_fr (jf 438 (by omega) (by omega)), nw_fr (f2 438 (by omega) id), eN]
            refine ⟨∀ j (hj : j < (vslN N p x4.toNat).length), j < x20.toNat → ¬ nV N (vslN N p x4.toNat)[j] 1 > nV N x4.toNat 1, ?_, ?_⟩
            · intro z23
              refine ⟨jk, ?_⟩
              refine ⟨(by omega), ?_⟩
              intro h26 eh26 t26 u26
              intro x27 ex27 rx27
              rw [wr_of (by omega) (by omega)] at ex27
              have ia := insV_at (N := N) (v := x4.toNat) (vslN N p x4.toNat) x20.toNat (by omega) z23 (fun hi => by
                have := (jup x20.toNat (by omega) (by omega)).2
                rw [List.getD_eq_getElem?_getD, List.getElem?_eq_getElem hi] at this
                exact this)
              rw [vs, insV_len]
              refine ⟨by omega, Fr_tr jf (by omega) (by rw [eh26]; exact Fr_sV rfl), by rw [eh26, len_sV, jl], by rw [eh26, xhs_sV, jx], by rw [eh26, hk_sV]; exact jk, by rw [eh26, hn_sV]; exact j8, fun j hj => ?_⟩
              rw [ia]
              have lt : ((vslN N p x4.toNat).take x20.toNat).length = x20.toNat := by rw [List.length_take]; omega
              rw [List.getD_eq_getElem?_getD]
              by_cases c : j < x20.toNat
              · rw [List.getElem?_append_left (by omega), List.getElem?_take, if_pos c, eh26, hI_ni (by omega)]
                rw [jlo j (by omega), List.getD_eq_getElem?_getD]
              · rw [List.getElem?_append_right (by omega), lt]
                by_cases d : j = x20.toNat
                · rw [d, Nat.sub_self, eh26]
                  rw [hI_eq (by omega) rx4]
                  show x4 = ((x4.toNat : Nat) : Int)
                  omega
                · obtain ⟨q, rfl⟩ : ∃ q, j = q + 1 := ⟨j - 1, by omega⟩
                  rw [insV_len] at hj
                  rw [show q + 1 - x20.toNat = (q - x20.toNat) + 1 by omega, List.getElem?_cons_succ, List.getElem?_drop, show x20.toNat + (q - x20.toNat) = q by omega, eh26, hI_ni (by omega), (jup q (by omega) (by omega)).1, List.getD_eq_getElem?_getD]
            · refine ⟨fun c39 => ?_, fun c39 => ?_⟩
              · exact fun j hj hj2 => by omega
              · intro x28 ex28 rx28
                rw [wr_of (by omega) (by omega)] at ex28
                have e28 := jlo x28.toNat (by omega)
                have g28 := gd x28.toNat (by omega)
                refine ⟨jk, ?_⟩
                refine ⟨(by omega), ?_⟩
                refine c_X14_ver (by omega) ?_
                intro x31 ex31
                have e31 : x31 = nV N ((vslN N p x4.toNat).getD x28.toNat 0) 1 := by rw [ex31, e28, Int.toNat_natCast, ← nw21]; rfl
                intro rx31
                refine c_X14_ver (by omega) ?_
                intro x32 ex32
                have e32 : x32 = nV N x4.toNat 1 := by rw [ex32, ← nw21]; rfl
                intro rx32
                refine ⟨fun c38 => ?_, fun c38 => ?_⟩
                · intro j hj hj2
                  have e : nV N ((vslN N p x4.toNat)[x28.toNat]'(by omega)) 1 = x31 := by rw [e31, List.getD_eq_getElem?_getD, List.getElem?_eq_getElem (by omega)]; rfl
                  by_cases c : j = x28.toNat
                  · subst c; omega
                  · have := srt_lt _ sr j x28.toNat hj (by omega) (by omega)
                    omega
                · intro x33 ex33 rx33
                  rw [wr_of (by omega) (by omega)] at ex33
                  refine ⟨(by omega), ?_⟩
                  refine ⟨(by omega), ?_⟩
                  intro h36 eh36 t36 u36
                  intro x37 ex37 rx37
                  rw [wr_of (by omega) (by omega)] at ex37
                  refine ⟨⟨by omega, by omega, Fr_tr jf (by omega) (by rw [eh36]; exact Fr_sV rfl), by rw [eh36, len_sV, jl], by rw [eh36, xhs_sV, jx], by rw [eh36, hk_sV]; exact jk, by rw [eh36, hn_sV]; exact j8, fun j hj => ?_, fun j hj hj2 => ?_⟩, by dsimp only; omega⟩
                  · rw [eh36, hI_ni (by omega)]
                    exact jlo j (by omega)
                  · by_cases c : (j : Int) = x37
                    · refine ⟨?_, ?_⟩
                      · rw [eh36, show j + 1 = x20.toNat by omega, hI_eq (by omega) (rgh _ _ _), show j = x33.toNat by omega]
                        exact jlo x33.toNat (by omega)
                      · rw [show j = x28.toNat by omega]; omega
                    · rw [eh36, hI_ni (by omega)]
                      exact jup j (by omega) hj2
