/-! WHAT THE ABSTRACT MACHINE'S WORDS SAY OF THE JVM -/
def xcv (ad : Nat → Nat) : Value → Value
  | .ref k => .ref (ad k)
  | v => v
def xad (b dA n0 : Nat) : Nat → Nat
  | 0 => b
  | 1 => dA
  | k + 2 => n0 + k
theorem xcv_cat (ad : Nat → Nat) (v : Value) : (xcv ad v).category = v.category := by cases v <;> rfl
theorem xcv_rf (ad : Nat → Nat) (r : Option Nat) : xcv ad (va_rf r) = va_rf (r.map ad) := by cases r <;> rfl
theorem xsum_cv (ad : Nat → Nat) (st : List Value) : ((st.map (xcv ad)).map fun v => v.category).sum = xsum st := by
  unfold xsum
  rw [List.map_map]
  congr 1
  exact List.map_congr_left fun v _ => xcv_cat ad v
/-- the locals -/
def xLH (ad : Nat → Nat) (ls : Array Slot) (nL : Nat) (l : XL) : Prop := ls.size = nL ∧ lv_wf ls ∧ l.length = nL ∧ ∀ (i : Nat) (v : Value), l[i]? = some (some v) → ls[i]? = some (.val (xcv ad v))
theorem xget_at {l : XL} {i : Nat} {v : Value} (h : xget l i = some v) : l[i]? = some (some v) := by
  unfold xget at h
  split at h
  · next w hw => cases h; exact hw
  · cases h
theorem xLH.at {ad : Nat → Nat} {ls : Array Slot} {nL : Nat} {l : XL} (H : xLH ad ls nL l) {i : Nat} {v : Value} (h : xget l i = some v) : ls[i]? = some (.val (xcv ad v)) := H.2.2.2 i v (xget_at h)
def xal (ad : Nat → Nat) (l : XL) : List (Nat × Value) := l.zipIdx.filterMap fun q => q.1.map fun v => (q.2, xcv ad v)
theorem xal_mem {ad : Nat → Nat} {l : XL} {i : Nat} {v : Value} (h : l[i]? = some (some v)) : (i, xcv ad v) ∈ xal ad l := by
  unfold xal
  refine List.mem_filterMap.mpr ⟨(some v, i), ?_, rfl⟩
  exact List.mem_zipIdx_iff_getElem?.mpr h
theorem xal_of {ad : Nat → Nat} {l : XL} {q : Nat × Value} (h : q ∈ xal ad l) : ∃ v, l[q.1]? = some (some v) ∧ q.2 = xcv ad v := by
  unfold xal at h
  obtain ⟨⟨o, i⟩, h1, h2⟩ := List.mem_filterMap.mp h
  have h3 := List.mem_zipIdx_iff_getElem?.mp h1
  cases o with
  | none => cases h2
  | some v => cases h2; exact ⟨v, h3, rfl⟩
theorem xLH.has {ad : Nat → Nat} {ls : Array Slot} {nL : Nat} {l : XL} (H : xLH ad ls nL l) : lv_has ls nL (xal ad l) := by
  refine ⟨H.1, H.2.1, fun q hq => ?_⟩
  obtain ⟨v, h1, h2⟩ := xal_of hq
  rw [h2]
  exact H.2.2.2 _ _ h1
theorem xclr_length (l : XL) (i : Nat) : (xclr l i).length = l.length := by
  unfold xclr
  split
  · rfl
  · split <;> simp
theorem xclr_at {l : XL} {i j : Nat} {w : Value} (h : (xclr l i)[j]? = some (some w)) : l[j]? = some (some w) ∧ ¬ (j + 1 = i ∧ w.category = 2) := by
  unfold xclr at h
  split at h
  · exact ⟨h, fun z => by omega⟩
  · next k =>
    split at h
    · by_cases e : k = j
      · subst e
        rw [List.getElem?_set] at h
        simp only [if_true] at h
        split at h <;> cases h
      · rw [List.getElem?_set_ne e] at h
        exact ⟨h, fun z => e (by omega)⟩
    · by_cases e : k = j
      · subst e
        rw [List.getElem?_set] at h
        simp only [if_true] at h
        split at h <;> cases h
      · rw [List.getElem?_set_ne e] at h
        exact ⟨h, fun z => e (by omega)⟩
    · next n1 n2 =>
      refine ⟨h, fun z => ?_⟩
      have e : k = j := by omega
      subst e
      cases w with
      | long x => exact n1 x h
      | double x => exact n2 x h
      | int x => exact absurd z.2 (by show ¬ (1 : Nat) = 2; decide)
      | float x => exact absurd z.2 (by show ¬ (1 : Nat) = 2; decide)
      | null => exact absurd z.2 (by show ¬ (1 : Nat) = 2; decide)
      | ref x => exact absurd z.2 (by show ¬ (1 : Nat) = 2; decide)
      | retAddr x => exact absurd z.2 (by show ¬ (1 : Nat) = 2; decide)
theorem xLH.put1 {ad : Nat → Nat} {ls ls' : Array Slot} {nL i : Nat} {l : XL} {v : Value} (H : xLH ad ls nL l) (h : lv_has ls' nL ((i, xcv ad v) :: (xal ad l).filter (fun q => !(q.1 == i) && !(q.1 + 1 == i && q.2.category == 2)))) : xLH ad ls' nL (xput1 l i v) := by
  refine ⟨h.1, h.2.1, by unfold xput1; rw [List.length_set, xclr_length]; exact H.2.2.1, fun j w hj => ?_⟩
  unfold xput1 at hj
  by_cases e : i = j
  · subst e
    rw [List.getElem?_set] at hj
    simp only [if_true] at hj
    split at hj
    · cases hj; exact h.2.2 _ List.mem_cons_self
    · cases hj
  · rw [List.getElem?_set_ne e] at hj
    obtain ⟨h1, h2⟩ := xclr_at hj
    refine h.2.2 (j, xcv ad w) (List.mem_cons_of_mem _ (List.mem_filter.mpr ⟨xal_mem h1, ?_⟩))
    simp only [Bool.and_eq_true, Bool.not_eq_true', beq_eq_false_iff_ne, ne_eq, Bool.and_eq_false_iff]
    refine ⟨fun z => e z.symm, ?_⟩
    rw [xcv_cat]
    by_cases z : j + 1 = i
    · exact Or.inr fun y => h2 ⟨z, y⟩
    · exact Or.inl z
theorem xLH.put2 {ad : Nat → Nat} {ls ls' : Array Slot} {nL i : Nat} {l : XL} {v : Value} (H : xLH ad ls nL l) (h : lv_has ls' nL ((i, xcv ad v) :: (xal ad l).filter (fun q => !(q.1 == i) && (!(q.1 == i + 1) && !(q.1 + 1 == i && q.2.category == 2))))) : xLH ad ls' nL (xput2 l i v) := by
  refine ⟨h.1, h.2.1, by unfold xput2; rw [List.length_set, List.length_set, xclr_length]; exact H.2.2.1, fun j w hj => ?_⟩
  unfold xput2 at hj
  by_cases e2 : i + 1 = j
  · subst e2
    rw [List.getElem?_set] at hj
    simp only [if_true] at hj
    split at hj <;> cases hj
  · rw [List.getElem?_set_ne e2] at hj
    by_cases e : i = j
    · subst e
      rw [List.getElem?_set] at hj
      simp only [if_true] at hj
      split at hj
      · cases hj; exact h.2.2 _ List.mem_cons_self
      · cases hj
    · rw [List.getElem?_set_ne e] at hj
      obtain ⟨h1, h2⟩ := xclr_at hj
      refine h.2.2 (j, xcv ad w) (List.mem_cons_of_mem _ (List.mem_filter.mpr ⟨xal_mem h1, ?_⟩))
      simp only [Bool.and_eq_true, Bool.not_eq_true', beq_eq_false_iff_ne, ne_eq, Bool.and_eq_false_iff]
      refine ⟨fun z => e z.symm, fun z => e2 z.symm, ?_⟩
      rw [xcv_cat]
      by_cases z : j + 1 = i
      · exact Or.inr fun y => h2 ⟨z, y⟩
      · exact Or.inl z
/-- a method's locals at its entry -/
theorem xargs_mem {ad : Nat → Nat} : ∀ (av : List Value) (i k : Nat) (v : Value), (xargs av)[i]? = some (some v) → (k + i, xcv ad v) ∈ lv_args k (av.map (xcv ad)) := by
  intro av
  induction av with
  | nil => intro i k v h; simp [xargs] at h
  | cons a av ih =>
    intro i k v h
    cases a with
    | long x =>
      cases i with
      | zero => simp only [xargs, List.getElem?_cons_zero] at h; cases h; exact List.mem_cons_self
      | succ i => cases i with
        | zero => simp only [xargs, List.getElem?_cons_succ, List.getElem?_cons_zero] at h; cases h
        | succ i =>
          simp only [xargs, List.getElem?_cons_succ] at h
          have := ih i (k + 2) v h
          rw [show k + (i + 1 + 1) = k + 2 + i by omega]
          exact List.mem_cons_of_mem _ this
    | double x =>
      cases i with
      | zero => simp only [xargs, List.getElem?_cons_zero] at h; cases h; exact List.mem_cons_self
      | succ i => cases i with
        | zero => simp only [xargs, List.getElem?_cons_succ, List.getElem?_cons_zero] at h; cases h
        | succ i =>
          simp only [xargs, List.getElem?_cons_succ] at h
          have := ih i (k + 2) v h
          rw [show k + (i + 1 + 1) = k + 2 + i by omega]
          exact List.mem_cons_of_mem _ this
    | _ =>
      cases i with
      | zero => simp only [xargs, List.getElem?_cons_zero] at h; cases h; exact List.mem_cons_self
      | succ i =>
        simp only [xargs, List.getElem?_cons_succ] at h
        have := ih i (k + 1) v h
        rw [show k + (i + 1) = k + 1 + i by omega]
        exact List.mem_cons_of_mem _ this
theorem xargs_len {ad : Nat → Nat} : ∀ av : List Value, (lg_sl (av.map (xcv ad))).length = (xargs av).length := by
  intro av
  induction av with
  | nil => rfl
  | cons a av ih =>
    have e : lg_sl ((a :: av).map (xcv ad)) = (if (xcv ad a).category = 2 then [.val (xcv ad a), .second] else [.val (xcv ad a)]) ++ lg_sl (av.map (xcv ad)) := rfl
    rw [e, List.length_append, ih]
    cases a <;> simp [xcv, Value.category, xargs] <;> omega
theorem xLH_entry {ad : Nat → Nat} {n : Nat} {av : List Value} {l0 : XL} (h : xentry n av = some l0) :
    (lg_sl (av.map (xcv ad))).length ≤ n ∧ xLH ad ((lg_sl (av.map (xcv ad)) ++ List.replicate (n - (lg_sl (av.map (xcv ad))).length) Slot.unset).toArray) n l0 := by
  unfold xentry at h
  split at h
  · next hle =>
    cases h
    have hle' : (lg_sl (av.map (xcv ad))).length ≤ n := by rw [xargs_len]; exact hle
    have hv := lv_entry (av.map (xcv ad)) hle'
    refine ⟨hle', hv.1, hv.2.1, by rw [List.length_append, List.length_replicate]; omega, fun i v hi => ?_⟩
    refine hv.2.2 (i, xcv ad v) ?_
    by_cases hl : i < (xargs av).length
    · rw [List.getElem?_append_left hl] at hi
      have := xargs_mem (ad := ad) av i 0 v hi
      rw [Nat.zero_add] at this
      exact this
    · rw [List.getElem?_append_right (by omega), List.getElem?_replicate] at hi
      split at hi <;> cases hi
  · cases h
