/-! THE HEAP, AND THE WORLD BEHIND IT -/
abbrev xtys (tc : Nat → ClassId) : List (ClassId × FieldType) := [(tc 0, .int), (tc 1, .long), (tc 2, .boolean), (tc 3, .object "Kitwarden$Atom"), (tc 4, .object "Kitwarden$Span"), (tc 5, .object "java/lang/Object"), (tc 6, .object "KitwardenModel$Need"), (tc 7, .array .int)]
theorem xtys_at (tc : Nat → ClassId) : ∀ (t : Nat) (ty : FieldType), xty[t]? = some ty → (xtys tc)[t]? = some (tc t, ty) := by
  intro t ty h
  match t with
  | 0 => cases h; rfl
  | 1 => cases h; rfl
  | 2 => cases h; rfl
  | 3 => cases h; rfl
  | 4 => cases h; rfl
  | 5 => cases h; rfl
  | 6 => cases h; rfl
  | 7 => cases h; rfl
  | n + 8 => simp at h
def xcellAt (D : va_G) (tc : Nat → ClassId) (ad : Nat → Nat) (a : Nat) (c : (Nat × List Value) ⊕ (Nat × List Value)) (H : Heap) : Prop := match c with
  | .inl (ci, vs) => ∃ r : vw_C, vwCl[ci]? = some r ∧ vs.length = r.2.2 ∧ t_OB a (D.1 ci) r.2.2 (D.2 ci) H (fun k => xcv ad (vs.getD k .null))
  | .inr (t, vs) => (∃ ty, xty[t]? = some ty) ∧ H[a]? = some (arrV (tc t) vs.length (fun j => xcv ad (vs.getD j .null)))
theorem xcellAt.kept {D : va_G} {tc : Nat → ClassId} {ad : Nat → Nat} {a : Nat} {c : (Nat × List Value) ⊕ (Nat × List Value)} {H H1 : Heap} (h : xcellAt D tc ad a c H) (hq : H1[a]? = H[a]?) : xcellAt D tc ad a c H1 := by
  cases c with
  | inl o =>
    obtain ⟨r, h1, h2, h3⟩ := h
    exact ⟨r, h1, h2, h3.kept hq⟩
  | inr o => exact ⟨h.1, hq.trans h.2⟩
theorem xcellAt.lt {D : va_G} {tc : Nat → ClassId} {ad : Nat → Nat} {a : Nat} {c : (Nat × List Value) ⊕ (Nat × List Value)} {H : Heap} (h : xcellAt D tc ad a c H) : a < H.size := by
  cases c with
  | inl o =>
    obtain ⟨r, h1, h2, cell, h3, -⟩ := h
    exact (Array.getElem?_eq_some_iff.mp h3).1
  | inr o => exact (Array.getElem?_eq_some_iff.mp h.2).1
/-- the abstract heap h lies in H behind the cells of B, which are as they were -/
def xRp (D : va_G) (tc : Nat → ClassId) (b dA : Nat) (B : Heap) (h : XH) (H : Heap) : Prop :=
  2 ≤ h.length ∧ h[0]? = some none ∧ h[1]? = some none ∧ H.size + 2 = B.size + h.length ∧ (∀ q : Nat, q < B.size → H[q]? = B[q]?) ∧ ∀ (k : Nat) (c : (Nat × List Value) ⊕ (Nat × List Value)), h[k]? = some (some c) → xcellAt D tc (xad b dA B.size) (xad b dA B.size k) c H
section ZRP
variable {D : va_G} {tc : Nat → ClassId} {b dA : Nat} {B : Heap} {h : XH} {H : Heap}
theorem xRp.two (R : xRp D tc b dA B h H) {k : Nat} {c : (Nat × List Value) ⊕ (Nat × List Value)} (hk : h[k]? = some (some c)) : ∃ j, k = j + 2 := by
  match k with
  | 0 => rw [R.2.1] at hk; cases hk
  | 1 => rw [R.2.2.1] at hk; cases hk
  | j + 2 => exact ⟨j, rfl⟩
theorem xRp.new (R : xRp D tc b dA B h H) : xad b dA B.size h.length = H.size := by
  obtain ⟨h1, -, -, h2, -⟩ := R
  obtain ⟨j, hj⟩ : ∃ j, h.length = j + 2 := ⟨h.length - 2, by omega⟩
  rw [hj]
  show B.size + j = H.size
  omega
theorem xRp.cell (R : xRp D tc b dA B h H) {k : Nat} {c : (Nat × List Value) ⊕ (Nat × List Value)} (hk : h[k]? = some (some c)) : xcellAt D tc (xad b dA B.size) (xad b dA B.size k) c H := R.2.2.2.2.2 k c hk
theorem xRp.le (R : xRp D tc b dA B h H) : B.size ≤ H.size := by have h1 := R.1; have h2 := R.2.2.2.1; omega
theorem xRp.base (R : xRp D tc b dA B h H) {k : Nat} {c : (Nat × List Value) ⊕ (Nat × List Value)} (hk : h[k]? = some (some c)) : B.size ≤ xad b dA B.size k := by
  obtain ⟨j, rfl⟩ := R.two hk
  show B.size ≤ B.size + j
  omega
theorem xcell_at {h : XH} {k : Nat} {c : (Nat × List Value) ⊕ (Nat × List Value)} (hk : xcell h k = some c) : h[k]? = some (some c) := by
  unfold xcell at hk
  cases e : h[k]? with
  | none => rw [e] at hk; cases hk
  | some x => rw [e] at hk; cases hk; rfl
theorem xRp.set (R : xRp D tc b dA B h H) {k : Nat} {c c' : (Nat × List Value) ⊕ (Nat × List Value)} {H1 : Heap} (hk : h[k]? = some (some c)) (e : xcellAt D tc (xad b dA B.size) (xad b dA B.size k) c' H1) (z : H1.size = H.size) (oq : ∀ q : Nat, q ≠ xad b dA B.size k → H1[q]? = H[q]?) : xRp D tc b dA B (h.set k (some c')) H1 := by
  obtain ⟨j, rfl⟩ := R.two hk
  have hlt := (List.getElem?_eq_some_iff.mp hk).1
  refine ⟨by rw [List.length_set]; exact R.1, by rw [List.getElem?_set_ne (by omega)]; exact R.2.1, by rw [List.getElem?_set_ne (by omega)]; exact R.2.2.1, by rw [List.length_set, z]; exact R.2.2.2.1, fun q hq => ?_, fun i x hi => ?_⟩
  · rw [oq q (by show q ≠ B.size + j; omega)]
    exact R.2.2.2.2.1 q hq
  · by_cases hij : j + 2 = i
    · subst hij
      rw [List.getElem?_set_self hlt] at hi
      cases hi
      exact e
    · rw [List.getElem?_set_ne hij] at hi
      obtain ⟨i, rfl⟩ := R.two hi
      exact (R.cell hi).kept (oq _ (by show B.size + i ≠ B.size + j; omega))
theorem xRp.push (R : xRp D tc b dA B h H) {c : (Nat × List Value) ⊕ (Nat × List Value)} {H1 : Heap} (e : xcellAt D tc (xad b dA B.size) H.size c H1) (z : H1.size = H.size + 1) (oq : ∀ q : Nat, q < H.size → H1[q]? = H[q]?) : xRp D tc b dA B (h ++ [some c]) H1 := by
  have h1 := R.1
  refine ⟨by simp; omega, by rw [List.getElem?_append_left (by omega)]; exact R.2.1, by rw [List.getElem?_append_left (by omega)]; exact R.2.2.1, by have := R.2.2.2.1; simp; omega, fun q hq => ?_, fun i x hi => ?_⟩
  · rw [oq q (Nat.lt_of_lt_of_le hq R.le)]
    exact R.2.2.2.2.1 q hq
  · by_cases hl : i < h.length
    · rw [List.getElem?_append_left hl] at hi
      exact (R.cell hi).kept (oq _ (R.cell hi).lt)
    · rw [List.getElem?_append_right (by omega)] at hi
      have hz : i - h.length < 1 := (List.getElem?_eq_some_iff.mp hi).1
      have hi2 : i = h.length := by omega
      subst hi2
      rw [Nat.sub_self] at hi
      cases hi
      rw [R.new]
      exact e
theorem xRp.pushN (R : xRp D tc b dA B h H) {H1 : Heap} (z : H1.size = H.size + 1) (oq : ∀ q : Nat, q < H.size → H1[q]? = H[q]?) : xRp D tc b dA B (h ++ [none]) H1 := by
  have h1 := R.1
  refine ⟨by simp; omega, by rw [List.getElem?_append_left (by omega)]; exact R.2.1, by rw [List.getElem?_append_left (by omega)]; exact R.2.2.1, by have := R.2.2.2.1; simp; omega, fun q hq => ?_, fun i x hi => ?_⟩
  · rw [oq q (Nat.lt_of_lt_of_le hq R.le)]
    exact R.2.2.2.2.1 q hq
  · by_cases hl : i < h.length
    · rw [List.getElem?_append_left hl] at hi
      exact (R.cell hi).kept (oq _ (R.cell hi).lt)
    · rw [List.getElem?_append_right (by omega)] at hi
      have hz : i - h.length < 1 := (List.getElem?_eq_some_iff.mp hi).1
      have hi2 : i = h.length := by omega
      subst hi2
      rw [Nat.sub_self] at hi
      cases hi
end ZRP
/-- the world: classes, arrays' classes, nests, texts, statics, the script -/
def xG (D : va_G) (tc : Nat → ClassId) (b dA : Nat) (sc : Nat × (Nat → Int32)) (B : Heap) (s : State) : Prop :=
  va_K D vwCl (xtys tc) s ∧ kwF s ∧ kwH dA (fun q => B.size ≤ q) s s.heap ∧ va_X b sc.1 sc.2 s s.heap ∧ b < B.size ∧ dA < B.size ∧ (∀ q : Nat, q < B.size → s.heap[q]? = B[q]?) ∧ B.size ≤ s.heap.size
theorem xG.at {D : va_G} {tc : Nat → ClassId} {b dA : Nat} {sc : Nat × (Nat → Int32)} {B : Heap} {s U : State} {h : XH} {H : Heap} (G : xG D tc b dA sc B s) (R : xRp D tc b dA B h H) (hU : U.heap = H) (hW : s.WarmedH U.vm) : xG D tc b dA sc B U := by
  obtain ⟨g1, g2, g3, g4, g5, g6, g7, g8⟩ := G
  have hk : ∀ q : Nat, q < B.size → H[q]? = s.heap[q]? := fun q hq => (R.2.2.2.2.1 q hq).trans (g7 q hq).symm
  refine ⟨va_K.moved hW.alike g1, kwF.warm hW g2, ?_, ?_, g5, g6, fun q hq => by rw [hU]; exact R.2.2.2.2.1 q hq, by rw [hU]; exact R.le⟩
  · rw [hU]
    exact kwH.moved hW.alike (g3.kept fun a ha hn => hk a (Nat.not_le.mp hn))
  · rw [hU]
    exact va_X.moved hW.alike (va_X.kept g4 (hk b g5))
theorem xG.calling {D : va_G} {tc : Nat → ClassId} {b dA : Nat} {sc : Nat × (Nat → Int32)} {B : Heap} {U : State} {g : JFrame} {mk : MethodId} {a : Array Value} (G : xG D tc b dA sc B U) : xG D tc b dA sc B (U.calling g mk a) := by
  obtain ⟨g1, g2, g3, g4, g5, g6, g7, g8⟩ := G
  exact ⟨va_K.moved (u := U) (U := U.calling g mk a) (Vm.Alike.refl U.vm) g1, kwF.same (u := U) (U := U.calling g mk a) rfl g2, kwH.moved (u := U) (U := U.calling g mk a) (Vm.Alike.refl U.vm) g3, va_X.moved (u := U) (U := U.calling g mk a) (Vm.Alike.refl U.vm) g4, g5, g6, g7, g8⟩
theorem xRp.S {D : va_G} {tc : Nat → ClassId} {b dA : Nat} {sc : Nat × (Nat → Int32)} {B : Heap} {s : State} {h : XH} {H : Heap} {locs : List Loc} (G : xG D tc b dA sc B s) (R : xRp D tc b dA B h H) (hs : s.heap.size ≤ H.size) (hl : ∀ q ∈ locs, B.size ≤ q.base) : va_S (fun q => B.size ≤ q) s.heap H locs :=
  ⟨hs, fun q h1 h2 => (R.2.2.2.2.1 q (Nat.not_le.mp h2)).trans (G.2.2.2.2.2.2.1 q (Nat.not_le.mp h2)).symm, hl⟩
