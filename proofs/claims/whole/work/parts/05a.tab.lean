/-! TABLES: code and pool entries by two steps of bounds -/
abbrev XT (α : Type) : Type := List (Nat × List (Nat × α))
def xfind1 {α : Type} : List (Nat × α) → Nat → Option α
  | [], _ => none
  | (k, a) :: t, n => bif Nat.beq k n then some a else xfind1 t n
def xfind {α : Type} : XT α → Nat → Option α
  | [], _ => none
  | (u, b) :: t, n => bif Nat.blt n u then xfind1 b n else xfind t n
theorem xfind1_mem {α : Type} : ∀ (l : List (Nat × α)) (n : Nat) (a : α), xfind1 l n = some a → (n, a) ∈ l := by
  intro l
  induction l with
  | nil => intro n a h; cases h
  | cons q t ih =>
    intro n a h
    obtain ⟨k, x⟩ := q
    unfold xfind1 at h
    cases e : Nat.beq k n with
    | true =>
      rw [e] at h
      cases h
      cases Nat.eq_of_beq_eq_true e
      exact List.mem_cons_self
    | false =>
      rw [e] at h
      exact List.mem_cons_of_mem _ (ih n a h)
theorem xfind_mem {α : Type} : ∀ (l : XT α) (n : Nat) (a : α), xfind l n = some a → ∃ b ∈ l, (n, a) ∈ b.2 := by
  intro l
  induction l with
  | nil => intro n a h; cases h
  | cons q t ih =>
    intro n a h
    obtain ⟨u, b⟩ := q
    unfold xfind at h
    cases e : Nat.blt n u with
    | true =>
      rw [e] at h
      exact ⟨_, List.mem_cons_self, xfind1_mem b n a h⟩
    | false =>
      rw [e] at h
      obtain ⟨b2, h1, h2⟩ := ih n a h
      exact ⟨b2, List.mem_cons_of_mem _ h1, h2⟩
def xchk (b : ByteArray) (t : XT (Instr × Nat)) : Bool := t.all fun q => q.2.all fun r => decide (decode b r.1 = .ok (r.2.1, r.2.2)) && xlen r.2.1 r.2.2
def xchk1 (b : ByteArray) (t : List (Nat × Instr × Nat)) : Bool := t.all fun r => decide (decode b r.1 = .ok (r.2.1, r.2.2)) && xlen r.2.1 r.2.2
theorem xchk_nil {b : ByteArray} : xchk b [] = true := rfl
theorem xchk_cons {b : ByteArray} {u : Nat} {k : List (Nat × Instr × Nat)} {t : XT (Instr × Nat)} (h1 : xchk1 b k = true) (h2 : xchk b t = true) : xchk b ((u, k) :: t) = true := by
  show (xchk1 b k && xchk b t) = true
  rw [h1, h2]
  rfl
theorem xchk_at {b : ByteArray} {t : XT (Instr × Nat)} (h : xchk b t = true) {pc : Nat} {i : Instr} {n : Nat} (hf : xfind t pc = some (i, n)) : decode b pc = .ok (i, n) ∧ xlen i n = true := by
  obtain ⟨q, h1, h2⟩ := xfind_mem t pc (i, n) hf
  have h3 := List.all_eq_true.mp (List.all_eq_true.mp h q h1) _ h2
  simp only [Bool.and_eq_true, decide_eq_true_eq] at h3
  exact h3
/-- a method, its code, its pool -/
abbrev XRec : Type := XM × XT (Instr × Nat) × XT XS
abbrev XRecs : Type := XT XRec
def xPof (R : XRecs) (nw : List (List Value)) : XP :=
  (fun mi pc => match xfind R mi with
    | some r => (xfind r.2.1 pc).map Prod.fst
    | none => none,
   fun mi idx => match xfind R mi with
    | some r => xfind r.2.2 idx
    | none => none,
   fun mi => (xfind R mi).map Prod.fst,
   fun ci => nw[ci]?)
def xRecOK (P : XP) (r : XRec) : Prop := plainFor r.1.y = true ∧ r.1.y.cls = r.1.own ∧ xchk r.1.bytes r.2.1 = true ∧ ∀ b ∈ r.2.2, ∀ q ∈ b.2, xSiteOK P r.1 q.1 q.2
theorem xTabOK_of {R : XRecs} {nw : List (List Value)} (h : ∀ b ∈ R, ∀ q ∈ b.2, xRecOK (xPof R nw) q.2) : xTabOK (xPof R nw) := by
  intro mi M hM
  have hM : (xfind R mi).map Prod.fst = some M := hM
  cases hr : xfind R mi with
  | none => rw [hr] at hM; cases hM
  | some r =>
    rw [hr] at hM
    cases hM
    obtain ⟨b, h1, h2⟩ := xfind_mem R mi r hr
    obtain ⟨k1, k2, k3, k4⟩ := h b h1 _ h2
    refine ⟨k1, k2, fun pc i hi => ?_, fun idx S hS => ?_⟩
    · have hi : (match xfind R mi with
        | some r => (xfind r.2.1 pc).map Prod.fst
        | none => none) = some i := hi
      rw [hr] at hi
      cases hq : xfind r.2.1 pc with
      | none => dsimp only at hi; rw [hq] at hi; cases hi
      | some q =>
        dsimp only at hi
        rw [hq] at hi
        cases hi
        exact ⟨q.2, xchk_at k3 hq⟩
    · have hS : (match xfind R mi with
        | some r => xfind r.2.2 idx
        | none => none) = some S := hS
      rw [hr] at hS
      obtain ⟨b2, g1, g2⟩ := xfind_mem _ _ _ hS
      exact k4 b2 g1 _ g2
theorem xall_nil {α : Type} {p : α → Prop} : ∀ x ∈ ([] : List α), p x := fun x h => by cases h
theorem xall_cons {α : Type} {p : α → Prop} {a : α} {l : List α} (h : p a) (t : ∀ x ∈ l, p x) : ∀ x ∈ a :: l, p x := fun x hx => (List.mem_cons.mp hx).elim (fun e => by rw [e]; exact h) (t x)
/-- the dues of an entry of one kind -/
theorem xso {P : XP} {M : XM} {idx k a b : Nat} {ty : FieldType} {v : Value} (h : (k = 0 → xFldOK M idx a b ty (∃ z, v = .ref z)) ∧ (k = 1 → ∃ M2, P.meth a = some M2 ∧ M2.maxL ≤ 39 ∧ xCallOK M M2 idx b) ∧
  (k = 2 → ∀ fs, P.news a = some fs → xNewOK M idx a fs) ∧
  (k = 3 → (∃ C, xty[a]? = some (.object C) ∧ Cond.classLink M.own (idx - 100000) C ∈ wsK ∧ ∀ U, kwF U → va_AO C U) ∨ (a = 7 ∧ Cond.classLink M.own (idx - 100000) (FieldType.array .int).toString ∈ wsK ∧ ∀ U, kwF U → va_AOA U)) ∧
  (k = 4 → (∀ z, v = .int z → Cond.constant M.own idx z ∈ wsK) ∧ (∀ z, v = .long z → Cond.constantLong M.own idx z ∈ wsK)) ∧
  (k = 5 → xThrowOK M idx b a) ∧
  (k = 6 → ∃ text, ∀ U, kwF U → ∃ sa, vk_R M.own idx text sa U) ∧
  (k = 7 → Cond.methodLink M.own idx objectInit ∈ wsK ∧ Cond.instanceMethod objectInit ∈ wsK ∧ Cond.code objectInit ⟨#[0xb1]⟩ 1 none ∈ wsK) ∧
  (k = 8 → Cond.fieldLink M.own idx "java/util/ArrayList" "DEFAULTCAPACITY_EMPTY_ELEMENTDATA" "[Ljava/lang/Object;" ∈ wsK) ∧
  (k = 9 → ∃ r, vwCl[a]? = some r ∧ Cond.classLink M.own (idx - 200000) r.1 ∈ wsK) ∧
  (k = 10 → Cond.methodLink M.own idx arraycopyName ∈ wsK ∧ Cond.native arraycopyName ∈ wsK ∧ Cond.static arraycopyName ∈ wsK ∧ Cond.initialized "java/lang/System" ∈ wsK) ∧
  (k = 11 → ¬ idx - 300000 = 0 ∧ a < 4 ∧ Cond.classLink M.own (idx - 300000) (xname a) ∈ wsK)) : xSiteOK P M idx (k, a, b, ty, v) := h
theorem xso0 {P : XP} {M : XM} {idx a b : Nat} {ty : FieldType} {v : Value} (h : xFldOK M idx a b ty (∃ z, v = .ref z)) : xSiteOK P M idx (0, a, b, ty, v) := xso ⟨fun _ => h, fun z => absurd z (by decide), fun z => absurd z (by decide), fun z => absurd z (by decide), fun z => absurd z (by decide), fun z => absurd z (by decide), fun z => absurd z (by decide), fun z => absurd z (by decide), fun z => absurd z (by decide), fun z => absurd z (by decide), fun z => absurd z (by decide), fun z => absurd z (by decide)⟩
theorem xso1 {P : XP} {M : XM} {idx a b : Nat} {ty : FieldType} {v : Value} (h : ∃ M2, P.meth a = some M2 ∧ M2.maxL ≤ 39 ∧ xCallOK M M2 idx b) : xSiteOK P M idx (1, a, b, ty, v) := xso ⟨fun z => absurd z (by decide), fun _ => h, fun z => absurd z (by decide), fun z => absurd z (by decide), fun z => absurd z (by decide), fun z => absurd z (by decide), fun z => absurd z (by decide), fun z => absurd z (by decide), fun z => absurd z (by decide), fun z => absurd z (by decide), fun z => absurd z (by decide), fun z => absurd z (by decide)⟩
theorem xso2 {P : XP} {M : XM} {idx a b : Nat} {ty : FieldType} {v : Value} (h : ∀ fs, P.news a = some fs → xNewOK M idx a fs) : xSiteOK P M idx (2, a, b, ty, v) := xso ⟨fun z => absurd z (by decide), fun z => absurd z (by decide), fun _ => h, fun z => absurd z (by decide), fun z => absurd z (by decide), fun z => absurd z (by decide), fun z => absurd z (by decide), fun z => absurd z (by decide), fun z => absurd z (by decide), fun z => absurd z (by decide), fun z => absurd z (by decide), fun z => absurd z (by decide)⟩
theorem xso3 {P : XP} {M : XM} {idx a b : Nat} {ty : FieldType} {v : Value} (h : (∃ C, xty[a]? = some (.object C) ∧ Cond.classLink M.own (idx - 100000) C ∈ wsK ∧ ∀ U, kwF U → va_AO C U) ∨ (a = 7 ∧ Cond.classLink M.own (idx - 100000) (FieldType.array .int).toString ∈ wsK ∧ ∀ U, kwF U → va_AOA U)) : xSiteOK P M idx (3, a, b, ty, v) := xso ⟨fun z => absurd z (by decide), fun z => absurd z (by decide), fun z => absurd z (by decide), fun _ => h, fun z => absurd z (by decide), fun z => absurd z (by decide), fun z => absurd z (by decide), fun z => absurd z (by decide), fun z => absurd z (by decide), fun z => absurd z (by decide), fun z => absurd z (by decide), fun z => absurd z (by decide)⟩
theorem xso4 {P : XP} {M : XM} {idx a b : Nat} {ty : FieldType} {v : Value} (h : (∀ z, v = .int z → Cond.constant M.own idx z ∈ wsK) ∧ (∀ z, v = .long z → Cond.constantLong M.own idx z ∈ wsK)) : xSiteOK P M idx (4, a, b, ty, v) := xso ⟨fun z => absurd z (by decide), fun z => absurd z (by decide), fun z => absurd z (by decide), fun z => absurd z (by decide), fun _ => h, fun z => absurd z (by decide), fun z => absurd z (by decide), fun z => absurd z (by decide), fun z => absurd z (by decide), fun z => absurd z (by decide), fun z => absurd z (by decide), fun z => absurd z (by decide)⟩
theorem xso5 {P : XP} {M : XM} {idx a b : Nat} {ty : FieldType} {v : Value} (h : xThrowOK M idx b a) : xSiteOK P M idx (5, a, b, ty, v) := xso ⟨fun z => absurd z (by decide), fun z => absurd z (by decide), fun z => absurd z (by decide), fun z => absurd z (by decide), fun z => absurd z (by decide), fun _ => h, fun z => absurd z (by decide), fun z => absurd z (by decide), fun z => absurd z (by decide), fun z => absurd z (by decide), fun z => absurd z (by decide), fun z => absurd z (by decide)⟩
theorem xso6 {P : XP} {M : XM} {idx a b : Nat} {ty : FieldType} {v : Value} (h : ∃ text, ∀ U, kwF U → ∃ sa, vk_R M.own idx text sa U) : xSiteOK P M idx (6, a, b, ty, v) := xso ⟨fun z => absurd z (by decide), fun z => absurd z (by decide), fun z => absurd z (by decide), fun z => absurd z (by decide), fun z => absurd z (by decide), fun z => absurd z (by decide), fun _ => h, fun z => absurd z (by decide), fun z => absurd z (by decide), fun z => absurd z (by decide), fun z => absurd z (by decide), fun z => absurd z (by decide)⟩
theorem xso7 {P : XP} {M : XM} {idx a b : Nat} {ty : FieldType} {v : Value} (h : Cond.methodLink M.own idx objectInit ∈ wsK ∧ Cond.instanceMethod objectInit ∈ wsK ∧ Cond.code objectInit ⟨#[0xb1]⟩ 1 none ∈ wsK) : xSiteOK P M idx (7, a, b, ty, v) := xso ⟨fun z => absurd z (by decide), fun z => absurd z (by decide), fun z => absurd z (by decide), fun z => absurd z (by decide), fun z => absurd z (by decide), fun z => absurd z (by decide), fun z => absurd z (by decide), fun _ => h, fun z => absurd z (by decide), fun z => absurd z (by decide), fun z => absurd z (by decide), fun z => absurd z (by decide)⟩
theorem xso8 {P : XP} {M : XM} {idx a b : Nat} {ty : FieldType} {v : Value} (h : Cond.fieldLink M.own idx "java/util/ArrayList" "DEFAULTCAPACITY_EMPTY_ELEMENTDATA" "[Ljava/lang/Object;" ∈ wsK) : xSiteOK P M idx (8, a, b, ty, v) := xso ⟨fun z => absurd z (by decide), fun z => absurd z (by decide), fun z => absurd z (by decide), fun z => absurd z (by decide), fun z => absurd z (by decide), fun z => absurd z (by decide), fun z => absurd z (by decide), fun z => absurd z (by decide), fun _ => h, fun z => absurd z (by decide), fun z => absurd z (by decide), fun z => absurd z (by decide)⟩
theorem xso9 {P : XP} {M : XM} {idx a b : Nat} {ty : FieldType} {v : Value} (h : ∃ r, vwCl[a]? = some r ∧ Cond.classLink M.own (idx - 200000) r.1 ∈ wsK) : xSiteOK P M idx (9, a, b, ty, v) := xso ⟨fun z => absurd z (by decide), fun z => absurd z (by decide), fun z => absurd z (by decide), fun z => absurd z (by decide), fun z => absurd z (by decide), fun z => absurd z (by decide), fun z => absurd z (by decide), fun z => absurd z (by decide), fun z => absurd z (by decide), fun _ => h, fun z => absurd z (by decide), fun z => absurd z (by decide)⟩
theorem xso10 {P : XP} {M : XM} {idx a b : Nat} {ty : FieldType} {v : Value} (h : Cond.methodLink M.own idx arraycopyName ∈ wsK ∧ Cond.native arraycopyName ∈ wsK ∧ Cond.static arraycopyName ∈ wsK ∧ Cond.initialized "java/lang/System" ∈ wsK) : xSiteOK P M idx (10, a, b, ty, v) := xso ⟨fun z => absurd z (by decide), fun z => absurd z (by decide), fun z => absurd z (by decide), fun z => absurd z (by decide), fun z => absurd z (by decide), fun z => absurd z (by decide), fun z => absurd z (by decide), fun z => absurd z (by decide), fun z => absurd z (by decide), fun z => absurd z (by decide), fun _ => h, fun z => absurd z (by decide)⟩
theorem xso11 {P : XP} {M : XM} {idx a b : Nat} {ty : FieldType} {v : Value} (h : ¬ idx - 300000 = 0 ∧ a < 4 ∧ Cond.classLink M.own (idx - 300000) (xname a) ∈ wsK) : xSiteOK P M idx (11, a, b, ty, v) := xso ⟨fun z => absurd z (by decide), fun z => absurd z (by decide), fun z => absurd z (by decide), fun z => absurd z (by decide), fun z => absurd z (by decide), fun z => absurd z (by decide), fun z => absurd z (by decide), fun z => absurd z (by decide), fun z => absurd z (by decide), fun z => absurd z (by decide), fun z => absurd z (by decide), fun _ => h⟩
