/-! WHAT SYMBOLS STAND FOR -/
def ssh (xs : Nat → Int32) (j : Nat) : Int32 := ((xs (j / 4)).toUInt32 >>> ((Int32.ofNat (8 * (j % 4))).toUInt32 &&& Int32.toUInt32 31)).toInt32
def srho (xs : Nat → Int32) (k : Nat) : Int32 := if k < 6 then xs k else if k = 6 then xs 0 &&& 63 else if k < 1000 then ssh xs (k - 100) &&& 255 else ssh xs (k - 1000)
section SD
variable (ro : Nat → Int32)
def scnt (zs : List Nat) : Nat := zs.countP fun z => decide (¬ ro z = 0)
def slin (c : Nat) (zs : List Nat) : Int32 := Int32.ofNat (c + scnt ro zs)
def sden : SV → Value
  | .inl v => v
  | .inr (0, k, _) => .int (ro k)
  | .inr (1, c, zs) => .int (slin ro c zs)
  | .inr (_, c, zs) => .long (slin ro c zs).toInt64
def sdl (ls : List (Option SV)) : XL := ls.map (Option.map (sden ro))
def sds (st : List SV) : List Value := st.map (sden ro)
def sdf (f : SF) : XF := (f.1, f.2.1, sdl ro f.2.2.2.1, sds ro f.2.2.2.2)
/-- the bounds hold -/
def SEV (e : SE) : Prop := ∀ k, (senv e k).1 ≤ bia (ro k) ∧ bia (ro k) ≤ (senv e k).2
def SCR : SCell → (Nat × List Value) ⊕ (Nat × List Value) → Prop
  | .inl (c, row), .inl (c2, vs) => c2 = c ∧ ∀ i v, rget row i = some v → vs[i]? = some (sden ro v)
  | .inr (t, len, d, es, kn), .inr (t2, vs) => t2 = t ∧ vs.length = len ∧ (kn = true → ∀ i, i < len → vs[i]? = some (sden ro (sfind es i d)))
  | _, _ => False
/-- what is told of the heap -/
def SHR (h : SH) (n sl : Nat) (H : XH) : Prop := H.length = n ∧ xhs H ≤ sl ∧ H[0]? = some none ∧ 1 < n ∧ ∀ k c, hget h k = some c → ∃ C, H[k]? = some (some C) ∧ SCR ro c C
end SD
section SL
variable {ro : Nat → Int32}
theorem sden_c (c : Nat) : sden ro (.inr (1, c, [])) = .int (Int32.ofNat c) := rfl
theorem sden_i (x : Int32) : sden ro (.inr (1, x.toUInt32.toNat, [])) = .int x := congrArg Value.int (i32_back x)
theorem sden_l (x : Int64) : sden ro (.inl (.long (Int64.ofNat x.toUInt64.toNat))) = .long x := congrArg Value.long (i64_back x)
theorem sden_norm (v : Value) : sden ro (snorm v) = v := by
  cases v with
  | int x => exact sden_i x
  | _ => rfl
theorem skd_0 {v : SV} (h : skd v = 0) : ∃ x, sden ro v = .int x := by
  match v, h with
  | .inr (0, k, _), _ => exact ⟨_, rfl⟩
  | .inr (1, c, zs), _ => exact ⟨_, rfl⟩
theorem skd_1 {v : SV} (h : skd v = 1) : ∃ x, sden ro v = .long x := by
  match v, h with
  | .inl (.long x), _ => exact ⟨_, rfl⟩
  | .inr (k + 2, c, zs), _ => exact ⟨_, rfl⟩
theorem skd_2 {v : SV} (h : skd v = 2) : sden ro v = .null ∨ ∃ a, sden ro v = .ref a := by
  match v, h with
  | .inl .null, _ => exact Or.inl rfl
  | .inl (.ref a), _ => exact Or.inr ⟨_, rfl⟩
  | .inr (0, _, _), h => cases h
  | .inr (1, _, _), h => cases h
  | .inr (k + 2, _, _), h => cases h
theorem skd_3 {v : SV} (h : skd v = 3) : ∃ x, sden ro v = .float x := by
  match v, h with
  | .inl (.float x), _ => exact ⟨_, rfl⟩
  | .inr (0, _, _), h => cases h
  | .inr (1, _, _), h => cases h
  | .inr (k + 2, _, _), h => cases h
theorem skd_4 {v : SV} (h : skd v = 4) : ∃ x, sden ro v = .double x := by
  match v, h with
  | .inl (.double x), _ => exact ⟨_, rfl⟩
  | .inr (0, _, _), h => cases h
  | .inr (1, _, _), h => cases h
  | .inr (k + 2, _, _), h => cases h
theorem swide_spec (v : SV) : (sden ro v).category = cond (swide v) 2 1 := by
  match v with
  | .inl (.int _) => rfl
  | .inl (.long _) => rfl
  | .inl .null => rfl
  | .inl (.ref _) => rfl
  | .inl (.float _) => rfl
  | .inl (.double _) => rfl
  | .inl (.retAddr _) => rfl
  | .inr (0, _, _) => rfl
  | .inr (1, _, _) => rfl
  | .inr (k + 2, _, _) => rfl
theorem swide_t {v : SV} (h : swide v = true) : (∃ x, sden ro v = .long x) ∨ ∃ x, sden ro v = .double x := by
  unfold swide at h
  split at h
  · next z => exact Or.inl (skd_1 z)
  · next z => exact Or.inr (skd_4 z)
  · cases h
theorem swide_f {v : SV} (h : swide v = false) : (sden ro v).category = 1 := by rw [swide_spec, h]; rfl
theorem ssum_spec (st : List SV) : xsum (sds ro st) = ssum st := by
  induction st with
  | nil => rfl
  | cons v t ih =>
    have e : xsum (sds ro (v :: t)) = (sden ro v).category + xsum (sds ro t) := by
      show ((sden ro v :: t.map (sden ro)).map fun v => v.category).sum = _
      rw [List.map_cons, List.sum_cons]
      rfl
    rw [e, ih, swide_spec]
    rfl
theorem sdl_get {ls : List (Option SV)} {k : Nat} {o : Option SV} (h : lget ls k = some o) : (sdl ro ls)[k]? = some (o.map (sden ro)) := by
  rw [lget_eq] at h
  unfold sdl
  rw [List.getElem?_map, h]
  rfl
theorem sdl_xget {ls : List (Option SV)} {k : Nat} {v : SV} (h : lget ls k = some (some v)) : xget (sdl ro ls) k = some (sden ro v) := by
  unfold xget
  rw [sdl_get h]
  rfl
theorem sdl_len (ls : List (Option SV)) : (sdl ro ls).length = ls.length := List.length_map ..
theorem sdl_set (ls : List (Option SV)) (k : Nat) (o : Option SV) : sdl ro (ls.set k o) = (sdl ro ls).set k (o.map (sden ro)) := List.map_set ..
theorem lget_lt {α : Type} {l : List α} {k : Nat} {v : α} (h : lget l k = some v) : k < l.length := by
  rw [lget_eq] at h
  exact (List.getElem?_eq_some_iff.mp h).1
theorem sclr_ok {β : Type} {T : β → Prop} {ls : List (Option SV)} {i : Nat} {f : List (Option SV) → β} (h : T (sclrK ls i f)) : ∃ l1, sdl ro l1 = xclr (sdl ro ls) i ∧ l1.length = ls.length ∧ T (f l1) := by
  cases i with
  | zero => exact ⟨ls, rfl, rfl, h⟩
  | succ j =>
    have h : T (match lget ls j with
      | some (some v) => cond (swide v) (lsetK ls j none f) (f ls)
      | _ => f ls) := h
    unfold xclr
    dsimp only
    split at h
    · next v hv =>
      rw [sdl_get hv]
      cases hw : swide v with
      | true =>
        rw [hw] at h
        have h : T (lsetK ls j none f) := h
        rw [lsetK_eq] at h
        refine ⟨_, ?_, List.length_set .., h⟩
        rw [sdl_set]
        rcases swide_t (ro := ro) hw with ⟨x, hx⟩ | ⟨x, hx⟩
        · rw [Option.map_some, hx]; rfl
        · rw [Option.map_some, hx]; rfl
      | false =>
        rw [hw] at h
        refine ⟨ls, ?_, rfl, h⟩
        have hc := swide_f (ro := ro) hw
        rw [Option.map_some]
        cases hd : sden ro v with
        | long x => rw [hd] at hc; cases hc
        | double x => rw [hd] at hc; cases hc
        | _ => rfl
    · next hn =>
      refine ⟨ls, ?_, rfl, h⟩
      cases hq : lget ls j with
      | none =>
        have : (sdl ro ls)[j]? = none := by
          rw [lget_eq] at hq
          unfold sdl
          rw [List.getElem?_map, hq]
          rfl
        rw [this]
      | some o =>
        cases o with
        | none => rw [sdl_get hq]; rfl
        | some v => exact absurd hq (hn v)
theorem sput1_ok {β : Type} {T : β → Prop} {ls : List (Option SV)} {i : Nat} {v : SV} {f : List (Option SV) → β} (h : T (sput1K ls i v f)) : ∃ l1, sdl ro l1 = xput1 (sdl ro ls) i (sden ro v) ∧ T (f l1) := by
  obtain ⟨l1, e, -, h⟩ := sclr_ok (ro := ro) (f := fun l1 => lsetK l1 i (some v) f) h
  rw [lsetK_eq] at h
  refine ⟨_, ?_, h⟩
  rw [sdl_set, e]
  rfl
theorem sput2_ok {β : Type} {T : β → Prop} {ls : List (Option SV)} {i : Nat} {v : SV} {f : List (Option SV) → β} (h : T (sput2K ls i v f)) : ∃ l1, sdl ro l1 = xput2 (sdl ro ls) i (sden ro v) ∧ T (f l1) := by
  obtain ⟨l1, e, -, h⟩ := sclr_ok (ro := ro) (f := fun l1 => lsetK l1 i (some v) fun l2 => lsetK l2 (i + 1) none f) h
  rw [lsetK_eq, lsetK_eq] at h
  refine ⟨_, ?_, h⟩
  rw [sdl_set, sdl_set, e]
  rfl
theorem sxok_spec {ty : FieldType} {v : SV} (h : sxok ty v = true) : xok ty (sden ro v) = true := by
  unfold sxok at h
  split at h
  · next c =>
    rw [Bool.or_eq_true] at h
    rcases h with h | h
    · cases Nat.eq_of_beq_eq_true h; rfl
    · cases Nat.eq_of_beq_eq_true h; rfl
  · obtain ⟨x, hx⟩ := skd_0 (ro := ro) (Nat.eq_of_beq_eq_true h)
    rw [hx]; rfl
  · obtain ⟨x, hx⟩ := skd_1 (ro := ro) (Nat.eq_of_beq_eq_true h)
    rw [hx]; rfl
  · rcases skd_2 (ro := ro) (Nat.eq_of_beq_eq_true h) with hx | ⟨x, hx⟩ <;> (rw [hx]; rfl)
  · rcases skd_2 (ro := ro) (Nat.eq_of_beq_eq_true h) with hx | ⟨x, hx⟩ <;> (rw [hx]; rfl)
  · cases h
theorem sxokr_spec {ty : Option FieldType} {v : Option SV} (h : sxokr ty v = true) : xokr ty (v.map (sden ro)) = true := by
  cases ty with
  | none =>
    cases v with
    | none => rfl
    | some v => cases h
  | some t =>
    cases v with
    | none => cases t <;> cases h
    | some v =>
      cases t with
      | float =>
        obtain ⟨x, hx⟩ := skd_3 (ro := ro) (Nat.eq_of_beq_eq_true h)
        rw [Option.map_some, hx]; rfl
      | double =>
        obtain ⟨x, hx⟩ := skd_4 (ro := ro) (Nat.eq_of_beq_eq_true h)
        rw [Option.map_some, hx]; rfl
      | int =>
        obtain ⟨x, hx⟩ := skd_0 (ro := ro) (Nat.eq_of_beq_eq_true h)
        rw [Option.map_some, hx]; rfl
      | boolean => exact sxok_spec (ro := ro) (ty := .boolean) h
      | long => exact sxok_spec (ro := ro) (ty := .long) h
      | byte => cases h
      | char => cases h
      | short => cases h
      | object c => exact sxok_spec (ro := ro) (ty := .object c) h
      | array c => exact sxok_spec (ro := ro) (ty := .array c) h
theorem seqd_spec {v d : SV} (h : seqd v d = true) : sden ro v = sden ro d := by
  unfold seqd at h
  split at h
  · cases Nat.eq_of_beq_eq_true h; rfl
  · rfl
  · cases i64_ext (Nat.eq_of_beq_eq_true h); rfl
  · cases h
end SL
