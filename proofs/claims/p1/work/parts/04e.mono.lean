/-! THE HEAP GROWS -/
def xcs : XC → Nat
  | none => 6
  | some (.inl o) => o.2.length
  | some (.inr o) => o.2.length
def xhs (h : XH) : Nat := (h.map xcs).sum
def xle (h h1 : XH) : Prop := h.length ≤ h1.length ∧ xhs h ≤ xhs h1
theorem xle.rf {h : XH} : xle h h := ⟨Nat.le_refl _, Nat.le_refl _⟩
theorem xle.tr {h h1 h2 : XH} (a : xle h h1) (b : xle h1 h2) : xle h h2 := ⟨Nat.le_trans a.1 b.1, Nat.le_trans a.2 b.2⟩
theorem xhs_set : ∀ (h : XH) (k : Nat) (c c' : XC), h[k]? = some c → xcs c' = xcs c → xhs (h.set k c') = xhs h := by
  intro h
  induction h with
  | nil => intro k c c' hk; simp at hk
  | cons a h ih =>
    intro k c c' hk e
    cases k with
    | zero =>
      rw [List.getElem?_cons_zero] at hk
      cases hk
      show xcs c' + xhs h = xcs a + xhs h
      rw [e]
    | succ k =>
      rw [List.getElem?_cons_succ] at hk
      show xcs a + xhs (h.set k c') = xcs a + xhs h
      rw [ih k c c' hk e]
theorem xhs_app (h : XH) (c : XC) : xhs (h ++ [c]) = xhs h + xcs c := by simp [xhs]
theorem xle.set {h : XH} {k : Nat} {c c' : XC} (hk : h[k]? = some c) (e : xcs c' = xcs c) : xle h (h.set k c') := ⟨by rw [List.length_set]; exact Nat.le_refl _, by rw [xhs_set h k c c' hk e]; exact Nat.le_refl _⟩
theorem xle.app {h : XH} {c : XC} : xle h (h ++ [c]) := ⟨by simp, by rw [xhs_app]; omega⟩
def xkeep (h : XH) (r : Option XR) : Prop := match r with
  | some (.inl q) => xle h q.2.2.2
  | _ => True
theorem xkeep_nx {h h1 : XH} {pc : Nat} {ls : XL} {st : List Value} (e : xle h h1) : xkeep h (xnx pc ls st h1) := e
theorem xkeep_no {h : XH} : xkeep h none := trivial
theorem xkeep_jmp {h h1 : XH} {pc : Nat} {off : Int} {ls : XL} {st : List Value} (e : xle h h1) : xkeep h (xjmp pc off ls st h1) := by
  unfold xjmp
  split
  · exact e
  · trivial
theorem xkeep_br {h h1 : XH} {b : Bool} {pc : Nat} {off : Int} {ls : XL} {st : List Value} (e : xle h h1) : xkeep h (xbr b pc off ls st h1) := by
  unfold xbr
  split
  · cases b
    · exact e
    · exact e
  · trivial
theorem xkeep_1i {h : XH} {st : List Value} {f : Int32 → List Value → Option XR} (k : ∀ x r, xkeep h (f x r)) : xkeep h (x1i st f) := by unfold x1i; split; exact k _ _; trivial
theorem xkeep_2i {h : XH} {st : List Value} {f : Int32 → Int32 → List Value → Option XR} (k : ∀ x y r, xkeep h (f x y r)) : xkeep h (x2i st f) := by unfold x2i; split; exact k _ _ _; trivial
theorem xkeep_1l {h : XH} {st : List Value} {f : Int64 → List Value → Option XR} (k : ∀ x r, xkeep h (f x r)) : xkeep h (x1l st f) := by unfold x1l; split; exact k _ _; trivial
theorem xkeep_2l {h : XH} {st : List Value} {f : Int64 → Int64 → List Value → Option XR} (k : ∀ x y r, xkeep h (f x y r)) : xkeep h (x2l st f) := by unfold x2l; split; exact k _ _ _; trivial
theorem xkeep_li {h : XH} {st : List Value} {f : Int64 → Int32 → List Value → Option XR} (k : ∀ x y r, xkeep h (f x y r)) : xkeep h (xli st f) := by unfold xli; split; exact k _ _ _; trivial
theorem xkeep_1d {h : XH} {st : List Value} {f : UInt64 → List Value → Option XR} (k : ∀ x r, xkeep h (f x r)) : xkeep h (x1d st f) := by unfold x1d; split; exact k _ _; trivial
theorem xkeep_2d {h : XH} {st : List Value} {f : UInt64 → UInt64 → List Value → Option XR} (k : ∀ x y r, xkeep h (f x y r)) : xkeep h (x2d st f) := by unfold x2d; split; exact k _ _ _; trivial
theorem xkeep_1f {h : XH} {st : List Value} {f : UInt32 → List Value → Option XR} (k : ∀ x r, xkeep h (f x r)) : xkeep h (x1f st f) := by unfold x1f; split; exact k _ _; trivial
theorem xkeep_2f {h : XH} {st : List Value} {f : UInt32 → UInt32 → List Value → Option XR} (k : ∀ x y r, xkeep h (f x y r)) : xkeep h (x2f st f) := by unfold x2f; split; exact k _ _ _; trivial
theorem xkeep_1a {h : XH} {st : List Value} {f : Option Nat → List Value → Option XR} (k : ∀ x r, xkeep h (f x r)) : xkeep h (x1a st f) := by unfold x1a; split; exact k _ _; exact k _ _; trivial
theorem xkeep_if {h : XH} {p : Prop} [Decidable p] {a b : Option XR} (ha : xkeep h a) (hb : xkeep h b) : xkeep h (if p then a else b) := by split; exact ha; exact hb
theorem xkeep_ld {h : XH} {ls : XL} {i pc : Nat} {st : List Value} : xkeep h (xldi ls i pc st h) ∧ xkeep h (xldl ls i pc st h) ∧ xkeep h (xldd ls i pc st h) ∧ xkeep h (xlda ls i pc st h) := by
  refine ⟨?_, ?_, ?_, ?_⟩
  · unfold xldi; split; exact xle.rf; trivial
  · unfold xldl; split; exact xle.rf; trivial
  · unfold xldd; split; exact xle.rf; trivial
  · unfold xlda; split; exact xle.rf; exact xle.rf; trivial
theorem xkeep_st {h : XH} {ls : XL} {i pc : Nat} {st : List Value} : xkeep h (xsti ls i pc st h) ∧ xkeep h (xstl ls i pc st h) ∧ xkeep h (xstd ls i pc st h) ∧ xkeep h (xsta ls i pc st h) :=
  ⟨xkeep_1i fun _ _ => xkeep_if xle.rf trivial, xkeep_1l fun _ _ => xkeep_if xle.rf trivial, xkeep_1d fun _ _ => xkeep_if xle.rf trivial, xkeep_1a fun _ _ => xkeep_if xle.rf trivial⟩
theorem xkeep_aload {sc : Nat × (Nat → Int32)} {pc : Nat} {ls : XL} {st : List Value} {h : XH} {ok : Nat → Value → Bool} : xkeep h (xaload sc pc ls st h ok) := by
  unfold xaload
  split
  · split
    · exact xkeep_if xle.rf trivial
    · trivial
  · trivial
theorem xastore_le {h h1 : XH} {a : Nat} {i : Int32} {v : Value} {t : Nat} (e : xastore h a i v t = some h1) : xle h h1 := by
  unfold xastore at e
  split at e
  · next t2 vs hc =>
    split at e
    · cases e
      exact xle.set (xcell_at hc) (by show (vs.set _ _).length = vs.length; exact List.length_set)
    · cases e
  · cases e
theorem xkeep_ast {h : XH} {a : Nat} {i : Int32} {v : Value} {t pc : Nat} {ls : XL} {r : List Value} : xkeep h ((xastore h a i v t).bind fun h1 => xnx pc ls r h1) := by
  cases e : xastore h a i v t with
  | none => trivial
  | some h1 => exact xastore_le e
theorem xkeep_acmp {h : XH} {w : Bool} {pc : Nat} {off : Int} {ls : XL} {st : List Value} : xkeep h (xacmp w pc off ls st h) := by
  unfold xacmp
  refine xkeep_1a fun y r => xkeep_1a fun x r2 => xkeep_if trivial ?_
  split
  · exact xkeep_br xle.rf
  · trivial
theorem xkeep_newarr {pc len t : Nat} {v0 : Value} {ls : XL} {st : List Value} {h : XH} : xkeep h (xnewarr pc len t v0 ls st h) := by
  unfold xnewarr
  split
  · exact xkeep_if trivial (xkeep_if xle.app trivial)
  · trivial
theorem xkeep_call {P : XP} {S : XS} {st : List Value} {h : XH} : xkeep h (xcall P S st h) := by
  unfold xcall
  repeat' (first | trivial | split)
theorem xcopy_le {h h1 : XH} {st r : List Value} (e : xcopy h st = some (r, h1)) : xle h h1 := by
  unfold xcopy at e
  split at e
  · split at e
    · next t vs t2 ws hc1 hc2 =>
      split at e
      · next q =>
        cases e
        obtain ⟨-, -, -, -, -, -, q4, q5, -, -⟩ := q
        refine xle.set (xcell_at hc2) ?_
        show (ws.take _ ++ (vs.drop _).take _ ++ ws.drop _).length = ws.length
        simp only [List.length_append, List.length_take, List.length_drop]
        omega
      · cases e
    · cases e
  · cases e
set_option maxHeartbeats 4000000 in
theorem xstep_le {P : XP} {sc : Nat × (Nat → Int32)} {mi pc : Nat} {i : Instr} {ls : XL} {st : List Value} {h : XH} : xkeep h (xstep P sc mi pc i ls st h) := by
  unfold xstep
  split
  all_goals first
    | exact xkeep_nx xle.rf
    | exact xkeep_no
    | exact xkeep_ld.1
    | exact xkeep_ld.2.1
    | exact xkeep_ld.2.2.1
    | exact xkeep_ld.2.2.2
    | exact xkeep_st.1
    | exact xkeep_st.2.1
    | exact xkeep_st.2.2.1
    | exact xkeep_st.2.2.2
    | exact xkeep_2i fun _ _ _ => xkeep_nx xle.rf
    | exact xkeep_2l fun _ _ _ => xkeep_nx xle.rf
    | exact xkeep_1i fun _ _ => xkeep_nx xle.rf
    | exact xkeep_1l fun _ _ => xkeep_nx xle.rf
    | exact xkeep_li fun _ _ _ => xkeep_nx xle.rf
    | exact xkeep_1f fun _ _ => xkeep_if (xkeep_nx xle.rf) xkeep_no
    | exact xkeep_2f fun _ _ _ => xkeep_if (xkeep_nx xle.rf) xkeep_no
    | exact xkeep_2d fun _ _ _ => xkeep_if (xkeep_nx xle.rf) xkeep_no
    | exact xkeep_2d fun _ _ _ => xkeep_nx xle.rf
    | exact xkeep_2i fun _ _ _ => xkeep_if xkeep_no (xkeep_nx xle.rf)
    | exact xkeep_if (xkeep_nx xle.rf) xkeep_no
    | exact xkeep_1i fun _ _ => xkeep_br xle.rf
    | exact xkeep_2i fun _ _ _ => xkeep_br xle.rf
    | exact xkeep_1a fun _ _ => xkeep_br xle.rf
    | exact xkeep_jmp xle.rf
    | exact xkeep_aload
    | exact xkeep_acmp
    | exact xkeep_newarr
    | skip
  all_goals (repeat' (first
    | exact xkeep_nx xle.rf
    | exact xkeep_no
    | exact xkeep_jmp xle.rf
    | exact xkeep_ast
    | exact xkeep_newarr
    | exact xkeep_call
    | exact xkeep_nx xle.app
    | (refine xkeep_1i fun _ _ => ?_)
    | trivial
    | split))
  all_goals first
    | exact xkeep_nx (xcopy_le (by assumption))
    | (refine xkeep_nx (xle.set (xcell_at (by assumption)) ?_); exact List.length_set)
theorem xstep_mono {P : XP} {sc : Nat × (Nat → Int32)} {mi pc : Nat} {i : Instr} {ls : XL} {st : List Value} {h : XH} {q : Nat × XL × List Value × XH} (e : xstep P sc mi pc i ls st h = some (.inl q)) : xle h q.2.2.2 := by
  have k := xstep_le (P := P) (sc := sc) (mi := mi) (pc := pc) (i := i) (ls := ls) (st := st) (h := h)
  rw [e] at k
  exact k
theorem xrun_mono {P : XP} {sc : Nat × (Nat → Int32)} : ∀ (n d mi pc : Nat) (ls : XL) (st : List Value) (h : XH) (o : XO) (h1 : XH), xrun P sc n d mi pc ls st h = some (o, h1) → xle h h1 := by
  intro n
  induction n with
  | zero => intro d mi pc ls st h o h1 e; cases e
  | succ n ih =>
    intro d mi pc ls st h o h1 e
    unfold xrun at e
    split at e
    · cases e
    · next i hi =>
      split at e
      · cases e
      · next pc1 ls1 st1 h2 hs => exact (xstep_mono hs).tr (ih _ _ _ _ _ _ _ _ e)
      · split at e
        · split at e
          · cases e; exact xle.rf
          · cases e
        · cases e
      · cases e; exact xle.app
      · next mj av r hs =>
        split at e
        · next d M M2 hM hM2 =>
          split at e
          · cases e
          · next l0 hl0 =>
            split at e
            · cases e
            · next v h2 e1 => exact (ih _ _ _ _ _ _ _ _ e1).tr (ih _ _ _ _ _ _ _ _ e)
            · next x h2 e1 =>
              split at e
              · cases e; exact ih _ _ _ _ _ _ _ _ e1
              · split at e
                · split at e
                  · cases e; exact ih _ _ _ _ _ _ _ _ e1
                  · cases e
                · cases e
        · cases e
