/-! A RUN OF THE ABSTRACT MACHINE IS ONE OF THE JVM -/
def xretI : Instr → Option Value → Bool
  | .return_, none => true
  | .ireturn, some (.int _) => true
  | .lreturn, some (.long _) => true
  | .freturn, some (.float _) => true
  | .dreturn, some (.double _) => true
  | .areturn, some (.ref _) => true
  | .areturn, some .null => true
  | _, _ => false
set_option maxHeartbeats 4000000 in
theorem xstep_ret {P : XP} {sc : Nat × (Nat → Int32)} {mi pc : Nat} {i : Instr} {ls : XL} {st : List Value} {h : XH} {v : Option Value} (hs : xstep P sc mi pc i ls st h = some (.inr (.inl v))) : xretI i v = true ∧ st = v.toList := by
  unfold xstep at hs
  split at hs
  all_goals try (simp only [xnx, xldi, xldl, xlda, xldd, xsti, xstl, xsta, xstd, x1i, x2i, x1l, x2l, xli, x1d, x2d, x1f, x2f, x1a, xbr, xjmp, xacmp, xaload, xnewarr, xcall, cond] at hs)
  all_goals first
    | (cases hs; done)
    | (repeat' (first | (cases hs; done) | (cases hs; exact ⟨rfl, rfl⟩) | (simp only [Option.bind_eq_some_iff] at hs; obtain ⟨q1, q2, hs⟩ := hs; cases hs; done) | split at hs))
theorem xcall_fst {P : XP} {S : XS} {mj : Nat} {st av r : List Value} {h : XH} (hs : xcall P S st h = some (.inr (.inr (.inl (mj, av, r))))) : S.2.1 = mj := by
  unfold xcall at hs
  repeat' (first | (cases hs; done) | (cases hs; rfl) | split at hs)
set_option maxHeartbeats 4000000 in
theorem xstep_call {P : XP} {sc : Nat × (Nat → Int32)} {mi pc : Nat} {i : Instr} {ls : XL} {st : List Value} {h : XH} {mj : Nat} {av r : List Value} (hs : xstep P sc mi pc i ls st h = some (.inr (.inr (.inl (mj, av, r))))) :
    ∃ idx code ty v, i = xinv code idx ∧ P.site mi idx = some (1, mj, code, ty, v) ∧ xcall P (1, mj, code, ty, v) st h = some (.inr (.inr (.inl (mj, av, r)))) := by
  unfold xstep at hs
  split at hs
  all_goals try (simp only [xnx, xldi, xldl, xlda, xldd, xsti, xstl, xsta, xstd, x1i, x2i, x1l, x2l, xli, x1d, x2d, x1f, x2f, x1a, xbr, xjmp, xacmp, xaload, xnewarr, cond] at hs)
  all_goals first
    | (cases hs; done)
    | (repeat' (first | (cases hs; done) | (simp only [Option.bind_eq_some_iff] at hs; obtain ⟨q1, q2, hs⟩ := hs; cases hs; done) | (have e9 := xcall_fst hs; cases e9; exact ⟨_, _, _, _, rfl, by assumption, hs⟩) | split at hs))
theorem xcall_inv {P : XP} {mj code : Nat} {ty : FieldType} {v : Value} {st av r : List Value} {h : XH} (hs : xcall P (1, mj, code, ty, v) st h = some (.inr (.inr (.inl (mj, av, r))))) :
    ∃ M2, P.meth mj = some M2 ∧ av.length = M2.nargs ∧ st = av.reverse ++ r ∧ xsum r ≤ 14 ∧ (code = 0 ∨ ∃ k As, av = .ref k :: As ∧ (2 ≤ code → ∃ vs, xcell h k = some (.inl (code - 2, vs)))) := by
  unfold xcall at hs
  split at hs
  · cases hs
  · next M2 hM2 =>
    split at hs
    · cases hs
    · next av2 r2 hsp =>
      have hM2 : P.meth mj = some M2 := hM2
      have key : av2.length = M2.nargs ∧ st = av2.reverse ++ r2 := by
        unfold xsplit at hsp
        split at hsp
        · next hle =>
          cases hsp
          refine ⟨by rw [List.length_reverse, List.length_take]; omega, by rw [List.reverse_reverse, List.take_append_drop]⟩
        · cases hsp
      split at hs
      · cases hs
      · next h8 =>
        split at hs
        · next hc =>
          cases hs
          exact ⟨M2, hM2, key.1, key.2, by omega, Or.inl hc⟩
        · next hc =>
          split at hs
          · next k As =>
            cases hs
            exact ⟨M2, hM2, key.1, key.2, by omega, Or.inr ⟨k, As, rfl, fun z => by have hc : code = 1 := hc; omega⟩⟩
          · cases hs
        · next c hc =>
          split at hs
          · next k As =>
            split at hs
            · next c2 vs hcell =>
              split at hs
              · next e =>
                cases hs
                refine ⟨M2, hM2, key.1, key.2, by omega, Or.inr ⟨k, As, rfl, fun z => ⟨vs, ?_⟩⟩⟩
                have hc : code = c + 2 := hc
                rw [hcell, e, hc]
                rfl
              · cases hs
            · cases hs
          · cases hs
def xQc (D : va_G) (tc : Nat → ClassId) (b dA : Nat) (B : Heap) (o : XO) (h1 : XH) : Array Value → State → Outcome → State → Prop := fun _ _ oc t => ∃ v, o = .inl v ∧ oc = .returned (v.map (xcv (xad b dA B.size))) ∧ xRp D tc b dA B h1 t.heap
def xXC (D : va_G) (tc : Nat → ClassId) (b dA : Nat) (B : Heap) (o : XO) (h1 : XH) : String → State → State → Prop := fun E _ t => ∃ x, o = .inr x ∧ E = xname x ∧ xRp D tc b dA B h1 t.heap
def xPc (D : va_G) (tc : Nat → ClassId) (b dA : Nat) (sc : Nat × (Nat → Int32)) (B : Heap) (av : List Value) (h : XH) : Array Value → State → Prop := fun a U => a = (av.map (xcv (xad b dA B.size))).toArray ∧ xRp D tc b dA B h U.heap ∧ xG D tc b dA sc B U
theorem xPc_blind {D : va_G} {tc : Nat → ClassId} {b dA : Nat} {sc : Nat × (Nat → Int32)} {B : Heap} {av : List Value} {h : XH} : FrameBlind (xPc D tc b dA sc B av h) := fun _ _ _ _ q => ⟨q.1, q.2.1, q.2.2.calling⟩
section ZAFT
variable {p : Program} {l : Launch} {e : Env} {R : Room} {s : State} {m : MethodId} {args : Array Value} {below : List Frame} {meth : Method} {c : Code} {H : Heap} {locs : List Loc} {cells slots : Nat} {Q : State → Prop}
variable {mc ms : Nat} {free : Addr → Prop} {pc : Nat} {ls : Array Slot} {st0 rest : List Value}
theorem x_after {Qa : State → Outcome → State → Prop} {XC : String → State → State → Prop} (hr : vx_Run p l e R s m args below meth c H locs cells slots mc ms (F0 m pc ls st0) rest Qa XC free)
    (kk : ∀ (v : Option Value) (st₀ t : State) (H1 : Heap) (L : List Loc), Qa st₀ (.returned v) t → t.heap = H1 → (∀ q ∈ L, free q.base) → W p l e R s m args below meth c H1 (locs ++ L) (cells + mc) (slots + ms) Q (F0 m (pc + 3) ls (v.toList ++ rest)))
    (kx : ∀ (q : Nat) (st₀ t : State) (H1 : Heap) (L : List Loc) (E : String) (ce : Cell), XC E st₀ t → t.heap = H1 → (∀ z ∈ L, free z.base) → H1[q]? = some ce → ce.vm = .none → s.vm.findClass E = some ce.cls → vx_W p l e R s m args below meth c H1 (locs ++ L) (cells + mc) (slots + ms) Q (F0 m pc ls rest) q) :
    W p l e R s m args below meth c H locs cells slots Q (F0 m pc ls st0) := by
  intro T hT X
  rcases hr T hT X with ⟨v, st₀, t, T', L, h0, X', hL, e1, e2, hq, st⟩ | ⟨q, st₀, t, T', L, E, ce, h0, X', hL, e1, e2, hq, hce, hcv, hcl, st⟩
  · obtain ⟨t2, a1, b1⟩ := kk v st₀ t T'.heap L hq e1.symm hL T' rfl X'
    exact ⟨t2, st t2 a1, b1⟩
  · obtain ⟨t2, a1, b1⟩ := kx q st₀ t T'.heap L E ce hq e1.symm hL (by rw [e1]; exact hce) hcv hcl T' rfl X'
    exact ⟨t2, st.trans a1, b1⟩
end ZAFT
section ZRET
variable {p : Program} {l : Launch} {e : Env} {R : Room} {s : State} {m : MethodId} {args : Array Value} {below : List Frame} {meth : Method} {c : Code} {H : Heap} {locs : List Loc} {cells slots mc ms : Nat}
variable {D : va_G} {tc : Nat → ClassId} {b dA : Nat} {B : Heap} {h : XH} {M : XM} {pc : Nat} {ls : Array Slot}
theorem x_ret {i : Instr} {v : Option Value} (C : xC M p l s m args meth c) (hdg : decode M.bytes pc = .ok (i, 1)) (hi : xretI i v = true) (ho : xokr M.ret v = true) (Rp : xRp D tc b dA B h H) (hl : ∀ q ∈ locs, B.size ≤ q.base) (hc : cells ≤ mc) (hs : slots ≤ ms) :
    W p l e R s m args below meth c H locs cells slots (vx_MQ below (xQc D tc b dA B (.inl v) h) (xXC D tc b dA B (.inl v) h) args s mc ms (fun q => B.size ≤ q)) (F0 m pc ls (v.toList.map (xcv (xad b dA B.size)))) := by
  obtain ⟨hx, hb, hml, hr, hts, hown, hlocks, hnm, htab, htr⟩ := C
  refine W.widen hc hs (vx_ret ?_)
  have hq : ∀ (t : State), t.heap = H → xQc D tc b dA B (.inl v) h args s (.returned (v.map (xcv (xad b dA B.size)))) t := fun t ht => ⟨v, rfl, rfl, by rw [ht]; exact Rp⟩
  cases v with
  | none =>
    cases i <;> try (cases hi; done)
    cases hret : M.ret with
    | none => exact W.vret hx hb (hr.trans hret) (fun t ht _ => hq t ht) hl hdg
    | some ty => rw [hret] at ho; cases ty <;> cases ho
  | some v =>
    cases hret : M.ret with
    | none => rw [hret] at ho; cases v <;> cases ho
    | some ty =>
      rw [hret] at ho
      cases v with
      | int x =>
        cases i <;> try (cases hi; done)
        refine W.zret hx hb (hr.trans hret) ?_ (fun t ht _ => hq t ht) hl hdg
        cases ty <;> first | rfl | (cases ho; done) | skip
        exact (xok_fits (ad := fun n => n) (ty := .boolean) (v := .int x) (show xok .boolean (.int x) = true from ho)).1
      | long x =>
        cases i <;> try (cases hi; done)
        cases ty <;> try (cases ho; done)
        exact W.lret hx hb (hr.trans hret) (fun t ht _ => hq t ht) hl hdg
      | float x =>
        cases i <;> try (cases hi; done)
        cases ty <;> try (cases ho; done)
        exact W.fret hx hb (hr.trans hret) (fun t ht _ => hq t ht) hl hdg
      | double x =>
        cases i <;> try (cases hi; done)
        cases ty <;> try (cases ho; done)
        exact W.dret hx hb (hr.trans hret) (fun t ht _ => hq t ht) hl hdg
      | null =>
        cases i <;> try (cases hi; done)
        cases ty with
        | object n => exact W.aret (v := .null) hx hb (hr.trans hret) (Or.inl ⟨_, rfl⟩) (Or.inl rfl) (fun t ht _ => hq t ht) hl hdg
        | array n => exact W.aret (v := .null) hx hb (hr.trans hret) (Or.inr ⟨_, rfl⟩) (Or.inl rfl) (fun t ht _ => hq t ht) hl hdg
        | _ => cases ho
      | ref x =>
        cases i <;> try (cases hi; done)
        cases ty with
        | object n => exact W.aret (v := .ref (xad b dA B.size x)) hx hb (hr.trans hret) (Or.inl ⟨_, rfl⟩) (Or.inr ⟨_, rfl⟩) (fun t ht _ => hq t ht) hl hdg
        | array n => exact W.aret (v := .ref (xad b dA B.size x)) hx hb (hr.trans hret) (Or.inr ⟨_, rfl⟩) (Or.inr ⟨_, rfl⟩) (fun t ht _ => hq t ht) hl hdg
        | _ => cases ho
      | retAddr x => cases i <;> cases hi
end ZRET
theorem xnc {U : State} (hF : kwF U) : ∀ x y : Nat, x < 4 → y < 4 → ¬ x = y → va_Nc (xname x) (xname y) U := by
  intro x y hx hy hne
  match x, y with
  | 0, 0 => exact absurd rfl hne
  | 0, 1 => exact kw_NC_ISE_IAE hF
  | 0, 2 => exact kw_NC_ISE_IOB hF
  | 0, 3 => exact kw_NC_ISE_NSE hF
  | 1, 0 => exact kw_NC_IAE_ISE hF
  | 1, 1 => exact absurd rfl hne
  | 1, 2 => exact kw_NC_IAE_IOB hF
  | 1, 3 => exact kw_NC_IAE_NSE hF
  | 2, 0 => exact kw_NC_IOB_ISE hF
  | 2, 1 => exact kw_NC_IOB_IAE hF
  | 2, 2 => exact absurd rfl hne
  | 2, 3 => exact kw_NC_IOB_NSE hF
  | 3, 0 => exact kw_NC_NSE_ISE hF
  | 3, 1 => exact kw_NC_NSE_IAE hF
  | 3, 2 => exact kw_NC_NSE_IOB hF
  | 3, 3 => exact absurd rfl hne
  | n + 4, _ => omega
  | _, n + 4 => omega
theorem xcc {U : State} (hF : kwF U) : ∀ x : Nat, x < 4 → va_Nw (.castable (xname x) (xname x)) U := by
  intro x hx
  match x with
  | 0 => exact kw_CC_ISE hF
  | 1 => exact kw_CC_IAE hF
  | 2 => exact kw_CC_IOB hF
  | 3 => exact kw_CC_NSE hF
  | n + 4 => omega
