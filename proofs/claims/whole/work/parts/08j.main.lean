/-! WHAT EACH SYMBOLIC INSTRUCTION SAYS -/
section SX
variable {P : XP} {sc : Nat × (Nat → Int32)} {mi pc k : Nat} {ls : XL} {st : List Value} {H : XH} {a b j : Nat} {ty : FieldType} {z : Value}
theorem x_ldc {v : Int32} (h : P.site mi k = some (4, a, b, ty, .int v)) : xstep P sc mi pc (.ldc k) ls st H = some (.inl (pc + 2, ls, .int v :: st, H)) := by
  show (match P.site mi k with
    | some (4, _, _, _, .int v) => xnx (pc + 2) ls (.int v :: st) H
    | _ => none) = _
  rw [h]
  rfl
theorem x_ldcw {v : Int32} (h : P.site mi k = some (4, a, b, ty, .int v)) : xstep P sc mi pc (.ldc_w k) ls st H = some (.inl (pc + 3, ls, .int v :: st, H)) := by
  show (match P.site mi k with
    | some (4, _, _, _, .int v) => xnx (pc + 3) ls (.int v :: st) H
    | _ => none) = _
  rw [h]
  rfl
theorem x_ldc2 {v : Int64} (h : P.site mi k = some (4, a, b, ty, .long v)) : xstep P sc mi pc (.ldc2_w k) ls st H = some (.inl (pc + 3, ls, .long v :: st, H)) := by
  show (match P.site mi k with
    | some (4, _, _, _, .long v) => xnx (pc + 3) ls (.long v :: st) H
    | _ => none) = _
  rw [h]
  rfl
theorem x_gets (h : P.site mi k = some (8, a, b, ty, z)) : xstep P sc mi pc (.getstatic k) ls st H = some (.inl (pc + 3, ls, .ref 1 :: st, H)) := by
  show (match P.site mi k with
    | some (8, _, _, _, _) => xnx (pc + 3) ls (.ref 1 :: st) H
    | _ => none) = _
  rw [h]
  rfl
theorem x_anew {t : Nat} (h : P.site mi (k + 100000) = some (3, t, b, ty, z)) : xstep P sc mi pc (.anewarray k) ls st H = xnewarr pc 3 t .null ls st H := by
  show (match P.site mi (k + 100000) with
    | some (3, t, _, _, _) => xnewarr pc 3 t .null ls st H
    | _ => none) = _
  rw [h]
  rfl
theorem x_iv {c : Nat} (h : P.site mi k = some (1, j, c + 2, ty, z)) : xstep P sc mi pc (.invokevirtual k) ls st H = xcall P (1, j, c + 2, ty, z) st H := by
  show (match P.site mi k with
    | some (1, j, c + 2, ty, v) => xcall P (1, j, c + 2, ty, v) st H
    | _ => none) = _
  rw [h]
  rfl
theorem x_is7 {q : Nat} {rest : List Value} (h : P.site mi k = some (7, a, b, ty, z)) (h8 : xsum rest ≤ 8) : xstep P sc mi pc (.invokespecial k) ls (.ref q :: rest) H = some (.inl (pc + 3, ls, rest, H)) := by
  show (match P.site mi k, (Value.ref q :: rest) with
    | some (7, _, _, _, _), .ref _ :: r => if xsum r ≤ 8 then xnx (pc + 3) ls r H else none
    | some (1, j, 1, ty, v), _ => xcall P (1, j, 1, ty, v) (Value.ref q :: rest) H
    | _, _ => none) = _
  rw [h]
  show (if xsum rest ≤ 8 then _ else _) = _
  rw [if_pos h8]
  rfl
theorem x_is1 (h : P.site mi k = some (1, j, 1, ty, z)) : xstep P sc mi pc (.invokespecial k) ls st H = xcall P (1, j, 1, ty, z) st H := by
  show (match P.site mi k, st with
    | some (7, _, _, _, _), .ref _ :: r => if xsum r ≤ 8 then xnx (pc + 3) ls r H else none
    | some (1, j, 1, ty, v), _ => xcall P (1, j, 1, ty, v) st H
    | _, _ => none) = _
  rw [h]
  rfl
theorem x_ist (h : P.site mi k = some (1, j, 0, ty, z)) : xstep P sc mi pc (.invokestatic k) ls st H = xcall P (1, j, 0, ty, z) st H := by
  show (match P.site mi k with
    | some (1, j, 0, ty, v) => xcall P (1, j, 0, ty, v) st H
    | some (10, _, _, _, _) => match xcopy H st with
      | some (r, h1) => xnx (pc + 3) ls r h1
      | none => none
    | _ => none) = _
  rw [h]
  rfl
theorem x_cpy {r9 : List Value} {H1 : XH} (h : P.site mi k = some (10, a, b, ty, z)) (hx : xcopy H st = some (r9, H1)) : xstep P sc mi pc (.invokestatic k) ls st H = some (.inl (pc + 3, ls, r9, H1)) := by
  show (match P.site mi k with
    | some (1, j, 0, ty, v) => xcall P (1, j, 0, ty, v) st H
    | some (10, _, _, _, _) => match xcopy H st with
      | some (r, h1) => xnx (pc + 3) ls r h1
      | none => none
    | _ => none) = _
  rw [h]
  show (match xcopy H st with
    | some (r, h1) => xnx (pc + 3) ls r h1
    | none => none) = _
  rw [hx]
  rfl
theorem xq_new {ci : Nat} {fl : List Value} (h : P.site mi k = some (2, ci, b, ty, z)) (hn : P.news ci = some fl) : xstep P sc mi pc (.new k) ls st H = some (.inl (pc + 3, ls, .ref H.length :: st, H ++ [some (.inl (ci, fl))])) := by
  show (match P.site mi k with
    | some (2, ci, _, _, _) => match P.news ci with
      | some fs => xnx (pc + 3) ls (.ref H.length :: st) (H ++ [some (Sum.inl (ci, fs))])
      | none => none
    | some (5, x, ic, _, _) => match P.meth mi with
      | some M => if M.hh.isEmpty = true ∧ xsum st ≤ 8 ∧ xthr P mi pc ic = true then some (.inr (.inr (.inr x))) else none
      | none => none
    | _ => none) = _
  rw [h]
  show (match P.news ci with
    | some fs => xnx (pc + 3) ls (.ref H.length :: st) (H ++ [some (Sum.inl (ci, fs))])
    | none => none) = _
  rw [hn]
  rfl
theorem x_thr {x ic : Nat} {M : XM} (h : P.site mi k = some (5, x, ic, ty, z)) (hM : P.meth mi = some M) (h1 : M.hh.isEmpty = true ∧ xsum st ≤ 8 ∧ xthr P mi pc ic = true) : xstep P sc mi pc (.new k) ls st H = some (.inr (.inr (.inr x))) := by
  show (match P.site mi k with
    | some (2, ci, _, _, _) => match P.news ci with
      | some fs => xnx (pc + 3) ls (.ref H.length :: st) (H ++ [some (Sum.inl (ci, fs))])
      | none => none
    | some (5, x, ic, _, _) => match P.meth mi with
      | some M => if M.hh.isEmpty = true ∧ xsum st ≤ 8 ∧ xthr P mi pc ic = true then some (.inr (.inr (.inr x))) else none
      | none => none
    | _ => none) = _
  rw [h]
  show (match P.meth mi with
    | some M => if M.hh.isEmpty = true ∧ xsum st ≤ 8 ∧ xthr P mi pc ic = true then some (Sum.inr (Sum.inr (Sum.inr x))) else none
    | none => none) = _
  rw [hM]
  show (if _ then _ else _) = _
  rw [if_pos h1]
theorem x_getf {ci f q : Nat} {vs : List Value} {v : Value} {rest : List Value} (h : P.site mi k = some (0, ci, f, ty, z)) (hc : xcell H q = some (.inl (ci, vs))) (hv : vs[f]? = some v) : xstep P sc mi pc (.getfield k) ls (.ref q :: rest) H = some (.inl (pc + 3, ls, v :: rest, H)) := by
  show (match P.site mi k, (Value.ref q :: rest) with
    | some (0, ci, f, _, _), .ref a :: r => match xcell H a with
      | some (.inl (c, vs)) => if c = ci then match vs[f]? with
        | some v => xnx (pc + 3) ls (v :: r) H
        | none => none
        else none
      | _ => none
    | _, _ => none) = _
  rw [h]
  show (match xcell H q with
    | some (.inl (c, vs)) => if c = ci then match vs[f]? with
      | some v => xnx (pc + 3) ls (v :: rest) H
      | none => none
      else none
    | _ => none) = _
  rw [hc]
  show (if ci = ci then _ else _) = _
  rw [if_pos rfl, hv]
  rfl
theorem x_putf {ci f q w : Nat} {vs : List Value} {v : Value} {rest : List Value} (h : P.site mi k = some (0, ci, f, ty, .ref w)) (hc : xcell H q = some (.inl (ci, vs))) (hv : f < vs.length) (hx : xok ty v = true) : xstep P sc mi pc (.putfield k) ls (v :: .ref q :: rest) H = some (.inl (pc + 3, ls, rest, H.set q (some (.inl (ci, vs.set f v))))) := by
  show (match P.site mi k, (v :: Value.ref q :: rest) with
    | some (0, ci, f, ty, .ref _), v :: .ref a :: r => match xcell H a with
      | some (.inl (c, vs)) => if c = ci ∧ f < vs.length ∧ xok ty v = true then xnx (pc + 3) ls r (H.set a (some (.inl (c, vs.set f v)))) else none
      | _ => none
    | _, _ => none) = _
  rw [h]
  show (match xcell H q with
    | some (.inl (c, vs)) => if c = ci ∧ f < vs.length ∧ xok ty v = true then xnx (pc + 3) ls rest (H.set q (some (.inl (c, vs.set f v)))) else none
    | _ => none) = _
  rw [hc]
  show (if ci = ci ∧ f < vs.length ∧ xok ty v = true then _ else _) = _
  rw [if_pos ⟨rfl, hv, hx⟩]
  rfl
theorem x_chk {c q : Nat} {vs : List Value} {rest : List Value} (h : P.site mi (k + 200000) = some (9, c, b, ty, z)) (hc : xcell H q = some (.inl (c, vs))) : xstep P sc mi pc (.checkcast k) ls (.ref q :: rest) H = some (.inl (pc + 3, ls, .ref q :: rest, H)) := by
  show (match P.site mi (k + 200000), (Value.ref q :: rest) with
    | some (9, c, _, _, _), .ref a :: r => match xcell H a with
      | some (.inl (c2, _)) => if c2 = c then xnx (pc + 3) ls (.ref a :: r) H else none
      | _ => none
    | _, _ => none) = _
  rw [h]
  show (match xcell H q with
    | some (.inl (c2, _)) => if c2 = c then xnx (pc + 3) ls (.ref q :: rest) H else none
    | _ => none) = _
  rw [hc]
  show (if c = c then _ else _) = _
  rw [if_pos rfl]
  rfl
end SX
section SG4
variable {sn : Nat} {β : Type} {R : XRecs} {nw : List (List Value)} {xs : Nat → Int32} {goal : XO → XH → Prop} {cfs : List XF} {T : β → Prop} {bad : β} {many : List β → β} {fin : SV → Nat → Nat → β}
variable {ih : SE → SH → Nat → Nat → Nat → Nat → XRec → List (Option SV) → List SV → List SF → β} {e : SE} {h : SH} {n sl mi pc : Nat} {r : XRec} {ls : List (Option SV)} {st : List SV} {fs : List SF} {H : XH} {i : Instr}
theorem SCtx.rt (C : SCtx sn R nw xs goal cfs T bad many ih e h n sl mi pc r ls st fs H i) (hF : SFN sn R nw xs goal cfs T fin) {v : Option SV} (hk : sxokr r.1.ret v = true) (hT : T (sretK bad fin ih e h n sl v fs))
    (hs : xstep (xPof R nw) (sn, xs) mi pc i (sdl (srho xs) ls) (sds (srho xs) st) H = some (.inr (.inl (v.map (sden (srho xs)))))) : SGoal sn R nw xs goal cfs mi pc ls st fs H :=
  xr_ret C.2.2.2.2.2.2.2.1 hs (s_meth C.2.2.2.2.2.1) (sxokr_spec hk) (sret_fin C.1 C.2.2.1 hF hT C.2.2.2.1 C.2.2.2.2.1 C.2.2.2.2.2.2.1)
/-- one value of a kind is returned -/
theorem SCtx.r1 (C : SCtx sn R nw xs goal cfs T bad many ih e h n sl mi pc r ls st fs H i) (hF : SFN sn R nw xs goal cfs T fin) {kd : Nat} {v : SV} (hT : T (cond (Nat.beq (skd v) kd && sxokr r.1.ret (some v)) (sretK bad fin ih e h n sl (some v) fs) bad))
    (hs : skd v = kd → xstep (xPof R nw) (sn, xs) mi pc i (sdl (srho xs) ls) (sds (srho xs) st) H = some (.inr (.inl (some (sden (srho xs) v))))) : SGoal sn R nw xs goal cfs mi pc ls st fs H := by
  cases hc : (Nat.beq (skd v) kd && sxokr r.1.ret (some v)) with
  | false => rw [hc] at hT; exact absurd hT C.1
  | true =>
    rw [hc] at hT
    simp only [Bool.and_eq_true] at hc
    exact C.rt hF hc.2 hT (hs (Nat.eq_of_beq_eq_true hc.1))
theorem xhold_of {t v c : Nat} {row : SRow} (hH : SHR (srho xs) h n sl H) (hg : hget h v = some (.inl (c, row))) (hc : ((t == 3 && c == 1) || (t == 4 && c == 11) || (t == 5 && c == 12) || (t == 6 && c == 14)) = true) : xhold H t v = true := by
  obtain ⟨vs, a1, -, -⟩ := hH.obj hg
  unfold xhold
  rw [a1]
  exact hc
set_option maxHeartbeats 8000000 in
theorem sinst_ok (C : SCtx sn R nw xs goal cfs T bad many ih e h n sl mi pc r ls st fs H i) (hF : SFN sn R nw xs goal cfs T fin)
    (hT : T (sinst R nw bad many fin ih sn (fun len ls2 st2 => frc (Nat.add pc len) fun pc2 => ih e h n sl mi pc2 r ls2 st2 fs) (fun e2 => ih e2 h n sl mi pc r ls st fs) e h n sl mi pc r ls st fs i)) : SGoal sn R nw xs goal cfs mi pc ls st fs H := by
  have hH := C.2.2.2.2.1
  have hr := C.2.2.2.2.2.1
  rw [sinst_eq] at hT
  unfold sinst2 at hT
  split at hT
  · unfold sa_aconst_null at hT
    exact C.g hT rfl -- aconst_null
  · unfold sa_iconst at hT
    exact C.ci hT rfl -- iconst
  · unfold sa_bipush at hT
    exact C.ci hT rfl -- bipush
  · unfold sa_sipush at hT
    exact C.ci hT rfl -- sipush
  · unfold sa_lconst at hT
    exact C.cl hT rfl -- lconst
  · unfold sa_dconst at hT
    next k => -- dconst
    cases hk : decide (k = 0) with
    | false => rw [hk] at hT; exact absurd hT C.1
    | true =>
      rw [hk, cond_true] at hT
      exact C.g hT (by show (if k = 0 then _ else _) = _; rw [if_pos (of_decide_eq_true hk)]; rfl)
  · unfold sa_ldc at hT
    split at hT -- ldc
    · next hq => exact C.ci hT (x_ldc (s_site hr hq))
    · exact absurd hT C.1
  · unfold sa_ldc_w at hT
    split at hT -- ldc_w
    · next hq => exact C.ci hT (x_ldcw (s_site hr hq))
    · exact absurd hT C.1
  · unfold sa_ldc2_w at hT
    split at hT -- ldc2_w
    · next hq => exact C.cl hT (x_ldc2 (s_site hr hq))
    · exact absurd hT C.1
  · unfold sa_iload at hT
    exact C.ld hT fun v a b => e_ldi a b _ _ _
  · unfold sa_iload_n at hT
    exact C.ld hT fun v a b => e_ldi a b _ _ _
  · unfold sa_lload at hT
    exact C.ld hT fun v a b => e_ldl a b _ _ _
  · unfold sa_lload_n at hT
    exact C.ld hT fun v a b => e_ldl a b _ _ _
  · unfold sa_aload at hT
    exact C.ld hT fun v a b => e_lda a b _ _ _
  · unfold sa_aload_n at hT
    exact C.ld hT fun v a b => e_lda a b _ _ _
  · unfold sa_dload at hT
    exact C.ld hT fun v a b => e_ldd a b _ _ _
  · unfold sa_dload_n at hT
    exact C.ld hT fun v a b => e_ldd a b _ _ _
  · unfold sa_istore at hT
    exact C.s1 hT fun v rest _ a b => e_sti a b _ _
  · unfold sa_istore_n at hT
    exact C.s1 hT fun v rest _ a b => e_sti a b _ _
  · unfold sa_astore at hT
    exact C.s1 hT fun v rest _ a b => e_sta a b _ _
  · unfold sa_astore_n at hT
    exact C.s1 hT fun v rest _ a b => e_sta a b _ _
  · unfold sa_lstore at hT
    exact C.s2 hT fun v rest _ a b => e_stl a b _ _
  · unfold sa_lstore_n at hT
    exact C.s2 hT fun v rest _ a b => e_stl a b _ _
  · unfold sa_dstore at hT
    exact C.s2 hT fun v rest _ a b => e_std a b _ _
  · unfold sa_dstore_n at hT
    exact C.s2 hT fun v rest _ a b => e_std a b _ _
  · unfold sa_iinc at hT
    split at hT -- iinc
    · next k m _ c zs hl =>
      rw [frc_eq] at hT
      obtain ⟨l1, e1, hT⟩ := sput1_ok (ro := srho xs) hT
      refine C.g hT ?_
      show (match xget (sdl (srho xs) ls) k with
        | some (.int x) => if k < (sdl (srho xs) ls).length then xnx (pc + 3) (xput1 (sdl (srho xs) ls) k (.int (x + Int32.ofInt m))) (sds (srho xs) st) H else none
        | _ => none) = _
      rw [sdl_xget hl]
      show (if k < (sdl (srho xs) ls).length then xnx (pc + 3) (xput1 (sdl (srho xs) ls) k (.int (slin (srho xs) c zs + Int32.ofInt m))) (sds (srho xs) st) H else none) = _
      rw [sdl_len, if_pos (lget_lt hl), e1, slin_inc]
      rfl
    · exact absurd hT C.1
  · unfold sa_dup at hT
    split at hT -- dup
    · next v rest =>
      cases hw : swide v with
      | true => rw [hw] at hT; exact absurd hT C.1
      | false =>
        rw [hw, cond_false] at hT
        exact C.g hT (by show (if (sden (srho xs) v).category = 1 then _ else _) = _; rw [if_pos (swide_f hw)]; rfl)
    · exact absurd hT C.1
  · unfold sa_dup_x1 at hT
    split at hT -- dup_x1
    · next v w rest =>
      cases hw : (swide v || swide w) with
      | true => rw [hw] at hT; exact absurd hT C.1
      | false =>
        rw [hw, cond_false] at hT
        rw [Bool.or_eq_false_iff] at hw
        exact C.g hT (by show (if (sden (srho xs) v).category = 1 ∧ (sden (srho xs) w).category = 1 then _ else _) = _; rw [if_pos ⟨swide_f hw.1, swide_f hw.2⟩]; rfl)
    · exact absurd hT C.1
  · unfold sa_dup2 at hT
    split at hT -- dup2
    · next v w rest =>
      cases hw : (swide v || swide w) with
      | true => rw [hw] at hT; exact absurd hT C.1
      | false =>
        rw [hw, cond_false] at hT
        rw [Bool.or_eq_false_iff] at hw
        exact C.g hT (by show (if (sden (srho xs) v).category = 1 ∧ (sden (srho xs) w).category = 1 then _ else _) = _; rw [if_pos ⟨swide_f hw.1, swide_f hw.2⟩]; rfl)
    · exact absurd hT C.1
  · unfold sa_pop at hT
    split at hT -- pop
    · next v rest =>
      cases hw : swide v with
      | true => rw [hw] at hT; exact absurd hT C.1
      | false =>
        rw [hw, cond_false] at hT
        exact C.g hT (by show (if (sden (srho xs) v).category = 1 then _ else _) = _; rw [if_pos (swide_f hw)]; rfl)
    · exact absurd hT C.1
  · unfold sa_iadd at hT
    exact C.add hT
  · unfold sa_isub at hT
    exact C.b2 hT fun a b rest hst hT => C.ci hT (by show x2i (sds (srho xs) st) _ = _; rw [hst]; rfl) -- isub
  · unfold sa_imul at hT
    exact C.b2 hT fun a b rest hst hT => C.ci hT (by show x2i (sds (srho xs) st) _ = _; rw [hst]; rfl) -- imul
  · unfold sa_iand at hT
    exact C.and hT
  · unfold sa_ior at hT
    exact C.b2 hT fun a b rest hst hT => C.ci hT (by show x2i (sds (srho xs) st) _ = _; rw [hst]; rfl) -- ior
  · unfold sa_ixor at hT
    exact C.b2 hT fun a b rest hst hT => C.ci hT (by show x2i (sds (srho xs) st) _ = _; rw [hst]; rfl) -- ixor
  · unfold sa_ishr at hT
    exact C.b2 hT fun a b rest hst hT => C.ci hT (by show x2i (sds (srho xs) st) _ = _; rw [hst]; rfl) -- ishr
  · unfold sa_iushr at hT
    exact C.ush hT
  · unfold sa_irem at hT
    refine C.b2 hT fun a b rest hst hT => ?_ -- irem
    cases hb : decide (Int32.ofNat b = 0) with
    | true => rw [hb] at hT; exact absurd hT C.1
    | false =>
      rw [hb, cond_false] at hT
      exact C.ci hT (by
        show x2i (sds (srho xs) st) _ = _
        rw [hst]
        show (if Int32.ofNat b = 0 then none else _) = _
        rw [if_neg (of_decide_eq_false hb)]
        rfl)
  · unfold sa_ladd at hT
    exact C.l2 hT fun _ _ _ => rfl
  · unfold sa_lsub at hT
    exact C.l2 hT fun _ _ _ => rfl
  · unfold sa_land at hT
    exact C.l2 hT fun _ _ _ => rfl
  · unfold sa_lor at hT
    exact C.l2 hT fun _ _ _ => rfl
  · unfold sa_lxor at hT
    exact C.l2 hT fun _ _ _ => rfl
  · unfold sa_lshl at hT
    exact C.lsh hT fun _ _ _ => rfl
  · unfold sa_lshr at hT
    exact C.lsh hT fun _ _ _ => rfl
  · unfold sa_lushr at hT
    exact C.lsh hT fun _ _ _ => rfl
  · unfold sa_lcmp at hT
    split at hT -- lcmp
    · exact C.ci hT rfl
    · next c zs c2 zs2 rest =>
      cases hb : (Nat.beq c c2 && szeq zs zs2) with
      | false => rw [hb] at hT; exact absurd hT C.1
      | true =>
        rw [hb, cond_true] at hT
        simp only [Bool.and_eq_true] at hb
        cases Nat.eq_of_beq_eq_true hb.1
        cases of_decide_eq_true hb.2
        refine C.g hT ?_
        show some (Sum.inl (_, _, Value.int (lg_cmp _ _) :: _, _)) = some (Sum.inl (_, _, Value.int (Int32.ofNat 0) :: _, _))
        rw [lg_same]
        rfl
    · exact absurd hT C.1
  · unfold sa_i2l at hT
    split at hT -- i2l
    · exact C.g hT rfl
    · next v rest _ =>
      rcases scon_ok C.1 C.2.1 C.2.2.2.1 hT with ⟨c, hc, hT⟩ | ⟨e2, h1, h2⟩
      · exact C.cl hT (by show x1i (sden (srho xs) v :: sds (srho xs) rest) _ = _; rw [hc]; rfl)
      · exact C.ag h1 h2
    · exact absurd hT C.1
  · unfold sa_l2i at hT
    split at hT -- l2i
    · exact C.ci hT rfl
    · exact absurd hT C.1
  · unfold sa_i2f at hT
    split at hT -- i2f
    · next v rest =>
      rcases scon_ok C.1 C.2.1 C.2.2.2.1 hT with ⟨c, hc, hT⟩ | ⟨e2, h1, h2⟩
      · exact C.g hT (by show x1i (sden (srho xs) v :: sds (srho xs) rest) _ = _; rw [hc]; rfl)
      · exact C.ag h1 h2
    · exact absurd hT C.1
  · unfold sa_f2d at hT
    split at hT -- f2d
    · next x rest =>
      cases hb : xn64 (FP.f2d x) with
      | false => rw [hb] at hT; exact absurd hT C.1
      | true =>
        rw [hb, cond_true] at hT
        exact C.g hT (by show (if xn64 (FP.f2d x) = true then _ else _) = _; rw [if_pos hb]; rfl)
    · exact absurd hT C.1
  · unfold sa_fdiv at hT
    split at hT -- fdiv
    · next y x rest =>
      cases hb : xn32 (FP.fdiv x y) with
      | false => rw [hb] at hT; exact absurd hT C.1
      | true =>
        rw [hb, cond_true] at hT
        exact C.g hT (by show (if xn32 (FP.fdiv x y) = true then _ else _) = _; rw [if_pos hb]; rfl)
    · exact absurd hT C.1
  · unfold sa_dcmp at hT
    split at hT -- dcmp
    · exact C.ci hT rfl
    · exact absurd hT C.1
  · unfold sa_ifCond at hT
    split at hT -- ifCond
    · next c o _ v rest =>
      refine C.br hT fun x y w hx hy hw => ?_
      cases hy
      have q := sbc_ok hw
      cases c with
      | eq => show x1i (sden (srho xs) v :: sds (srho xs) rest) _ = _; rw [hx, ← q.1]; rfl
      | ne => show x1i (sden (srho xs) v :: sds (srho xs) rest) _ = _; rw [hx, ← q.2.1]; rfl
      | lt => show x1i (sden (srho xs) v :: sds (srho xs) rest) _ = _; rw [hx, ← q.2.2.1]; rfl
      | ge => show x1i (sden (srho xs) v :: sds (srho xs) rest) _ = _; rw [hx, ← q.2.2.2.1]; rfl
      | gt => show x1i (sden (srho xs) v :: sds (srho xs) rest) _ = _; rw [hx, ← q.2.2.2.2.1]; rfl
      | le => show x1i (sden (srho xs) v :: sds (srho xs) rest) _ = _; rw [hx, ← q.2.2.2.2.2]; rfl
    · exact absurd hT C.1
  · unfold sa_if_icmp at hT
    split at hT -- if_icmp
    · next c o _ v2 v rest =>
      refine C.br hT fun x y w hx hy hw => ?_
      have q := sbc_ok hw
      cases c with
      | eq => show x2i (sden (srho xs) v2 :: sden (srho xs) v :: sds (srho xs) rest) _ = _; rw [hx, hy, ← q.1]; rfl
      | ne => show x2i (sden (srho xs) v2 :: sden (srho xs) v :: sds (srho xs) rest) _ = _; rw [hx, hy, ← q.2.1]; rfl
      | lt => show x2i (sden (srho xs) v2 :: sden (srho xs) v :: sds (srho xs) rest) _ = _; rw [hx, hy, ← q.2.2.1]; rfl
      | ge => show x2i (sden (srho xs) v2 :: sden (srho xs) v :: sds (srho xs) rest) _ = _; rw [hx, hy, ← q.2.2.2.1]; rfl
      | gt => show x2i (sden (srho xs) v2 :: sden (srho xs) v :: sds (srho xs) rest) _ = _; rw [hx, hy, ← q.2.2.2.2.1]; rfl
      | le => show x2i (sden (srho xs) v2 :: sden (srho xs) v :: sds (srho xs) rest) _ = _; rw [hx, hy, ← q.2.2.2.2.2]; rfl
    · exact absurd hT C.1
  · unfold sa_ifnull at hT
    split at hT -- ifnull
    · exact C.bk hT rfl
    · exact C.bk hT rfl
    · exact absurd hT C.1
  · unfold sa_ifnonnull at hT
    split at hT -- ifnonnull
    · exact C.bk hT rfl
    · exact C.bk hT rfl
    · exact absurd hT C.1
  · unfold sa_if_acmp_eq at hT
    split at hT -- if_acmp
    · next o _ b a rest =>
      cases hb : (!(Nat.beq a 0) && (!(Nat.beq b 0) && (Nat.blt a n && Nat.blt b n))) with
      | false => rw [hb] at hT; exact absurd hT C.1
      | true =>
        rw [hb, cond_true] at hT
        simp only [Bool.and_eq_true, Bool.not_eq_true'] at hb
        have a0 : ¬ a = 0 := fun z => by rw [z] at hb; cases hb.1
        have b0 : ¬ b = 0 := fun z => by rw [z] at hb; cases hb.2.1
        refine C.bk hT ?_
        show (if some a = some 0 ∨ some b = some 0 then none else match Nat.blt a H.length && Nat.blt b H.length with
          | true => xbr (decide (some a = some b) == true) pc o (sdl (srho xs) ls) (sds (srho xs) rest) H
          | false => none) = _
        rw [if_neg (by simp [a0, b0]), hH.1, hb.2.2.1, hb.2.2.2]
        show xbr _ _ _ _ _ _ = xbr _ _ _ _ _ _
        congr 1
        by_cases z : a = b
        · rw [z, Nat.beq_refl, decide_eq_true rfl]; rfl
        · rw [decide_eq_false (by simp [z]), show Nat.beq a b = false from Bool.eq_false_iff.mpr fun y => z (Nat.eq_of_beq_eq_true y)]; rfl
    · exact absurd hT C.1
  · unfold sa_goto at hT
    obtain ⟨t, ht, hj⟩ := sjmp_ok C.1 hT -- goto
    exact C.nx (hj _ _ _) ht C.2.2.2.1 hH
  · unfold sa_tableswitch at hT
    split at hT -- tableswitch
    · next d lo hi offs _ v rest => exact C.tab rfl hT fun x => rfl
    · exact absurd hT C.1
  · unfold sa_getfield at hT
    split at hT -- getfield
    · next k _ ci f ty vv hq =>
      split at hT
      · next a rest =>
        split at hT
        · next c row hg =>
          cases hc : Nat.beq c ci with
          | false => rw [hc] at hT; exact absurd hT C.1
          | true =>
            rw [hc, cond_true] at hT
            cases Nat.eq_of_beq_eq_true hc
            dsimp only [cond] at hT
            split at hT
            · next v hv =>
              obtain ⟨vs, a1, a2, a3⟩ := hH.obj hg
              exact C.g hT (x_getf (s_site hr hq) a1 (a3 _ _ hv))
            · exact absurd hT C.1
        · exact absurd hT C.1
      · exact absurd hT C.1
    · exact absurd hT C.1
  · unfold sa_putfield at hT
    split at hT -- putfield
    · next k _ ci f ty z hq =>
      split at hT
      · next v a rest =>
        split at hT
        · next c row hg =>
          cases hc : (Nat.beq c ci && sxok ty v) with
          | false => rw [hc] at hT; exact absurd hT C.1
          | true =>
            rw [hc, cond_true] at hT
            simp only [Bool.and_eq_true] at hc
            cases Nat.eq_of_beq_eq_true hc.1
            obtain ⟨vs, a1, a2, a3⟩ := hH.obj hg
            have hrow : ∃ v0, rget row f = some v0 := by
              cases hv : rget row f with
              | some v0 => exact ⟨_, rfl⟩
              | none =>
                exfalso
                have hT : T (rsetK bad row f v fun row2 => hputK bad h a (some (.inl (ci, row2))) fun h2 => frc (Nat.add pc 3) fun pc2 => ih e h2 n sl mi pc2 r ls rest fs) := hT
                unfold rsetK at hT
                unfold rget at hv
                cases hl : lget row (Nat.div f 8) with
                | none => rw [hl] at hT; exact C.1 hT
                | some l =>
                  rw [hl] at hT hv
                  dsimp only at hT hv
                  rw [hv] at hT
                  exact C.1 hT
            obtain ⟨v0, hv0⟩ := hrow
            have hlt : f < vs.length := (List.getElem?_eq_some_iff.mp (a3 _ _ hv0)).1
            obtain ⟨row2, hT, hp2⟩ := rset_ok C.1 hT
            obtain ⟨h2, hT, hp⟩ := hput_ok C.1 hT
            rw [frc_eq] at hT
            refine C.nx ?_ hT C.2.2.2.1 (hH.set (C1 := .inl (ci, vs.set f (sden (srho xs) v))) a2 ?_ ?_)
            · exact x_putf (s_site hr hq) a1 hlt (sxok_spec hc.2)
            · show (vs.set _ _).length = vs.length
              rw [List.length_set]
            · intro j x hj
              rcases hp j x hj with ⟨rfl, e1⟩ | k
              · cases e1
                refine Or.inl ⟨rfl, rfl, fun q w hw => ?_⟩
                rcases hp2 q w hw with ⟨rfl, rfl⟩ | ⟨g1, g2⟩
                · exact List.getElem?_set_self hlt
                · rw [List.getElem?_set_ne (Ne.symm g1)]
                  exact a3 _ _ g2
              · exact Or.inr k
        · exact absurd hT C.1
      · exact absurd hT C.1
    · exact absurd hT C.1
  · unfold sa_getstatic at hT
    split at hT -- getstatic
    · next hq => exact C.g hT (x_gets (s_site hr hq))
    · exact absurd hT C.1
  · unfold sa_iaload at hT
    exact C.ald hT rfl
  · unfold sa_laload at hT
    exact C.ald hT rfl
  · unfold sa_baload at hT
    exact C.ald hT rfl
  · unfold sa_aaload at hT
    exact C.ald hT rfl
  · unfold sa_iastore at hT
    split at hT -- iastore
    · next v ix a rest =>
      cases hk : Nat.beq (skd v) 0 with
      | false => rw [hk] at hT; exact absurd hT C.1
      | true =>
        rw [hk, cond_true] at hT
        obtain ⟨y, hy⟩ := skd_0 (ro := srho xs) (Nat.eq_of_beq_eq_true hk)
        refine C.ast hT fun x H1 hx hst => ?_
        show (match (sden (srho xs) v :: sden (srho xs) ix :: Value.ref a :: sds (srho xs) rest) with
          | .int x :: .int i :: .ref a :: r => (xastore H a i (.int x) 0).bind fun h1 => xnx (pc + 1) (sdl (srho xs) ls) r h1
          | _ => none) = _
        rw [hy] at hst ⊢
        rw [hx]
        dsimp only
        rw [hst]
        rfl
    · exact absurd hT C.1
  · unfold sa_lastore at hT
    split at hT -- lastore
    · next v ix a rest =>
      cases hk : Nat.beq (skd v) 1 with
      | false => rw [hk] at hT; exact absurd hT C.1
      | true =>
        rw [hk, cond_true] at hT
        obtain ⟨y, hy⟩ := skd_1 (ro := srho xs) (Nat.eq_of_beq_eq_true hk)
        refine C.ast hT fun x H1 hx hst => ?_
        show (match (sden (srho xs) v :: sden (srho xs) ix :: Value.ref a :: sds (srho xs) rest) with
          | .long x :: .int i :: .ref a :: r => (xastore H a i (.long x) 1).bind fun h1 => xnx (pc + 1) (sdl (srho xs) ls) r h1
          | _ => none) = _
        rw [hy] at hst ⊢
        rw [hx]
        dsimp only
        rw [hst]
        rfl
    · exact absurd hT C.1
  · unfold sa_bastore at hT
    split at hT -- bastore
    · next v ix a rest =>
      rcases scon_ok C.1 C.2.1 C.2.2.2.1 hT with ⟨c, hc, hT⟩ | ⟨e2, h1, h2⟩
      · unfold sciK at hT
        rw [frc_eq] at hT
        refine C.ast hT fun x H1 hx hst => ?_
        show (match (sden (srho xs) v :: sden (srho xs) ix :: Value.ref a :: sds (srho xs) rest) with
          | .int x :: .int i :: .ref a :: r => (xastore H a i (.int (x &&& 1)) 2).bind fun h1 => xnx (pc + 1) (sdl (srho xs) ls) r h1
          | _ => none) = _
        rw [sden_i] at hst
        rw [hc, hx]
        dsimp only
        rw [hst]
        rfl
      · exact C.ag h1 h2
    · exact absurd hT C.1
  · unfold sa_aastore at hT
    split at hT -- aastore
    · next ix a rest =>
      split at hT
      · next t q hg =>
        cases hb : (Nat.blt 2 t && Nat.blt t 7) with
        | false => rw [hb] at hT; exact absurd hT C.1
        | true =>
          rw [hb, cond_true] at hT
          obtain ⟨len, d, es, kn⟩ := q
          obtain ⟨vs, a1, -, -, -⟩ := hH.arr hg
          refine C.ast hT fun x H1 hx hst => ?_
          show (match (Value.null :: sden (srho xs) ix :: Value.ref a :: sds (srho xs) rest) with
            | .null :: .int i :: .ref a :: r => match xcell H a with
              | some (.inr (t, _)) => if Nat.blt 2 t && Nat.blt t 7 then (xastore H a i .null t).bind fun h1 => xnx (pc + 1) (sdl (srho xs) ls) r h1 else none
              | _ => none
            | .ref v :: .int i :: .ref a :: r => match xcell H a with
              | some (.inr (t, _)) => if xhold H t v then (xastore H a i (.ref v) t).bind fun h1 => xnx (pc + 1) (sdl (srho xs) ls) r h1 else none
              | _ => none
            | _ => none) = _
          rw [hx]
          dsimp only
          rw [a1]
          dsimp only
          rw [if_pos hb]
          have hst : xastore H a x .null t = some H1 := hst
          rw [hst]
          rfl
      · exact absurd hT C.1
    · next v ix a rest =>
      split at hT
      · next t q c row hg hgv =>
        cases hb : ((t == 3 && c == 1) || (t == 4 && c == 11) || (t == 5 && c == 12) || (t == 6 && c == 14)) with
        | false => rw [hb] at hT; exact absurd hT C.1
        | true =>
          rw [hb, cond_true] at hT
          obtain ⟨len, d, es, kn⟩ := q
          obtain ⟨vs, a1, -, -, -⟩ := hH.arr hg
          refine C.ast hT fun x H1 hx hst => ?_
          show (match (Value.ref v :: sden (srho xs) ix :: Value.ref a :: sds (srho xs) rest) with
            | .null :: .int i :: .ref a :: r => match xcell H a with
              | some (.inr (t, _)) => if Nat.blt 2 t && Nat.blt t 7 then (xastore H a i .null t).bind fun h1 => xnx (pc + 1) (sdl (srho xs) ls) r h1 else none
              | _ => none
            | .ref v :: .int i :: .ref a :: r => match xcell H a with
              | some (.inr (t, _)) => if xhold H t v then (xastore H a i (.ref v) t).bind fun h1 => xnx (pc + 1) (sdl (srho xs) ls) r h1 else none
              | _ => none
            | _ => none) = _
          rw [hx]
          dsimp only
          rw [a1]
          dsimp only
          rw [if_pos (xhold_of hH hgv hb)]
          have hst : xastore H a x (.ref v) t = some H1 := hst
          rw [hst]
          rfl
      · exact absurd hT C.1
    · exact absurd hT C.1
  · unfold sa_arraylength at hT
    split at hT -- arraylength
    · next a rest =>
      cases a with
      | zero => exact C.g hT rfl
      | succ a =>
        cases a with
        | zero => exact C.g hT rfl
        | succ a =>
          have hT : T (match hget h (a + 1 + 1) with
            | some (.inr (_, len, _)) => frc (Nat.add pc 1) fun pc2 => ih e h n sl mi pc2 r ls (.inr (1, len, []) :: rest) fs
            | _ => bad) := hT
          split at hT
          · next t len q hg =>
            obtain ⟨d, es, kn⟩ := q
            obtain ⟨vs, a1, -, a3, -⟩ := hH.arr hg
            refine C.g hT ?_
            show (match xcell H (a + 1 + 1) with
              | some (.inr (_, vs)) => xnx (pc + 1) (sdl (srho xs) ls) (.int (Int32.ofNat vs.length) :: sds (srho xs) rest) H
              | _ => none) = _
            rw [a1]
            dsimp only
            rw [a3]
            rfl
          · exact absurd hT C.1
    · exact absurd hT C.1
  · unfold sa_newarray_int at hT
    exact C.newa hT rfl
  · unfold sa_newarray_long at hT
    exact C.newa hT rfl
  · unfold sa_newarray_boolean at hT
    exact C.newa hT rfl
  · unfold sa_anewarray at hT
    split at hT -- anewarray
    · next hq => exact C.newa hT (x_anew (s_site hr hq))
    · exact absurd hT C.1
  · unfold sa_new at hT
    split at hT -- new
    · next k _ ci b1 b2 b3 hq =>
      split at hT
      · next fl hfl =>
        rw [lget_eq] at hfl
        obtain ⟨h2, hT, hp⟩ := hput_ok C.1 hT
        rw [frc_eq, frc_eq, frc_eq] at hT
        have hH2 := hH.push (cell := some (.inl (ci, fl))) (c := some (.inl (ci, schunk 9 (fl.map snorm)))) (h2 := h2) (fun x hx => by
          cases hx
          refine ⟨_, rfl, rfl, fun q w hw => ?_⟩
          have := rchunk_ok 9 _ q w hw
          rw [List.getElem?_map] at this
          cases hq : fl[q]? with
          | none => rw [hq] at this; cases this
          | some z =>
            rw [hq] at this
            cases this
            rw [sden_norm]) hp
        refine C.nx ((xq_new (s_site hr hq) hfl).trans ?_) hT C.2.2.2.1 hH2
        rw [hH.1]
        rfl
      · exact absurd hT C.1
    · next k _ x ic b2 b3 hq =>
      cases hb : (r.1.hh.isEmpty && (Nat.ble (ssum st) 8 && xthr (xPof R nw) mi pc ic)) with
      | false => rw [hb] at hT; exact absurd hT C.1
      | true =>
        rw [hb, cond_true] at hT
        simp only [Bool.and_eq_true] at hb
        obtain ⟨h2, hT, hp⟩ := hput_ok C.1 hT
        rw [frc_eq, frc_eq] at hT
        have hH2 := hH.push (cell := none) (c := none) (h2 := h2) (fun x hx => by cases hx) hp
        exact xr_throw (x := x) C.2.2.2.2.2.2.2.1 (x_thr (s_site hr hq) (s_meth hr) ⟨hb.1, by rw [ssum_spec]; exact Nat.le_of_ble_eq_true hb.2.1, hb.2.2⟩) (sthr_fin C.1 C.2.2.1 hF C.2.2.2.1 hH2 fs hT C.2.2.2.2.2.2.1)
    · exact absurd hT C.1
  · unfold sa_checkcast at hT
    split at hT -- checkcast
    · next k _ c b1 b2 b3 hq =>
      split at hT
      · next a rest =>
        split at hT
        · next c2 row hg =>
          cases hc : Nat.beq c2 c with
          | false => rw [hc] at hT; exact absurd hT C.1
          | true =>
            rw [hc, cond_true] at hT
            obtain ⟨vs, a1, -, -⟩ := hH.obj hg
            cases Nat.eq_of_beq_eq_true hc
            exact C.g hT (x_chk (s_site hr hq) a1)
        · exact absurd hT C.1
      · exact absurd hT C.1
    · exact absurd hT C.1
  · unfold sa_invokevirtual at hT
    split at hT -- invokevirtual
    · next hq => exact C.call hT (x_iv (s_site hr hq))
    · exact absurd hT C.1
  · unfold sa_invokespecial at hT
    split at hT -- invokespecial
    · next hq =>
      split at hT
      · next a rest =>
        cases hb : Nat.ble (ssum rest) 8 with
        | false => rw [hb] at hT; exact absurd hT C.1
        | true =>
          rw [hb, cond_true] at hT
          exact C.g hT (x_is7 (s_site hr hq) (by have z := Nat.le_of_ble_eq_true hb; rw [← ssum_spec (ro := srho xs)] at z; exact z))
      · exact absurd hT C.1
    · next hq => exact C.call hT (x_is1 (s_site hr hq))
    · exact absurd hT C.1
  · unfold sa_invokestatic at hT
    split at hT -- invokestatic
    · next hq => exact C.call hT (x_ist (s_site hr hq))
    · next hq => exact C.copy hT fun r9 H1 hx => x_cpy (s_site hr hq) hx
    · exact absurd hT C.1
  · unfold sa_return at hT
    split at hT -- return
    · cases hb : sxokr r.1.ret none with
      | false => rw [hb] at hT; exact absurd hT C.1
      | true =>
        rw [hb, cond_true] at hT
        exact C.rt hF hb hT rfl
    · exact absurd hT C.1
  · unfold sa_ireturn at hT
    split at hT -- ireturn
    · next v => exact C.r1 hF hT fun hk => (by
        obtain ⟨x, hx⟩ := skd_0 (ro := srho xs) hk
        show xstep _ _ _ _ .ireturn _ [sden (srho xs) v] _ = _
        rw [hx]
        rfl)
    · exact absurd hT C.1
  · unfold sa_lreturn at hT
    split at hT -- lreturn
    · next v => exact C.r1 hF hT fun hk => (by
        obtain ⟨x, hx⟩ := skd_1 (ro := srho xs) hk
        show xstep _ _ _ _ .lreturn _ [sden (srho xs) v] _ = _
        rw [hx]
        rfl)
    · exact absurd hT C.1
  · unfold sa_freturn at hT
    split at hT -- freturn
    · next v => exact C.r1 hF hT fun hk => (by
        obtain ⟨x, hx⟩ := skd_3 (ro := srho xs) hk
        show xstep _ _ _ _ .freturn _ [sden (srho xs) v] _ = _
        rw [hx]
        rfl)
    · exact absurd hT C.1
  · unfold sa_dreturn at hT
    split at hT -- dreturn
    · next v => exact C.r1 hF hT fun hk => (by
        obtain ⟨x, hx⟩ := skd_4 (ro := srho xs) hk
        show xstep _ _ _ _ .dreturn _ [sden (srho xs) v] _ = _
        rw [hx]
        rfl)
    · exact absurd hT C.1
  · unfold sa_areturn at hT
    split at hT -- areturn
    · next v => exact C.r1 hF hT fun hk => (by
        show xstep _ _ _ _ .areturn _ [sden (srho xs) v] _ = _
        rcases skd_2 (ro := srho xs) hk with hx | ⟨x, hx⟩
        · rw [hx]; rfl
        · rw [hx]; rfl)
    · exact absurd hT C.1
  · exact absurd hT C.1
end SG4
