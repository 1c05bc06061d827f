/-! RULES: locals, calls, returns, throws, copies -/
def dcl : Option Value → Option Value
  | some (.long _) => none
  | some (.double _) => none
  | d => d
theorem dcl_rv (r : Nat) : dcl (some (rv r)) = some (rv r) := by
  unfold rv
  by_cases z : r = 0
  · rw [if_pos z]; rfl
  · rw [if_neg z]; rfl
theorem set_same {α : Type} : ∀ {l : List α} {j : Nat} {d : α}, l[j]? = some d → l.set j d = l := by
  intro l
  induction l with
  | nil => intro j d e; cases e
  | cons a l ih =>
    intro j d e
    cases j with
    | zero => cases e; rfl
    | succ j => exact congrArg (a :: ·) (ih e)
theorem xclr_d {l : XL} {j : Nat} {d : Option Value} (e : l[j]? = some d) : xclr l (j + 1) = l.set j (dcl d) := by
  unfold xclr
  dsimp only
  rw [e]
  cases d with
  | none => exact (set_same e).symm
  | some v =>
    cases v with
    | long _ => rfl
    | double _ => rfl
    | int _ => exact (set_same e).symm
    | float _ => exact (set_same e).symm
    | null => exact (set_same e).symm
    | ref _ => exact (set_same e).symm
    | retAddr _ => exact (set_same e).symm
theorem xput1_d {l l1 : XL} {j : Nat} {d : Option Value} {v : Value} (e : l[j]? = some d) (s : (l.set j (dcl d)).set (j + 1) (some v) = l1) : xput1 l (j + 1) v = l1 := by
  unfold xput1
  rw [xclr_d e]
  exact s
theorem xput1_rv {l l1 : XL} {j r : Nat} {v : Value} (e : l[j]? = some (some (rv r))) (s : l.set (j + 1) (some v) = l1) : xput1 l (j + 1) v = l1 := by
  unfold xput1
  rw [xclr_d e, dcl_rv, set_same e]
  exact s
theorem xput2_d {l l1 : XL} {j : Nat} {d : Option Value} {v : Value} (e : l[j]? = some d) (s : ((l.set j (dcl d)).set (j + 1) (some v)).set (j + 2) none = l1) : xput2 l (j + 1) v = l1 := by
  unfold xput2
  rw [xclr_d e]
  exact s
theorem xput2_rv {l l1 : XL} {j r : Nat} {v : Value} (e : l[j]? = some (some (rv r))) (s : (l.set (j + 1) (some v)).set (j + 2) none = l1) : xput2 l (j + 1) v = l1 := by
  unfold xput2
  rw [xclr_d e, dcl_rv, set_same e]
  exact s
section RC
variable {sc : Nat × (Nat → Int32)} {goal : XO → XH → Prop} {fs : List XF} {mi pc pc1 k c f n j d : Nat} {ls ls1 l0 : XL} {st : List Value} {h : XH} {o : Int} {x y i : Int} {b : BitVec 64} {a r q : Nat} {ty : FieldType} {w : Value} {M M2 : XM} {av rs : List Value}
theorem r_ist (hi : xP.code mi pc = some (.istore n)) (hp : pc + 2 = pc1) (hb : Nat.blt n ls.length = true) (hl : xput1 ls n (.int (J x)) = ls1) (K : RR sc goal fs mi pc1 ls1 st h) : RR sc goal fs mi pc ls (.int (J x) :: st) h := by
  subst hp hl
  refine xr_next hi ?_ K
  have hb : n < ls.length := Nat.le_of_ble_eq_true hb
  show (if n < ls.length then xnx (pc + 2) (xput1 ls n (.int (J x))) st h else none) = _
  rw [if_pos hb]
  rfl
theorem r_istn {n : Fin 4} (hi : xP.code mi pc = some (.istore_n n)) (hp : pc + 1 = pc1) (hb : Nat.blt n ls.length = true) (hl : xput1 ls n (.int (J x)) = ls1) (K : RR sc goal fs mi pc1 ls1 st h) : RR sc goal fs mi pc ls (.int (J x) :: st) h := by
  subst hp hl
  refine xr_next hi ?_ K
  have hb : n < ls.length := Nat.le_of_ble_eq_true hb
  show (if (n : Nat) < ls.length then xnx (pc + 1) (xput1 ls n (.int (J x))) st h else none) = _
  rw [if_pos hb]
  rfl
theorem r_lst (hi : xP.code mi pc = some (.lstore n)) (hp : pc + 2 = pc1) (hb : Nat.blt (n + 1) ls.length = true) (hl : xput2 ls n (.long (G b)) = ls1) (K : RR sc goal fs mi pc1 ls1 st h) : RR sc goal fs mi pc ls (.long (G b) :: st) h := by
  subst hp hl
  refine xr_next hi ?_ K
  have hb : n + 1 < ls.length := Nat.le_of_ble_eq_true hb
  show (if n + 1 < ls.length then xnx (pc + 2) (xput2 ls n (.long (G b))) st h else none) = _
  rw [if_pos hb]
  rfl
theorem r_lstn {n : Fin 4} (hi : xP.code mi pc = some (.lstore_n n)) (hp : pc + 1 = pc1) (hb : Nat.blt (n + 1) ls.length = true) (hl : xput2 ls n (.long (G b)) = ls1) (K : RR sc goal fs mi pc1 ls1 st h) : RR sc goal fs mi pc ls (.long (G b) :: st) h := by
  subst hp hl
  refine xr_next hi ?_ K
  have hb : (n : Nat) + 1 < ls.length := Nat.le_of_ble_eq_true hb
  show (if (n : Nat) + 1 < ls.length then xnx (pc + 1) (xput2 ls n (.long (G b))) st h else none) = _
  rw [if_pos hb]
  rfl
theorem r_inc {m : Int} {g : Int → XL} (hi : xP.code mi pc = some (.iinc n m)) (hp : pc + 3 = pc1) (hg : xget ls n = some (.int (J x))) (hb : Nat.blt n ls.length = true) (hl : ∀ z : Int, xput1 ls n (.int (J z)) = g z) (K : ∀ z, z = wr (x + m) → rg z → RR sc goal fs mi pc1 (g z) st h) : RR sc goal fs mi pc ls st h :=
  r_iinc hi hp hg hb (rgw _) (fun z e z1 => by rw [hl]; exact K z e z1)
/-! calls -/
theorem xa_i {l : List Value} {q : XL} (e : xargs l = q) : xargs (.int (J x) :: l) = some (.int (J x)) :: q := by rw [← e]; rfl
theorem xa_l {l : List Value} {q : XL} (e : xargs l = q) : xargs (.long (G b) :: l) = some (.long (G b)) :: none :: q := by rw [← e]; rfl
theorem xa_r {l : List Value} {q : XL} (e : xargs l = q) : xargs (rv r :: l) = some (rv r) :: q := by
  rw [← e]
  unfold rv
  by_cases z : r = 0
  · rw [if_pos z]; rfl
  · rw [if_neg z]; rfl
theorem xa_0 : xargs [] = [] := rfl
theorem xe_of {q : XL} (h1 : xargs av = q) (h2 : Nat.ble q.length n = true) (h3 : q ++ List.replicate (n - q.length) none = l0) : xentry n av = some l0 := by
  unfold xentry
  rw [h1, if_pos (Nat.le_of_ble_eq_true h2), h3]
theorem xsum_le : ∀ l : List Value, xsum l ≤ 2 * l.length := by
  intro l
  induction l with
  | nil => exact Nat.le_refl _
  | cons v l ih =>
    have e : xsum (v :: l) = v.category + xsum l := by unfold xsum; simp
    have : v.category ≤ 2 := by cases v <;> first | exact Nat.le_refl 2 | exact Nat.le_succ 1
    rw [e, List.length_cons]
    omega
theorem xcl_of {S : XS} {z : Option XR} (hz : (match S.2.2.1 with
      | 0 => some (.inr (.inr (.inl (S.2.1, av, rs))))
      | 1 => match av with
        | .ref _ :: _ => some (.inr (.inr (.inl (S.2.1, av, rs))))
        | _ => none
      | c + 2 => match av with
        | .ref k :: _ => match xcell h k with
          | some (.inl (c2, _)) => if c2 = c then some (.inr (.inr (.inl (S.2.1, av, rs)))) else none
          | _ => none
        | _ => none : Option XR) = z) (hM2 : xP.meth S.2.1 = some M2) (hsp : xsplit M2.nargs st = some (av, rs)) (hr : Nat.ble rs.length 7 = true) : xcall xP S st h = z := by
  unfold xcall
  rw [hM2]
  dsimp only
  rw [hsp]
  dsimp only
  have h1 := xsum_le rs
  have h2 := Nat.le_of_ble_eq_true hr
  rw [if_neg (by omega)]
  exact hz
theorem r_iq (hi : xP.code mi pc = some (.invokestatic k)) (hs : xP.site mi k = some (1, j, 0, ty, w)) (hM : xP.meth mi = some M) (hM2 : xP.meth j = some M2) (hsp : xsplit M2.nargs st = some (av, rs)) (hr : Nat.ble rs.length 7 = true) (hl : xentry M2.maxL av = some l0) (hd : fs.length < 1000) (K : RR sc goal ((mi, pc, ls, rs) :: fs) j 0 l0 [] h) : RR sc goal fs mi pc ls st h := by
  refine xr_call (mj := j) (av := av) (r := rs) hi ?_ hM hM2 hl hd K
  show (match xP.site mi k with
    | some (1, j, 0, ty, v) => xcall xP (1, j, 0, ty, v) st h
    | some (10, _, _, _, _) => match xcopy h st with
      | some (r, h1) => xnx (pc + 3) ls r h1
      | none => none
    | _ => none) = _
  rw [hs]
  exact xcl_of (S := (1, j, 0, ty, w)) rfl hM2 hsp hr
theorem r_ip (hi : xP.code mi pc = some (.invokespecial k)) (hs : xP.site mi k = some (1, j, 1, ty, w)) (hM : xP.meth mi = some M) (hM2 : xP.meth j = some M2) (hsp : xsplit M2.nargs st = some (rv a :: av, rs)) (hr : Nat.ble rs.length 7 = true) (t : HT h) (hc : hk h a = c) (h16 : Nat.blt c 16 = true) (hl : xentry M2.maxL (rv a :: av) = some l0) (hd : fs.length < 1000) (K : RR sc goal ((mi, pc, ls, rs) :: fs) j 0 l0 [] h) : RR sc goal fs mi pc ls st h := by
  have h16 : c < 16 := Nat.le_of_ble_eq_true h16
  refine xr_call (mj := j) (av := rv a :: av) (r := rs) hi ?_ hM hM2 hl hd K
  cases st with
  | nil =>
    unfold xsplit at hsp
    split at hsp
    · simp at hsp
    · cases hsp
  | cons v st =>
    show (match xP.site mi k, (v :: st : List Value) with
      | some (7, _, _, _, _), .ref _ :: r => if xsum r ≤ 8 then xnx (pc + 3) ls r h else none
      | some (1, j, 1, ty, v2), _ => xcall xP (1, j, 1, ty, v2) (v :: st) h
      | _, _ => none) = _
    rw [hs]
    refine xcl_of (S := (1, j, 1, ty, w)) ?_ hM2 hsp hr
    show (match (rv a :: av : List Value) with
        | .ref _ :: _ => some (.inr (.inr (.inl (j, rv a :: av, rs))))
        | _ => none : Option XR) = _
    rw [rv_hk t hc (by omega)]
theorem r_iv (hi : xP.code mi pc = some (.invokevirtual k)) (hs : xP.site mi k = some (1, j, c + 2, ty, w)) (hM : xP.meth mi = some M) (hM2 : xP.meth j = some M2) (hsp : xsplit M2.nargs st = some (rv a :: av, rs)) (hr : Nat.ble rs.length 7 = true) (t : HT h) (hc : hk h a = c) (h16 : Nat.blt c 16 = true) (hl : xentry M2.maxL (rv a :: av) = some l0) (hd : fs.length < 1000) (K : RR sc goal ((mi, pc, ls, rs) :: fs) j 0 l0 [] h) : RR sc goal fs mi pc ls st h := by
  have h16 : c < 16 := Nat.le_of_ble_eq_true h16
  refine xr_call (mj := j) (av := rv a :: av) (r := rs) hi ?_ hM hM2 hl hd K
  show (match xP.site mi k with
    | some (1, j, c + 2, ty, v) => xcall xP (1, j, c + 2, ty, v) st h
    | _ => none) = _
  rw [hs]
  refine xcl_of (S := (1, j, c + 2, ty, w)) ?_ hM2 hsp hr
  show (match (rv a :: av : List Value) with
        | .ref k :: _ => match xcell h k with
          | some (.inl (c2, _)) => if c2 = c then some (.inr (.inr (.inl (j, rv a :: av, rs)))) else none
          | _ => none
        | _ => none : Option XR) = _
  rw [rv_hk t hc (by omega)]
  show (match xcell h a with
          | some (.inl (c2, _)) => if c2 = c then some (.inr (.inr (.inl (j, Value.ref a :: av, rs)))) else none
          | _ => none : Option XR) = _
  unfold hk at hc
  cases e : xcell h a with
  | none => rw [e] at hc; unfold sh at hc; dsimp only at hc; omega
  | some z =>
    have ok := t.1 a
    rw [e] at hc ok
    cases z with
    | inr q => obtain ⟨c2, vs⟩ := q; unfold sh at hc; dsimp only at hc; omega
    | inl q =>
      obtain ⟨c2, vs⟩ := q
      have hc : c2 = c := hc
      subst hc
      dsimp only
      rw [if_pos rfl]
/-- Object's own constructor -/
theorem r_i7 {u : Nat} (hi : xP.code mi pc = some (.invokespecial k)) (hs : xP.site mi k = some (7, u, q, ty, w)) (hp : pc + 3 = pc1) (t : HT h) (hc : hk h a = c) (h16 : Nat.blt c 16 = true) (hr : Nat.ble st.length 4 = true) (K : RR sc goal fs mi pc1 ls st h) : RR sc goal fs mi pc ls (rv a :: st) h := by
  have h16 : c < 16 := Nat.le_of_ble_eq_true h16
  subst hp
  refine xr_next hi ?_ K
  rw [rv_hk t hc (by omega)]
  show (match xP.site mi k, (Value.ref a :: st : List Value) with
    | some (7, _, _, _, _), .ref _ :: r => if xsum r ≤ 8 then xnx (pc + 3) ls r h else none
    | some (1, j, 1, ty, v2), _ => xcall xP (1, j, 1, ty, v2) (Value.ref a :: st) h
    | _, _ => none) = _
  rw [hs]
  show (if xsum st ≤ 8 then xnx (pc + 3) ls st h else none) = _
  have h1 := xsum_le st
  have h2 := Nat.le_of_ble_eq_true hr
  rw [if_pos (by omega)]
  rfl
theorem r_d0 (hd : fs.length + d ≤ 1000) (h1 : Nat.ble 1 d = true) : fs.length < 1000 := by have := Nat.le_of_ble_eq_true h1; omega
theorem r_d1 {e : Nat} {F : XF} (hd : fs.length + d ≤ 1000) (h1 : Nat.ble (e + 1) d = true) : (F :: fs).length + e ≤ 1000 := by have := Nat.le_of_ble_eq_true h1; rw [List.length_cons]; omega
theorem r_fin {F : XF} {v : Option Value} (K : RR sc goal fs F.1 (F.2.1 + 3) F.2.2.1 (v.toList ++ F.2.2.2) h) : XFin xP sc goal (F :: fs) (.inl v) h := K
theorem r_finx {F : XF} (hM : xP.meth F.1 = some M) (hh : M.hh = []) (K : XFin xP sc goal fs (.inr q) h) : XFin xP sc goal (F :: fs) (.inr q) h := ⟨M, hM, .inl ⟨hh, K⟩⟩
theorem r_fink {F : XF} {z : Int} (hM : xP.meth F.1 = some M) (hh : ¬ M.hh = []) (hk : xhand xP F.1 M F.2.2.1 F.2.1 q = some (J z)) (hr : M.ret = some .int) (K : XFin xP sc goal fs (.inl (some (.int (J z)))) h) : XFin xP sc goal (F :: fs) (.inr q) h := ⟨M, hM, .inr ⟨hh, J z, hk, by rw [hr]; rfl, K⟩⟩
/-! returns -/
theorem r_retI (hi : xP.code mi pc = some .ireturn) (hM : xP.meth mi = some M) (hr : M.ret = some .int) (K : XFin xP sc goal fs (.inl (some (.int (J x)))) h) : RR sc goal fs mi pc ls [.int (J x)] h := xr_ret hi rfl hM (by rw [hr]; rfl) K
theorem r_retB (hi : xP.code mi pc = some .ireturn) (hM : xP.meth mi = some M) (hr : M.ret = some .boolean) (hx : x = 0 ∨ x = 1) (K : XFin xP sc goal fs (.inl (some (.int (J x)))) h) : RR sc goal fs mi pc ls [.int (J x)] h := xr_ret hi rfl hM (by rw [hr]; exact xok_B hx) K
theorem r_retL (hi : xP.code mi pc = some .lreturn) (hM : xP.meth mi = some M) (hr : M.ret = some .long) (K : XFin xP sc goal fs (.inl (some (.long (G b)))) h) : RR sc goal fs mi pc ls [.long (G b)] h := xr_ret hi rfl hM (by rw [hr]; rfl) K
theorem r_retV (hi : xP.code mi pc = some .return_) (hM : xP.meth mi = some M) (hr : M.ret = none) (K : XFin xP sc goal fs (.inl none) h) : RR sc goal fs mi pc ls [] h := xr_ret hi rfl hM (by rw [hr]; rfl) K
theorem r_retF {z : UInt32} (hi : xP.code mi pc = some .freturn) (hM : xP.meth mi = some M) (hr : M.ret = some .float) (K : XFin xP sc goal fs (.inl (some (.float z))) h) : RR sc goal fs mi pc ls [.float z] h := xr_ret hi rfl hM (by rw [hr]; rfl) K
theorem r_retD {z : UInt64} (hi : xP.code mi pc = some .dreturn) (hM : xP.meth mi = some M) (hr : M.ret = some .double) (K : XFin xP sc goal fs (.inl (some (.double z))) h) : RR sc goal fs mi pc ls [.double z] h := xr_ret hi rfl hM (by rw [hr]; rfl) K
theorem r_retR (hi : xP.code mi pc = some .areturn) (hM : xP.meth mi = some M) (hr : M.ret = some ty) (hx : xok ty (rv r) = true) (hy : ∀ v, xokr (some ty) (some (rv v)) = xok ty (rv v)) (K : XFin xP sc goal fs (.inl (some (rv r))) h) : RR sc goal fs mi pc ls [rv r] h := by
  refine xr_ret (v := some (rv r)) hi ?_ hM (by rw [hr, hy]; exact hx) K
  unfold rv
  by_cases z : r = 0
  · rw [if_pos z]; rfl
  · rw [if_neg z]; rfl
theorem xokr_O {s : String} (v : Nat) : xokr (some (.object s)) (some (rv v)) = xok (.object s) (rv v) := by
  unfold rv
  by_cases z : v = 0
  · rw [if_pos z]; rfl
  · rw [if_neg z]; rfl
theorem xokr_A {s : FieldType} (v : Nat) : xokr (some (.array s)) (some (rv v)) = xok (.array s) (rv v) := by
  unfold rv
  by_cases z : v = 0
  · rw [if_pos z]; rfl
  · rw [if_neg z]; rfl
theorem HT_nT (t : HT h) : HT (nT h) ∧ HX h (nT h) := ⟨HT_app t trivial (by show _ ∨ _ ∨ _ ∨ 100 ≤ 9999; omega) (fun _ => elOK_no (by decide)), HX_app _ _⟩
theorem r_thr {ic : Nat} (hi : xP.code mi pc = some (.new k)) (hs : xP.site mi k = some (5, q, ic, ty, w)) (hM : xP.meth mi = some M) (hh : M.hh.isEmpty = true) (hr : Nat.ble st.length 4 = true) (hx : xthr xP mi pc ic = true) (K : XFin xP sc goal fs (.inr q) (nT h)) : RR sc goal fs mi pc ls st h := by
  refine xr_throw (x := q) hi ?_ K
  show (match xP.site mi k with
    | some (2, ci, _, _, _) => match xP.news ci with
      | some fs => xnx (pc + 3) ls (.ref h.length :: st) (h ++ [some (.inl (ci, fs))])
      | none => none
    | some (5, x, ic, _, _) => match xP.meth mi with
      | some M => if M.hh.isEmpty = true ∧ xsum st ≤ 8 ∧ xthr xP mi pc ic = true then some (.inr (.inr (.inr x))) else none
      | none => none
    | _ => none : Option XR) = _
  rw [hs]
  show (match xP.meth mi with
      | some M => if M.hh.isEmpty = true ∧ xsum st ≤ 8 ∧ xthr xP mi pc ic = true then some (.inr (.inr (.inr q))) else none
      | none => none : Option XR) = _
  rw [hM]
  have h1 := xsum_le st
  have h2 := Nat.le_of_ble_eq_true hr
  dsimp only
  rw [if_pos ⟨hh, by omega, hx⟩]
/-! switches -/
def swA (sc : Nat × (Nat → Int32)) (goal : XO → XH → Prop) (fs : List XF) (mi pc : Nat) (ls : XL) (st : List Value) (h : XH) (x : Int) : List Int → Int → Prop
  | [], _ => True
  | o :: os, v => (x = v → ∃ t, (pc : Int) + o = Int.ofNat t ∧ RR sc goal fs mi t ls st h) ∧ swA sc goal fs mi pc ls st h x os (v + 1)
theorem swA_at : ∀ {os : List Int} {v : Int}, swA sc goal fs mi pc ls st h x os v → ∀ {m : Nat} {o : Int}, os[m]? = some o → x = v + m → ∃ t, (pc : Int) + o = Int.ofNat t ∧ RR sc goal fs mi t ls st h := by
  intro os
  induction os with
  | nil => intro v _ m o e; cases e
  | cons o1 os ih =>
    intro v z m o e hx
    cases m with
    | zero => cases e; exact z.1 (by omega)
    | succ m => exact ih z.2 e (by omega)
theorem r_tsw {d0 lo hi0 : Int} {offs : Array Int} {t0 : Nat} (hi : xP.code mi pc = some (.tableswitch d0 lo hi0 offs)) (hx : rg x) (hlen : (offs.size : Int) = hi0 - lo + 1) (ho : (pc : Int) + d0 = Int.ofNat t0) (D : x < lo ∨ hi0 < x → RR sc goal fs mi t0 ls st h) (A : swA sc goal fs mi pc ls st h x offs.toList lo) : RR sc goal fs mi pc ls (.int (J x) :: st) h := by
  by_cases z : x < lo ∨ hi0 < x
  · refine xr_next hi ?_ (D z)
    show (if (J x).toInt < lo ∨ hi0 < (J x).toInt then xjmp pc d0 ls st h else match offs[((J x).toInt - lo).toNat]? with
      | some o => xjmp pc o ls st h
      | none => none) = _
    rw [J_rg hx, if_pos z]
    unfold xjmp
    rw [ho]
    rfl
  · have hl : (x - lo).toNat < offs.size := by omega
    have e : offs[(x - lo).toNat]? = some offs[(x - lo).toNat] := Array.getElem?_eq_getElem hl
    have e2 : offs.toList[(x - lo).toNat]? = some offs[(x - lo).toNat] := by rw [Array.getElem?_toList]; exact e
    obtain ⟨t, h1, h2⟩ := swA_at A e2 (by omega)
    refine xr_next hi ?_ h2
    show (if (J x).toInt < lo ∨ hi0 < (J x).toInt then xjmp pc d0 ls st h else match offs[((J x).toInt - lo).toNat]? with
      | some o => xjmp pc o ls st h
      | none => none) = _
    rw [J_rg hx, if_neg z, e]
    dsimp only
    unfold xjmp
    rw [h1]
    rfl
end RC
