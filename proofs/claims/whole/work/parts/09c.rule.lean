/-! RULES: a run from a place on, an instruction a rule; ints are 'J x', longs 'G b', references 'rv r' -/
section RU
variable {sc : Nat × (Nat → Int32)} {goal : XO → XH → Prop} {fs : List XF} {mi pc pc1 t k : Nat} {ls ls1 : XL} {st : List Value} {h : XH} {o : Int} {x y : Int} {a b : BitVec 64} {r q : Nat}
abbrev RR (sc : Nat × (Nat → Int32)) (goal : XO → XH → Prop) (fs : List XF) (mi pc : Nat) (ls : XL) (st : List Value) (h : XH) : Prop := XRun xP sc goal fs mi pc ls st h
theorem r_n {i : Instr} (st1 : List Value) (ls1 : XL) (hi : xP.code mi pc = some i) (hs : xstep xP sc mi pc i ls st h = some (.inl (pc1, ls1, st1, h))) (K : RR sc goal fs mi pc1 ls1 st1 h) : RR sc goal fs mi pc ls st h := xr_next hi hs K
theorem r_iadd (hi : xP.code mi pc = some .iadd) (hp : pc + 1 = pc1) (K : RR sc goal fs mi pc1 ls (.int (J (wr (x + y))) :: st) h) : RR sc goal fs mi pc ls (.int (J y) :: .int (J x) :: st) h := by
  subst hp; rw [← J_add] at K; exact xr_next hi rfl K
theorem r_isub (hi : xP.code mi pc = some .isub) (hp : pc + 1 = pc1) (K : RR sc goal fs mi pc1 ls (.int (J (wr (x - y))) :: st) h) : RR sc goal fs mi pc ls (.int (J y) :: .int (J x) :: st) h := by
  subst hp; rw [← J_sub] at K; exact xr_next hi rfl K
theorem r_imul (hi : xP.code mi pc = some .imul) (hp : pc + 1 = pc1) (K : RR sc goal fs mi pc1 ls (.int (J (wr (x * y))) :: st) h) : RR sc goal fs mi pc ls (.int (J y) :: .int (J x) :: st) h := by
  subst hp; rw [← J_mul] at K; exact xr_next hi rfl K
theorem r_ineg (hi : xP.code mi pc = some .ineg) (hp : pc + 1 = pc1) (K : RR sc goal fs mi pc1 ls (.int (J (wr (-x))) :: st) h) : RR sc goal fs mi pc ls (.int (J x) :: st) h := by
  subst hp; rw [← J_neg] at K; exact xr_next hi rfl K
theorem r_iand (hi : xP.code mi pc = some .iand) (hp : pc + 1 = pc1) (K : RR sc goal fs mi pc1 ls (.int (J (iand x y)) :: st) h) : RR sc goal fs mi pc ls (.int (J y) :: .int (J x) :: st) h := by
  subst hp; unfold iand at K; rw [J_toInt] at K; exact xr_next hi rfl K
theorem r_ior (hi : xP.code mi pc = some .ior) (hp : pc + 1 = pc1) (K : RR sc goal fs mi pc1 ls (.int (J (ior x y)) :: st) h) : RR sc goal fs mi pc ls (.int (J y) :: .int (J x) :: st) h := by
  subst hp; unfold ior at K; rw [J_toInt] at K; exact xr_next hi rfl K
theorem r_ixor (hi : xP.code mi pc = some .ixor) (hp : pc + 1 = pc1) (K : RR sc goal fs mi pc1 ls (.int (J (ixor x y)) :: st) h) : RR sc goal fs mi pc ls (.int (J y) :: .int (J x) :: st) h := by
  subst hp; unfold ixor at K; rw [J_toInt] at K; exact xr_next hi rfl K
theorem r_ishl (hi : xP.code mi pc = some .ishl) (hp : pc + 1 = pc1) (K : RR sc goal fs mi pc1 ls (.int (J (ishl x y)) :: st) h) : RR sc goal fs mi pc ls (.int (J y) :: .int (J x) :: st) h := by
  subst hp; unfold ishl at K; rw [J_toInt] at K; exact xr_next hi rfl K
theorem r_ishr (hi : xP.code mi pc = some .ishr) (hp : pc + 1 = pc1) (K : RR sc goal fs mi pc1 ls (.int (J (ishr x y)) :: st) h) : RR sc goal fs mi pc ls (.int (J y) :: .int (J x) :: st) h := by
  subst hp; unfold ishr at K; rw [J_toInt] at K; exact xr_next hi rfl K
theorem r_iushr (hi : xP.code mi pc = some .iushr) (hp : pc + 1 = pc1) (K : RR sc goal fs mi pc1 ls (.int (J (iushr x y)) :: st) h) : RR sc goal fs mi pc ls (.int (J y) :: .int (J x) :: st) h := by
  subst hp; unfold iushr at K; rw [J_toInt] at K; exact xr_next hi rfl K
theorem rg0 : rg 0 := rgk rfl
theorem J_ne0 (hy : rg y) (z : ¬ y = 0) : ¬ J y = 0 := fun e => z ((J_inj hy rg0).mp e)
theorem r_idiv (hi : xP.code mi pc = some .idiv) (hp : pc + 1 = pc1) (hy : rg y) (z : ¬ y = 0) (K : RR sc goal fs mi pc1 ls (.int (J (idiv x y)) :: st) h) : RR sc goal fs mi pc ls (.int (J y) :: .int (J x) :: st) h := by
  subst hp; unfold idiv at K; rw [J_toInt] at K
  exact xr_next hi (show (if J y = 0 then none else xnx (pc + 1) ls (.int (J x / J y) :: st) h) = _ by rw [if_neg (J_ne0 hy z)]; rfl) K
theorem r_irem (hi : xP.code mi pc = some .irem) (hp : pc + 1 = pc1) (hy : rg y) (z : ¬ y = 0) (K : RR sc goal fs mi pc1 ls (.int (J (irem x y)) :: st) h) : RR sc goal fs mi pc ls (.int (J y) :: .int (J x) :: st) h := by
  subst hp; unfold irem at K; rw [J_toInt] at K
  exact xr_next hi (show (if J y = 0 then none else xnx (pc + 1) ls (.int (J x - J x / J y * J y) :: st) h) = _ by rw [if_neg (J_ne0 hy z)]; rfl) K
theorem r_land (hi : xP.code mi pc = some .land) (hp : pc + 1 = pc1) (K : RR sc goal fs mi pc1 ls (.long (G (a &&& b)) :: st) h) : RR sc goal fs mi pc ls (.long (G b) :: .long (G a) :: st) h := by subst hp; exact xr_next hi rfl K
theorem r_lor (hi : xP.code mi pc = some .lor) (hp : pc + 1 = pc1) (K : RR sc goal fs mi pc1 ls (.long (G (a ||| b)) :: st) h) : RR sc goal fs mi pc ls (.long (G b) :: .long (G a) :: st) h := by subst hp; exact xr_next hi rfl K
theorem r_lxor (hi : xP.code mi pc = some .lxor) (hp : pc + 1 = pc1) (K : RR sc goal fs mi pc1 ls (.long (G (a ^^^ b)) :: st) h) : RR sc goal fs mi pc ls (.long (G b) :: .long (G a) :: st) h := by subst hp; exact xr_next hi rfl K
theorem r_ladd (hi : xP.code mi pc = some .ladd) (hp : pc + 1 = pc1) (K : RR sc goal fs mi pc1 ls (.long (G (a + b)) :: st) h) : RR sc goal fs mi pc ls (.long (G b) :: .long (G a) :: st) h := by subst hp; exact xr_next hi rfl K
theorem r_lsub (hi : xP.code mi pc = some .lsub) (hp : pc + 1 = pc1) (K : RR sc goal fs mi pc1 ls (.long (G (a - b)) :: st) h) : RR sc goal fs mi pc ls (.long (G b) :: .long (G a) :: st) h := by subst hp; exact xr_next hi rfl K
theorem r_lneg (hi : xP.code mi pc = some .lneg) (hp : pc + 1 = pc1) (K : RR sc goal fs mi pc1 ls (.long (G (-a)) :: st) h) : RR sc goal fs mi pc ls (.long (G a) :: st) h := by subst hp; exact xr_next hi rfl K
theorem r_lshl (hi : xP.code mi pc = some .lshl) (hp : pc + 1 = pc1) (K : RR sc goal fs mi pc1 ls (.long (G (lshl a y)) :: st) h) : RR sc goal fs mi pc ls (.int (J y) :: .long (G a) :: st) h := by subst hp; exact xr_next hi rfl K
theorem r_lshr (hi : xP.code mi pc = some .lshr) (hp : pc + 1 = pc1) (K : RR sc goal fs mi pc1 ls (.long (G (lshr a y)) :: st) h) : RR sc goal fs mi pc ls (.int (J y) :: .long (G a) :: st) h := by subst hp; exact xr_next hi rfl K
theorem r_lushr (hi : xP.code mi pc = some .lushr) (hp : pc + 1 = pc1) (K : RR sc goal fs mi pc1 ls (.long (G (lushr a y)) :: st) h) : RR sc goal fs mi pc ls (.int (J y) :: .long (G a) :: st) h := by subst hp; exact xr_next hi rfl K
theorem r_i2l (hi : xP.code mi pc = some .i2l) (hp : pc + 1 = pc1) (K : RR sc goal fs mi pc1 ls (.long (G (i2l x)) :: st) h) : RR sc goal fs mi pc ls (.int (J x) :: st) h := by subst hp; exact xr_next hi rfl K
theorem r_l2i (hi : xP.code mi pc = some .l2i) (hp : pc + 1 = pc1) (K : RR sc goal fs mi pc1 ls (.int (J (l2i a)) :: st) h) : RR sc goal fs mi pc ls (.long (G a) :: st) h := by
  subst hp; unfold l2i at K; rw [J_toInt] at K; exact xr_next hi rfl K
/-! variables for values -/
theorem r_vI {v : Int} (rv0 : rg v) (K : ∀ x, x = v → rg x → RR sc goal fs mi pc ls (.int (J x) :: st) h) : RR sc goal fs mi pc ls (.int (J v) :: st) h := K v rfl rv0
theorem r_vL {v : BitVec 64} (K : ∀ x, x = v → RR sc goal fs mi pc ls (.long (G x) :: st) h) : RR sc goal fs mi pc ls (.long (G v) :: st) h := K v rfl
theorem r_vR {v : Nat} (K : ∀ x, x = v → RR sc goal fs mi pc ls (rv x :: st) h) : RR sc goal fs mi pc ls (rv v :: st) h := K v rfl
/-! references -/
theorem r_ald {n : Nat} (hi : xP.code mi pc = some (.aload n)) (hp : pc + 2 = pc1) (hg : xget ls n = some (rv r)) (K : RR sc goal fs mi pc1 ls (rv r :: st) h) : RR sc goal fs mi pc ls st h := by
  subst hp
  refine xr_next hi ?_ K
  show xlda ls n (pc + 2) st h = _
  unfold xlda
  rw [hg]
  unfold rv
  by_cases z : r = 0
  · rw [if_pos z]; rfl
  · rw [if_neg z]; rfl
theorem r_aldn {n : Fin 4} (hi : xP.code mi pc = some (.aload_n n)) (hp : pc + 1 = pc1) (hg : xget ls n = some (rv r)) (K : RR sc goal fs mi pc1 ls (rv r :: st) h) : RR sc goal fs mi pc ls st h := by
  subst hp
  refine xr_next hi ?_ K
  show xlda ls n (pc + 1) st h = _
  unfold xlda
  rw [hg]
  unfold rv
  by_cases z : r = 0
  · rw [if_pos z]; rfl
  · rw [if_neg z]; rfl
theorem x1a_rv (f : Option Nat → List Value → Option XR) : x1a (rv r :: st) f = f (if r = 0 then none else some r) st := by
  unfold rv
  by_cases z : r = 0
  · rw [if_pos z, if_pos z]; rfl
  · rw [if_neg z, if_neg z]; rfl
theorem va_rv : va_rf (if r = 0 then none else some r) = rv r := by
  unfold rv
  by_cases z : r = 0
  · rw [if_pos z, if_pos z]; rfl
  · rw [if_neg z, if_neg z]; rfl
theorem r_ast {n : Nat} (hi : xP.code mi pc = some (.astore n)) (hp : pc + 2 = pc1) (hb : Nat.blt n ls.length = true) (hl : xput1 ls n (rv r) = ls1) (K : RR sc goal fs mi pc1 ls1 st h) : RR sc goal fs mi pc ls (rv r :: st) h := by
  subst hp
  subst hl
  refine xr_next hi ?_ K
  show xsta ls n (pc + 2) (rv r :: st) h = _
  unfold xsta
  have hb : n < ls.length := Nat.le_of_ble_eq_true hb
  rw [x1a_rv, if_pos hb, va_rv]
  rfl
theorem r_astn {n : Fin 4} (hi : xP.code mi pc = some (.astore_n n)) (hp : pc + 1 = pc1) (hb : Nat.blt n ls.length = true) (hl : xput1 ls n (rv r) = ls1) (K : RR sc goal fs mi pc1 ls1 st h) : RR sc goal fs mi pc ls (rv r :: st) h := by
  subst hp
  subst hl
  refine xr_next hi ?_ K
  show xsta ls n (pc + 1) (rv r :: st) h = _
  unfold xsta
  have hb : n < ls.length := Nat.le_of_ble_eq_true hb
  rw [x1a_rv, if_pos hb, va_rv]
  rfl
theorem cat_rv : (rv r).category = 1 := by
  unfold rv
  by_cases z : r = 0
  · rw [if_pos z]; rfl
  · rw [if_neg z]; rfl
theorem r_dupR (hi : xP.code mi pc = some .dup) (hp : pc + 1 = pc1) (K : RR sc goal fs mi pc1 ls (rv r :: rv r :: st) h) : RR sc goal fs mi pc ls (rv r :: st) h := by
  subst hp
  refine xr_next hi ?_ K
  show (if (rv r).category = 1 then _ else _) = _
  rw [if_pos cat_rv]
  rfl
theorem r_popR (hi : xP.code mi pc = some .pop) (hp : pc + 1 = pc1) (K : RR sc goal fs mi pc1 ls st h) : RR sc goal fs mi pc ls (rv r :: st) h := by
  subst hp
  refine xr_next hi ?_ K
  show (if (rv r).category = 1 then _ else _) = _
  rw [if_pos cat_rv]
  rfl
theorem r_dx1 (hi : xP.code mi pc = some .dup_x1) (hp : pc + 1 = pc1) (K : RR sc goal fs mi pc1 ls (.int (J x) :: rv r :: .int (J x) :: st) h) : RR sc goal fs mi pc ls (.int (J x) :: rv r :: st) h := by
  subst hp
  refine xr_next hi ?_ K
  show (if (Value.int (J x)).category = 1 ∧ (rv r).category = 1 then _ else _) = _
  rw [if_pos ⟨rfl, cat_rv⟩]
  rfl
theorem r_dup2 (hi : xP.code mi pc = some .dup2) (hp : pc + 1 = pc1) (K : RR sc goal fs mi pc1 ls (.int (J x) :: rv r :: .int (J x) :: rv r :: st) h) : RR sc goal fs mi pc ls (.int (J x) :: rv r :: st) h := by
  subst hp
  refine xr_next hi ?_ K
  show (if (Value.int (J x)).category = 1 ∧ (rv r).category = 1 then _ else _) = _
  rw [if_pos ⟨rfl, cat_rv⟩]
  rfl
theorem r_iinc {n : Nat} {m : Int} (hi : xP.code mi pc = some (.iinc n m)) (hp : pc + 3 = pc1) (hg : xget ls n = some (.int (J x))) (hb : Nat.blt n ls.length = true) (hr : rg (wr (x + m))) (K : ∀ z, z = wr (x + m) → rg z → RR sc goal fs mi pc1 (xput1 ls n (.int (J z))) st h) : RR sc goal fs mi pc ls st h := by
  subst hp
  have K := K _ rfl hr
  rw [← J_add] at K
  refine xr_next hi ?_ K
  show (match xget ls n with
    | some (.int x) => if n < ls.length then xnx (pc + 3) (xput1 ls n (.int (x + Int32.ofInt m))) st h else none
    | _ => none) = _
  rw [hg]
  have hb : n < ls.length := Nat.le_of_ble_eq_true hb
  dsimp only
  rw [if_pos hb]
  rfl
/-! ways -/
def icP : ClassFile.Cond → Int → Int → Prop
  | .eq, x, y => x = y
  | .ne, x, y => ¬ x = y
  | .lt, x, y => x < y
  | .ge, x, y => y ≤ x
  | .gt, x, y => y < x
  | .le, x, y => x ≤ y
theorem J_lt (hx : rg x) (hy : rg y) : J x < J y ↔ x < y := by rw [Int32.lt_iff_toInt_lt, J_rg hx, J_rg hy]
theorem J_le (hx : rg x) (hy : rg y) : J x ≤ J y ↔ x ≤ y := by rw [Int32.le_iff_toInt_le, J_rg hx, J_rg hy]
theorem xbr_t {p : Prop} [Decidable p] (hp : p) (ho : (pc : Int) + o = Int.ofNat t) : xbr (decide p) pc o ls st h = some (.inl (t, ls, st, h)) := by
  unfold xbr
  rw [ho, decide_eq_true hp]
  rfl
theorem xbr_f {p : Prop} [Decidable p] (hp : ¬ p) (ho : (pc : Int) + o = Int.ofNat t) : xbr (decide p) pc o ls st h = some (.inl (pc + 3, ls, st, h)) := by
  unfold xbr
  rw [ho, decide_eq_false hp]
  rfl
theorem r_br {i : Instr} {p : Prop} [Decidable p] {st0 : List Value} (hi : xP.code mi pc = some i) (hs : xstep xP sc mi pc i ls st0 h = xbr (decide p) pc o ls st h) (ho : (pc : Int) + o = Int.ofNat t) (hp : pc + 3 = pc1) (A : p → RR sc goal fs mi t ls st h) (B : ¬ p → RR sc goal fs mi pc1 ls st h) : RR sc goal fs mi pc ls st0 h := by
  subst hp
  by_cases c : p
  · exact xr_next hi (hs.trans (xbr_t c ho)) (A c)
  · exact xr_next hi (hs.trans (xbr_f c ho)) (B c)
theorem r_ic {c : ClassFile.Cond} (hi : xP.code mi pc = some (.if_icmp c o)) (ho : (pc : Int) + o = Int.ofNat t) (hp : pc + 3 = pc1) (hx : rg x) (hy : rg y) (A : icP c x y → RR sc goal fs mi t ls st h) (B : ¬ icP c x y → RR sc goal fs mi pc1 ls st h) : RR sc goal fs mi pc ls (.int (J y) :: .int (J x) :: st) h := by
  cases c with
  | eq => exact r_br hi rfl ho hp (fun z => A ((J_inj hx hy).mp z)) (fun z => B (fun w => z ((J_inj hx hy).mpr w)))
  | ne => exact r_br hi rfl ho hp (fun z => A (fun w => z ((J_inj hx hy).mpr w))) (fun z => B (fun w => z (fun u => w ((J_inj hx hy).mp u))))
  | lt => exact r_br hi rfl ho hp (fun z => A ((J_lt hx hy).mp z)) (fun z => B (fun w => z ((J_lt hx hy).mpr w)))
  | ge => exact r_br hi rfl ho hp (fun z => A ((J_le hy hx).mp z)) (fun z => B (fun w => z ((J_le hy hx).mpr w)))
  | gt => exact r_br hi rfl ho hp (fun z => A ((J_lt hy hx).mp z)) (fun z => B (fun w => z ((J_lt hy hx).mpr w)))
  | le => exact r_br hi rfl ho hp (fun z => A ((J_le hx hy).mp z)) (fun z => B (fun w => z ((J_le hx hy).mpr w)))
theorem r_iz {c : ClassFile.Cond} (hi : xP.code mi pc = some (.ifCond c o)) (ho : (pc : Int) + o = Int.ofNat t) (hp : pc + 3 = pc1) (hx : rg x) (A : icP c x 0 → RR sc goal fs mi t ls st h) (B : ¬ icP c x 0 → RR sc goal fs mi pc1 ls st h) : RR sc goal fs mi pc ls (.int (J x) :: st) h := by
  cases c with
  | eq => exact r_br hi rfl ho hp (fun z => A ((J_inj hx rg0).mp z)) (fun z => B (fun w => z ((J_inj hx rg0).mpr w)))
  | ne => exact r_br hi rfl ho hp (fun z => A (fun w => z ((J_inj hx rg0).mpr w))) (fun z => B (fun w => z (fun u => w ((J_inj hx rg0).mp u))))
  | lt => exact r_br hi rfl ho hp (fun z => A ((J_lt hx rg0).mp z)) (fun z => B (fun w => z ((J_lt hx rg0).mpr w)))
  | ge => exact r_br hi rfl ho hp (fun z => A ((J_le rg0 hx).mp z)) (fun z => B (fun w => z ((J_le rg0 hx).mpr w)))
  | gt => exact r_br hi rfl ho hp (fun z => A ((J_lt rg0 hx).mp z)) (fun z => B (fun w => z ((J_lt rg0 hx).mpr w)))
  | le => exact r_br hi rfl ho hp (fun z => A ((J_le hx rg0).mp z)) (fun z => B (fun w => z ((J_le hx rg0).mpr w)))
theorem r_null (hi : xP.code mi pc = some (.ifnull o)) (ho : (pc : Int) + o = Int.ofNat t) (hp : pc + 3 = pc1) (A : r = 0 → RR sc goal fs mi t ls st h) (B : ¬ r = 0 → RR sc goal fs mi pc1 ls st h) : RR sc goal fs mi pc ls (rv r :: st) h := by
  refine r_br (p := r = 0) hi ?_ ho hp A B
  show x1a (rv r :: st) (fun x r2 => xbr x.isNone pc o ls r2 h) = _
  rw [x1a_rv]
  by_cases z : r = 0
  · rw [if_pos z, decide_eq_true z]; rfl
  · rw [if_neg z, decide_eq_false z]; rfl
theorem r_nonnull (hi : xP.code mi pc = some (.ifnonnull o)) (ho : (pc : Int) + o = Int.ofNat t) (hp : pc + 3 = pc1) (A : ¬ r = 0 → RR sc goal fs mi t ls st h) (B : ¬ ¬ r = 0 → RR sc goal fs mi pc1 ls st h) : RR sc goal fs mi pc ls (rv r :: st) h := by
  refine r_br (p := ¬ r = 0) hi ?_ ho hp A B
  show x1a (rv r :: st) (fun x r2 => xbr x.isSome pc o ls r2 h) = _
  rw [x1a_rv]
  by_cases z : r = 0
  · rw [if_pos z, decide_eq_false (fun w => w z)]; rfl
  · rw [if_neg z, decide_eq_true z]; rfl
theorem r_goto (hi : xP.code mi pc = some (.goto o)) (ho : (pc : Int) + o = Int.ofNat t) (K : RR sc goal fs mi t ls st h) : RR sc goal fs mi pc ls st h := by
  refine xr_next hi ?_ K
  show xjmp pc o ls st h = _
  unfold xjmp
  rw [ho]
  rfl
def lcP : ClassFile.Cond → BitVec 64 → BitVec 64 → Prop
  | .eq, a, b => a = b
  | .ne, a, b => ¬ a = b
  | .lt, a, b => a.toInt < b.toInt
  | .ge, a, b => b.toInt ≤ a.toInt
  | .gt, a, b => b.toInt < a.toInt
  | .le, a, b => a.toInt ≤ b.toInt
theorem G_inj : G a = G b ↔ a = b := ⟨fun e => congrArg Int64.toBitVec e, fun e => by rw [e]⟩
theorem G_lt : G a < G b ↔ a.toInt < b.toInt := Int64.lt_iff_toInt_lt
theorem G_le : G a ≤ G b ↔ a.toInt ≤ b.toInt := Int64.le_iff_toInt_le
theorem r_lc {c : ClassFile.Cond} {pc2 : Nat} (hi : xP.code mi pc = some .lcmp) (hp1 : pc + 1 = pc2) (hj : xP.code mi pc2 = some (.ifCond c o)) (ho : (pc2 : Int) + o = Int.ofNat t) (hp : pc2 + 3 = pc1) (A : lcP c a b → RR sc goal fs mi t ls st h) (B : ¬ lcP c a b → RR sc goal fs mi pc1 ls st h) : RR sc goal fs mi pc ls (.long (G b) :: .long (G a) :: st) h := by
  subst hp1
  refine xr_next hi (show some (Sum.inl (pc + 1, ls, Value.int (lg_cmp (G a) (G b)) :: st, h)) = _ from rfl) ?_
  cases c with
  | eq => exact r_br hj rfl ho hp (fun z => A (G_inj.mp ((lg_cmp_eq _ _).mp z))) (fun z => B (fun w => z ((lg_cmp_eq _ _).mpr (G_inj.mpr w))))
  | ne => exact r_br hj rfl ho hp (fun z => A (fun w => z ((lg_cmp_eq _ _).mpr (G_inj.mpr w)))) (fun z => B (fun w => z (fun u => w (G_inj.mp ((lg_cmp_eq _ _).mp u)))))
  | lt => exact r_br hj rfl ho hp (fun z => A (G_lt.mp ((lg_cmp_lt _ _).mp z))) (fun z => B (fun w => z ((lg_cmp_lt _ _).mpr (G_lt.mpr w))))
  | ge => exact r_br hj rfl ho hp (fun z => A (G_le.mp ((lg_cmp_ge _ _).mp z))) (fun z => B (fun w => z ((lg_cmp_ge _ _).mpr (G_le.mpr w))))
  | gt => exact r_br hj rfl ho hp (fun z => A (G_lt.mp ((lg_cmp_gt _ _).mp z))) (fun z => B (fun w => z ((lg_cmp_gt _ _).mpr (G_lt.mpr w))))
  | le => exact r_br hj rfl ho hp (fun z => A (G_le.mp ((lg_cmp_le _ _).mp z))) (fun z => B (fun w => z ((lg_cmp_le _ _).mpr (G_le.mpr w))))
end RU
