/-! VIEWS OF THE HEAP: numbers, longs, references by cell and place; shapes; what every heap of a run keeps -/
abbrev J (x : Int) : Int32 := Int32.ofInt x
abbrev G (b : BitVec 64) : Int64 := Int64.ofBitVec b
def wr (x : Int) : Int := (x + 2147483648) % 4294967296 - 2147483648
def rg (x : Int) : Prop := -2147483648 ≤ x ∧ x < 2147483648
def rgb (x : Int) : Bool := decide (-2147483648 ≤ x) && decide (x < 2147483648)
theorem rgk {x : Int} (h : rgb x = true) : rg x := by
  unfold rgb at h
  simp only [Bool.and_eq_true, decide_eq_true_eq] at h
  exact h
theorem rgw (x : Int) : rg (wr x) := by unfold rg wr; omega
theorem rgt (x : Int32) : rg x.toInt := ⟨x.le_toInt, x.toInt_lt⟩
theorem wr_rg {x : Int} (h : rg x) : wr x = x := by unfold rg at h; unfold wr; omega
theorem J_toInt (x : Int32) : J x.toInt = x := Int32.ofInt_toInt x
theorem bm32 (x : Int) : x.bmod 4294967296 = wr x := by
  unfold Int.bmod wr
  dsimp only
  have e : ((4294967296 : Nat) : Int) = 4294967296 := rfl
  rw [e]
  split <;> omega
theorem toInt_J (x : Int) : (J x).toInt = wr x := by
  show (Int32.ofInt x).toInt = wr x
  rw [Int32.toInt_ofInt]
  show x.bmod 4294967296 = wr x
  exact bm32 x
theorem J_wr (x : Int) : J (wr x) = J x := by
  rw [← toInt_J, J_toInt]
theorem J_rg {x : Int} (h : rg x) : (J x).toInt = x := by rw [toInt_J, wr_rg h]
theorem J_eqI {x y : Int32} (h : x.toInt = y.toInt) : x = y := Int32.toInt_inj.mp h
theorem J_inj {x y : Int} (hx : rg x) (hy : rg y) : J x = J y ↔ x = y := ⟨fun h => by rw [← J_rg hx, ← J_rg hy, h], fun h => by rw [h]⟩
theorem J_ofEq (x : Int32) (y : Int) (h : x.toInt = wr y) : x = J y := J_eqI (by rw [toInt_J]; exact h)
theorem J_add (x y : Int) : J x + J y = J (wr (x + y)) := J_ofEq _ _ (by
  rw [Int32.toInt_add, toInt_J, toInt_J]; show Int.bmod _ 4294967296 = _; rw [bm32]; unfold wr; omega)
theorem J_sub (x y : Int) : J x - J y = J (wr (x - y)) := J_ofEq _ _ (by
  rw [Int32.toInt_sub, toInt_J, toInt_J]; show Int.bmod _ 4294967296 = _; rw [bm32]; unfold wr; omega)
theorem J_neg (x : Int) : - J x = J (wr (-x)) := J_ofEq _ _ (by
  rw [Int32.toInt_neg, toInt_J]; show Int.bmod _ 4294967296 = _; rw [bm32]; unfold wr; omega)
theorem J_mul (x y : Int) : J x * J y = J (wr (x * y)) := J_ofEq _ _ (by
  rw [Int32.toInt_mul, toInt_J, toInt_J]
  show Int.bmod _ 4294967296 = _
  rw [← bm32 x, ← bm32 y, ← bm32 (x * y), ← bm32 (Int.bmod (x * y) 4294967296), Int.bmod_bmod, Int.bmod_mul_bmod, Int.mul_bmod_bmod])
def iand (x y : Int) : Int := (J x &&& J y).toInt
def ior (x y : Int) : Int := (J x ||| J y).toInt
def ixor (x y : Int) : Int := (J x ^^^ J y).toInt
def ishl (x y : Int) : Int := (J x <<< (J y &&& 31)).toInt
def ishr (x y : Int) : Int := (J x >>> (J y &&& 31)).toInt
def iushr (x y : Int) : Int := ((J x).toUInt32 >>> ((J y).toUInt32 &&& Int32.toUInt32 31)).toInt32.toInt
def idiv (x y : Int) : Int := (J x / J y).toInt
def irem (x y : Int) : Int := (J x - J x / J y * J y).toInt
def l2i (b : BitVec 64) : Int := (G b).toInt32.toInt
def i2l (x : Int) : BitVec 64 := (J x).toInt64.toBitVec
def lshl (b : BitVec 64) (y : Int) : BitVec 64 := (G b <<< ((J y).toInt64 &&& 63)).toBitVec
def lshr (b : BitVec 64) (y : Int) : BitVec 64 := (G b >>> ((J y).toInt64 &&& 63)).toBitVec
def lushr (b : BitVec 64) (y : Int) : BitVec 64 := ((G b).toUInt64 >>> ((J y).toInt64.toUInt64 &&& Int64.toUInt64 63)).toInt64.toBitVec
/-! cells -/
def gvI : Value → Int
  | .int x => x.toInt
  | _ => 0
def gvL : Value → BitVec 64
  | .long x => x.toBitVec
  | _ => 0
def gvR : Value → Nat
  | .ref k => k
  | _ => 0
def rv (k : Nat) : Value := if k = 0 then .null else .ref k
def vk : Value → Nat
  | .int _ => 0
  | .long _ => 1
  | .null => 2
  | .ref k => if k = 0 then 3 else 2
  | _ => 3
theorem vk_rv (k : Nat) : vk (rv k) = 2 := by
  unfold rv
  split
  · rfl
  · next h => simp only [vk, if_neg h]
theorem vk_ref (k : Nat) : vk (.ref k) = if k = 0 then 3 else 2 := rfl
theorem vk_refn {k n : Nat} (h : vk (.ref k) = n) (hn : n < 2) : False := by
  rw [vk_ref] at h
  by_cases z : k = 0
  · rw [if_pos z] at h; omega
  · rw [if_neg z] at h; omega
theorem vk0 {v : Value} (h : vk v = 0) : v = .int (J (gvI v)) := by
  cases v with
  | int x => exact congrArg Value.int (J_toInt x).symm
  | ref k => exact (vk_refn h (by decide)).elim
  | long _ => cases h
  | float _ => cases h
  | double _ => cases h
  | null => cases h
  | retAddr _ => cases h
theorem vk1 {v : Value} (h : vk v = 1) : v = .long (G (gvL v)) := by
  cases v with
  | long x => rfl
  | ref k => exact (vk_refn h (by decide)).elim
  | int _ => cases h
  | float _ => cases h
  | double _ => cases h
  | null => cases h
  | retAddr _ => cases h
theorem rv_pos {k : Nat} (z : ¬ k = 0) : rv k = .ref k := by unfold rv; rw [if_neg z]
theorem rv_0 : rv 0 = .null := rfl
theorem gvR_rv (r : Nat) : gvR (rv r) = r := by
  unfold rv
  by_cases z : r = 0
  · rw [if_pos z, z]; rfl
  · rw [if_neg z]; rfl
theorem vk2 {v : Value} (h : vk v = 2) : v = rv (gvR v) := by
  cases v with
  | null => rfl
  | ref k =>
    rw [vk_ref] at h
    by_cases z : k = 0
    · rw [if_pos z] at h; cases h
    · exact (rv_pos z).symm
  | int _ => cases h
  | long _ => cases h
  | float _ => cases h
  | double _ => cases h
  | retAddr _ => cases h
def sh : XC → Nat × Nat
  | none => (9999, 0)
  | some (.inl (c, vs)) => (c, vs.length)
  | some (.inr (t, vs)) => (100 + t, vs.length)
def hk (h : XH) (a : Nat) : Nat := (sh (xcell h a)).1
def hn (h : XH) (a : Nat) : Nat := (sh (xcell h a)).2
def ell : XC → List Value
  | none => []
  | some (.inl (_, vs)) => vs
  | some (.inr (_, vs)) => vs
def el (h : XH) (a i : Nat) : Value := (ell (xcell h a))[i]?.getD .null
def hI (h : XH) (a i : Nat) : Int := gvI (el h a i)
def hL (h : XH) (a i : Nat) : BitVec 64 := gvL (el h a i)
def hR (h : XH) (a i : Nat) : Nat := gvR (el h a i)
def cset : XC → Nat → Value → XC
  | none, _, _ => none
  | some (.inl (c, vs)), i, v => some (.inl (c, vs.set i v))
  | some (.inr (t, vs)), i, v => some (.inr (t, vs.set i v))
def sV (h : XH) (a i : Nat) (v : Value) : XH := h.set a (cset (xcell h a) i v)
abbrev sI (h : XH) (a i : Nat) (x : Int) : XH := sV h a i (.int (J x))
abbrev sL (h : XH) (a i : Nat) (b : BitVec 64) : XH := sV h a i (.long (G b))
abbrev sR (h : XH) (a i : Nat) (r : Nat) : XH := sV h a i (rv r)
theorem sh_cset (c : XC) (i : Nat) (v : Value) : sh (cset c i v) = sh c := by
  cases c with
  | none => rfl
  | some q =>
    cases q with
    | inl q => exact congrArg (fun n => (q.1, n)) List.length_set
    | inr q => exact congrArg (fun n => (100 + q.1, n)) List.length_set
theorem ell_cset (c : XC) (i : Nat) (v : Value) : ell (cset c i v) = (ell c).set i v := by
  cases c with
  | none => rfl
  | some q => cases q <;> rfl
theorem ell_len (c : XC) : (ell c).length = (sh c).2 := by
  cases c with
  | none => rfl
  | some q => cases q <;> rfl
theorem xcell_lt {h : XH} {a : Nat} {c : (Nat × List Value) ⊕ (Nat × List Value)} (e : xcell h a = some c) : a < h.length := by
  unfold xcell at e
  cases q : h[a]? with
  | none => rw [q] at e; cases e
  | some z => exact (List.getElem?_eq_some_iff.mp q).1
theorem xcell_set (h : XH) (a b : Nat) (c : XC) (ha : a < h.length) : xcell (h.set a c) b = if a = b then c else xcell h b := by
  unfold xcell
  rw [List.getElem?_set]
  by_cases e : a = b
  · subst e; rw [if_pos rfl, if_pos rfl]; simp [ha]
  · rw [if_neg e, if_neg e]
theorem xcell_sV (h : XH) (a b i : Nat) (v : Value) : xcell (sV h a i v) b = if a = b then cset (xcell h a) i v else xcell h b := by
  unfold sV
  by_cases ha : a < h.length
  · exact xcell_set h a b _ ha
  · have e : xcell h a = none := by unfold xcell; rw [List.getElem?_eq_none (by omega)]; rfl
    rw [List.set_eq_of_length_le (by omega), e]
    by_cases q : a = b
    · subst q; rw [if_pos rfl, e]; rfl
    · rw [if_neg q]
theorem sh_sV (h : XH) (a i : Nat) (v : Value) (b : Nat) : sh (xcell (sV h a i v) b) = sh (xcell h b) := by
  rw [xcell_sV]
  split
  · next q => subst q; exact sh_cset _ _ _
  · rfl
theorem hk_sV (h : XH) (a i : Nat) (v : Value) (b : Nat) : hk (sV h a i v) b = hk h b := by unfold hk; rw [sh_sV]
theorem hn_sV (h : XH) (a i : Nat) (v : Value) (b : Nat) : hn (sV h a i v) b = hn h b := by unfold hn; rw [sh_sV]
theorem len_sV (h : XH) (a i : Nat) (v : Value) : (sV h a i v).length = h.length := by unfold sV; exact List.length_set
theorem el_sV (h : XH) (a i : Nat) (v : Value) (b j : Nat) : el (sV h a i v) b j = if a = b ∧ i = j ∧ i < hn h a then v else el h b j := by
  unfold el
  rw [xcell_sV]
  by_cases q : a = b
  · subst q
    rw [if_pos rfl, ell_cset, List.getElem?_set, ell_len]
    by_cases e : i = j
    · subst e
      rw [if_pos rfl]
      by_cases w : i < (sh (xcell h a)).2
      · rw [if_pos w, if_pos ⟨rfl, rfl, w⟩]; rfl
      · rw [if_neg w, if_neg (fun z => w z.2.2), List.getElem?_eq_none (by rw [ell_len]; omega)]
    · rw [if_neg e, if_neg (fun z => e z.2.1)]
  · rw [if_neg q, if_neg (fun z => q z.1)]
/-! growth -/
def app (h : XH) (c : XC) : XH := h ++ [c]
theorem xcell_app (h : XH) (c : XC) (b : Nat) : xcell (app h c) b = if b = h.length then c else xcell h b := by
  unfold xcell app
  by_cases q : b < h.length
  · rw [List.getElem?_append_left q, if_neg (by omega)]
  · by_cases e : b = h.length
    · subst e; rw [if_pos rfl]; simp
    · rw [if_neg e, List.getElem?_eq_none (by simp; omega), List.getElem?_eq_none (by omega)]
def kO (c : Nat) : List Value := (xNews[c]?).getD []
def nO (h : XH) (c : Nat) : XH := app h (some (.inl (c, kO c)))
def v0 (t : Nat) : Value := if t = 0 ∨ t = 2 then .int 0 else if t = 1 then .long 0 else .null
def nA (h : XH) (t n : Nat) : XH := app h (some (.inr (t, List.replicate n (v0 t))))
def nT (h : XH) : XH := app h none
/-- a copy of n elements of a from sp on to b from dp on -/
def cA (h : XH) (a sp b dp n : Nat) : XH := match xcell h b with
  | some (.inr (t, ws)) => h.set b (some (.inr (t, ws.take dp ++ ((ell (xcell h a)).drop sp).take n ++ ws.drop (dp + n))))
  | _ => h
/-! what every heap keeps -/
def HX (h0 h : XH) : Prop := h0.length ≤ h.length ∧ ∀ a, a < h0.length → sh (xcell h a) = sh (xcell h0 a)
theorem HX_refl (h : XH) : HX h h := ⟨Nat.le_refl _, fun _ _ => rfl⟩
theorem HX_trans {a b c : XH} (x : HX a b) (y : HX b c) : HX a c := ⟨Nat.le_trans x.1 y.1, fun k hk => (y.2 k (Nat.lt_of_lt_of_le hk x.1)).trans (x.2 k hk)⟩
theorem HX_sV (h : XH) (a i : Nat) (v : Value) : HX h (sV h a i v) := ⟨by rw [len_sV]; exact Nat.le_refl _, fun b _ => sh_sV h a i v b⟩
theorem HX_app (h : XH) (c : XC) : HX h (app h c) := ⟨by unfold app; simp, fun b hb => by rw [xcell_app, if_neg (by omega)]⟩
theorem hk_lt {h : XH} {a c : Nat} (e : hk h a = c) (hc : c < 9999) : a < h.length := by
  unfold hk at e
  cases q : xcell h a with
  | none => rw [q] at e; unfold sh at e; dsimp only at e; omega
  | some z => exact xcell_lt q
theorem HX_hk {h0 h : XH} (s : HX h0 h) {a c : Nat} (e : hk h0 a = c) (hc : c < 9999) : hk h a = c := by
  have := s.2 a (hk_lt e hc)
  unfold hk at e ⊢
  rw [this, e]
def tyA (t : Nat) : Nat := if t = 0 ∨ t = 2 then 0 else if t = 1 then 1 else 2
def cOK : XC → Prop
  | none => True
  | some (.inl (c, vs)) => c < 16 ∧ vs.map vk = (kO c).map vk
  | some (.inr (t, vs)) => t < 8 ∧ ∀ v ∈ vs, vk v = tyA t
def TY (h : XH) : Prop := ∀ a, cOK (xcell h a)
def fk (c f : Nat) : Nat := (((kO c).map vk)[f]?).getD 9
theorem el_obj {h : XH} (t : TY h) {a c f k : Nat} (hc : hk h a = c) (h16 : c < 16) (hf : fk c f = k) (h9 : k < 9) : f < hn h a ∧ vk (el h a f) = k ∧ ∃ vs, xcell h a = some (.inl (c, vs)) ∧ vs[f]? = some (el h a f) := by
  have ok := t a
  unfold hk at hc
  unfold hn el
  cases e : xcell h a with
  | none => rw [e] at hc; unfold sh at hc; dsimp only at hc; omega
  | some z =>
    rw [e] at hc ok
    cases z with
    | inr q => obtain ⟨u, vs⟩ := q; unfold sh at hc; dsimp only at hc; omega
    | inl q =>
      obtain ⟨u, vs⟩ := q
      unfold sh at hc
      dsimp only at hc
      subst hc
      obtain ⟨-, ok⟩ := ok
      have e2 : (vs.map vk)[f]?.getD 9 = k := by rw [ok]; exact hf
      rw [List.getElem?_map] at e2
      cases e3 : vs[f]? with
      | none => rw [e3] at e2; simp at e2; omega
      | some w =>
        rw [e3] at e2
        have e4 : vk w = k := e2
        refine ⟨(List.getElem?_eq_some_iff.mp e3).1, ?_, vs, rfl, ?_⟩
        · unfold ell; dsimp only; rw [e3]; exact e4
        · unfold ell; dsimp only; rw [e3]; rfl
theorem el_arr {h : XH} (t : TY h) {a u i : Nat} (hc : hk h a = 100 + u) (hu : u < 8) (hi : i < hn h a) : vk (el h a i) = tyA u ∧ ∃ vs, xcell h a = some (.inr (u, vs)) ∧ vs.length = hn h a ∧ vs[i]? = some (el h a i) := by
  have ok := t a
  unfold hk at hc
  unfold hn at hi
  unfold hn el
  cases e : xcell h a with
  | none => rw [e] at hc; unfold sh at hc; dsimp only at hc; omega
  | some z =>
    rw [e] at hc ok hi
    cases z with
    | inl q => obtain ⟨w, vs⟩ := q; have := ok.1; unfold sh at hc; dsimp only at hc; omega
    | inr q =>
      obtain ⟨w, vs⟩ := q
      unfold sh at hc hi
      dsimp only at hc hi
      have e1 : w = u := by omega
      subst e1
      obtain ⟨-, ok⟩ := ok
      have e2 : vs[i]? = some vs[i] := List.getElem?_eq_getElem hi
      unfold ell
      dsimp only
      rw [e2]
      exact ⟨ok _ (List.getElem_mem hi), vs, rfl, rfl, e2⟩
theorem TY_sV {h : XH} (t : TY h) {a i : Nat} {v : Value} (hi : i < hn h a) (hv : vk v = vk (el h a i)) : TY (sV h a i v) := by
  intro b
  rw [xcell_sV]
  by_cases q : a = b
  · subst q
    rw [if_pos rfl]
    have ok := t a
    unfold hn at hi
    unfold el at hv
    cases e : xcell h a with
    | none => trivial
    | some z =>
      rw [e] at ok hi hv
      cases z with
      | inl q =>
        obtain ⟨c, vs⟩ := q
        refine ⟨ok.1, ?_⟩
        have hi : i < vs.length := hi
        have hv : vk v = vk (vs[i]?.getD .null) := hv
        show (vs.set i v).map vk = _
        rw [List.map_set, hv, List.getElem?_eq_getElem hi, ← ok.2]
        apply List.ext_getElem?
        intro j
        rw [List.getElem?_set]
        by_cases w : i = j
        · subst w; simp [hi]
        · rw [if_neg w]
      | inr q =>
        obtain ⟨u, vs⟩ := q
        refine ⟨ok.1, fun w hw => ?_⟩
        have hi : i < vs.length := hi
        have hv : vk v = vk (vs[i]?.getD .null) := hv
        rcases List.mem_or_eq_of_mem_set hw with z | z
        · exact ok.2 w z
        · rw [z, hv, List.getElem?_eq_getElem hi]; exact ok.2 _ (List.getElem_mem hi)
  · rw [if_neg q]; exact t b
theorem TY_app {h : XH} (t : TY h) {c : XC} (hc : cOK c) : TY (app h c) := by
  intro b
  rw [xcell_app]
  split
  · exact hc
  · exact t b
theorem cOK_new {c : Nat} (h : c < 16) : cOK (some (.inl (c, kO c))) := ⟨h, rfl⟩
theorem cOK_arr {t n : Nat} (h : t < 8) : cOK (some (.inr (t, List.replicate n (v0 t)))) := by
  refine ⟨h, fun v hv => ?_⟩
  rw [List.eq_of_mem_replicate hv]
  unfold v0 tyA
  split
  · rfl
  · split <;> rfl
/-! places that no store behind the constructors touches: tables lyS (cell: shape), lyF (64 * cell + place: reference) -/
abbrev LAY (lyS : XT (Nat × Nat)) (lyF : XT Nat) (lyN : Nat) (h : XH) : Prop := (∀ a s, xfind lyS a = some s → sh (xcell h a) = s) ∧ (∀ a f v, f < 64 → xfind lyF (64 * a + f) = some v → hR h a f = v) ∧ (∀ a, lyN ≤ a → hk h a = 1 ∨ hk h a = 11 ∨ hk h a = 14 ∨ 100 ≤ hk h a) ∧ lyN ≤ h.length
