/-! MEMORY: what a place holds behind a store, a copy, a growth -/
theorem gvI_J (x : Int) : gvI (.int (J x)) = wr x := toInt_J x
section ME
variable {h : XH} {a b c i j : Nat} {x : Int} {v : Value} {s : BitVec 64} {r : Nat}
theorem el_ne (n : ¬ a = b) : el (sV h a i v) b j = el h b j := by rw [el_sV, if_neg (fun z => n z.1)]
theorem el_ni (n : ¬ i = j) : el (sV h a i v) b j = el h b j := by rw [el_sV, if_neg (fun z => n z.2.1)]
theorem el_eq (hi : i < hn h a) : el (sV h a i v) a i = v := by rw [el_sV, if_pos ⟨rfl, rfl, hi⟩]
theorem hI_ne (n : ¬ a = b) : hI (sV h a i v) b j = hI h b j := congrArg gvI (el_ne n)
theorem hI_ni (n : ¬ i = j) : hI (sV h a i v) b j = hI h b j := congrArg gvI (el_ni n)
theorem hI_eq (hi : i < hn h a) (hx : rg x) : hI (sI h a i x) a i = x := by unfold hI; rw [el_eq hi, gvI_J, wr_rg hx]
theorem hL_ne (n : ¬ a = b) : hL (sV h a i v) b j = hL h b j := congrArg gvL (el_ne n)
theorem hL_ni (n : ¬ i = j) : hL (sV h a i v) b j = hL h b j := congrArg gvL (el_ni n)
theorem hL_eq (hi : i < hn h a) : hL (sL h a i s) a i = s := by unfold hL; rw [el_eq hi]; rfl
theorem hR_ne (n : ¬ a = b) : hR (sV h a i v) b j = hR h b j := congrArg gvR (el_ne n)
theorem hR_ni (n : ¬ i = j) : hR (sV h a i v) b j = hR h b j := congrArg gvR (el_ni n)
theorem hR_eq (hi : i < hn h a) : hR (sR h a i r) a i = r := by unfold hR; rw [el_eq hi, gvR_rv]
end ME
/-- another heap that agrees with h on a cell -/
def sameC (h h1 : XH) (b : Nat) : Prop := xcell h1 b = xcell h b
theorem sameC_el {h h1 : XH} {b : Nat} (e : sameC h h1 b) (j : Nat) : el h1 b j = el h b j := by unfold el; rw [e]
theorem sameC_I {h h1 : XH} {b : Nat} (e : sameC h h1 b) (j : Nat) : hI h1 b j = hI h b j := congrArg gvI (sameC_el e j)
theorem sameC_L {h h1 : XH} {b : Nat} (e : sameC h h1 b) (j : Nat) : hL h1 b j = hL h b j := congrArg gvL (sameC_el e j)
theorem sameC_R {h h1 : XH} {b : Nat} (e : sameC h h1 b) (j : Nat) : hR h1 b j = hR h b j := congrArg gvR (sameC_el e j)
theorem sameC_k {h h1 : XH} {b : Nat} (e : sameC h h1 b) : hk h1 b = hk h b := by unfold hk; rw [e]
theorem sameC_n {h h1 : XH} {b : Nat} (e : sameC h h1 b) : hn h1 b = hn h b := by unfold hn; rw [e]
theorem sameC_sV {h : XH} {a b i : Nat} {v : Value} (n : ¬ a = b) : sameC h (sV h a i v) b := by unfold sameC; rw [xcell_sV, if_neg n]
theorem sameC_app {h : XH} {c : XC} {b : Nat} (n : b < h.length) : sameC h (app h c) b := by unfold sameC; rw [xcell_app, if_neg (by omega)]
theorem sameC_cA {h : XH} {a sp b dp n c : Nat} (z : ¬ b = c) : sameC h (cA h a sp b dp n) c := by
  unfold sameC cA
  cases e : xcell h b with
  | none => rfl
  | some q =>
    cases q with
    | inl q => rfl
    | inr q =>
      obtain ⟨t, ws⟩ := q
      dsimp only
      rw [xcell_set h b c _ (xcell_lt e), if_neg z]
theorem sameC_rf (h : XH) (b : Nat) : sameC h h b := rfl
theorem sameC_tr {h h1 h2 : XH} {b : Nat} (x : sameC h h1 b) (y : sameC h1 h2 b) : sameC h h2 b := y.trans x
/-- a row behind a copy -/
theorem el_cA {h : XH} {a sp b dp n : Nat} {t : HT h} {u : Nat} (ha : hk h a = 100 + u) (hb : hk h b = 100 + u) (hu : u < 9000) (h1 : sp + n ≤ hn h a) (h2 : dp + n ≤ hn h b) (j : Nat) : el (cA h a sp b dp n) b j = if dp ≤ j ∧ j < dp + n then el h a (sp + (j - dp)) else el h b j := by
  obtain ⟨vs, e1, e2, e3, e4, -⟩ := arr_of t ha hu
  obtain ⟨ws, f1, f2, f3, f4, -⟩ := arr_of t hb hu
  unfold el cA
  rw [f1]
  dsimp only
  rw [xcell_set h b b _ (xcell_lt f1), if_pos rfl, e4]
  show (ws.take dp ++ (vs.drop sp).take n ++ ws.drop (dp + n))[j]?.getD .null = _
  have l1 : (ws.take dp).length = dp := by rw [List.length_take]; omega
  have l2 : ((vs.drop sp).take n).length = n := by rw [List.length_take, List.length_drop]; omega
  have f5 : ell (some (Sum.inr (u, ws))) = ws := rfl
  rw [f5]
  by_cases c1 : j < dp
  · rw [if_neg (by omega), List.getElem?_append_left (by rw [List.length_append]; omega), List.getElem?_append_left (by omega), List.getElem?_take, if_pos c1]
  · by_cases c2 : j < dp + n
    · rw [if_pos ⟨by omega, c2⟩, List.getElem?_append_left (by rw [List.length_append]; omega), List.getElem?_append_right (by omega), l1, List.getElem?_take, if_pos (by omega), List.getElem?_drop]
    · rw [if_neg (by omega), List.getElem?_append_right (by rw [List.length_append]; omega), List.length_append, l1, l2, List.getElem?_drop]
      congr 2
      omega
theorem len_cA (h : XH) (a sp b dp n : Nat) : (cA h a sp b dp n).length = h.length := by
  unfold cA
  split
  · exact List.length_set
  · rfl
/-! room -/
theorem xhs_sV (h : XH) (a i : Nat) (v : Value) : xhs (sV h a i v) = xhs h := by
  unfold sV
  cases e : h[a]? with
  | none => rw [List.set_eq_of_length_le (List.getElem?_eq_none_iff.mp e)]
  | some c =>
    refine xhs_set h a c _ e ?_
    have : xcell h a = c := by unfold xcell; rw [e]; rfl
    rw [this]
    cases c with
    | none => rfl
    | some q => cases q <;> (unfold cset xcs; simp)
theorem xhs_nT (h : XH) : xhs (nT h) = xhs h + xcs none := by unfold nT app; rw [xhs_app]
theorem xhs_nO (h : XH) (c : Nat) : xhs (nO h c) = xhs h + xcs (some (.inl (c, kO c))) := by unfold nO app; rw [xhs_app]
theorem xhs_nA (h : XH) (t n : Nat) : xhs (nA h t n) = xhs h + xcs (some (.inr (t, List.replicate n (v0 t)))) := by unfold nA app; rw [xhs_app]
theorem len_app (h : XH) (c : XC) : (app h c).length = h.length + 1 := by unfold app; simp
theorem xhs_cA {h : XH} {a sp b dp n : Nat} {t : HT h} {u : Nat} (ha : hk h a = 100 + u) (hb : hk h b = 100 + u) (hu : u < 9000) (h1 : sp + n ≤ hn h a) (h2 : dp + n ≤ hn h b) : xhs (cA h a sp b dp n) = xhs h := by
  obtain ⟨vs, e1, e2, e3, e4, -⟩ := arr_of t ha hu
  obtain ⟨ws, f1, f2, f3, f4, -⟩ := arr_of t hb hu
  unfold cA
  rw [f1]
  dsimp only
  rw [e4]
  have q : h[b]? = some (some (.inr (u, ws))) := by
    unfold xcell at f1
    cases e : h[b]? with
    | none => rw [e] at f1; cases f1
    | some c => rw [e] at f1; exact congrArg some f1
  refine xhs_set h b _ _ q ?_
  unfold xcs
  simp only [List.length_append, List.length_take, List.length_drop]
  omega
/-! frames and growth -/
def Fr (S : Nat → Prop) (h h1 : XH) : Prop := ∀ b, b < h.length → ¬ S b → sameC h h1 b
def Gr (c s : Nat) (h h1 : XH) : Prop := h1.length ≤ h.length + c ∧ xhs h1 ≤ xhs h + s
theorem Fr_rf (S : Nat → Prop) (h : XH) : Fr S h h := fun _ _ _ => rfl
theorem Fr_tr {S : Nat → Prop} {h h1 h2 : XH} (x : Fr S h h1) (l : h.length ≤ h1.length) (y : Fr S h1 h2) : Fr S h h2 := fun b hb n => sameC_tr (x b hb n) (y b (by omega) n)
theorem Fr_mono {S T : Nat → Prop} {h h1 : XH} (x : Fr S h h1) (s : ∀ b, S b → T b) : Fr T h h1 := fun b hb n => x b hb (fun z => n (s b z))
theorem Fr_sV {S : Nat → Prop} {h : XH} {a i : Nat} {v : Value} (s : S a) : Fr S h (sV h a i v) := fun b _ n => sameC_sV (fun z => n (z ▸ s))
theorem Fr_cA {S : Nat → Prop} {h : XH} {a sp b dp n : Nat} (s : S b) : Fr S h (cA h a sp b dp n) := fun c _ z => sameC_cA (fun y => z (y ▸ s))
theorem Fr_app {S : Nat → Prop} {h : XH} {c : XC} : Fr S h (app h c) := fun _ hb _ => sameC_app hb
theorem Gr_rf (h : XH) : Gr 0 0 h h := ⟨by omega, by omega⟩
theorem Gr_tr {c s c2 s2 : Nat} {h h1 h2 : XH} (x : Gr c s h h1) (y : Gr c2 s2 h1 h2) : Gr (c + c2) (s + s2) h h2 := ⟨by have := x.1; have := y.1; omega, by have := x.2; have := y.2; omega⟩
theorem Gr_mono {c s c2 s2 : Nat} {h h1 : XH} (x : Gr c s h h1) (l : c ≤ c2) (m : s ≤ s2) : Gr c2 s2 h h1 := ⟨by have := x.1; omega, by have := x.2; omega⟩
theorem Gr_sV (h : XH) (a i : Nat) (v : Value) : Gr 0 0 h (sV h a i v) := ⟨by rw [len_sV]; omega, by rw [xhs_sV]; omega⟩
theorem el_I' {h : XH} (t : HT h) {a i : Nat} (e : vk (el h a i) = 0) : Value.int (J (hI h a i)) = el h a i := (vk0 e).symm
theorem el_L' {h : XH} {a i : Nat} (e : vk (el h a i) = 1) : Value.long (G (hL h a i)) = el h a i := (vk1 e).symm
theorem el_R' {h : XH} {a i : Nat} (e : vk (el h a i) = 2) : rv (hR h a i) = el h a i := (vk2 e).symm
/-! a block of cells that is copied to another block: what is done -/
def CPd (n : Nat) (D : Nat → Nat → Prop) (t p : Nat) (h h1 : XH) : Prop := Fr (fun b => t ≤ b ∧ b < t + n) h h1 ∧ h1.length = h.length ∧ xhs h1 = xhs h ∧ ∀ j i, j < n → D j i → el h1 (t + j) i = el h (p + j) i
theorem CP_0 (n t p : Nat) (h : XH) : CPd n (fun _ _ => False) t p h h := ⟨Fr_rf _ _, rfl, rfl, fun _ _ _ z => z.elim⟩
theorem CP_mono {n t p : Nat} {D E : Nat → Nat → Prop} {h h1 : XH} (c : CPd n D t p h h1) (z : ∀ j i, E j i → D j i) : CPd n E t p h h1 := ⟨c.1, c.2.1, c.2.2.1, fun j i hj e => c.2.2.2 j i hj (z j i e)⟩
theorem CP_src {n t p : Nat} {D : Nat → Nat → Prop} {h h1 : XH} (c : CPd n D t p h h1) (ov : p + n ≤ t ∨ t + n ≤ p) (hp : p + n ≤ h.length) {j : Nat} (hj : j < n) : sameC h h1 (p + j) := c.1 (p + j) (by omega) (fun z => by omega)
theorem CP_st {n t p : Nat} {D : Nat → Nat → Prop} {h h1 h2 : XH} (c : CPd n D t p h h1) (ov : p + n ≤ t ∨ t + n ≤ p) (hp : p + n ≤ h.length) {j i : Nat} {v : Value} (hj : j < n) (hi : i < hn h1 (t + j)) (hv : v = el h1 (p + j) i) (e : h2 = sV h1 (t + j) i v) : CPd n (fun k l => D k l ∨ (k = j ∧ l = i)) t p h h2 := by
  subst e
  refine ⟨Fr_tr c.1 (by rw [c.2.1]; exact Nat.le_refl _) (Fr_sV (by omega)), by rw [len_sV]; exact c.2.1, by rw [xhs_sV]; exact c.2.2.1, fun k l hk z => ?_⟩
  rw [el_sV]
  by_cases q : t + j = t + k ∧ i = l ∧ i < hn h1 (t + j)
  · rw [if_pos q]
    obtain ⟨q1, q2, -⟩ := q
    have : k = j := by omega
    subst this q2
    rw [hv]
    exact sameC_el (CP_src c ov hp hj) i
  · rw [if_neg q]
    rcases z with z | ⟨rfl, rfl⟩
    · exact c.2.2.2 k l hk z
    · exact absurd ⟨rfl, rfl, hi⟩ q
theorem CP_cp {n t p : Nat} {D : Nat → Nat → Prop} {h h1 h2 : XH} (c : CPd n D t p h h1) (T : HT h1) (ov : p + n ≤ t ∨ t + n ≤ p) (hp : p + n ≤ h.length) {j m u : Nat} (hj : j < n) (ha : hk h1 (p + j) = 100 + u) (hb : hk h1 (t + j) = 100 + u) (hu : u < 9000) (l1 : m ≤ hn h1 (p + j)) (l2 : m ≤ hn h1 (t + j)) (e : h2 = cA h1 (p + j) 0 (t + j) 0 m) : CPd n (fun k l => D k l ∨ (k = j ∧ l < m)) t p h h2 := by
  subst e
  refine ⟨Fr_tr c.1 (by rw [c.2.1]; exact Nat.le_refl _) (Fr_cA (by omega)), by rw [len_cA]; exact c.2.1, by rw [xhs_cA (t := T) ha hb hu (by omega) (by omega)]; exact c.2.2.1, fun k l hk z => ?_⟩
  by_cases q : k = j
  · subst q
    rw [el_cA (t := T) ha hb hu (by omega) (by omega)]
    by_cases y : l < m
    · rw [if_pos ⟨by omega, by omega⟩, sameC_el (CP_src c ov hp hj)]
      congr 1
      omega
    · rw [if_neg (by omega)]
      rcases z with z | ⟨-, z⟩
      · exact c.2.2.2 k l hk z
      · exact absurd z y
  · rw [sameC_el (sameC_cA (by omega))]
    rcases z with z | ⟨z, -⟩
    · exact c.2.2.2 k l hk z
    · exact absurd z q
