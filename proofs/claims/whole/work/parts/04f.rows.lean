/-! AN INSTRUCTION OF THE ABSTRACT MACHINE, AS THE JVM DOES IT: the rows that touch the heap -/
theorem xin_in {i : Int32} {n : Nat} (h : xin i n = true) : vp_in i n := by
  unfold xin at h
  simp only [Bool.and_eq_true, Bool.not_eq_true', decide_eq_false_iff_not] at h
  rintro (h1 | h1)
  · exact h.1 h1
  · exact absurd (Nat.lt_of_succ_le (Nat.le_of_ble_eq_true h.2)) (by omega)
theorem xin_lt {i : Int32} {n : Nat} (h : xin i n = true) : i.toNatClampNeg < n := Nat.not_le.mp fun q => xin_in h (Or.inr q)
theorem xok_fits {ad : Nat → Nat} {ty : FieldType} {v : Value} (h : xok ty v = true) : narrow ty (xcv ad v) = xcv ad v ∧ fits ty (xcv ad v) = true := by
  cases ty <;> cases v <;> first
    | exact ⟨rfl, rfl⟩
    | (refine ⟨?_, h⟩; rename_i x; have h : (x == 0 || x == 1) = true := h; simp only [Bool.or_eq_true, beq_iff_eq] at h; rcases h with rfl | rfl <;> rfl)
    | cases h
section ZROW
variable {p : Program} {l : Launch} {e : Env} {R : Room} {s : State} {m : MethodId} {args : Array Value} {below : List Frame} {meth : Method} {c : Code} {H : Heap} {locs : List Loc} {cells slots : Nat} {Q : State → Prop}
variable {pc : Nat} {ls : Array Slot} {rest : List Value} {D : va_G} {tc : Nat → ClassId} {ad : Nat → Nat} {a : Nat} {M : XM}
theorem x_get {idx ci k : Nat} {ty : FieldType} {put : Prop} {vs : List Value} {v : Value} (hx : p.tables.exec = Jvm.exec) (hb : c.code = M.bytes) (hts : ∀ w ∈ wsK, w.before args s = true) (hown : s.vm.findClass M.own = some m.cls) (hK : va_K D vwCl (xtys tc) s) (hF : kwF s)
    (F : xFldOK M idx ci k ty put) (hc : xcellAt D tc ad a (.inl (ci, vs)) H) (hv : vs[k]? = some v) (hdg : decode M.bytes pc = .ok (.getfield idx, 3))
    (kk : W p l e R s m args below meth c H locs cells slots Q (F0 m (pc + 3) ls (xcv ad v :: rest))) : W p l e R s m args below meth c H locs cells slots Q (F0 m pc ls (.ref a :: rest)) := by
  obtain ⟨C, T, N, ref, ty0, f1, f2, f3, f4, f5, f6, f7, f8⟩ := F
  obtain ⟨r, h1, h2, h3⟩ := hc
  cases (Option.some.inj (h1.symm.trans f1))
  have hP : va_P D vwCl [(a, .inr (ci, vs.map (xcv ad)))] H := by
    intro j q hj
    match j with
    | 0 =>
      cases hj
      refine ⟨_, h1, h3.to fun j hjN => ?_⟩
      have hj : j < vs.length := by rw [h2]; exact hjN
      show xcv ad (vs.getD j .null) = (vs.map (xcv ad)).getD j .null
      simp [List.getD_eq_getElem?_getD, List.getElem?_eq_getElem hj]
    | j + 1 => simp at hj
  have hsame : ∀ x, s.fieldFound? (T k).1 (T k).2.1 (T k).2.2.1 = some x → s.fieldFound? ref (T k).2.1 (T k).2.2.1 = some x := by
    rcases f7 with rfl | f7
    · exact fun _ h9 => h9
    · exact u_same (hts _ f7)
  have hv' : (vs.map (xcv ad))[k]? = some (xcv ad v) := by rw [List.getElem?_map, hv]; rfl
  rcases f8 with ⟨f8, -⟩ | ⟨⟨host, f8⟩, -⟩
  · exact va_get hx hb hts f3 hown hK hP 0 rfl f1 k f2 (hts _ f8) hsame hv' hdg kk
  · exact va_getN hx hb hts f3 hown hK hP 0 rfl f1 k f2 (va_Nw.use rfl (f8 s hF)) hsame hv' hdg kk
theorem x_put {idx ci k : Nat} {ty : FieldType} {put : Prop} {vs : List Value} {v : Value} (hx : p.tables.exec = Jvm.exec) (hb : c.code = M.bytes) (hts : ∀ w ∈ wsK, w.before args s = true) (hown : s.vm.findClass M.own = some m.cls) (hK : va_K D vwCl (xtys tc) s) (hnm : meth.name = M.y.name)
    (F : xFldOK M idx ci k ty put) (hp : put) (hc : xcellAt D tc ad a (.inl (ci, vs)) H) (hl : k < vs.length) (hok : xok ty v = true) (hdg : decode M.bytes pc = .ok (.putfield idx, 3))
    (kk : ∀ (H1 : Heap) (i : Nat), xcellAt D tc ad a (.inl (ci, vs.set k v)) H1 → H1.size = H.size → (∀ q : Nat, q ≠ a → H1[q]? = H[q]?) → W p l e R s m args below meth c H1 (locs ++ [⟨a, i⟩]) cells slots Q (F0 m (pc + 3) ls rest)) : W p l e R s m args below meth c H locs cells slots Q (F0 m pc ls (xcv ad v :: .ref a :: rest)) := by
  obtain ⟨C, T, N, ref, ty0, f1, f2, f3, f4, f5, f6, f7, f8⟩ := F
  obtain ⟨r, h1, h2, cell, q1, q2, q3, q4⟩ := hc
  cases (Option.some.inj (h1.symm.trans f1))
  obtain ⟨hn, hfit⟩ := xok_fits (ad := ad) hok
  have hap := va_apart (own := M.own) hts f3 ty0 f4 f6 hK f1
  obtain ⟨hS, hfc, kC, hkC, hkind⟩ := hK.1 ci _ f1
  obtain ⟨cf, kf, fi, f, hi, hsl⟩ := hS k f2
  have hst := (u_facts hfc hkC (u_lays hts f3 f2) hi).1
  have hsame : ∀ x, s.fieldFound? (T k).1 (T k).2.1 (T k).2.2.1 = some x → s.fieldFound? ref (T k).2.1 (T k).2.2.1 = some x := by
    rcases f7 with rfl | f7
    · exact fun _ h9 => h9
    · exact u_same (hts _ f7)
  have hd : parseFieldDescriptor (T k).2.2.1 = some ty := by rw [f4 k f2, f5]
  have hlay := hts _ (f3 _ (u_in_lay f2))
  unfold u_lay at hlay
  have fin : ∀ H' : Heap, H'[a]? = some (cell.setSlot f.slot (xcv ad v)) → H'.size = H.size → (∀ q : Nat, q ≠ a → H'[q]? = H[q]?) → W p l e R s m args below meth c H' (locs ++ [⟨a, f.slot⟩]) cells slots Q (F0 m (pc + 3) ls rest) := by
    intro H' e1 e2 e3
    rw [hsl] at e1
    refine kk H' f.slot ⟨_, f1, by rw [List.length_set]; exact h2, t_OB.to (V := updV (fun j => xcv ad (vs.getD j .null)) k (xcv ad v)) ⟨_, e1, q2, q3, t_set q4 hap f2 (xcv ad v)⟩ (fun j hj => ?_)⟩ e2 e3
    unfold updV
    by_cases hjk : j = k
    · subst hjk
      rw [if_pos rfl]
      simp [List.getD_eq_getElem?_getD, List.getElem?_set_self hl]
    · rw [if_neg hjk]
      simp [List.getD_eq_getElem?_getD, List.getElem?_set_ne (Ne.symm hjk)]
  rcases f8 with ⟨f8, f9⟩ | ⟨-, f9⟩
  · rcases f9 hp with f9 | ⟨f9, g1, g2⟩
    · rw [if_neg (by rw [f9]; decide)] at hlay
      have h6 := u_store hfc hkC hkind hlay hi hd hn hfit
      exact W.putK hx hb (f := f) ⟨hown, hts _ f8, ⟨_, _, _, hsame _ hi⟩, hst⟩ (by rw [q2]; exact h6) q1 q3 (by rw [hsl]; exact k2_hasslot (q4 k f2)) rfl rfl hdg fin
    · rw [if_pos f9] at hlay
      have hcf : m.cls = cf := by
        obtain ⟨_, _, c', _, _, _, -, -, hf', -, -, -, hown2, -⟩ := Cond.laysFinal_spec hlay
        have e1 : c' = cf := by have := hi.symm.trans hf'; simp at this; exact this.1.symm
        rw [g2] at hown2
        rw [← e1]; exact Option.some.inj (hown.symm.trans hown2)
      have h6 := u_fits hfc hkC hkind (Or.inr hlay) hi hd hn hfit
      exact W.putFinK hx hb hown (hts _ f8) (hsame _ hi) hst hcf (hnm.trans g1) (by rw [q2]; exact h6) q1 q3 (by rw [hsl]; exact k2_hasslot (q4 k f2)) rfl rfl hdg fin
  · exact absurd hp f9
theorem x_new {idx ci : Nat} {fs : List Value} (hx : p.tables.exec = Jvm.exec) (hb : c.code = M.bytes) (hts : ∀ w ∈ wsK, w.before args s = true) (hown : s.vm.findClass M.own = some m.cls) (hK : va_K D vwCl (xtys tc) s)
    (F : xNewOK M idx ci fs) (hnr : ∀ v ∈ fs, xcv ad v = v) (hcells : cells + 1 ≤ R.cells) (hslots : slots + fs.length ≤ R.slots) (hdg : decode M.bytes pc = .ok (.new idx, 3))
    (kk : ∀ (H1 : Heap), xcellAt D tc ad H.size (.inl (ci, fs)) H1 → H1.size = H.size + 1 → (∀ q : Nat, q < H.size → H1[q]? = H[q]?) → W p l e R s m args below meth c H1 locs (cells + 1) (slots + fs.length) Q (F0 m (pc + 3) ls (.ref H.size :: rest))) : W p l e R s m args below meth c H locs cells slots Q (F0 m pc ls rest) := by
  obtain ⟨C, T, N, ty0, f1, f2, f3, f4, f5, f6, f7, f8⟩ := F
  have hKn := hK.1 ci _ f1
  rw [f7] at hslots
  refine W.newcK hx hb hown (hts _ f4) (hts _ f5) (hts _ f6) rfl hdg hcells hslots hKn.2.1 rfl fun H1 kC hkC e1 z1 o1 => ?_
  rw [← f7]
  refine kk H1 ⟨_, f1, f7, (u_born ty0 hts f2 hKn hkC e1 f3).to fun j hj => ?_⟩ z1 o1
  show defaultValue (ty0 j) = xcv ad (fs.getD j .null)
  rw [f8 j hj]
  have hj : j < fs.length := by rw [f7]; exact hj
  refine (hnr _ ?_).symm
  rw [List.getD_eq_getElem?_getD, List.getElem?_eq_getElem hj]
  exact List.getElem_mem hj
theorem xarr_of (hK : va_K D vwCl (xtys tc) s) {t : Nat} {ty : FieldType} (ht : xty[t]? = some ty) : ArrOfT s (tc t) ty ∧ va_RA s (tc t) ty := hK.2 t _ (xtys_at tc t ty ht)
theorem x_newarr {at' : ArrayType} {t : Nat} {n : Int32} {v0 : Value} (hx : p.tables.exec = Jvm.exec) (hb : c.code = M.bytes) (hts : ∀ w ∈ wsK, w.before args s = true) (hK : va_K D vwCl (xtys tc) s)
    (ht : xty[t]? = some (newarray.typeOf at')) (hra : va_RA s (tc t) (newarray.typeOf at') → s.vm.findClass ("[" ++ (newarray.typeOf at').toString) = some (tc t)) (hw : Cond.arrayClass (newarray.typeOf at') ∈ wsK) (hv : xcv ad v0 = defaultValue (newarray.typeOf at')) (hcb : componentBytes (newarray.typeOf at') ≤ 8)
    (hn : ¬ n < 0) (hbig : n.toNatClampNeg < 67108864) (hcells : cells + 1 ≤ R.cells) (hslots : slots + n.toNatClampNeg ≤ R.slots) (hdg : decode M.bytes pc = .ok (.newarray at', 2))
    (kk : ∀ (H1 : Heap), xcellAt D tc ad H.size (.inr (t, List.replicate n.toNatClampNeg v0)) H1 → H1.size = H.size + 1 → (∀ q : Nat, q < H.size → H1[q]? = H[q]?) → W p l e R s m args below meth c H1 locs (cells + 1) (slots + n.toNatClampNeg) Q (F0 m (pc + 2) ls (.ref H.size :: rest))) : W p l e R s m args below meth c H locs cells slots Q (F0 m pc ls (.int n :: rest)) := by
  refine va_newaK hx hb (hts _ hw) rfl hdg rfl hn rfl ?_ hcells hslots rfl fun H1 cA e1 z1 o1 _ hNm => ?_
  · have : n.toNatClampNeg * componentBytes (newarray.typeOf at') ≤ 67108864 * 8 := Nat.mul_le_mul (Nat.le_of_lt hbig) hcb
    exact Nat.le_trans this (Nat.le_of_ble_eq_true rfl)
  · have hcA : cA = tc t := Option.some.inj (hNm.symm.trans (hra (xarr_of hK ht).2))
    subst hcA
    refine kk H1 ⟨⟨_, ht⟩, ?_⟩ z1 o1
    rw [e1, List.length_replicate]
    unfold arrV
    congr 2
    refine congrArg Array.ofFn (funext fun j => ?_)
    show defaultValue _ = xcv ad ((List.replicate _ v0).getD j.val .null)
    rw [List.getD_eq_getElem?_getD, List.getElem?_replicate, if_pos j.isLt]
    exact hv.symm
theorem x_anewarr {idx t : Nat} {n : Int32} (hx : p.tables.exec = Jvm.exec) (hb : c.code = M.bytes) (hts : ∀ w ∈ wsK, w.before args s = true) (hown : s.vm.findClass M.own = some m.cls) (hK : va_K D vwCl (xtys tc) s) (hF : kwF s)
    (F : (∃ C, xty[t]? = some (.object C) ∧ Cond.classLink M.own idx C ∈ wsK ∧ ∀ U, kwF U → va_AO C U) ∨ (t = 7 ∧ Cond.classLink M.own idx (FieldType.array .int).toString ∈ wsK ∧ ∀ U, kwF U → va_AOA U))
    (hn : ¬ n < 0) (hbig : n.toNatClampNeg < 67108864) (hcells : cells + 1 ≤ R.cells) (hslots : slots + n.toNatClampNeg ≤ R.slots) (hdg : decode M.bytes pc = .ok (.anewarray idx, 3))
    (kk : ∀ (H1 : Heap), xcellAt D tc ad H.size (.inr (t, List.replicate n.toNatClampNeg .null)) H1 → H1.size = H.size + 1 → (∀ q : Nat, q < H.size → H1[q]? = H[q]?) → W p l e R s m args below meth c H1 locs (cells + 1) (slots + n.toNatClampNeg) Q (F0 m (pc + 3) ls (.ref H.size :: rest))) : W p l e R s m args below meth c H locs cells slots Q (F0 m pc ls (.int n :: rest)) := by
  have hbytes : n.toNatClampNeg * 4 ≤ 536870912 := by omega
  have fin : ∀ cA : ClassId, cA = tc t → (∃ ty, xty[t]? = some ty) → W p l e R s m args below meth c (H.push { cls := cA, slots := Array.replicate n.toNatClampNeg .null, vm := .none }) locs (cells + 1) (slots + n.toNatClampNeg) Q (F0 m (pc + 3) ls (.ref H.size :: rest)) := by
    intro cA h1 h2
    subst h1
    refine kk _ ⟨h2, ?_⟩ (by rw [Array.size_push]) (fun q hq => by rw [Array.getElem?_push, if_neg (Nat.ne_of_lt hq)])
    rw [Array.getElem?_push_size, arrV_new, List.length_replicate]
    unfold arrV
    congr 2
    refine congrArg Array.ofFn (funext fun j => ?_)
    show Value.null = xcv ad ((List.replicate _ .null).getD j.val .null)
    rw [List.getD_eq_getElem?_getD, List.getElem?_replicate, if_pos j.isLt]
    rfl
  rcases F with ⟨C, f1, f2, f3⟩ | ⟨rfl, f2, f3⟩
  · obtain ⟨-, kA, comp, r1, r2, r3, r4⟩ := xarr_of hK f1
    exact W.anew hx hb hown (hts _ f2) (va_AO.use (f3 s hF)) rfl hdg rfl hn hbytes hcells hslots fun cA kA2 comp2 e1 e2 e3 e4 => fin cA (Option.some.inj (e1.symm.trans r4)) ⟨_, f1⟩
  · have r := (xarr_of hK (t := 7) (ty := .array .int) rfl).2
    exact W.anewA hx hb hown (hts _ f2) (over_moved (Vm.Alike.refl _) (f3 s hF)) rfl hdg rfl hn hbytes hcells hslots fun cA kA2 comp2 e1 e2 e3 e4 => fin cA (Option.some.inj (e1.symm.trans r)) ⟨.array .int, rfl⟩
/-- an array's element -/
theorem xarr_cell {t : Nat} {vs : List Value} (hc : xcellAt D tc ad a (.inr (t, vs)) H) : H[a]? = some (arrV (tc t) vs.length (fun j => xcv ad (vs.getD j .null))) := hc.2
theorem xarr_read {t : Nat} {vs : List Value} {j : Nat} {v : Value} (hv : vs[j]? = some v) : (arrV (tc t) vs.length (fun j => xcv ad (vs.getD j .null))).slots[j]? = some (xcv ad v) := by
  have hj := (List.getElem?_eq_some_iff.mp hv).1
  rw [arrV_read _ _ hj, List.getD_eq_getElem?_getD, hv]
  rfl
theorem xarr_in {t : Nat} {vs : List Value} {i : Int32} (h : xin i vs.length = true) : ¬ (i < 0 ∨ (arrV (tc t) vs.length (fun j => xcv ad (vs.getD j .null))).slots.size ≤ i.toNatClampNeg) := by
  rw [arrV_size]
  exact xin_in h
theorem xarr_stored {t : Nat} {vs : List Value} {k : Nat} {v : Value} (hk : k < vs.length) : (arrV (tc t) vs.length (fun j => xcv ad (vs.getD j .null))).setSlot k (xcv ad v) = arrV (tc t) (vs.set k v).length (fun j => xcv ad ((vs.set k v).getD j .null)) := by
  rw [arrV_store, List.length_set]
  congr 1
  funext j
  unfold updV
  by_cases hjk : j = k
  · subst hjk
    rw [if_pos rfl]
    simp [List.getD_eq_getElem?_getD, List.getElem?_set_self hk]
  · rw [if_neg hjk]
    simp [List.getD_eq_getElem?_getD, List.getElem?_set_ne (Ne.symm hjk)]
end ZROW
