/-! WHAT A PROGRAM'S TABLES OWE -/
/-- as vx_ofW, of a method whose own name is plain (the class's may be one that has entries) -/
theorem vx_ofWF {l : Launch} {y : MethodName} {ws ws' : List Cond} {rm : Room} {Pc : Array Value → State → Prop} {Qc : Array Value → State → Outcome → State → Prop} {XC : String → State → State → Prop} {mc ms : Nat} {free : Addr → Prop} {cc : ByteArray} {maxL : Nat} {ret : Option FieldType}
    (hy : plainFor y = true) (hw : ws = Cond.code y cc maxL ret :: ws')
    (body : ∀ p e s m args below meth c s₁, BodyLoose p l y (headSpec ws rm) cc maxL ret e s m args below meth c s₁ → c.maxLocals = maxL → (∀ x ∈ c.exceptionTable.toList, False) → Pc args s →
      W p l e (headSpec ws rm).room s m args below meth c s.heap [] 0 0 (vx_MQ below Qc XC args s mc ms free) (entryFrame m args maxL)) : vx_Met l y ws rm Pc Qc XC mc ms free := by
  refine MetFree.of_bodySF (code := cc) (maxLocals := maxL) (ret := ret) hy ?_ ?_
  · intro args s m h hn
    obtain ⟨meth, c, h1, h2, h3, h4, h5, h6, -, -⟩ := Cond.code_spec hn (atoms_spec (ws := ws) h _ (by rw [hw]; exact List.mem_cons_self))
    exact ⟨meth, c, h1, h2, h3, h4, h5, h6⟩
  · intro p e s m args below meth c s₁ B hml hP _
    have hh0 : s₁.heap = s.heap := by rw [B.state]; rfl
    have ht : ∀ x ∈ c.exceptionTable.toList, False := by
      obtain ⟨meth9, c9, h1, h2, -, -, -, -, h7, -⟩ := Cond.code_spec B.named (atoms_spec (ws := ws) B.pre _ (by rw [hw]; exact List.mem_cons_self))
      cases Option.some.inj (h1.symm.trans B.method)
      cases Option.some.inj (h2.symm.trans (Stand.of_body B).code)
      intro x hx
      rw [Array.isEmpty_iff.mp h7] at hx
      cases hx
    obtain ⟨t, a1, o, b1, b2, b3⟩ := body p e s m args below meth c s₁ B hml ht hP s₁ hh0 (Stand.of_body B)
    exact ⟨t, o, a1, b1, b2, b3⟩
theorem vx_ofWHF {l : Launch} {y : MethodName} {ws ws' : List Cond} {rm : Room} {Pc : Array Value → State → Prop} {Qc : Array Value → State → Outcome → State → Prop} {XC : String → State → State → Prop} {mc ms : Nat} {free : Addr → Prop} {cc : ByteArray} {maxL : Nat} {ret : Option FieldType} {hh : List (Nat × Nat × Nat × Nat)}
    (hy : plainFor y = true) (hw : ws = Cond.codeWith y cc maxL ret hh :: ws')
    (body : ∀ p e s m args below meth c s₁, BodyLoose p l y (headSpec ws rm) cc maxL ret e s m args below meth c s₁ → c.maxLocals = maxL → Pc args s →
      W p l e (headSpec ws rm).room s m args below meth c s.heap [] 0 0 (vx_MQ below Qc XC args s mc ms free) (entryFrame m args maxL)) : vx_Met l y ws rm Pc Qc XC mc ms free := by
  refine MetFree.of_bodySF (code := cc) (maxLocals := maxL) (ret := ret) hy ?_ ?_
  · intro args s m h hn
    obtain ⟨m9, meth, c, hn9, h1, h2, h3, h4, -, h5, h6, -⟩ := Cond.codeWith_spec (atoms_spec (ws := ws) h _ (by rw [hw]; exact List.mem_cons_self))
    cases hn.symm.trans hn9
    exact ⟨meth, c, h1, h2, h3, h4, h5, h6⟩
  · intro p e s m args below meth c s₁ B hml hP _
    have hh0 : s₁.heap = s.heap := by rw [B.state]; rfl
    obtain ⟨t, a1, o, b1, b2, b3⟩ := body p e s m args below meth c s₁ B hml hP s₁ hh0 (Stand.of_body B)
    exact ⟨t, o, a1, b1, b2, b3⟩
def xname : Nat → String
  | 0 => "java/lang/IllegalStateException"
  | 1 => "java/lang/IllegalArgumentException"
  | 2 => "java/lang/IndexOutOfBoundsException"
  | _ => "java/util/NoSuchElementException"
def xws (M : XM) : List Cond := match M.hh with
  | [] => .code M.y M.bytes M.maxL M.ret :: wsK
  | q :: r => .codeWith M.y M.bytes M.maxL M.ret (q :: r) :: wsK
def xroom (d mc ms : Nat) : Room := { frames := d + 8, cells := mc, slots := ms, locals := 64 * d + 200 }
def xinv : Nat → Nat → Instr
  | 0, idx => .invokestatic idx
  | 1, idx => .invokespecial idx
  | _, idx => .invokevirtual idx
/-- a call by a pool entry runs the method's contract -/
def xCallOK (M M2 : XM) (idx code : Nat) : Prop :=
  ∀ (p : Program) (l : Launch) (e : Env) (R : Room) (s : State) (m : MethodId) (args : Array Value) (below : List Frame) (meth : Method) (c : Code) (H : Heap) (locs : List Loc) (cells slots pc : Nat) (ls : Array Slot) (av rest : List Value)
    (Pc : Array Value → State → Prop) (Qc : Array Value → State → Outcome → State → Prop) (XC : String → State → State → Prop) (free : Addr → Prop) (d mc ms : Nat),
    p.tables.exec = Jvm.exec → c.code = M.bytes → c.maxLocals = ls.size → s.vm.findClass M.own = some m.cls → (∀ w ∈ wsK, w.before args s = true) → kwF s → decode M.bytes pc = .ok (xinv code idx, 3) →
    vx_Met l M2.y (xws M2) (xroom d mc ms) Pc Qc XC mc ms free → d + 9 ≤ R.frames → 14 + (M2.maxL + 11) + (64 * d + 200) ≤ R.locals → FrameBlind Pc → (∀ U : State, U.heap = H → s.WarmedH U.vm → Pc av.toArray U) → av.length = M2.nargs →
    (rest.map fun v => v.category).sum ≤ 14 → cells + mc ≤ R.cells ∧ slots + ms ≤ R.slots →
    (code = 0 ∨ ∃ (a : Nat) (As : List Value), av = .ref a :: As ∧ (2 ≤ code → ∃ r : vw_C, vwCl[code - 2]? = some r ∧ ∃ cellB : Cell, H[a]? = some cellB ∧ cellB.vm.isStatics = false ∧ s.vm.findClass r.1 = some cellB.cls)) →
    vx_Run p l e R s m args below meth c H locs cells slots mc ms (F0 m pc ls (av.reverse ++ rest)) rest (Qc av.toArray) XC free
theorem xws_nil {M : XM} (h : M.hh = []) : xws M = Cond.code M.y M.bytes M.maxL M.ret :: wsK := by unfold xws; rw [h]
theorem xws_cons {M : XM} {q : Nat × Nat × Nat × Nat} {r : List (Nat × Nat × Nat × Nat)} (h : M.hh = q :: r) : xws M = Cond.codeWith M.y M.bytes M.maxL M.ret M.hh :: wsK := by unfold xws; rw [h]
abbrev xHandle (y : MethodName) : Prop := y.cls ≠ "java/lang/invoke/MethodHandle" ∧ y.cls ≠ "java/lang/invoke/VarHandle"
theorem xc_V {M M2 : XM} {idx c : Nat} {r : vw_C} {n : Nat} (hr : vwCl[c]? = some r) (hh : M2.hh = []) (hC : M2.y.cls = r.1) (hM : xHandle M2.y) (hn : (parseMethodDescriptor M2.y.desc).map (fun d => d.parameters.length) = some n) (hna : M2.nargs = n + 1)
    (h1 : Cond.methodLink M.own idx M2.y ∈ wsK) (h2 : Cond.instanceMethod M2.y ∈ wsK) (h3 : Cond.selects r.1 M2.y M2.y ∈ wsK) (h4 : Cond.initialized r.1 ∈ wsK) (h5 : Cond.code M2.y M2.bytes M2.maxL M2.ret ∈ wsK) : xCallOK M M2 idx (c + 2) := by
  intro p l e R s m args below meth cd H locs cells slots pc ls av rest Pc Qc XC free d mc ms hx hb hml hown hts hF hdg hMet hfr hlo hbl hPc hav hrest hroom hrec
  rcases hrec with h0 | ⟨a, As, rfl, hrec⟩
  · omega
  obtain ⟨r', hr', cellB, g1, g2, g3⟩ := hrec (by omega)
  cases (Option.some.inj (hr'.symm.trans hr))
  have hAs : As.length = n := by have : As.length + 1 = n + 1 := hav.trans hna; omega
  have hw := xws_nil hh
  rw [hw] at hMet
  refine vx_runV (As := As) (b := a) (C := r.1) ⟨hx, hb, hml, hown, hts⟩ hMet (cwV n hts (gLU_V h1 h2 h3 h4 h5) rfl rfl rfl ⟨hC, hM.1, hM.2, hn⟩ ⟨by show d + 8 + 1 ≤ _; omega, by show 8 + (M2.maxL + 11) + (64 * d + 200) ≤ _; exact (Nat.le_trans (by omega) hlo)⟩) (by show 14 + (M2.maxL + 11) + (64 * d + 200) ≤ _; exact hlo) ⟨hbl, ⟨cellB, g1, g2, g3⟩, hPc⟩ rfl hAs rfl ?_ (by show 2 * 0 + _ ≤ 14; omega) hdg hroom
  show ((Value.ref a :: As).reverse ++ rest) = As.reverse ++ Value.ref a :: rest
  rw [List.reverse_cons, List.append_assoc]
  rfl
theorem xc_VN {M M2 : XM} {idx c : Nat} {r : vw_C} {n : Nat} {host : String} (hr : vwCl[c]? = some r) (hh : M2.hh = []) (hM : xHandle M2.y) (hn : (parseMethodDescriptor M2.y.desc).map (fun d => d.parameters.length) = some n) (hna : M2.nargs = n + 1)
    (h1 : ∀ U, kwF U → va_Nw (.methodLinkNest M.own idx M2.y host) U) (h2 : Cond.instanceMethod M2.y ∈ wsK) (h3 : Cond.selects r.1 M2.y M2.y ∈ wsK) (h4 : Cond.initialized M2.y.cls ∈ wsK) (h5 : Cond.code M2.y M2.bytes M2.maxL M2.ret ∈ wsK) : xCallOK M M2 idx (c + 2) := by
  intro p l e R s m args below meth cd H locs cells slots pc ls av rest Pc Qc XC free d mc ms hx hb hml hown hts hF hdg hMet hfr hlo hbl hPc hav hrest hroom hrec
  rcases hrec with h0 | ⟨a, As, rfl, hrec⟩
  · omega
  obtain ⟨r', hr', cellB, g1, g2, g3⟩ := hrec (by omega)
  cases (Option.some.inj (hr'.symm.trans hr))
  have hAs : As.length = n := by have : As.length + 1 = n + 1 := hav.trans hna; omega
  have hw := xws_nil hh
  rw [hw] at hMet
  refine vx_runVN (As := As) (b := a) (C := r.1) ⟨hx, hb, hml, hown, hts⟩ hMet ⟨va_cnB n hts (gLU_I h5) rfl rfl rfl (h1 s hF) (hts _ h4) ⟨hM.1, hM.2, hn⟩ ⟨by show d + 8 + 1 ≤ _; omega, by show 8 + (M2.maxL + 11) + (64 * d + 200) ≤ _; exact (Nat.le_trans (by omega) hlo)⟩, hts _ h2, hts _ h3⟩ (by show 14 + (M2.maxL + 11) + (64 * d + 200) ≤ _; exact hlo) ⟨hbl, ⟨cellB, g1, g2, g3⟩, hPc⟩ rfl hAs rfl ?_ (by show 2 * 0 + _ ≤ 14; omega) hdg hroom
  show ((Value.ref a :: As).reverse ++ rest) = As.reverse ++ Value.ref a :: rest
  rw [List.reverse_cons, List.append_assoc]
  rfl
theorem xc_S {M M2 : XM} {idx n : Nat} (hh : M2.hh = []) (hM : xHandle M2.y) (hn : (parseMethodDescriptor M2.y.desc).map (fun d => d.parameters.length) = some n) (hna : M2.nargs = n)
    (h1 : Cond.methodLink M.own idx M2.y ∈ wsK) (h2 : Cond.static M2.y ∈ wsK) (h3 : Cond.initialized M2.y.cls ∈ wsK) (h5 : Cond.code M2.y M2.bytes M2.maxL M2.ret ∈ wsK) : xCallOK M M2 idx 0 := by
  intro p l e R s m args below meth cd H locs cells slots pc ls av rest Pc Qc XC free d mc ms hx hb hml hown hts hF hdg hMet hfr hlo hbl hPc hav hrest hroom hrec
  have hw := xws_nil hh
  rw [hw] at hMet
  exact vx_runS (As := av) ⟨hx, hb, hml, hown, hts⟩ hMet (va_cwS n hts (gLU_S h1 h2 h3 h5) rfl rfl rfl ⟨hM.1, hM.2, hn⟩ ⟨by show d + 8 + 1 ≤ _; omega, by show 8 + (M2.maxL + 11) + (64 * d + 200) ≤ _; exact (Nat.le_trans (by omega) hlo)⟩) (by show 14 + (M2.maxL + 11) + (64 * d + 200) ≤ _; exact hlo) ⟨hbl, hPc⟩ rfl (hav.trans hna) rfl rfl (by show 2 * 0 + _ ≤ 14; omega) hdg hroom
theorem xc_SN {M M2 : XM} {idx n : Nat} {host : String} (hh : M2.hh = []) (hM : xHandle M2.y) (hn : (parseMethodDescriptor M2.y.desc).map (fun d => d.parameters.length) = some n) (hna : M2.nargs = n)
    (h1 : ∀ U, kwF U → va_Nw (.methodLinkNest M.own idx M2.y host) U) (h2 : Cond.static M2.y ∈ wsK) (h3 : Cond.initialized M2.y.cls ∈ wsK) (h5 : Cond.code M2.y M2.bytes M2.maxL M2.ret ∈ wsK) : xCallOK M M2 idx 0 := by
  intro p l e R s m args below meth cd H locs cells slots pc ls av rest Pc Qc XC free d mc ms hx hb hml hown hts hF hdg hMet hfr hlo hbl hPc hav hrest hroom hrec
  have hw := xws_nil hh
  rw [hw] at hMet
  exact vx_runSN (As := av) ⟨hx, hb, hml, hown, hts⟩ hMet ⟨va_cnB n hts (gLU_I h5) rfl rfl rfl (h1 s hF) (hts _ h3) ⟨hM.1, hM.2, hn⟩ ⟨by show d + 8 + 1 ≤ _; omega, by show 8 + (M2.maxL + 11) + (64 * d + 200) ≤ _; exact (Nat.le_trans (by omega) hlo)⟩, hts _ h2, trivial⟩ (by show 14 + (M2.maxL + 11) + (64 * d + 200) ≤ _; exact hlo) ⟨hbl, hPc⟩ rfl (hav.trans hna) rfl rfl (by show 2 * 0 + _ ≤ 14; omega) hdg hroom
theorem xc_SW {M M2 : XM} {idx n : Nat} {q : Nat × Nat × Nat × Nat} {r : List (Nat × Nat × Nat × Nat)} (hh : M2.hh = q :: r) (hM : xHandle M2.y) (hn : (parseMethodDescriptor M2.y.desc).map (fun d => d.parameters.length) = some n) (hna : M2.nargs = n)
    (h1 : Cond.methodLink M.own idx M2.y ∈ wsK) (h2 : Cond.static M2.y ∈ wsK) (h3 : Cond.initialized M2.y.cls ∈ wsK) (h5 : Cond.codeWith M2.y M2.bytes M2.maxL M2.ret M2.hh ∈ wsK) : xCallOK M M2 idx 0 := by
  intro p l e R s m args below meth cd H locs cells slots pc ls av rest Pc Qc XC free d mc ms hx hb hml hown hts hF hdg hMet hfr hlo hbl hPc hav hrest hroom hrec
  have hw := xws_cons hh
  rw [hw] at hMet
  exact vx_runSX (As := av) ⟨hx, hb, hml, hown, hts⟩ hMet (vx_cwSW n hts (gLU_S h1 h2 h3 h5) rfl rfl rfl ⟨hM.1, hM.2, hn⟩ ⟨by show d + 8 + 1 ≤ _; omega, by show 8 + (M2.maxL + 11) + (64 * d + 200) ≤ _; exact (Nat.le_trans (by omega) hlo)⟩) (by show 14 + (M2.maxL + 11) + (64 * d + 200) ≤ _; exact hlo) ⟨hbl, hPc⟩ rfl (hav.trans hna) rfl rfl (by show 2 * 0 + _ ≤ 14; omega) hdg hroom
theorem xc_I {M M2 : XM} {idx n : Nat} (hh : M2.hh = []) (hret : M2.ret = none) (hy : M2.y.name = "<init>") (hM : xHandle M2.y) (hn : (parseMethodDescriptor M2.y.desc).map (fun d => d.parameters.length) = some n) (hna : M2.nargs = n + 1)
    (h1 : Cond.methodLink M.own idx M2.y ∈ wsK) (h2 : Cond.instanceMethod M2.y ∈ wsK) (h3 : Cond.initialized M2.y.cls ∈ wsK) (h5 : Cond.code M2.y M2.bytes M2.maxL M2.ret ∈ wsK) : xCallOK M M2 idx 1 := by
  intro p l e R s m args below meth cd H locs cells slots pc ls av rest Pc Qc XC free d mc ms hx hb hml hown hts hF hdg hMet hfr hlo hbl hPc hav hrest hroom hrec
  rcases hrec with h0 | ⟨a, As, rfl, -⟩
  · omega
  have hAs : As.length = n := by have : As.length + 1 = n + 1 := hav.trans hna; omega
  have hw := xws_nil hh
  rw [hw, hret] at hMet
  rw [hret] at h5
  refine vx_runI (As := As) (b := a) ⟨hx, hb, hml, hown, hts⟩ hMet (cwI n hts (gLU_I h5) rfl rfl rfl (hts _ h3) (hts _ h1) (hts _ h2) hy ⟨hM.1, hM.2, hn⟩ ⟨by show d + 8 + 1 ≤ _; omega, by show 8 + (M2.maxL + 11) + (64 * d + 200) ≤ _; exact (Nat.le_trans (by omega) hlo)⟩) (by show 14 + (M2.maxL + 11) + (64 * d + 200) ≤ _; exact hlo) ⟨hbl, hPc⟩ rfl hAs rfl ?_ (by show 2 * 0 + _ ≤ 14; omega) hdg hroom
  show ((Value.ref a :: As).reverse ++ rest) = As.reverse ++ Value.ref a :: rest
  rw [List.reverse_cons, List.append_assoc]
  rfl
theorem xc_IN {M M2 : XM} {idx n : Nat} {host : String} (hh : M2.hh = []) (hret : M2.ret = none) (hy : M2.y.name = "<init>") (hM : xHandle M2.y) (hn : (parseMethodDescriptor M2.y.desc).map (fun d => d.parameters.length) = some n) (hna : M2.nargs = n + 1)
    (h1 : ∀ U, kwF U → va_Nw (.methodLinkNest M.own idx M2.y host) U) (h2 : Cond.instanceMethod M2.y ∈ wsK) (h3 : Cond.initialized M2.y.cls ∈ wsK) (h5 : Cond.code M2.y M2.bytes M2.maxL M2.ret ∈ wsK) : xCallOK M M2 idx 1 := by
  intro p l e R s m args below meth cd H locs cells slots pc ls av rest Pc Qc XC free d mc ms hx hb hml hown hts hF hdg hMet hfr hlo hbl hPc hav hrest hroom hrec
  rcases hrec with h0 | ⟨a, As, rfl, -⟩
  · omega
  have hAs : As.length = n := by have : As.length + 1 = n + 1 := hav.trans hna; omega
  have hw := xws_nil hh
  rw [hw, hret] at hMet
  rw [hret] at h5
  refine vx_runIN (As := As) (b := a) ⟨hx, hb, hml, hown, hts⟩ hMet ⟨va_cnB n hts (gLU_I h5) rfl rfl rfl (h1 s hF) (hts _ h3) ⟨hM.1, hM.2, hn⟩ ⟨by show d + 8 + 1 ≤ _; omega, by show 8 + (M2.maxL + 11) + (64 * d + 200) ≤ _; exact (Nat.le_trans (by omega) hlo)⟩, hy, hts _ h2⟩ (by show 14 + (M2.maxL + 11) + (64 * d + 200) ≤ _; exact hlo) ⟨hbl, hPc⟩ rfl hAs rfl ?_ (by show 2 * 0 + _ ≤ 14; omega) hdg hroom
  show ((Value.ref a :: As).reverse ++ rest) = As.reverse ++ Value.ref a :: rest
  rw [List.reverse_cons, List.append_assoc]
  rfl
def xFldOK (M : XM) (idx ci k : Nat) (ty : FieldType) (put : Prop) : Prop := ∃ (C : String) (T : u_T) (N : Nat) (ref : String) (ty0 : Nat → FieldType), vwCl[ci]? = some (C, T, N) ∧ k < N ∧ (∀ w ∈ u_ws C T N, w ∈ wsK) ∧ (∀ j, j < N → parseFieldDescriptor (T j).2.2.1 = some (ty0 j)) ∧ ty0 k = ty ∧ (∀ a, a < N → ∀ b, b < N → a ≠ b → (T a).2.1 ≠ (T b).2.1) ∧
  (ref = (T k).1 ∨ Cond.sameField ref (T k).1 (T k).2.1 (T k).2.2.1 ∈ wsK) ∧
  ((Cond.fieldLink M.own idx ref (T k).2.1 (T k).2.2.1 ∈ wsK ∧ (put → (T k).2.2.2 = false ∨ ((T k).2.2.2 = true ∧ M.y.name = "<init>" ∧ (T k).1 = M.own))) ∨ ((∃ host, ∀ U, kwF U → va_Nw (.fieldLinkNest M.own idx ref (T k).2.1 (T k).2.2.1 host) U) ∧ ¬ put))
def xNewOK (M : XM) (idx ci : Nat) (fs : List Value) : Prop := ∃ (C : String) (T : u_T) (N : Nat) (ty0 : Nat → FieldType), vwCl[ci]? = some (C, T, N) ∧ (∀ w ∈ u_ws C T N, w ∈ wsK) ∧ (∀ j, j < N → parseFieldDescriptor (T j).2.2.1 = some (ty0 j)) ∧ Cond.classLink M.own idx C ∈ wsK ∧ Cond.instantiable C N ∈ wsK ∧ Cond.initialized C ∈ wsK ∧ fs.length = N ∧ ∀ j, j < N → defaultValue (ty0 j) = fs.getD j .null
def xThrowOK (M : XM) (ik ic x : Nat) : Prop := ∃ (names : List String) (ix : Nat) (rx : ByteArray), (decode rx 0 = .ok (.aload_n 0, 1) ∧ decode rx 1 = .ok (.aload_n 1, 1) ∧ decode rx 2 = .ok (.invokespecial ix, 3) ∧ decode rx 5 = .ok (.return_, 1)) ∧ names.length ≤ 3 ∧ Bundle.fit (xname x) = true ∧ (∀ n ∈ names, Bundle.fit n = true) ∧ Cond.classLink M.own ik (xname x) ∈ wsK ∧ Cond.initialized (xname x) ∈ wsK ∧
  (∀ (args : Array Value) (s : State), (∀ w ∈ wsK, w.before args s = true) → kwF s → ∀ w ∈ xx_at M.own ic (xname x) ix rx names, w.before args s = true) ∧ (∀ w ∈ Cond.classLink M.own ik (xname x) :: Cond.initialized (xname x) :: xx_at M.own ic (xname x) ix rx names, vx_ot w = true)
/-- what a pool entry owes -/
def xSiteOK (P : XP) (M : XM) (idx : Nat) (S : XS) : Prop :=
  (S.1 = 0 → xFldOK M idx S.2.1 S.2.2.1 S.2.2.2.1 (∃ z, S.2.2.2.2 = .ref z)) ∧
  (S.1 = 1 → ∃ M2, P.meth S.2.1 = some M2 ∧ M2.maxL ≤ 39 ∧ xCallOK M M2 idx S.2.2.1) ∧
  (S.1 = 2 → ∀ fs, P.news S.2.1 = some fs → xNewOK M idx S.2.1 fs) ∧
  (S.1 = 3 → (∃ C, xty[S.2.1]? = some (.object C) ∧ Cond.classLink M.own (idx - 100000) C ∈ wsK ∧ ∀ U, kwF U → va_AO C U) ∨ (S.2.1 = 7 ∧ Cond.classLink M.own (idx - 100000) (FieldType.array .int).toString ∈ wsK ∧ ∀ U, kwF U → va_AOA U)) ∧
  (S.1 = 4 → (∀ v, S.2.2.2.2 = .int v → Cond.constant M.own idx v ∈ wsK) ∧ (∀ v, S.2.2.2.2 = .long v → Cond.constantLong M.own idx v ∈ wsK)) ∧
  (S.1 = 5 → xThrowOK M idx S.2.2.1 S.2.1) ∧
  (S.1 = 6 → ∃ text, ∀ U, kwF U → ∃ sa, vk_R M.own idx text sa U) ∧
  (S.1 = 7 → Cond.methodLink M.own idx objectInit ∈ wsK ∧ Cond.instanceMethod objectInit ∈ wsK ∧ Cond.code objectInit ⟨#[0xb1]⟩ 1 none ∈ wsK) ∧
  (S.1 = 8 → Cond.fieldLink M.own idx "java/util/ArrayList" "DEFAULTCAPACITY_EMPTY_ELEMENTDATA" "[Ljava/lang/Object;" ∈ wsK) ∧
  (S.1 = 9 → ∃ r, vwCl[S.2.1]? = some r ∧ Cond.classLink M.own (idx - 200000) r.1 ∈ wsK) ∧
  (S.1 = 10 → Cond.methodLink M.own idx arraycopyName ∈ wsK ∧ Cond.native arraycopyName ∈ wsK ∧ Cond.static arraycopyName ∈ wsK ∧ Cond.initialized "java/lang/System" ∈ wsK) ∧
  (S.1 = 11 → ¬ idx - 300000 = 0 ∧ S.2.1 < 4 ∧ Cond.classLink M.own (idx - 300000) (xname S.2.1) ∈ wsK)
/-- the length of an instruction -/
def xlen : Instr → Nat → Bool
  | .tableswitch .., _ => true
  | .lookupswitch .., _ => true
  | .bipush _, n | .ldc _, n | .iload _, n | .lload _, n | .aload _, n | .dload _, n | .istore _, n | .lstore _, n | .astore _, n | .dstore _, n | .newarray _, n => n == 2
  | .sipush _, n | .ldc_w _, n | .ldc2_w _, n | .iinc _ _, n | .ifCond _ _, n | .if_icmp _ _, n | .ifnull _, n | .ifnonnull _, n | .if_acmp _ _, n | .goto _, n | .getfield _, n | .putfield _, n | .getstatic _, n | .anewarray _, n | .new _, n | .checkcast _, n | .invokevirtual _, n | .invokespecial _, n | .invokestatic _, n => n == 3
  | _, n => n == 1
def xTabOK (P : XP) : Prop := ∀ (mi : Nat) (M : XM), P.meth mi = some M →
  plainFor M.y = true ∧ M.y.cls = M.own ∧ (∀ pc i, P.code mi pc = some i → ∃ n, decode M.bytes pc = .ok (i, n) ∧ xlen i n = true) ∧ (∀ idx S, P.site mi idx = some S → xSiteOK P M idx S)
