/-! printed by gen_entry.py: what the entry gives -/
theorem xe_ISE : ∀ w ∈ wsT_ISE, w ∈ lw_tbl := by decide +kernel
theorem xe_IAE : ∀ w ∈ wsT_IAE, w ∈ lw_tbl := by decide +kernel
theorem xe_IOB : ∀ w ∈ wsT_IOB, w ∈ lw_tbl := by decide +kernel
theorem xe_NSE : ∀ w ∈ wsT_NSE, w ∈ lw_tbl := by decide +kernel
theorem xe_words {args : Array Value} {s : State} (hts : ∀ w ∈ lw_tbl, w.before args s = true) : ∀ w ∈ wsK, w.before args s = true := by
  intro w hw
  rcases List.mem_append.mp hw with h | h
  · exact hts w (wsL_law_in w h)
  · rcases List.mem_append.mp h with h | h
    · rcases List.mem_append.mp h with h | h
      · rcases List.mem_append.mp h with h | h
        · exact hts w (xe_ISE w h)
        · exact hts w (xe_IAE w h)
      · exact hts w (xe_IOB w h)
    · exact hts w (xe_NSE w h)
theorem xe_S {args : Array Value} {s : State} {own tx : String} {k : Nat} (h1 : (Cond.stringRef own k tx).before args s = true) (h2 : (Cond.exactly (.string own k) "java/lang/String").before args s = true) : ∃ sa : Nat, vk_R own k tx sa s := by
  obtain ⟨a, c, cA, kA, q1, -⟩ := Cond.exactly_spec (args := args) (first := s) (o := none) (s := s) (idx := []) (t := .string own k) (cls := "java/lang/String") h2
  exact ⟨a, vk_R.of h1 q1⟩
theorem xe_arrP {args : Array Value} {s : State} {ty : FieldType} (h : (Cond.arrayClass ty).before args s = true) : ∃ c : ClassId, ArrOfT s c ty ∧ s.vm.findClass ("[" ++ ty.toString) = some c := by
  obtain ⟨c, k, comp, h1, h2, h3⟩ := Cond.arrayClass_spec (args := args) (first := s) (o := none) (s := s) (idx := []) h
  exact ⟨c, fun N z => ⟨(fun k h => by cases h), k, h2, comp, h3⟩, h1⟩
theorem xe_arrO {s : State} {C : String} (h : va_AO C s) : ∃ c : ClassId, ArrOfT s c (.object C) ∧ va_RA s c (.object C) := by
  obtain ⟨comp, c, k, h1, h2, h3, h4, h5⟩ := Cond.arrayOver_spec (args := #[]) (first := s) (o := none) (s := s) (idx := []) h
  exact ⟨c, fun N z => ⟨(fun k h => by cases h), k, h3, comp, h4⟩, k, comp, h3, h4, h1, h5⟩
theorem xe_arrA {s : State} (h : va_AOA s) : ∃ c : ClassId, ArrOfT s c (.array .int) ∧ va_RA s c (.array .int) := by
  obtain ⟨comp, c, k, h1, h2, h3, h4⟩ := Cond.arrayOver_specA (args := #[]) (first := s) (o := none) (s := s) (idx := []) h
  exact ⟨c, fun N z => ⟨(fun k h => by cases h), k, h2, comp, h3⟩, h4⟩
set_option maxRecDepth 100000 in
theorem xe_F {args : Array Value} {s : State} (hts : ∀ w ∈ lw_tbl, w.before args s = true) (hfl : ∀ w ∈ flatC (Jvm.Cond.and given_1 narrow_1), w.before args s = true) : kwF s := ⟨va_AO.of (hts (.arrayOver (.object RX0)) (by decide +kernel)),
  va_AO.of (hts (.arrayOver (.object RX10)) (by decide +kernel)),
  va_AO.of (hts (.arrayOver (.object "java/lang/Object")) (by decide +kernel)),
  va_AO.of (hts (.arrayOver (.object RX13)) (by decide +kernel)),
  hts (.arrayOver (.array .int)) (by decide +kernel),
  va_Nw.of rfl (hts (.methodLinkNest RX12 11 yX5_init "Kitwarden") (by decide +kernel)),
  va_Nw.of rfl (hts (.methodLinkNest RX12 18 yX11_init "Kitwarden") (by decide +kernel)),
  va_Nw.of rfl (hts (.methodLinkNest RX11 11 yX8_init "Kitwarden") (by decide +kernel)),
  va_Nw.of rfl (hts (.methodLinkNest RX11 20 yX6_init "Kitwarden") (by decide +kernel)),
  va_Nw.of rfl (hts (.methodLinkNest RX1 111 yX12_switchOf "Kitwarden") (by decide +kernel)),
  va_Nw.of rfl (hts (.methodLinkNest RX1 135 yX12_has "Kitwarden") (by decide +kernel)),
  va_Nw.of rfl (hts (.methodLinkNest RX9 85 yX12_switchOf "Kitwarden") (by decide +kernel)),
  va_Nw.of rfl (hts (.methodLinkNest RX3 138 yX12_switchOf "Kitwarden") (by decide +kernel)),
  va_Nw.of rfl (hts (.methodLinkNest RX3 141 yX12_has "Kitwarden") (by decide +kernel)),
  va_Nw.of rfl (hts (.methodLinkNest RX8 95 yX12_has "Kitwarden") (by decide +kernel)),
  va_Nw.of rfl (hts (.methodLinkNest RX2 97 yX12_has "Kitwarden") (by decide +kernel)),
  va_Nw.of rfl (hts (.methodLinkNest RX2 179 yX12_packsIn "Kitwarden") (by decide +kernel)),
  va_Nw.of rfl (hts (.methodLinkNest RX8 85 yX12_switchOf "Kitwarden") (by decide +kernel)),
  va_Nw.of rfl (hts (.methodLinkNest RX11 76 yX12_has "Kitwarden") (by decide +kernel)),
  va_Nw.of rfl (hts (.fieldLinkNest RX14 283 "KitwardenModel$Need" "isOption" "Z" "KitwardenModel") (by decide +kernel)),
  va_Nw.of rfl (hts (.fieldLinkNest RX14 276 "KitwardenModel$Need" "packs" "[I" "KitwardenModel") (by decide +kernel)),
  va_Nw.of rfl (hts (.fieldLinkNest RX14 266 "KitwardenModel$Need" "begins" "[I" "KitwardenModel") (by decide +kernel)),
  va_Nw.of rfl (hts (.fieldLinkNest RX14 273 "KitwardenModel$Need" "spans" "[I" "KitwardenModel") (by decide +kernel)),
  va_Nw.of rfl (hts (.castable RX11 "java/lang/Object") (by decide +kernel)),
  va_Nw.of rfl (hts (.castable "java/lang/IllegalStateException" "java/lang/IllegalStateException") (by decide +kernel)),
  va_Nc.of (hfl (.not (.castable "java/lang/IllegalStateException" "java/lang/IllegalArgumentException")) (by decide +kernel)),
  va_Nc.of (hfl (.not (.castable "java/lang/IllegalStateException" "java/lang/IndexOutOfBoundsException")) (by decide +kernel)),
  va_Nc.of (hfl (.not (.castable "java/lang/IllegalStateException" "java/util/NoSuchElementException")) (by decide +kernel)),
  va_Nw.of rfl (hts (.castable "java/lang/IllegalArgumentException" "java/lang/IllegalArgumentException") (by decide +kernel)),
  va_Nc.of (hfl (.not (.castable "java/lang/IllegalArgumentException" "java/lang/IllegalStateException")) (by decide +kernel)),
  va_Nc.of (hfl (.not (.castable "java/lang/IllegalArgumentException" "java/lang/IndexOutOfBoundsException")) (by decide +kernel)),
  va_Nc.of (hfl (.not (.castable "java/lang/IllegalArgumentException" "java/util/NoSuchElementException")) (by decide +kernel)),
  va_Nw.of rfl (hts (.castable "java/lang/IndexOutOfBoundsException" "java/lang/IndexOutOfBoundsException") (by decide +kernel)),
  va_Nc.of (hfl (.not (.castable "java/lang/IndexOutOfBoundsException" "java/lang/IllegalStateException")) (by decide +kernel)),
  va_Nc.of (hfl (.not (.castable "java/lang/IndexOutOfBoundsException" "java/lang/IllegalArgumentException")) (by decide +kernel)),
  va_Nc.of (hfl (.not (.castable "java/lang/IndexOutOfBoundsException" "java/util/NoSuchElementException")) (by decide +kernel)),
  va_Nw.of rfl (hts (.castable "java/util/NoSuchElementException" "java/util/NoSuchElementException") (by decide +kernel)),
  va_Nc.of (hfl (.not (.castable "java/util/NoSuchElementException" "java/lang/IllegalStateException")) (by decide +kernel)),
  va_Nc.of (hfl (.not (.castable "java/util/NoSuchElementException" "java/lang/IllegalArgumentException")) (by decide +kernel)),
  va_Nc.of (hfl (.not (.castable "java/util/NoSuchElementException" "java/lang/IndexOutOfBoundsException")) (by decide +kernel)),
  va_Nw.of rfl (hts (.declares (Bundle.initS "java/lang/RuntimeException")) (by decide +kernel)),
  va_Nw.of rfl (hts (.declares (Bundle.initS "java/lang/Exception")) (by decide +kernel)),
  va_Nw.of rfl (hts (.declares (Bundle.initS Bundle.tN)) (by decide +kernel)),
  xe_S (hts (.stringRef RX12 106 "the tape is full") (by decide +kernel)) (hfl (.exactly (.string RX12 106) "java/lang/String") (by decide +kernel)),
  xe_S (hts (.stringRef RX12 134 "there are 12 packages") (by decide +kernel)) (hfl (.exactly (.string RX12 134) "java/lang/String") (by decide +kernel)),
  xe_S (hts (.stringRef RX12 150 "no code, files or size") (by decide +kernel)) (hfl (.exactly (.string RX12 150) "java/lang/String") (by decide +kernel)),
  xe_S (hts (.stringRef RX12 160 "it is there, or there are too many") (by decide +kernel)) (hfl (.exactly (.string RX12 160) "java/lang/String") (by decide +kernel)),
  xe_S (hts (.stringRef RX12 176 "it has 3 needs, or is installed") (by decide +kernel)) (hfl (.exactly (.string RX12 176) "java/lang/String") (by decide +kernel)),
  xe_S (hts (.stringRef RX12 189 "it has 2 bans, or is installed") (by decide +kernel)) (hfl (.exactly (.string RX12 189) "java/lang/String") (by decide +kernel)),
  xe_S (hts (.stringRef RX12 195 "the same package, or no code") (by decide +kernel)) (hfl (.exactly (.string RX12 195) "java/lang/String") (by decide +kernel)),
  xe_S (hts (.stringRef RX12 200 "it provides 2, or is installed") (by decide +kernel)) (hfl (.exactly (.string RX12 200) "java/lang/String") (by decide +kernel)),
  xe_S (hts (.stringRef RX12 210 "it has the option, or is installed") (by decide +kernel)) (hfl (.exactly (.string RX12 210) "java/lang/String") (by decide +kernel)),
  xe_S (hts (.stringRef RX12 249 "what is out of range") (by decide +kernel)) (hfl (.exactly (.string RX12 249) "java/lang/String") (by decide +kernel)),
  xe_S (hts (.stringRef RX12 256 "no such place") (by decide +kernel)) (hfl (.exactly (.string RX12 256) "java/lang/String") (by decide +kernel)),
  xe_S (hts (.stringRef RX12 273 "no such root") (by decide +kernel)) (hfl (.exactly (.string RX12 273) "java/lang/String") (by decide +kernel)),
  xe_S (hts (.stringRef RX12 281 "8 wishes have come") (by decide +kernel)) (hfl (.exactly (.string RX12 281) "java/lang/String") (by decide +kernel)),
  xe_S (hts (.stringRef RX12 290 "no such wish") (by decide +kernel)) (hfl (.exactly (.string RX12 290) "java/lang/String") (by decide +kernel)),
  xe_S (hts (.stringRef RX12 311 "size is out of range") (by decide +kernel)) (hfl (.exactly (.string RX12 311) "java/lang/String") (by decide +kernel)),
  xe_S (hts (.stringRef RX12 394 "no such row") (by decide +kernel)) (hfl (.exactly (.string RX12 394) "java/lang/String") (by decide +kernel)),
  xe_S (hts (.stringRef RX12 403 "no such row or literal") (by decide +kernel)) (hfl (.exactly (.string RX12 403) "java/lang/String") (by decide +kernel)),
  xe_S (hts (.stringRef RX12 429 "there are 3 mirrors") (by decide +kernel)) (hfl (.exactly (.string RX12 429) "java/lang/String") (by decide +kernel)),
  xe_S (hts (.stringRef RX12 452 "the scripts have no order") (by decide +kernel)) (hfl (.exactly (.string RX12 452) "java/lang/String") (by decide +kernel)),
  xe_S (hts (.stringRef RX12 468 "no such step") (by decide +kernel)) (hfl (.exactly (.string RX12 468) "java/lang/String") (by decide +kernel)),
  xe_S (hts (.stringRef RX12 488 "no such file") (by decide +kernel)) (hfl (.exactly (.string RX12 488) "java/lang/String") (by decide +kernel)),
  xe_S (hts (.stringRef RX12 522 "no such entry") (by decide +kernel)) (hfl (.exactly (.string RX12 522) "java/lang/String") (by decide +kernel)),
  xe_S (hts (.stringRef RX12 564 "no such package") (by decide +kernel)) (hfl (.exactly (.string RX12 564) "java/lang/String") (by decide +kernel)),
  xe_S (hts (.stringRef RX12 566 "no such mirror") (by decide +kernel)) (hfl (.exactly (.string RX12 566) "java/lang/String") (by decide +kernel)),
  xe_S (hts (.stringRef RX12 568 "no such lock") (by decide +kernel)) (hfl (.exactly (.string RX12 568) "java/lang/String") (by decide +kernel)),
  xe_S (hts (.stringRef RX12 570 "the goal is not sound") (by decide +kernel)) (hfl (.exactly (.string RX12 570) "java/lang/String") (by decide +kernel)),
  xe_S (hts (.stringRef RX12 572 "no such version") (by decide +kernel)) (hfl (.exactly (.string RX12 572) "java/lang/String") (by decide +kernel)),
  xe_S (hts (.stringRef RX12 578 "the text has an error") (by decide +kernel)) (hfl (.exactly (.string RX12 578) "java/lang/String") (by decide +kernel)),
  xe_S (hts (.stringRef RX12 584 "the text has an error, or is no range") (by decide +kernel)) (hfl (.exactly (.string RX12 584) "java/lang/String") (by decide +kernel)),
  trivial⟩
set_option maxRecDepth 100000 in
theorem xe_H {args : Array Value} {s : State} (hts : ∀ w ∈ lw_tbl, w.before args s = true) (hfl : ∀ w ∈ flatC (Jvm.Cond.and given_1 narrow_1), w.before args s = true) : ∃ dA : Nat, kwH dA (fun q => s.heap.size ≤ q) s s.heap ∧ dA < s.heap.size := by
  have hA : ∀ a : Nat, a < s.heap.size → ¬ (fun q => s.heap.size ≤ q) a := fun a h => Nat.not_le.mpr h
  obtain ⟨t, ht, hT⟩ := va_Tof (N := 0) (f := fun _ => .null) (A := fun q => s.heap.size ≤ q) (by decide) (hfl (.arrayOf (.static "java/util/ArrayList" "DEFAULTCAPACITY_EMPTY_ELEMENTDATA" "[Ljava/lang/Object;") (.object "java/lang/Object")) (by decide +kernel)) (va_eqt (hfl (.eq (.length (.static "java/util/ArrayList" "DEFAULTCAPACITY_EMPTY_ELEMENTDATA" "[Ljava/lang/Object;")) (.int 0)) (by decide +kernel))) (fun j hj => absurd hj (Nat.not_lt_zero j)) hA
  have hlt : t < s.heap.size := by
    obtain ⟨cell, h1, -⟩ := hT
    exact (Array.getElem?_eq_some_iff.mp h1).1
  exact ⟨t, ⟨va_Zof (hts (.laysStatic "java/util/ArrayList" "DEFAULTCAPACITY_EMPTY_ELEMENTDATA" "[Ljava/lang/Object;") (by decide +kernel)) (hts (.initialized "java/util/ArrayList") (by decide +kernel)) ht hA, hT,
    vx_Zqof (hts (.laysStatic Bundle.tN "UNASSIGNED_STACK" Bundle.steD) (by decide +kernel)) (hts (.initialized Bundle.tN) (by decide +kernel)) (hfl (.isRef (.static Bundle.tN "UNASSIGNED_STACK" Bundle.steD)) (by decide +kernel)) hA,
    vx_Zqof (hts (.laysStatic Bundle.tN "SUPPRESSED_SENTINEL" Bundle.listD) (by decide +kernel)) (hts (.initialized Bundle.tN) (by decide +kernel)) (hfl (.isRef (.static Bundle.tN "SUPPRESSED_SENTINEL" Bundle.listD)) (by decide +kernel)) hA⟩, hlt⟩
theorem xe_C {args : Array Value} {s : State} (hK : ∀ w ∈ wsK, w.before args s = true) : ∀ c : Nat, ∃ d : ClassId × (Nat → Nat), ∀ q, vwCl[c]? = some q → u_Kn s q.1 q.2.1 q.2.2 d.1 d.2 := by
  intro c
  match c with
  | 0 =>
    obtain ⟨cC, iS, h⟩ := u_known (C := RJx4a65c) (T := TJx4a65c) (N := 3) (n := 3) hK inkJx4a65c (hK (.instantiable RJx4a65c 3) (inLU_1 _ (List.mem_of_getElem? (i := 22) rfl)))
    exact ⟨(cC, iS), fun q hq => by cases hq; exact h⟩
  | 1 =>
    obtain ⟨cC, iS, h⟩ := u_known (C := RX0) (T := TX0) (N := 4) (n := 4) hK inkX0 (hK (.instantiable RX0 4) (inLU_26 _ (List.mem_of_getElem? (i := 9) rfl)))
    exact ⟨(cC, iS), fun q hq => by cases hq; exact h⟩
  | 2 =>
    obtain ⟨cC, iS, h⟩ := u_known (C := RX1) (T := TX1) (N := 9) (n := 9) hK inkX1 (hK (.instantiable RX1 9) (inLU_2 _ (List.mem_of_getElem? (i := 6) rfl)))
    exact ⟨(cC, iS), fun q hq => by cases hq; exact h⟩
  | 3 =>
    obtain ⟨cC, iS, h⟩ := u_known (C := RX2) (T := TX2) (N := 12) (n := 12) hK inkX2 (hK (.instantiable RX2 12) (inLU_2 _ (List.mem_of_getElem? (i := 22) rfl)))
    exact ⟨(cC, iS), fun q hq => by cases hq; exact h⟩
  | 4 =>
    obtain ⟨cC, iS, h⟩ := u_known (C := RX3) (T := TX3) (N := 8) (n := 8) hK inkX3 (hK (.instantiable RX3 8) (inLU_2 _ (List.mem_of_getElem? (i := 2) rfl)))
    exact ⟨(cC, iS), fun q hq => by cases hq; exact h⟩
  | 5 =>
    obtain ⟨cC, iS, h⟩ := u_known (C := RX4) (T := TX4) (N := 14) (n := 14) hK inkX4 (hK (.instantiable RX4 14) (inLU_2 _ (List.mem_of_getElem? (i := 18) rfl)))
    exact ⟨(cC, iS), fun q hq => by cases hq; exact h⟩
  | 6 =>
    obtain ⟨cC, iS, h⟩ := u_known (C := RX5) (T := TX5) (N := 8) (n := 8) hK inkX5 (hK (.instantiable RX5 8) (inLU_1 _ (List.mem_of_getElem? (i := 14) rfl)))
    exact ⟨(cC, iS), fun q hq => by cases hq; exact h⟩
  | 7 =>
    obtain ⟨cC, iS, h⟩ := u_known (C := RX6) (T := TX6) (N := 12) (n := 12) hK inkX6 (hK (.instantiable RX6 12) (inLU_4 _ (List.mem_of_getElem? (i := 0) rfl)))
    exact ⟨(cC, iS), fun q hq => by cases hq; exact h⟩
  | 8 =>
    obtain ⟨cC, iS, h⟩ := u_known (C := RX7) (T := TX7) (N := 20) (n := 20) hK inkX7 (hK (.instantiable RX7 20) (inLU_2 _ (List.mem_of_getElem? (i := 10) rfl)))
    exact ⟨(cC, iS), fun q hq => by cases hq; exact h⟩
  | 9 =>
    obtain ⟨cC, iS, h⟩ := u_known (C := RX8) (T := TX8) (N := 20) (n := 20) hK inkX8 (hK (.instantiable RX8 20) (inLU_3 _ (List.mem_of_getElem? (i := 20) rfl)))
    exact ⟨(cC, iS), fun q hq => by cases hq; exact h⟩
  | 10 =>
    obtain ⟨cC, iS, h⟩ := u_known (C := RX9) (T := TX9) (N := 6) (n := 6) hK inkX9 (hK (.instantiable RX9 6) (inLU_2 _ (List.mem_of_getElem? (i := 14) rfl)))
    exact ⟨(cC, iS), fun q hq => by cases hq; exact h⟩
  | 11 =>
    obtain ⟨cC, iS, h⟩ := u_known (C := RX10) (T := TX10) (N := 6) (n := 6) hK inkX10 (hK (.instantiable RX10 6) (inLU_27 _ (List.mem_of_getElem? (i := 5) rfl)))
    exact ⟨(cC, iS), fun q hq => by cases hq; exact h⟩
  | 12 =>
    obtain ⟨cC, iS, h⟩ := u_known (C := RX11) (T := TX11) (N := 11) (n := 11) hK inkX11 (hK (.instantiable RX11 11) (inLU_1 _ (List.mem_of_getElem? (i := 18) rfl)))
    exact ⟨(cC, iS), fun q hq => by cases hq; exact h⟩
  | 13 =>
    obtain ⟨cC, iS, h⟩ := u_known (C := RX12) (T := TX12) (N := 12) (n := 12) hK inkX12 (hK (.instantiable RX12 12) (inLU_1 _ (List.mem_of_getElem? (i := 1) rfl)))
    exact ⟨(cC, iS), fun q hq => by cases hq; exact h⟩
  | 14 =>
    obtain ⟨cC, iS, h⟩ := u_known (C := RX13) (T := TX13) (N := 4) (n := 4) hK inkX13 (hK (.instantiable RX13 4) (inLU_30 _ (List.mem_of_getElem? (i := 12) rfl)))
    exact ⟨(cC, iS), fun q hq => by cases hq; exact h⟩
  | 15 =>
    obtain ⟨cC, iS, h⟩ := u_known (C := RX14) (T := TL14) (N := 64) (n := 64) hK inkL14 (hK (.instantiable RX14 64) (inLU_1 _ (List.mem_of_getElem? (i := 4) rfl)))
    exact ⟨(cC, iS), fun q hq => by cases hq; exact h⟩
  | n + 16 => exact ⟨(0, fun _ => 0), fun q hq => by simp at hq⟩
theorem xe_world {s : State} {b L : Nat} {xs : Nat → Int32} (hts : ∀ w ∈ lw_tbl, w.before #[Value.ref b] s = true) (hgv : (Jvm.Cond.and given_1 narrow_1).before #[Value.ref b] s = true) (hX : va_X b L xs s s.heap) (hbl : b < s.heap.size) : ∃ (D : va_G) (tc : Nat → ClassId) (dA : Nat), xG D tc b dA (L, xs) s.heap s := by
  have hfl := flat_of_before _ hgv
  have hF := xe_F hts hfl
  have hK := xe_words hts
  obtain ⟨dA, hH, hd⟩ := xe_H hts hfl
  have hC := xe_C hK
  obtain ⟨a0, p0, q0⟩ := xe_arrP (hK _ xw_int)
  obtain ⟨a1, p1, q1⟩ := xe_arrP (hK _ xw_long)
  obtain ⟨a2, p2, q2⟩ := xe_arrP (hK _ xw_boolean)
  obtain ⟨a3, p3, q3⟩ := xe_arrO (kw_AO_RX0 hF)
  obtain ⟨a4, p4, q4⟩ := xe_arrO (kw_AO_RX10 hF)
  obtain ⟨a5, p5, q5⟩ := xe_arrO (kw_AO_java_lang_Object hF)
  obtain ⟨a6, p6, q6⟩ := xe_arrO (kw_AO_RX13 hF)
  obtain ⟨a7, p7, q7⟩ := xe_arrA (kw_AOA hF)
  refine ⟨(fun c => (Classical.choose (hC c)).1, fun c => (Classical.choose (hC c)).2), fun n => [a0, a1, a2, a3, a4, a5, a6, a7].getD n 0, dA, ⟨fun c q hq => Classical.choose_spec (hC c) q hq, fun k q hk => ?_⟩, hF, hH, hX, hbl, hd, fun q _ => rfl, Nat.le_refl _⟩
  match k with
  | 0 => cases hk; exact ⟨p0, q0⟩
  | 1 => cases hk; exact ⟨p1, q1⟩
  | 2 => cases hk; exact ⟨p2, q2⟩
  | 3 => cases hk; exact ⟨p3, q3⟩
  | 4 => cases hk; exact ⟨p4, q4⟩
  | 5 => cases hk; exact ⟨p5, q5⟩
  | 6 => cases hk; exact ⟨p6, q6⟩
  | 7 => cases hk; exact ⟨p7, q7⟩
  | n + 8 => simp at hk
theorem xe_traces {l : Launch} (h : l.flags = flags0) : l.stackTraces = false := by
  unfold Launch.stackTraces
  rw [h]
  decide +kernel
theorem xe_rp (D : va_G) (tc : Nat → ClassId) (b dA : Nat) (B : Heap) : xRp D tc b dA B [none, none] B := by
  refine ⟨Nat.le_refl _, rfl, rfl, rfl, fun q _ => rfl, fun k c hk => ?_⟩
  match k with
  | 0 => cases hk
  | 1 => cases hk
  | n + 2 => simp at hk
