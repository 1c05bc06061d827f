/-! printed by gen_entry.py: what the entry gives -/
theorem xe_T {a b : Cond} {L t : List Cond} (h : ∀ w ∈ L.filter goodWord, w ∈ t) (ha : a ∈ t) (hb : b ∈ t) : ∀ w ∈ (a :: b :: L).filter goodWord, w ∈ t := by
  intro w hw
  obtain ⟨h1, h2⟩ := List.mem_filter.mp hw
  rcases List.mem_cons.mp h1 with rfl | h1
  · exact ha
  · rcases List.mem_cons.mp h1 with rfl | h1
    · exact hb
    · exact h w (List.mem_filter.mpr ⟨h1, h2⟩)
theorem xe_ISE : ∀ w ∈ wsT_ISE, w ∈ lw_tbl := xe_T wsL_law_x0 (List.mem_of_getElem? (i := 1484) (by decide +kernel)) (List.mem_of_getElem? (i := 196) (by decide +kernel))
theorem xe_IAE : ∀ w ∈ wsT_IAE, w ∈ lw_tbl := xe_T wsL_law_x1 (List.mem_of_getElem? (i := 1606) (by decide +kernel)) (List.mem_of_getElem? (i := 200) (by decide +kernel))
theorem xe_IOB : ∀ w ∈ wsT_IOB, w ∈ lw_tbl := xe_T wsL_law_x2 (List.mem_of_getElem? (i := 1587) (by decide +kernel)) (List.mem_of_getElem? (i := 199) (by decide +kernel))
theorem xe_NSE : ∀ w ∈ wsT_NSE, w ∈ lw_tbl := xe_T wsL_law_x3 (List.mem_of_getElem? (i := 2077) (by decide +kernel)) (List.mem_of_getElem? (i := 206) (by decide +kernel))
theorem xe_words {args : Array Value} {s : State} (hts : ∀ w ∈ lw_tbl, w.before args s = true) : ∀ w ∈ wsK, w.before args s = true := by
  intro w hw
  rcases List.mem_append.mp hw with h | h
  · exact hts w (wsL_law_in w h)
  · rcases List.mem_append.mp h with h | h
    · rcases List.mem_append.mp h with h | h
      · rcases List.mem_append.mp h with h | h
        · exact hts w (xe_ISE w h)
        · exact hts w (xe_IAE w h)
      · exact hts w (xe_IOB w h)
    · exact hts w (xe_NSE w h)
theorem xe_S {args : Array Value} {s : State} {own tx : String} {k : Nat} (h1 : (Cond.stringRef own k tx).before args s = true) (h2 : (Cond.exactly (.string own k) "java/lang/String").before args s = true) : ∃ sa : Nat, vk_R own k tx sa s := by
  obtain ⟨a, c, cA, kA, q1, -⟩ := Cond.exactly_spec (args := args) (first := s) (o := none) (s := s) (idx := []) (t := .string own k) (cls := "java/lang/String") h2
  exact ⟨a, vk_R.of h1 q1⟩
theorem xe_arrP {args : Array Value} {s : State} {ty : FieldType} (h : (Cond.arrayClass ty).before args s = true) : ∃ c : ClassId, ArrOfT s c ty ∧ s.vm.findClass ("[" ++ ty.toString) = some c := by
  obtain ⟨c, k, comp, h1, h2, h3⟩ := Cond.arrayClass_spec (args := args) (first := s) (o := none) (s := s) (idx := []) h
  exact ⟨c, fun N z => ⟨(fun k h => by cases h), k, h2, comp, h3⟩, h1⟩
theorem xe_arrO {s : State} {C : String} (h : va_AO C s) : ∃ c : ClassId, ArrOfT s c (.object C) ∧ va_RA s c (.object C) := by
  obtain ⟨comp, c, k, h1, h2, h3, h4, h5⟩ := Cond.arrayOver_spec (args := #[]) (first := s) (o := none) (s := s) (idx := []) h
  exact ⟨c, fun N z => ⟨(fun k h => by cases h), k, h3, comp, h4⟩, k, comp, h3, h4, h1, h5⟩
theorem xe_arrA {s : State} (h : va_AOA s) : ∃ c : ClassId, ArrOfT s c (.array .int) ∧ va_RA s c (.array .int) := by
  obtain ⟨comp, c, k, hc, hi, hk, hkind, hn⟩ := arrayOverA_spec h
  exact ⟨c, fun N z => ⟨(fun k h => by cases h), k, hk, comp, hkind⟩, hn⟩
set_option maxRecDepth 100000 in
theorem xe_F {args : Array Value} {s : State} (hts : ∀ w ∈ lw_tbl, w.before args s = true) (hfl : ∀ w ∈ flatC (Jvm.Cond.and given_1 narrow_1), w.before args s = true) : kwF s := ⟨va_AO.of (hts (.arrayOver (.object RX0)) (List.mem_of_getElem? (i := 260) (by decide +kernel))),
  va_AO.of (hts (.arrayOver (.object RX10)) (List.mem_of_getElem? (i := 378) (by decide +kernel))),
  va_AO.of (hts (.arrayOver (.object "java/lang/Object")) (List.mem_of_getElem? (i := 861) (by decide +kernel))),
  va_AO.of (hts (.arrayOver (.object RX13)) (List.mem_of_getElem? (i := 2265) (by decide +kernel))),
  hts (.arrayOver (.array .int)) (List.mem_of_getElem? (i := 2267) (by decide +kernel)),
  va_Nw.of rfl (hts (.methodLinkNest RX12 11 yX5_init "Kitwarden") (List.mem_of_getElem? (i := 217) (by decide +kernel))),
  va_Nw.of rfl (hts (.methodLinkNest RX12 18 yX11_init "Kitwarden") (List.mem_of_getElem? (i := 249) (by decide +kernel))),
  va_Nw.of rfl (hts (.methodLinkNest RX11 11 yX8_init "Kitwarden") (List.mem_of_getElem? (i := 255) (by decide +kernel))),
  va_Nw.of rfl (hts (.methodLinkNest RX11 20 yX6_init "Kitwarden") (List.mem_of_getElem? (i := 372) (by decide +kernel))),
  va_Nw.of rfl (hts (.methodLinkNest RX1 111 yX12_switchOf "Kitwarden") (List.mem_of_getElem? (i := 1032) (by decide +kernel))),
  va_Nw.of rfl (hts (.methodLinkNest RX1 135 yX12_has "Kitwarden") (List.mem_of_getElem? (i := 1048) (by decide +kernel))),
  va_Nw.of rfl (hts (.methodLinkNest RX9 85 yX12_switchOf "Kitwarden") (List.mem_of_getElem? (i := 1269) (by decide +kernel))),
  va_Nw.of rfl (hts (.methodLinkNest RX3 138 yX12_switchOf "Kitwarden") (List.mem_of_getElem? (i := 1299) (by decide +kernel))),
  va_Nw.of rfl (hts (.methodLinkNest RX3 141 yX12_has "Kitwarden") (List.mem_of_getElem? (i := 1311) (by decide +kernel))),
  va_Nw.of rfl (hts (.methodLinkNest RX8 95 yX12_has "Kitwarden") (List.mem_of_getElem? (i := 1348) (by decide +kernel))),
  va_Nw.of rfl (hts (.methodLinkNest RX2 97 yX12_has "Kitwarden") (List.mem_of_getElem? (i := 1353) (by decide +kernel))),
  va_Nw.of rfl (hts (.methodLinkNest RX2 179 yX12_packsIn "Kitwarden") (List.mem_of_getElem? (i := 1376) (by decide +kernel))),
  va_Nw.of rfl (hts (.methodLinkNest RX8 85 yX12_switchOf "Kitwarden") (List.mem_of_getElem? (i := 1573) (by decide +kernel))),
  va_Nw.of rfl (hts (.methodLinkNest RX11 76 yX12_has "Kitwarden") (List.mem_of_getElem? (i := 1656) (by decide +kernel))),
  va_Nw.of rfl (hts (.fieldLinkNest RX14 283 "KitwardenModel$Need" "isOption" "Z" "KitwardenModel") (List.mem_of_getElem? (i := 2787) (by decide +kernel))),
  va_Nw.of rfl (hts (.fieldLinkNest RX14 276 "KitwardenModel$Need" "packs" "[I" "KitwardenModel") (List.mem_of_getElem? (i := 2789) (by decide +kernel))),
  va_Nw.of rfl (hts (.fieldLinkNest RX14 266 "KitwardenModel$Need" "begins" "[I" "KitwardenModel") (List.mem_of_getElem? (i := 2791) (by decide +kernel))),
  va_Nw.of rfl (hts (.fieldLinkNest RX14 273 "KitwardenModel$Need" "spans" "[I" "KitwardenModel") (List.mem_of_getElem? (i := 2793) (by decide +kernel))),
  va_Nw.of rfl (hts (.castable RX11 "java/lang/Object") (List.mem_of_getElem? (i := 3132) (by decide +kernel))),
  va_Nw.of rfl (hts (.castable "java/lang/IllegalStateException" "java/lang/IllegalStateException") (List.mem_of_getElem? (i := 1486) (by decide +kernel))),
  va_Nc.of (hfl (.not (.castable "java/lang/IllegalStateException" "java/lang/IllegalArgumentException")) (List.mem_of_getElem? (i := 61) (by decide +kernel))),
  va_Nc.of (hfl (.not (.castable "java/lang/IllegalStateException" "java/lang/IndexOutOfBoundsException")) (List.mem_of_getElem? (i := 42) (by decide +kernel))),
  va_Nc.of (hfl (.not (.castable "java/lang/IllegalStateException" "java/util/NoSuchElementException")) (List.mem_of_getElem? (i := 80) (by decide +kernel))),
  va_Nw.of rfl (hts (.castable "java/lang/IllegalArgumentException" "java/lang/IllegalArgumentException") (List.mem_of_getElem? (i := 1608) (by decide +kernel))),
  va_Nc.of (hfl (.not (.castable "java/lang/IllegalArgumentException" "java/lang/IllegalStateException")) (List.mem_of_getElem? (i := 24) (by decide +kernel))),
  va_Nc.of (hfl (.not (.castable "java/lang/IllegalArgumentException" "java/lang/IndexOutOfBoundsException")) (List.mem_of_getElem? (i := 43) (by decide +kernel))),
  va_Nc.of (hfl (.not (.castable "java/lang/IllegalArgumentException" "java/util/NoSuchElementException")) (List.mem_of_getElem? (i := 82) (by decide +kernel))),
  va_Nw.of rfl (hts (.castable "java/lang/IndexOutOfBoundsException" "java/lang/IndexOutOfBoundsException") (List.mem_of_getElem? (i := 1589) (by decide +kernel))),
  va_Nc.of (hfl (.not (.castable "java/lang/IndexOutOfBoundsException" "java/lang/IllegalStateException")) (List.mem_of_getElem? (i := 23) (by decide +kernel))),
  va_Nc.of (hfl (.not (.castable "java/lang/IndexOutOfBoundsException" "java/lang/IllegalArgumentException")) (List.mem_of_getElem? (i := 62) (by decide +kernel))),
  va_Nc.of (hfl (.not (.castable "java/lang/IndexOutOfBoundsException" "java/util/NoSuchElementException")) (List.mem_of_getElem? (i := 81) (by decide +kernel))),
  va_Nw.of rfl (hts (.castable "java/util/NoSuchElementException" "java/util/NoSuchElementException") (List.mem_of_getElem? (i := 2079) (by decide +kernel))),
  va_Nc.of (hfl (.not (.castable "java/util/NoSuchElementException" "java/lang/IllegalStateException")) (List.mem_of_getElem? (i := 28) (by decide +kernel))),
  va_Nc.of (hfl (.not (.castable "java/util/NoSuchElementException" "java/lang/IllegalArgumentException")) (List.mem_of_getElem? (i := 66) (by decide +kernel))),
  va_Nc.of (hfl (.not (.castable "java/util/NoSuchElementException" "java/lang/IndexOutOfBoundsException")) (List.mem_of_getElem? (i := 47) (by decide +kernel))),
  va_Nw.of rfl (hts (.declares (Bundle.initS "java/lang/RuntimeException")) (by decide +kernel)),
  va_Nw.of rfl (hts (.declares (Bundle.initS "java/lang/Exception")) (by decide +kernel)),
  va_Nw.of rfl (hts (.declares (Bundle.initS Bundle.tN)) (by decide +kernel)),
  xe_S (hts (.stringRef RX12 106 "the tape is full") (List.mem_of_getElem? (i := 1526) (by decide +kernel))) (hfl (.exactly (.string RX12 106) "java/lang/String") (List.mem_of_getElem? (i := 150) (by decide +kernel))),
  xe_S (hts (.stringRef RX12 134 "there are 12 packages") (List.mem_of_getElem? (i := 1568) (by decide +kernel))) (hfl (.exactly (.string RX12 134) "java/lang/String") (List.mem_of_getElem? (i := 170) (by decide +kernel))),
  xe_S (hts (.stringRef RX12 150 "no code, files or size") (List.mem_of_getElem? (i := 1615) (by decide +kernel))) (hfl (.exactly (.string RX12 150) "java/lang/String") (List.mem_of_getElem? (i := 214) (by decide +kernel))),
  xe_S (hts (.stringRef RX12 160 "it is there, or there are too many") (List.mem_of_getElem? (i := 1630) (by decide +kernel))) (hfl (.exactly (.string RX12 160) "java/lang/String") (List.mem_of_getElem? (i := 240) (by decide +kernel))),
  xe_S (hts (.stringRef RX12 176 "it has 3 needs, or is installed") (List.mem_of_getElem? (i := 1657) (by decide +kernel))) (hfl (.exactly (.string RX12 176) "java/lang/String") (List.mem_of_getElem? (i := 297) (by decide +kernel))),
  xe_S (hts (.stringRef RX12 189 "it has 2 bans, or is installed") (List.mem_of_getElem? (i := 1790) (by decide +kernel))) (hfl (.exactly (.string RX12 189) "java/lang/String") (List.mem_of_getElem? (i := 357) (by decide +kernel))),
  xe_S (hts (.stringRef RX12 195 "the same package, or no code") (List.mem_of_getElem? (i := 1802) (by decide +kernel))) (hfl (.exactly (.string RX12 195) "java/lang/String") (List.mem_of_getElem? (i := 391) (by decide +kernel))),
  xe_S (hts (.stringRef RX12 200 "it provides 2, or is installed") (List.mem_of_getElem? (i := 1803) (by decide +kernel))) (hfl (.exactly (.string RX12 200) "java/lang/String") (List.mem_of_getElem? (i := 423) (by decide +kernel))),
  xe_S (hts (.stringRef RX12 210 "it has the option, or is installed") (List.mem_of_getElem? (i := 1815) (by decide +kernel))) (hfl (.exactly (.string RX12 210) "java/lang/String") (List.mem_of_getElem? (i := 457) (by decide +kernel))),
  xe_S (hts (.stringRef RX12 249 "what is out of range") (List.mem_of_getElem? (i := 1828) (by decide +kernel))) (hfl (.exactly (.string RX12 249) "java/lang/String") (List.mem_of_getElem? (i := 495) (by decide +kernel))),
  xe_S (hts (.stringRef RX12 256 "no such place") (List.mem_of_getElem? (i := 1843) (by decide +kernel))) (hfl (.exactly (.string RX12 256) "java/lang/String") (List.mem_of_getElem? (i := 519) (by decide +kernel))),
  xe_S (hts (.stringRef RX12 273 "no such root") (List.mem_of_getElem? (i := 1869) (by decide +kernel))) (hfl (.exactly (.string RX12 273) "java/lang/String") (List.mem_of_getElem? (i := 577) (by decide +kernel))),
  xe_S (hts (.stringRef RX12 281 "8 wishes have come") (List.mem_of_getElem? (i := 1877) (by decide +kernel))) (hfl (.exactly (.string RX12 281) "java/lang/String") (List.mem_of_getElem? (i := 593) (by decide +kernel))),
  xe_S (hts (.stringRef RX12 290 "no such wish") (List.mem_of_getElem? (i := 1889) (by decide +kernel))) (hfl (.exactly (.string RX12 290) "java/lang/String") (List.mem_of_getElem? (i := 615) (by decide +kernel))),
  xe_S (hts (.stringRef RX12 311 "size is out of range") (List.mem_of_getElem? (i := 1920) (by decide +kernel))) (hfl (.exactly (.string RX12 311) "java/lang/String") (List.mem_of_getElem? (i := 631) (by decide +kernel))),
  xe_S (hts (.stringRef RX12 394 "no such row") (List.mem_of_getElem? (i := 1979) (by decide +kernel))) (hfl (.exactly (.string RX12 394) "java/lang/String") (List.mem_of_getElem? (i := 655) (by decide +kernel))),
  xe_S (hts (.stringRef RX12 403 "no such row or literal") (List.mem_of_getElem? (i := 1988) (by decide +kernel))) (hfl (.exactly (.string RX12 403) "java/lang/String") (List.mem_of_getElem? (i := 670) (by decide +kernel))),
  xe_S (hts (.stringRef RX12 429 "there are 3 mirrors") (List.mem_of_getElem? (i := 2044) (by decide +kernel))) (hfl (.exactly (.string RX12 429) "java/lang/String") (List.mem_of_getElem? (i := 712) (by decide +kernel))),
  xe_S (hts (.stringRef RX12 452 "the scripts have no order") (List.mem_of_getElem? (i := 2086) (by decide +kernel))) (hfl (.exactly (.string RX12 452) "java/lang/String") (List.mem_of_getElem? (i := 753) (by decide +kernel))),
  xe_S (hts (.stringRef RX12 468 "no such step") (List.mem_of_getElem? (i := 2142) (by decide +kernel))) (hfl (.exactly (.string RX12 468) "java/lang/String") (List.mem_of_getElem? (i := 807) (by decide +kernel))),
  xe_S (hts (.stringRef RX12 488 "no such file") (List.mem_of_getElem? (i := 2208) (by decide +kernel))) (hfl (.exactly (.string RX12 488) "java/lang/String") (List.mem_of_getElem? (i := 823) (by decide +kernel))),
  xe_S (hts (.stringRef RX12 522 "no such entry") (List.mem_of_getElem? (i := 2246) (by decide +kernel))) (hfl (.exactly (.string RX12 522) "java/lang/String") (List.mem_of_getElem? (i := 839) (by decide +kernel))),
  xe_S (hts (.stringRef RX12 564 "no such package") (List.mem_of_getElem? (i := 1596) (by decide +kernel))) (hfl (.exactly (.string RX12 564) "java/lang/String") (List.mem_of_getElem? (i := 195) (by decide +kernel))),
  xe_S (hts (.stringRef RX12 566 "no such mirror") (List.mem_of_getElem? (i := 2056) (by decide +kernel))) (hfl (.exactly (.string RX12 566) "java/lang/String") (List.mem_of_getElem? (i := 735) (by decide +kernel))),
  xe_S (hts (.stringRef RX12 568 "no such lock") (List.mem_of_getElem? (i := 2003) (by decide +kernel))) (hfl (.exactly (.string RX12 568) "java/lang/String") (List.mem_of_getElem? (i := 696) (by decide +kernel))),
  xe_S (hts (.stringRef RX12 570 "the goal is not sound") (List.mem_of_getElem? (i := 2116) (by decide +kernel))) (hfl (.exactly (.string RX12 570) "java/lang/String") (List.mem_of_getElem? (i := 782) (by decide +kernel))),
  xe_S (hts (.stringRef RX12 572 "no such version") (List.mem_of_getElem? (i := 1651) (by decide +kernel))) (hfl (.exactly (.string RX12 572) "java/lang/String") (List.mem_of_getElem? (i := 278) (by decide +kernel))),
  xe_S (hts (.stringRef RX12 578 "the text has an error") (List.mem_of_getElem? (i := 1778) (by decide +kernel))) (hfl (.exactly (.string RX12 578) "java/lang/String") (List.mem_of_getElem? (i := 332) (by decide +kernel))),
  xe_S (hts (.stringRef RX12 584 "the text has an error, or is no range") (List.mem_of_getElem? (i := 1860) (by decide +kernel))) (hfl (.exactly (.string RX12 584) "java/lang/String") (List.mem_of_getElem? (i := 536) (by decide +kernel))),
  trivial⟩
set_option maxRecDepth 100000 in
theorem xe_H {args : Array Value} {s : State} (hts : ∀ w ∈ lw_tbl, w.before args s = true) (hfl : ∀ w ∈ flatC (Jvm.Cond.and given_1 narrow_1), w.before args s = true) : ∃ dA : Nat, kwH dA (fun q => s.heap.size ≤ q) s s.heap ∧ dA < s.heap.size := by
  have hA : ∀ a : Nat, a < s.heap.size → ¬ (fun q => s.heap.size ≤ q) a := fun a h => Nat.not_le.mpr h
  obtain ⟨t, ht, hT⟩ := va_Tof (N := 0) (f := fun _ => .null) (A := fun q => s.heap.size ≤ q) (by decide) (hfl (.arrayOf (.static "java/util/ArrayList" "DEFAULTCAPACITY_EMPTY_ELEMENTDATA" "[Ljava/lang/Object;") (.object "java/lang/Object")) (List.mem_of_getElem? (i := 5) (by decide +kernel))) (va_eqt (hfl (.eq (.length (.static "java/util/ArrayList" "DEFAULTCAPACITY_EMPTY_ELEMENTDATA" "[Ljava/lang/Object;")) (.int 0)) (List.mem_of_getElem? (i := 7) (by decide +kernel)))) (fun j hj => absurd hj (Nat.not_lt_zero j)) hA
  have hlt : t < s.heap.size := by
    obtain ⟨cell, h1, -⟩ := hT
    exact (Array.getElem?_eq_some_iff.mp h1).1
  exact ⟨t, ⟨va_Zof (hts (.laysStatic "java/util/ArrayList" "DEFAULTCAPACITY_EMPTY_ELEMENTDATA" "[Ljava/lang/Object;") (List.mem_of_getElem? (i := 505) (by decide +kernel))) (hts (.initialized "java/util/ArrayList") (List.mem_of_getElem? (i := 181) (by decide +kernel))) ht hA, hT,
    vx_Zqof (hts (.laysStatic Bundle.tN "UNASSIGNED_STACK" Bundle.steD) (by decide +kernel)) (hts (.initialized Bundle.tN) (by decide +kernel)) (hfl (.isRef (.static Bundle.tN "UNASSIGNED_STACK" Bundle.steD)) (by decide +kernel)) hA,
    vx_Zqof (hts (.laysStatic Bundle.tN "SUPPRESSED_SENTINEL" Bundle.listD) (by decide +kernel)) (hts (.initialized Bundle.tN) (by decide +kernel)) (hfl (.isRef (.static Bundle.tN "SUPPRESSED_SENTINEL" Bundle.listD)) (by decide +kernel)) hA⟩, hlt⟩
theorem xe_C {args : Array Value} {s : State} (hK : ∀ w ∈ wsK, w.before args s = true) : ∀ c : Nat, ∃ d : ClassId × (Nat → Nat), ∀ q, vwCl[c]? = some q → u_Kn s q.1 q.2.1 q.2.2 d.1 d.2 := by
  intro c
  match c with
  | 0 =>
    obtain ⟨cC, iS, h⟩ := u_known (C := RJx4a65c) (T := TJx4a65c) (N := 3) (n := 3) hK inkJx4a65c (hK (.instantiable RJx4a65c 3) (inLU_1 _ (List.mem_of_getElem? (i := 22) rfl)))
    exact ⟨(cC, iS), fun q hq => by cases hq; exact h⟩
  | 1 =>
    obtain ⟨cC, iS, h⟩ := u_known (C := RX0) (T := TX0) (N := 4) (n := 4) hK inkX0 (hK (.instantiable RX0 4) (inLU_26 _ (List.mem_of_getElem? (i := 9) rfl)))
    exact ⟨(cC, iS), fun q hq => by cases hq; exact h⟩
  | 2 =>
    obtain ⟨cC, iS, h⟩ := u_known (C := RX1) (T := TX1) (N := 9) (n := 9) hK inkX1 (hK (.instantiable RX1 9) (inLU_2 _ (List.mem_of_getElem? (i := 6) rfl)))
    exact ⟨(cC, iS), fun q hq => by cases hq; exact h⟩
  | 3 =>
    obtain ⟨cC, iS, h⟩ := u_known (C := RX2) (T := TX2) (N := 12) (n := 12) hK inkX2 (hK (.instantiable RX2 12) (inLU_2 _ (List.mem_of_getElem? (i := 22) rfl)))
    exact ⟨(cC, iS), fun q hq => by cases hq; exact h⟩
  | 4 =>
    obtain ⟨cC, iS, h⟩ := u_known (C := RX3) (T := TX3) (N := 8) (n := 8) hK inkX3 (hK (.instantiable RX3 8) (inLU_2 _ (List.mem_of_getElem? (i := 2) rfl)))
    exact ⟨(cC, iS), fun q hq => by cases hq; exact h⟩
  | 5 =>
    obtain ⟨cC, iS, h⟩ := u_known (C := RX4) (T := TX4) (N := 14) (n := 14) hK inkX4 (hK (.instantiable RX4 14) (inLU_2 _ (List.mem_of_getElem? (i := 18) rfl)))
    exact ⟨(cC, iS), fun q hq => by cases hq; exact h⟩
  | 6 =>
    obtain ⟨cC, iS, h⟩ := u_known (C := RX5) (T := TX5) (N := 8) (n := 8) hK inkX5 (hK (.instantiable RX5 8) (inLU_1 _ (List.mem_of_getElem? (i := 14) rfl)))
    exact ⟨(cC, iS), fun q hq => by cases hq; exact h⟩
  | 7 =>
    obtain ⟨cC, iS, h⟩ := u_known (C := RX6) (T := TX6) (N := 12) (n := 12) hK inkX6 (hK (.instantiable RX6 12) (inLU_4 _ (List.mem_of_getElem? (i := 0) rfl)))
    exact ⟨(cC, iS), fun q hq => by cases hq; exact h⟩
  | 8 =>
    obtain ⟨cC, iS, h⟩ := u_known (C := RX7) (T := TX7) (N := 20) (n := 20) hK inkX7 (hK (.instantiable RX7 20) (inLU_2 _ (List.mem_of_getElem? (i := 10) rfl)))
    exact ⟨(cC, iS), fun q hq => by cases hq; exact h⟩
  | 9 =>
    obtain ⟨cC, iS, h⟩ := u_known (C := RX8) (T := TX8) (N := 20) (n := 20) hK inkX8 (hK (.instantiable RX8 20) (inLU_3 _ (List.mem_of_getElem? (i := 20) rfl)))
    exact ⟨(cC, iS), fun q hq => by cases hq; exact h⟩
  | 10 =>
    obtain ⟨cC, iS, h⟩ := u_known (C := RX9) (T := TX9) (N := 6) (n := 6) hK inkX9 (hK (.instantiable RX9 6) (inLU_2 _ (List.mem_of_getElem? (i := 14) rfl)))
    exact ⟨(cC, iS), fun q hq => by cases hq; exact h⟩
  | 11 =>
    obtain ⟨cC, iS, h⟩ := u_known (C := RX10) (T := TX10) (N := 6) (n := 6) hK inkX10 (hK (.instantiable RX10 6) (inLU_27 _ (List.mem_of_getElem? (i := 5) rfl)))
    exact ⟨(cC, iS), fun q hq => by cases hq; exact h⟩
  | 12 =>
    obtain ⟨cC, iS, h⟩ := u_known (C := RX11) (T := TX11) (N := 11) (n := 11) hK inkX11 (hK (.instantiable RX11 11) (inLU_1 _ (List.mem_of_getElem? (i := 18) rfl)))
    exact ⟨(cC, iS), fun q hq => by cases hq; exact h⟩
  | 13 =>
    obtain ⟨cC, iS, h⟩ := u_known (C := RX12) (T := TX12) (N := 12) (n := 12) hK inkX12 (hK (.instantiable RX12 12) (inLU_1 _ (List.mem_of_getElem? (i := 1) rfl)))
    exact ⟨(cC, iS), fun q hq => by cases hq; exact h⟩
  | 14 =>
    obtain ⟨cC, iS, h⟩ := u_known (C := RX13) (T := TX13) (N := 4) (n := 4) hK inkX13 (hK (.instantiable RX13 4) (inLU_30 _ (List.mem_of_getElem? (i := 12) rfl)))
    exact ⟨(cC, iS), fun q hq => by cases hq; exact h⟩
  | 15 =>
    obtain ⟨cC, iS, h⟩ := u_known (C := RX14) (T := TL14) (N := 64) (n := 64) hK inkL14 (hK (.instantiable RX14 64) (inLU_1 _ (List.mem_of_getElem? (i := 4) rfl)))
    exact ⟨(cC, iS), fun q hq => by cases hq; exact h⟩
  | n + 16 => exact ⟨(0, fun _ => 0), fun q hq => by simp at hq⟩
theorem xe_world {s : State} {b L : Nat} {xs : Nat → Int32} (hts : ∀ w ∈ lw_tbl, w.before #[Value.ref b] s = true) (hgv : (Jvm.Cond.and given_1 narrow_1).before #[Value.ref b] s = true) (hX : va_X b L xs s s.heap) (hbl : b < s.heap.size) : ∃ (D : va_G) (tc : Nat → ClassId) (dA : Nat), xG D tc b dA (L, xs) s.heap s := by
  have hfl := flat_of_before _ hgv
  have hF := xe_F hts hfl
  have hK := xe_words hts
  obtain ⟨dA, hH, hd⟩ := xe_H hts hfl
  have hC := xe_C hK
  obtain ⟨a0, p0, q0⟩ := xe_arrP (hK _ xw_int)
  obtain ⟨a1, p1, q1⟩ := xe_arrP (hK _ xw_long)
  obtain ⟨a2, p2, q2⟩ := xe_arrP (hK _ xw_boolean)
  obtain ⟨a3, p3, q3⟩ := xe_arrO (kw_AO_RX0 hF)
  obtain ⟨a4, p4, q4⟩ := xe_arrO (kw_AO_RX10 hF)
  obtain ⟨a5, p5, q5⟩ := xe_arrO (kw_AO_java_lang_Object hF)
  obtain ⟨a6, p6, q6⟩ := xe_arrO (kw_AO_RX13 hF)
  obtain ⟨a7, p7, q7⟩ := xe_arrA (kw_AOA hF)
  refine ⟨(fun c => (Classical.choose (hC c)).1, fun c => (Classical.choose (hC c)).2), fun n => [a0, a1, a2, a3, a4, a5, a6, a7].getD n 0, dA, ⟨fun c q hq => Classical.choose_spec (hC c) q hq, fun k q hk => ?_⟩, hF, hH, hX, hbl, hd, fun q _ => rfl, Nat.le_refl _⟩
  match k with
  | 0 => cases hk; exact ⟨p0, q0⟩
  | 1 => cases hk; exact ⟨p1, q1⟩
  | 2 => cases hk; exact ⟨p2, q2⟩
  | 3 => cases hk; exact ⟨p3, q3⟩
  | 4 => cases hk; exact ⟨p4, q4⟩
  | 5 => cases hk; exact ⟨p5, q5⟩
  | 6 => cases hk; exact ⟨p6, q6⟩
  | 7 => cases hk; exact ⟨p7, q7⟩
  | n + 8 => simp at hk
theorem xe_traces {l : Launch} (h : l.flags = flags0) : l.stackTraces = false := by
  unfold Launch.stackTraces
  rw [h]
  decide +kernel
theorem xe_rp (D : va_G) (tc : Nat → ClassId) (b dA : Nat) (B : Heap) : xRp D tc b dA B [none, none] B := by
  refine ⟨Nat.le_refl _, rfl, rfl, rfl, fun q _ => rfl, fun k c hk => ?_⟩
  match k with
  | 0 => cases hk
  | 1 => cases hk
  | n + 2 => simp at hk
