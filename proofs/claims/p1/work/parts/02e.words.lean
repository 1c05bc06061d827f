/-! words of the law's list that the abstract machine wants by name -/
theorem xw_int : Cond.arrayClass .int ∈ wsK := inLU_3 _ (List.mem_of_getElem? (i := 7) rfl)
theorem xw_long : Cond.arrayClass .long ∈ wsK := inLU_1 _ (List.mem_of_getElem? (i := 6) rfl)
theorem xw_boolean : Cond.arrayClass .boolean ∈ wsK := inLU_5 _ (List.mem_of_getElem? (i := 5) rfl)
