/-! THE SIMULATION -/
set_option maxHeartbeats 4000000 in
theorem xstep_throw {P : XP} {sc : Nat × (Nat → Int32)} {mi pc : Nat} {i : Instr} {ls : XL} {st : List Value} {h : XH} {x : Nat} (hs : xstep P sc mi pc i ls st h = some (.inr (.inr (.inr x)))) :
    ∃ k ic ty v M is_ S6, i = .new k ∧ P.site mi k = some (5, x, ic, ty, v) ∧ P.meth mi = some M ∧ M.hh.isEmpty = true ∧ xsum st ≤ 8 ∧ P.site mi is_ = some (6, S6) ∧ P.code mi (pc + 3) = some .dup ∧
      ((P.code mi (pc + 4) = some (.ldc is_) ∧ P.code mi (pc + 6) = some (.invokespecial ic) ∧ P.code mi (pc + 9) = some .athrow) ∨ (P.code mi (pc + 4) = some (.ldc_w is_) ∧ P.code mi (pc + 7) = some (.invokespecial ic) ∧ P.code mi (pc + 10) = some .athrow)) := by
  unfold xstep at hs
  split at hs
  all_goals try (simp only [xnx, xldi, xldl, xlda, xldd, xsti, xstl, xsta, xstd, x1i, x2i, x1l, x2l, xli, x1d, x2d, x1f, x2f, x1a, xbr, xjmp, xacmp, xaload, xnewarr, xcall, cond] at hs)
  all_goals first
    | (cases hs; done)
    | (repeat' (first | (cases hs; done) | (simp only [Option.bind_eq_some_iff] at hs; obtain ⟨q1, q2, hs⟩ := hs; cases hs; done) | split at hs))
  · rename_i hM hc
    cases hs
    obtain ⟨c1, c2, c3⟩ := hc
    have c4 : xisdup P mi (pc + 3) = true := by
      unfold xthr at c3
      simp only [Bool.and_eq_true] at c3
      exact c3.1
    have d1 : P.code mi (pc + 3) = some .dup := by
      unfold xisdup at c4
      split at c4
      · assumption
      · cases c4
    have text : ∀ k, xistext P mi k = true → ∃ S6, P.site mi k = some (6, S6) := by
      intro k z
      unfold xistext at z
      split at z
      · exact ⟨_, by assumption⟩
      · cases z
    have spec : ∀ pc ic, xisspec P mi pc ic = true → P.code mi pc = some (.invokespecial ic) := by
      intro pc ic z
      unfold xisspec at z
      split at z
      · next j hj =>
        cases eq_of_beq z
        exact hj
      · cases z
    have thr : ∀ pc, xisthrow P mi pc = true → P.code mi pc = some .athrow := by
      intro pc z
      unfold xisthrow at z
      split at z
      · assumption
      · cases z
    unfold xthr at c3
    simp only [Bool.and_eq_true] at c3
    obtain ⟨-, c3⟩ := c3
    split at c3
    · next k hk =>
      simp only [Bool.and_eq_true] at c3
      obtain ⟨S6, h6⟩ := text k c3.1.1
      exact ⟨_, _, _, _, _, _, _, rfl, by assumption, hM, c1, c2, h6, d1, Or.inl ⟨hk, spec _ _ c3.1.2, thr _ c3.2⟩⟩
    · next k hk =>
      simp only [Bool.and_eq_true] at c3
      obtain ⟨S6, h6⟩ := text k c3.1.1
      exact ⟨_, _, _, _, _, _, _, rfl, by assumption, hM, c1, c2, h6, d1, Or.inr ⟨hk, spec _ _ c3.1.2, thr _ c3.2⟩⟩
    · cases c3
theorem xhand_inv {P : XP} {mi : Nat} {M : XM} {ls : XL} {pc x : Nat} {k : Int32} (h : xhand P mi M ls pc x = some k) :
    ∃ q as bs S2 S3 S4 z, M.hh = as ++ q :: bs ∧ (∀ a ∈ as, ¬ ((decide (a.1 ≤ pc) && decide (pc < a.2.1)) && (match P.site mi (a.2.2.2 + 300000) with
      | some (11, x2, _, _, _) => x2 == x
      | _ => true)) = true) ∧ (decide (q.1 ≤ pc) && decide (pc < q.2.1)) = true ∧ P.site mi (q.2.2.2 + 300000) = some (11, x, S2, S3, S4) ∧ k = Int32.ofInt z ∧
      ((∃ j : Fin 4, (j : Nat) < ls.length ∧ P.code mi q.2.2.1 = some (.astore_n j) ∧ P.code mi (q.2.2.1 + 1) = some (.iconst z) ∧ P.code mi (q.2.2.1 + 2) = some .ireturn) ∨ (∃ j : Nat, j < ls.length ∧ P.code mi q.2.2.1 = some (.astore j) ∧ P.code mi (q.2.2.1 + 2) = some (.iconst z) ∧ P.code mi (q.2.2.1 + 3) = some .ireturn)) := by
  unfold xhand at h
  split at h
  · next q hq =>
    obtain ⟨hp, as, bs, hl, hn⟩ := List.find?_eq_some_iff_append.mp hq
    simp only [Bool.and_eq_true] at hp
    split at h
    · next x2 a1 a2 a3 j k2 h1 h2 h3 h4 =>
      split at h
      · next hc =>
        cases h
        obtain ⟨rfl, hj⟩ := hc
        refine ⟨q, as, bs, _, _, _, k2, hl, fun a ha => (by have z := hn a ha; rw [Bool.not_eq_true'] at z; exact fun y => (by have w := y.symm.trans z; cases w)), by simp only [Bool.and_eq_true]; exact hp.1, h1, rfl, Or.inl ⟨j, hj, h2, h3, h4⟩⟩
      · cases h
    · next x2 a1 a2 a3 j k2 h1 h2 h3 h4 =>
      split at h
      · next hc =>
        cases h
        obtain ⟨rfl, hj⟩ := hc
        refine ⟨q, as, bs, _, _, _, k2, hl, fun a ha => (by have z := hn a ha; rw [Bool.not_eq_true'] at z; exact fun y => (by have w := y.symm.trans z; cases w)), by simp only [Bool.and_eq_true]; exact hp.1, h1, rfl, Or.inr ⟨j, hj, h2, h3, h4⟩⟩
      · cases h
    · cases h
  · cases h
