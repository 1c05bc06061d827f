/-! WHAT WAS READ, the reference -/
def fsL (M : List At1) : List (Int × Int × Int) := M.flatMap (fun a => a.2)
def ltL (M : List At1) : List (Int × Nat) := (List.range M.length).map (fun k => ((M.getD k (0, [])).1, (fsL (M.take k)).length))
theorem fsL_s (M : List At1) (a : At1) : fsL (M ++ [a]) = fsL M ++ a.2 := by
  unfold fsL
  rw [List.flatMap_append]
  simp
theorem ltL_s (M : List At1) (a : At1) : ltL (M ++ [a]) = ltL M ++ [(a.1, (fsL M).length)] := by
  unfold ltL
  rw [List.length_append, List.length_singleton, List.range_succ, List.map_append]
  refine congr (congrArg _ (List.map_congr_left fun k hk => ?_)) ?_
  · have := List.mem_range.mp hk
    rw [getD_L this, List.take_append_of_le_length (by omega)]
  · show [(((M ++ [a]).getD M.length (0, [])).1, (fsL ((M ++ [a]).take M.length)).length)] = _
    rw [getD_R, List.take_append_of_le_length (Nat.le_refl _), List.take_length]
theorem ltL_len (M : List At1) : (ltL M).length = M.length := by unfold ltL; rw [List.length_map, List.length_range]
theorem ltL_at {M : List At1} {k : Nat} (h : k < M.length) : (ltL M).getD k (0, 0) = ((M.getD k (0, [])).1, (fsL (M.take k)).length) := by
  unfold ltL
  rw [List.getD_eq_getElem?_getD, List.getElem?_map, List.getElem?_range h]; rfl
/-- the atoms read so far -/
def AcR (g : XH) (M : List At1) : Prop := SPr g (fsL M) ∧ LTr g (ltL M)
theorem rA_c {L : List Int} {np : Int} (ok : LOK L) {i j : Nat} {a : At1} (e : rA (tT L np) i = .inr (a, j)) : 0 ≤ a.1 ∧ a.1 < np ∧ a.1 < 12 ∧ (∀ q ∈ a.2, sOK q) ∧ i < j ∧ j ≤ 200 ∧ a.2.length + 1 ≤ j - i := by
  unfold rA at e
  have w := tT_k (np := np) ok i
  by_cases c0 : (tT L np i).1 = 2
  · rw [if_neg (fun y => y c0)] at e
    have w2 := w.2.2.1 c0
    have n0 := w.2.1 (by omega)
    by_cases c1 : isR (tT L np (i + 1)).1 = true
    · rw [if_pos c1] at e
      cases v : rG (tT L np) (i + 1) 200 with
      | inl z => rw [v] at e; cases e
      | inr z =>
        obtain ⟨l, m⟩ := z
        obtain ⟨g1, g2, g3, g4, g5⟩ := rG_c ok _ _ _ v
        rw [v] at e
        have e2 := Prod.mk.inj (Sum.inr.inj e)
        rw [← e2.1, ← e2.2]
        exact ⟨w2.1, w2.2.1, w2.2.2, g1, by omega, g3, by dsimp only; omega⟩
    · rw [if_neg c1] at e
      have e2 := Prod.mk.inj (Sum.inr.inj e)
      rw [← e2.1, ← e2.2]
      exact ⟨w2.1, w2.2.1, w2.2.2, (fun q hq => by cases hq), by omega, by omega, by simp⟩
  · rw [if_pos c0] at e; cases e
set_option maxHeartbeats 2000000 in
theorem c_X14_readAtom {M : List At1} {L : List Int} {h : XH} {np : Int} {i : Nat} (T : HT h) (ok : LOK L) (B : RB h L np i) (Z : AcR h M) (l : (fsL M).length ≤ i) (la : M.length ≤ i) {K : Int → XH → Prop} (k : ∀ x g, AFr h g → ((x = 0 ∧ ∃ e, rA (tT L np) i = .inl e ∧ hI g 437 17 = e) ∨ (x = 1 ∧ ∃ a j, rA (tT L np) i = .inr (a, j) ∧ AcR g (M ++ [a]) ∧ RB g L np j)) → K x g) : w_X14_readAtom K h := by
  unfold w_X14_readAtom
  refine c_X14_readLetter T ok B Z.1 Z.2 l (by rw [ltL_len]; exact la) ?_
  intro x1 h2 F2 q2
  intro t2 u2
  intro rx1 vx1
  refine ⟨fun x g => AFr h g ∧ ((x = 0 ∧ ∃ e, rA (tT L np) i = .inl e ∧ hI g 437 17 = e) ∨ (x = 1 ∧ ∃ a j, rA (tT L np) i = .inr (a, j) ∧ AcR g (M ++ [a]) ∧ RB g L np j)), ?_, ?_⟩
  · intro x3 h4 t4 s4 rx3 z5
    refine ⟨(by rcases z5.2 with y | y; exact .inl y.1; exact .inr y.1), ?_⟩
    exact k _ _ z5.1 z5.2
  · refine ⟨fun g => AFr h g ∧ ∃ e, rA (tT L np) i = .inl e ∧ hI g 437 17 = e, ?_, ?_⟩
    · intro h7 t7 s7 z8
      exact ⟨z8.1, .inl ⟨rfl, z8.2⟩⟩
    · refine ⟨fun c16 => ?_, fun c16 => ?_⟩
      · obtain ⟨-, n2, e17⟩ := q2.resolve_right (fun y => by omega)
        refine ⟨F2, _, ?_, e17⟩
        unfold rA
        rw [if_pos n2]
      · obtain ⟨-, k2, Z2, Y2, B2⟩ := q2.resolve_left (fun y => c16 y.1)
        refine c_X14_isSpanHere B2 ?_
        intro x9 qx9
        intro rx9 vx9
        refine ⟨fun g => AFr h g ∧ ∃ a j, rA (tT L np) i = .inr (a, j) ∧ AcR g (M ++ [a]) ∧ RB g L np j, ?_, ?_⟩
        · intro h10 t10 s10 z11
          exact ⟨z11.1, .inr ⟨rfl, z11.2⟩⟩
        · refine ⟨fun c15 => ?_, fun c15 => ?_⟩
          · have nr := (bq1 qx9).2.1.mp c15
            refine ⟨F2, ((tT L np i).2.2, []), i + 1, ?_, ⟨?_, ?_⟩, B2⟩
            · unfold rA
              rw [if_neg (fun y => y k2), if_neg nr]
            · rw [fsL_s, List.append_nil]; exact Z2
            · rw [ltL_s]; exact Y2
          · have yr := (bq1 qx9).2.2.1.mp c15
            refine c_X14_readRange t2 ok B2 Z2 (by omega) ?_
            intro x12 h13 F13 q13
            intro t13 u13
            intro rx12 vx12
            refine ⟨fun c14 => ?_, fun c14 => ?_⟩
            · obtain ⟨-, e, er, e17⟩ := q13.resolve_right (fun y => by omega)
              refine ⟨AFr_tr F2 (AFr_s F13), e, ?_, e17⟩
              unfold rA
              rw [if_neg (fun y => y k2), if_pos yr, er]
            · obtain ⟨-, l0, j, er, Zs, Bs⟩ := q13.resolve_left (fun y => c14 y.1)
              refine ⟨AFr_tr F2 (AFr_s F13), ((tT L np i).2.2, l0), j, ?_, ⟨?_, ?_⟩, Bs⟩
              · unfold rA
                rw [if_neg (fun y => y k2), if_pos yr, er]
              · rw [fsL_s]; exact Zs
              · rw [ltL_s]; exact LTr_s t2 F13 Y2
set_option maxHeartbeats 1000000 in
theorem c_X14_startText {L : List Int} {h : XH} {np : Int} (T : HT h) (ok : LOK L) (Z : Tape h 437 9 441 L) (n0 : hI h 438 0 = np ∧ 0 ≤ np ∧ np ≤ 12) {K : XH → Prop} (k : ∀ g, AFr h g → AcR g [] → RB g L np 0 → K g) : w_X14_startText K h := by
  unfold w_X14_startText
  intro h1 eh1 t1 u1
  intro h2 eh2 t2 u2
  intro h3 eh3 t3 u3
  obtain ⟨a1, a2⟩ := at37 T (by decide) (rgk rfl) eh1
  obtain ⟨b1, b2⟩ := at37 t1 (by decide) (rgk rfl) eh2
  obtain ⟨c1, c2⟩ := at37 t2 (by decide) (rgk rfl) eh3
  have s : ∀ b, ¬ b = 437 → sameC h h3 b := fun b n => by
    rw [eh3, eh2, eh1]
    exact sameC_tr (sameC_tr (sameC_sV (fun z => n z.symm)) (sameC_sV (fun z => n z.symm))) (sameC_sV (fun z => n z.symm))
  have F3 : AFr h h3 := ⟨fun b _ n => s b (fun z => n (.inl z)), by rw [eh3, eh2, eh1, len_sV, len_sV, len_sV], by rw [eh3, eh2, eh1, xhs_sV, xhs_sV, xhs_sV], fun j h1_ h2_ => by rw [eh3, el_ni (by omega), eh2, el_ni (by omega), eh1, el_ni (by omega)]⟩
  have Z3 : Tape h3 437 9 441 L := ⟨by rw [c2 9 (by decide), b2 9 (by decide), a2 9 (by decide)]; exact Z.1, fun j hj => by rw [sameC_I (s 441 (by decide))]; exact Z.2 j hj⟩
  have n3 : hI h3 438 0 = np ∧ 0 ≤ np ∧ np ≤ 12 := by rw [sameC_I (s 438 (by decide))]; exact n0
  refine c_X14_next (N := fun _ => np) (a := 0) t3 Z3 ok.1 ok.2 n3 (by rw [c2 13 (by decide), b2 13 (by decide), a1]; rfl) (Nat.zero_le _) ?_
  intro h4 F4 e13 e14 tr
  intro t4 u4
  have g : ∀ j, ¬ (13 ≤ j ∧ j ≤ 16) → hI h4 437 j = hI h3 437 j := fun j hj => congrArg gvI (F4.2.2.2 j hj)
  refine k _ (AFr_tr F3 (AFr_n F4)) ⟨⟨?_, fun m hm => by cases hm⟩, ?_, fun m hm => by cases hm⟩ ⟨NxT_Z t3 F4 Z3, ?_, e13, e14.trans (tT_k (np := np) ok 0).1.symm, tr⟩
  · rw [g 22 (by decide), c1]; rfl
  · rw [g 21 (by decide), c2 21 (by decide), b1]; rfl
  · have L3 := HT_len t3
    rw [sameC_I (F4.1 438 (by omega) (by decide))]; exact n3
theorem fs_at {M : List At1} {k j : Nat} (hk : k < M.length) (hj : j < (M[k]).2.length) : (fsL (M.take (k + 1))).length = (fsL (M.take k)).length + (M[k]).2.length ∧ (fsL M).getD ((fsL (M.take k)).length + j) (0, 0, 0) = ((M[k]).2)[j] := by
  have t : M.take (k + 1) = M.take k ++ [M[k]] := List.take_succ_eq_append_getElem hk
  have l1 : (fsL (M.take (k + 1))).length = (fsL (M.take k)).length + (M[k]).2.length := by rw [t, fsL_s, List.length_append]
  refine ⟨l1, ?_⟩
  have sp : fsL M = fsL (M.take (k + 1)) ++ fsL (M.drop (k + 1)) := by
    unfold fsL
    rw [← List.flatMap_append, List.take_append_drop]
  rw [sp, t, fsL_s, List.append_assoc, List.getD_eq_getElem?_getD, List.getElem?_append_right (by omega), Nat.add_sub_cancel_left, List.getElem?_append_left hj, List.getElem?_eq_getElem hj]
  rfl
theorem fs_len {M : List At1} {k : Nat} (hk : k < M.length) : (fsL (M.take (k + 1))).length = (fsL (M.take k)).length + (M[k]).2.length := by
  rw [List.take_succ_eq_append_getElem hk, fsL_s, List.length_append]
/-- a text has been read: what may have changed -/
def nRd : Nat := xcs (some (.inr (0, List.replicate 200 (v0 0)))) + xcs (some (.inr (0, List.replicate 201 (v0 0)))) + xcs (some (.inr (0, List.replicate 600 (v0 0)))) + xcs (some (.inl (14, kO 14)))
def RdF (h g : XH) : Prop := Fr (fun b => b = 437 ∨ (443 ≤ b ∧ b < 446)) h g ∧ h.length ≤ g.length ∧ Gr 4 nRd h g ∧ (∀ j, ¬ (9 ≤ j ∧ j ≤ 10) → ¬ (13 ≤ j ∧ j ≤ 17) → ¬ (21 ≤ j ∧ j ≤ 23) → el g 437 j = el h 437 j) ∧ hI g 437 9 = 0
/-- what reading gives: nothing and the place of the fault, or a need -/
def RdP (h g : XH) (a : Nat) (r : Int ⊕ ND) : Prop := (∃ e, r = .inl e ∧ a = 0 ∧ hI g 437 10 = e) ∨ ∃ d, r = .inr d ∧ NeedR g a d ∧ hI g 437 10 = -1 ∧ h.length ≤ a ∧ h.length ≤ hR g a 1 ∧ h.length ≤ hR g a 2 ∧ h.length ≤ hR g a 3
theorem RdF_a {h k g : XH} (a : AFr h k) (b : RdF k g) : RdF h g := ⟨Fr_tr a.1 (by rw [a.2.1]; exact Nat.le_refl _) b.1, by have := a.2.1; have := b.2.1; omega, ⟨by have := a.2.1; have := b.2.2.1.1; omega, by have := a.2.2.1; have := b.2.2.1.2; omega⟩, fun j h1 h2 h3 => (b.2.2.2.1 j h1 h2 h3).trans (a.2.2.2 j h2 h3), b.2.2.2.2⟩
theorem RdP_a {h k g : XH} {a : Nat} {r : Int ⊕ ND} (l : k.length = h.length) (z : RdP k g a r) : RdP h g a r := by
  unfold RdP at z ⊢
  rw [l] at z
  exact z
