/-! A TEXT IS READ, the reference -/
theorem rM_s (T : Nat → Tok) (k : Nat) : rM T (k + 1) = match rM T k with
    | .inl e => .inl e
    | .inr (l, j) => if (T j).1 = 124 then (match rA T (j + 1) with | .inl e => .inl e | .inr (a, m) => .inr (l ++ [a], m)) else .inr (l, j) := rfl
theorem rM_0 (T : Nat → Tok) : rM T 0 = match rA T 0 with | .inl e => .inl e | .inr (a, j) => .inr ([a], j) := rfl
theorem rM_st {T : Nat → Tok} {k : Nat} (h : (∃ e, rM T k = .inl e) ∨ ∃ l j, rM T k = .inr (l, j) ∧ ¬ (T j).1 = 124) : ∀ d, rM T (k + d) = rM T k := by
  intro d
  induction d with
  | zero => rfl
  | succ d ih =>
    rw [← Nat.add_assoc, rM_s, ih]
    rcases h with ⟨e, h⟩ | ⟨l, j, h, n⟩
    · rw [h]
    · rw [h]; dsimp only; rw [if_neg n]
theorem rM_200 {T : Nat → Tok} {k : Nat} (hk : k ≤ 200) (h : (∃ e, rM T k = .inl e) ∨ ∃ l j, rM T k = .inr (l, j) ∧ ¬ (T j).1 = 124) : rM T 200 = rM T k := by
  have := rM_st h (200 - k)
  rw [show k + (200 - k) = 200 by omega] at this
  exact this
theorem rM_c {L : List Int} {np : Int} (ok : LOK L) : ∀ k M j, rM (tT L np) k = .inr (M, j) → (∀ a ∈ M, 0 ≤ a.1 ∧ a.1 < np ∧ a.1 < 12 ∧ ∀ q ∈ a.2, sOK q) ∧ j ≤ 200 ∧ (fsL M).length + M.length ≤ j ∧ ¬ M = [] := by
  intro k
  induction k with
  | zero =>
    intro M j e
    rw [rM_0] at e
    cases v : rA (tT L np) 0 with
    | inl w => rw [v] at e; cases e
    | inr w =>
      obtain ⟨a, m⟩ := w
      obtain ⟨a1, a2, a3, a4, a5, a6, a7⟩ := rA_c ok v
      rw [v] at e
      have e2 := Prod.mk.inj (Sum.inr.inj e)
      rw [← e2.1, ← e2.2]
      refine ⟨fun x hx => by rw [List.mem_singleton.mp hx]; exact ⟨a1, a2, a3, a4⟩, a6, ?_, by simp⟩
      have : fsL [a] = a.2 := by
        have := fsL_s [] a
        exact this
      rw [this, List.length_singleton]; omega
  | succ k ih =>
    intro M j e
    rw [rM_s] at e
    cases v : rM (tT L np) k with
    | inl w => rw [v] at e; cases e
    | inr w =>
      obtain ⟨M0, j0⟩ := w
      obtain ⟨i1, i2, i3, i4⟩ := ih M0 j0 v
      rw [v] at e
      dsimp only at e
      by_cases c : (tT L np j0).1 = 124
      · rw [if_pos c] at e
        cases v2 : rA (tT L np) (j0 + 1) with
        | inl w => rw [v2] at e; cases e
        | inr w =>
          obtain ⟨a, m⟩ := w
          obtain ⟨a1, a2, a3, a4, a5, a6, a7⟩ := rA_c ok v2
          rw [v2] at e
          have e2 := Prod.mk.inj (Sum.inr.inj e)
          rw [← e2.1, ← e2.2]
          refine ⟨fun x hx => ?_, a6, by rw [fsL_s, List.length_append, List.length_append, List.length_singleton]; omega, by simp⟩
          rcases List.mem_append.mp hx with y | y
          · exact i1 x y
          · rw [List.mem_singleton.mp y]; exact ⟨a1, a2, a3, a4⟩
      · rw [if_neg c] at e
        have e2 := Prod.mk.inj (Sum.inr.inj e)
        rw [← e2.1, ← e2.2]
        exact ⟨i1, i2, i3, i4⟩
/-- what the reference has read is made a need, or is none -/
def TkP (g : XH) (x w : Int) (r : Int ⊕ ND) : Prop := (x = 0 ∧ ∃ e, r = .inl e ∧ hI g 437 17 = e) ∨ (x = 1 ∧ ∃ M, r = .inr (w, M) ∧ AcR g M ∧ M.length ≤ 200 ∧ (fsL M).length ≤ 200 ∧ ndOK (w, M))
theorem c_tk {h g : XH} {x w : Int} {r : Int ⊕ ND} (T : HT g) (F : AFr h g) (q : TkP g x w r) {K : Nat → XH → Prop} (k : ∀ a g2, RdF h g2 → RdP h g2 a r → K a g2) : w_X14_taken x w K g := by
  rcases q with ⟨ex, e, er, e17⟩ | ⟨ex, M, er, A, l1, l2, nk⟩
  · refine c_X14_taken (M := []) T (.inl ex) (fun a g2 R q => k a g2 (RdF_a F R) (RdP_a F.2.1 ?_))
    rcases q with ⟨-, ea, e10⟩ | ⟨y, -⟩
    · exact .inl ⟨e, er, ea, e10.trans e17⟩
    · omega
  · refine c_X14_taken (M := M) T (.inr ⟨ex, A, l1, l2, nk⟩) (fun a g2 R q => k a g2 (RdF_a F R) (RdP_a F.2.1 ?_))
    rcases q with ⟨y, -⟩ | ⟨-, n, e10, y1, y2, y3, y4⟩
    · omega
    · exact .inr ⟨(w, M), er, n, e10, y1, y2, y3, y4⟩
theorem TkP_e {L : List Int} {np : Int} (ok : LOK L) {g g2 : XH} {w : Int} {M : List At1} {j : Nat} {x : Int} (hw : w = 0 ∨ w = 1) (h1 : w = 1 → M.length = 1) (A : AcR g M) (lm : (fsL M).length + M.length ≤ 201) (ls : (fsL M).length ≤ 200) (l2 : M.length ≤ 200) (ne : ¬ M = []) (oka : ∀ a ∈ M, 0 ≤ a.1 ∧ a.1 < 12 ∧ ∀ q ∈ a.2, sOK q) (q : (x = 0 ∧ ¬ (tT L np j).1 = 0 ∧ hI g2 437 17 = (tT L np j).2.1) ∨ (x = 1 ∧ (tT L np j).1 = 0 ∧ g2 = g)) : TkP g2 x w (rE (tT L np) w (.inr (M, j))) := by
  rcases q with ⟨ex, n, e17⟩ | ⟨ex, z, eg⟩
  · refine .inl ⟨ex, _, ?_, e17⟩
    show (if (tT L np j).1 = 0 then _ else _) = _
    rw [if_neg n]
  · refine .inr ⟨ex, M, ?_, by rw [eg]; exact A, l2, ls, hw, ne, h1, oka, l2⟩
    show (if (tT L np j).1 = 0 then _ else _) = _
    rw [if_pos z]
theorem AcR_1 {g : XH} {p : Int} {l : List (Int × Int × Int)} (Z : SPr g ([] ++ l)) (Y : LTr g ([] ++ [(p, ([] : List (Int × Int × Int)).length)])) : AcR g [(p, l)] := by
  have e1 : fsL [(p, l)] = [] ++ l := fsL_s [] (p, l)
  have e2 : ltL [(p, l)] = [] ++ [(p, ([] : List (Int × Int × Int)).length)] := ltL_s [] (p, l)
  exact ⟨by rw [e1]; exact Z, by rw [e2]; exact Y⟩
theorem fsL_1 (p : Int) (l : List (Int × Int × Int)) : fsL [(p, l)] = l := fsL_s [] (p, l)
set_option maxHeartbeats 4000000 in
theorem c_X14_readNeed {L : List Int} {h : XH} {np : Int} (T : HT h) (ok : LOK L) (Z : Tape h 437 9 441 L) (n0 : hI h 438 0 = np ∧ 0 ≤ np ∧ np ≤ 12) {K : Nat → XH → Prop} (k : ∀ a g, RdF h g → RdP h g a (rN (tT L np)) → K a g) : w_X14_readNeed K h := by
  unfold w_X14_readNeed
  refine c_X14_startText T ok Z n0 ?_
  intro h1 F1 Y1 B1
  intro t1 u1
  refine c_X14_readLetter (S := []) (A := []) t1 ok B1 Y1.1 Y1.2 (by simp) (by simp) ?_
  intro x2 h3 F3 q3
  intro t3 u3
  intro rx2 vx2
  have F03 := AFr_tr F1 F3
  refine ⟨fun c56 => ?_, fun c56 => ?_⟩
  · obtain ⟨-, k2, Z3, Y3, B3_⟩ := q3.resolve_left (fun y => c56 y.1)
    have B3 : RB h3 L np 1 := B3_
    have vv := (tT_k (np := np) ok 0).2.2.1 k2
    refine c_X14_isSign B3 (by decide) ?_
    intro x4 qx4
    intro rx4 vx4
    refine ⟨fun c53 => ?_, fun c53 => ?_⟩
    · have n35 := (bq1 qx4).2.1.mp c53
      have rn : rN (tT L np) = rE (tT L np) 0 (rM (tT L np) 200) := by unfold rN; rw [if_neg (fun y => n35 y.2)]
      refine c_X14_isSpanHere B3 ?_
      intro x5 qx5
      intro rx5 vx5
      refine ⟨fun x g => AFr h g ∧ ((x = 0 ∧ ∃ e, rA (tT L np) 0 = .inl e ∧ hI g 437 17 = e) ∨ (x = 1 ∧ ∃ a j, rA (tT L np) 0 = .inr (a, j) ∧ AcR g [a] ∧ RB g L np j)), ?_, ?_⟩
      · intro x6 h7 t7 s7 rx6 z8
        refine ⟨fun x g => AFr h g ∧ ∃ k : Nat, k ≤ 200 ∧ ((x = 0 ∧ ∃ e, rM (tT L np) k = .inl e ∧ hI g 437 17 = e) ∨ (x = 1 ∧ ∃ M j, rM (tT L np) k = .inr (M, j) ∧ k ≤ j ∧ AcR g M ∧ RB g L np j)), fun x g => if x = 0 then 0 else (202 - hI g 437 21).toNat, ?_, ?_⟩
        · refine ⟨z8.1, 0, by omega, ?_⟩
          rcases z8.2 with ⟨ex, e, er, e17⟩ | ⟨ex, a, j, er, A, Bs⟩
          · exact .inl ⟨ex, e, by rw [rM_0, er], e17⟩
          · exact .inr ⟨ex, [a], j, by rw [rM_0, er], by omega, A, Bs⟩
        · intro x9 h10 t10 s10 rx9 z11
          obtain ⟨F10, k0, k2_, q10⟩ := z11
          refine ⟨(x9 = 0 ∧ ∃ e, rM (tT L np) 200 = .inl e ∧ hI h10 437 17 = e) ∨ (x9 = 1 ∧ ∃ M j, rM (tT L np) 200 = .inr (M, j) ∧ AcR h10 M ∧ RB h10 L np j), ?_, ?_⟩
          · intro z12
            refine ⟨fun x g => AFr h g ∧ TkP g x 0 (rN (tT L np)), ?_, ?_⟩
            · intro x13 h14 t14 s14 rx13 z15
              refine c_tk t14 z15.1 z15.2 ?_
              intro a16 h17 F17 q17
              intro t17 u17
              exact k _ _ F17 q17
            · refine ⟨fun g => AFr h g ∧ ∃ e, rN (tT L np) = .inl e ∧ hI g 437 17 = e, ?_, ?_⟩
              · intro h18 t18 s18 z19
                exact ⟨z19.1, .inl ⟨rfl, z19.2⟩⟩
              · refine ⟨fun c23 => ?_, fun c23 => ?_⟩
                · obtain ⟨-, e, er, e17⟩ := z12.resolve_right (fun y => by omega)
                  exact ⟨F10, e, by rw [rn, er]; rfl, e17⟩
                · obtain ⟨-, M1, j1, er1, A1_, B1_⟩ := z12.resolve_left (fun y => c23 y.1)
                  obtain ⟨m1, m2, m3, m4⟩ := rM_c ok 200 M1 j1 er1
                  refine c_X14_isEnd t10 B1_ ?_
                  intro x20 h21 F21 q21
                  have tq := TkP_e ok (w := 0) (.inl rfl) (fun y => by omega) A1_ (by omega) (by omega) (by omega) m4 (fun a ha => by have := m1 a ha; exact ⟨this.1, this.2.2.1, this.2.2.2⟩) q21
                  rw [← er1, ← rn] at tq
                  have F021 := AFr_tr F10 (AFr_s (SFr_v F21))
                  intro t21 u21
                  intro rx20 vx20
                  refine ⟨fun c22 => ?_, fun c22 => ?_⟩
                  · refine ⟨F021, ?_⟩
                    rcases tq with y | y
                    · exact y.2
                    · omega
                  · refine ⟨F021, ?_⟩
                    rcases tq with y | y
                    · omega
                    · exact .inr ⟨rfl, y.2⟩
          · refine ⟨fun c29 => ?_, fun c29 => ?_⟩
            · obtain ⟨-, e, er, e17⟩ := q10.resolve_right (fun y => by omega)
              exact .inl ⟨c29, e, by rw [rM_200 k2_ (.inl ⟨e, er⟩)]; exact er, e17⟩
            · obtain ⟨ex9, M0, j0, er, kj, A10, B10⟩ := q10.resolve_left (fun y => c29 y.1)
              obtain ⟨g1, g2, g3, g4⟩ := rM_c ok k0 M0 j0 er
              refine c_X14_isSign B10 (by decide) ?_
              intro x24 qx24
              intro rx24 vx24
              refine ⟨fun c28 => ?_, fun c28 => ?_⟩
              · have n124 := (bq1 qx24).2.1.mp c28
                exact .inr ⟨ex9, M0, j0, by rw [rM_200 k2_ (.inr ⟨M0, j0, er, n124⟩)]; exact er, A10, B10⟩
              · have k124 := (bq1 qx24).2.2.1.mp c28
                have lj := (tT_k (np := np) ok j0).2.1 (by omega)
                refine c_nx t10 ok B10 ?_
                intro h25 F25 B25
                intro t25 u25
                refine c_X14_readAtom t25 ok B25 ⟨SPr_n t10 F25 A10.1, LTr_s t10 (SFr_v (VFr_n F25)) A10.2⟩ (by omega) (by omega) ?_
                intro x26 h27 F27 q27
                intro t27 u27
                intro rx26 vx26
                have rs := rM_s (tT L np) k0
                rw [er] at rs
                dsimp only at rs
                rw [if_pos k124] at rs
                have y21 := A10.2.1
                rw [ltL_len] at y21
                have F := AFr_tr (AFr_tr F10 (AFr_n F25)) F27
                rcases q27 with ⟨ex, e, es, e17⟩ | ⟨ex, a, j, es, As, Bs⟩
                · rw [es] at rs
                  refine ⟨⟨F, k0 + 1, by omega, .inl ⟨ex, e, rs, e17⟩⟩, ?_⟩
                  dsimp only
                  rw [if_pos ex, if_neg c29, y21]; omega
                · rw [es] at rs
                  have jc := rA_c ok es
                  refine ⟨⟨F, k0 + 1, by omega, .inr ⟨ex, M0 ++ [a], j, rs, by omega, As, Bs⟩⟩, ?_⟩
                  have y2 := As.2.1
                  rw [ltL_len, List.length_append, List.length_singleton] at y2
                  dsimp only
                  rw [if_neg (by omega), if_neg c29, y21, y2]; omega
      · refine ⟨fun g => AFr h g ∧ ∃ a j, rA (tT L np) 0 = .inr (a, j) ∧ AcR g [a] ∧ RB g L np j, ?_, ?_⟩
        · intro h30 t30 s30 z31
          exact ⟨z31.1, .inr ⟨rfl, z31.2⟩⟩
        · refine ⟨fun c35 => ?_, fun c35 => ?_⟩
          · have nr := (bq1 qx5).2.1.mp c35
            refine ⟨F03, ((tT L np 0).2.2, []), 1, ?_, AcR_1 Z3 Y3, B3⟩
            unfold rA
            rw [if_neg (fun y => y k2), if_neg nr]
          · have yr := (bq1 qx5).2.2.1.mp c35
            refine c_X14_readRange t3 ok B3 Z3 (by simp) ?_
            intro x32 h33 F33 q33
            intro t33 u33
            intro rx32 vx32
            refine ⟨fun c34 => ?_, fun c34 => ?_⟩
            · obtain ⟨-, e, er, e17⟩ := q33.resolve_right (fun y => by omega)
              refine ⟨AFr_tr F03 (AFr_s F33), .inl ⟨rfl, e, ?_, e17⟩⟩
              unfold rA
              rw [if_neg (fun y => y k2), if_pos yr, er]
            · obtain ⟨-, l0, j, er, Zs, Bs⟩ := q33.resolve_left (fun y => c34 y.1)
              refine ⟨AFr_tr F03 (AFr_s F33), ((tT L np 0).2.2, l0), j, ?_, AcR_1 Zs (LTr_s t3 F33 Y3), Bs⟩
              unfold rA
              rw [if_neg (fun y => y k2), if_pos yr, er]
    · have k35 := (bq1 qx4).2.2.1.mp c53
      have rn : rN (tT L np) = rE (tT L np) 1 (rN1 (tT L np)) := by unfold rN; rw [if_pos ⟨k2, k35⟩]
      refine c_nx t3 ok B3 ?_
      intro h36 F36 B36_
      have B36 : RB h36 L np 2 := B36_
      intro t36 u36
      have kd36 := RB_kd B36
      have F036 := AFr_tr F03 (AFr_n F36)
      refine ⟨fun x g => AFr h g ∧ TkP g x 1 (rN (tT L np)), ?_, ?_⟩
      · intro x37 h38 t38 s38 rx37 z39
        refine c_tk t38 z39.1 z39.2 ?_
        intro a40 h41 F41 q41
        intro t41 u41
        exact k _ _ F41 q41
      · refine ⟨fun g => AFr h g ∧ ∃ e, rN (tT L np) = .inl e ∧ hI g 437 17 = e, ?_, ?_⟩
        · intro h42 t42 s42 z43
          exact ⟨z43.1, .inl ⟨rfl, z43.2⟩⟩
        · refine ⟨fun g => AFr h g ∧ ∃ l j, rN (tT L np) = rE (tT L np) 1 (.inr ([((tT L np 0).2.2, l)], j)) ∧ AcR g [((tT L np 0).2.2, l)] ∧ RB g L np j ∧ l.length ≤ 200 ∧ ∀ q ∈ l, sOK q, ?_, ?_⟩
          · intro h44 t44 s44 z45
            obtain ⟨F44, l0, j0, er, A44, B44, ll, oks⟩ := z45
            refine c_X14_isEnd t44 B44 ?_
            intro x46 h47 F47 q47
            have tq := TkP_e ok (w := 1) (.inr rfl) (fun _ => rfl) A44 (by rw [fsL_1, List.length_singleton]; omega) (by rw [fsL_1]; exact ll) (by simp) (by simp) (fun a ha => by rw [List.mem_singleton.mp ha]; exact ⟨vv.1, vv.2.2, oks⟩) q47
            rw [← er] at tq
            have F047 := AFr_tr F44 (AFr_s (SFr_v F47))
            intro t47 u47
            intro rx46 vx46
            refine ⟨fun c48 => ?_, fun c48 => ?_⟩
            · refine ⟨F047, ?_⟩
              rcases tq with y | y
              · exact y.2
              · omega
            · refine ⟨F047, ?_⟩
              rcases tq with y | y
              · omega
              · exact .inr ⟨rfl, y.2⟩
          · refine ⟨fun c52 => ?_, fun c52 => ?_⟩
            · have z0 := kd36.1.mp c52
              exact ⟨F036, [], 2, by rw [rn]; unfold rN1; rw [if_pos z0], AcR_1 (SPr_n t3 F36 Z3) (LTr_s t3 (SFr_v (VFr_n F36)) Y3), B36, by simp, (fun q hq => by cases hq)⟩
            · have z0 : ¬ (tT L np 2).1 = 0 := fun y => c52 (kd36.1.mpr y)
              refine c_X14_readRange t36 ok B36 (SPr_n t3 F36 Z3) (by simp) ?_
              intro x49 h50 F50 q50
              intro t50 u50
              intro rx49 vx49
              refine ⟨fun c51 => ?_, fun c51 => ?_⟩
              · obtain ⟨-, e, er, e17⟩ := q50.resolve_right (fun y => by omega)
                have r1 : rN1 (tT L np) = .inl e := by unfold rN1; rw [if_neg z0, er]
                exact ⟨AFr_tr F036 (AFr_s F50), e, by rw [rn, r1]; rfl, e17⟩
              · obtain ⟨-, l0, j, er, Zs, Bs⟩ := q50.resolve_left (fun y => c51 y.1)
                obtain ⟨g1, g2, g3, g4, g5⟩ := rG_c ok 200 l0 j er
                have r1 : rN1 (tT L np) = .inr ([((tT L np 0).2.2, l0)], j) := by unfold rN1; rw [if_neg z0, er]
                exact ⟨AFr_tr F036 (AFr_s F50), l0, j, by rw [rn, r1], AcR_1 Zs (LTr_s t36 F50 (LTr_s t3 (SFr_v (VFr_n F36)) Y3)), Bs, by omega, g1⟩
  · obtain ⟨-, n2, e17⟩ := q3.resolve_right (fun y => by omega)
    have rn : rN (tT L np) = .inl (tT L np 0).2.1 := by
      have ra : rA (tT L np) 0 = .inl (tT L np 0).2.1 := by unfold rA; rw [if_pos n2]
      have r0 : rM (tT L np) 0 = .inl (tT L np 0).2.1 := by rw [rM_0, ra]
      unfold rN
      rw [if_neg (fun y => n2 y.1), rM_200 (k := 0) (by omega) (.inl ⟨_, r0⟩), r0]; rfl
    refine c_tk t3 F03 (x := 0) (w := 0) (r := rN (tT L np)) (.inl ⟨rfl, _, rn, e17⟩) ?_
    intro a54 h55 F55 q55
    intro t55 u55
    exact k _ _ F55 q55
set_option maxHeartbeats 2000000 in
theorem c_X14_readBan {L : List Int} {h : XH} {np : Int} (T : HT h) (ok : LOK L) (Z : Tape h 437 9 441 L) (n0 : hI h 438 0 = np ∧ 0 ≤ np ∧ np ≤ 12) {K : Nat → XH → Prop} (k : ∀ a g, RdF h g → RdP h g a (rB (tT L np)) → K a g) : w_X14_readBan K h := by
  unfold w_X14_readBan
  refine c_X14_startText T ok Z n0 ?_
  intro h1 F1 Y1 B1
  intro t1 u1
  refine c_X14_readAtom t1 ok B1 Y1 (Nat.zero_le _) (Nat.zero_le _) ?_
  intro x2 h3 F3 q3
  intro t3 u3
  intro rx2 vx2
  have F03 := AFr_tr F1 F3
  have rb : rB (tT L np) = rE (tT L np) 0 (rM (tT L np) 0) := rfl
  refine ⟨fun x g => AFr h g ∧ TkP g x 0 (rB (tT L np)), ?_, ?_⟩
  · intro x4 h5 t5 s5 rx4 z6
    refine c_tk t5 z6.1 z6.2 ?_
    intro a7 h8 F8 q8
    intro t8 u8
    exact k _ _ F8 q8
  · refine ⟨fun g => AFr h g ∧ ∃ e, rB (tT L np) = .inl e ∧ hI g 437 17 = e, ?_, ?_⟩
    · intro h9 t9 s9 z10
      exact ⟨z10.1, .inl ⟨rfl, z10.2⟩⟩
    · refine ⟨fun c14 => ?_, fun c14 => ?_⟩
      · obtain ⟨-, e, er, e17⟩ := q3.resolve_right (fun y => by omega)
        exact ⟨F03, e, by rw [rb, rM_0, er]; rfl, e17⟩
      · obtain ⟨-, a, j, er, A3_, B3⟩ := q3.resolve_left (fun y => c14 y.1)
        have A3 : AcR h3 [a] := A3_
        have r0 : rM (tT L np) 0 = .inr ([a], j) := by rw [rM_0, er]
        obtain ⟨m1, m2, m3, m4⟩ := rM_c ok 0 [a] j r0
        refine c_X14_isEnd t3 B3 ?_
        intro x11 h12 F12 q12
        have tq := TkP_e ok (w := 0) (.inl rfl) (fun y => by omega) A3 (by omega) (by omega) (by omega) m4 (fun a ha => by have := m1 a ha; exact ⟨this.1, this.2.2.1, this.2.2.2⟩) q12
        rw [← r0, ← rb] at tq
        have F012 := AFr_tr F03 (AFr_s (SFr_v F12))
        intro t12 u12
        intro rx11 vx11
        refine ⟨fun c13 => ?_, fun c13 => ?_⟩
        · refine ⟨F012, ?_⟩
          rcases tq with y | y
          · exact y.2
          · omega
        · refine ⟨F012, ?_⟩
          rcases tq with y | y
          · omega
          · exact .inr ⟨rfl, y.2⟩
set_option maxHeartbeats 2000000 in
theorem c_X14_readRangeOf {p : Int} (hp : 0 ≤ p ∧ p < 12) {L : List Int} {h : XH} {np : Int} (T : HT h) (ok : LOK L) (Z : Tape h 437 9 441 L) (n0 : hI h 438 0 = np ∧ 0 ≤ np ∧ np ≤ 12) {K : Nat → XH → Prop} (k : ∀ a g, RdF h g → RdP h g a (rW (tT L np) p) → K a g) : w_X14_readRangeOf p K h := by
  unfold w_X14_readRangeOf
  refine c_X14_startText T ok Z n0 ?_
  intro h1 F1 Y1 B1
  intro t1 u1
  intro h2 eh2 t2 u2
  intro h3 eh3 t3 u3
  intro h4 eh4 t4 u4
  obtain ⟨a1, a2⟩ := at37 t3 (by decide) (rgk rfl) eh4
  have s : ∀ b, ¬ b = 443 → ¬ b = 444 → ¬ b = 437 → sameC h1 h4 b := fun b n1 n2 n3 => by
    rw [eh4, eh3, eh2]
    exact sameC_tr (sameC_tr (sameC_sV (fun z => n1 z.symm)) (sameC_sV (fun z => n2 z.symm))) (sameC_sV (fun z => n3 z.symm))
  have s3 : sameC h1 h3 437 := by rw [eh3, eh2]; exact sameC_tr (sameC_sV (by decide)) (sameC_sV (by decide))
  have g37 : ∀ j, ¬ j = 21 → el h4 437 j = el h1 437 j := fun j n => by rw [eh4, el_ni (fun z => n z.symm)]; exact sameC_el s3 j
  have F4 : AFr h1 h4 := ⟨fun b _ n => s b (by omega) (by omega) (by omega), by rw [eh4, eh3, eh2, len_sV, len_sV, len_sV], by rw [eh4, eh3, eh2, xhs_sV, xhs_sV, xhs_sV], fun j _ n => g37 j (by omega)⟩
  have B4 : RB h4 L np 0 := RB_fr B1 (s 441 (by decide) (by decide) (by decide)) (s 438 (by decide) (by decide) (by decide)) (fun j hj => g37 j (by omega))
  have Z4 : SPr h4 [] := ⟨(congrArg gvI (g37 22 (by decide))).trans Y1.1.1, fun m hm => by cases hm⟩
  have Y4 : LTr h4 ([] ++ [(p, ([] : List (Int × Int × Int)).length)]) := by
    refine ⟨a1, fun m hm => ?_⟩
    have m0 : m = 0 := by
      have : m < 1 := hm
      omega
    subst m0
    refine ⟨?_, ?_⟩
    · rw [eh4, hI_ne (by decide), eh3, hI_ne (by decide), eh2]
      exact hI_eq (by rw [lyn (c := 100) (n := 200) t1 rfl]; decide) (by unfold rg; omega)
    · rw [eh4, hI_ne (by decide), eh3]
      exact hI_eq (by rw [lyn (c := 100) (n := 201) t2 rfl]; decide) (rgk rfl)
  refine c_X14_readRange t4 ok B4 Z4 (Nat.zero_le _) ?_
  intro x5 h6 F6 q6
  have F06 := AFr_tr (AFr_tr F1 F4) (AFr_s F6)
  intro t6 u6
  intro rx5 vx5
  refine ⟨fun x g => AFr h g ∧ TkP g x 0 (rW (tT L np) p), ?_, ?_⟩
  · intro x7 h8 t8 s8 rx7 z9
    refine c_tk t8 z9.1 z9.2 ?_
    intro a10 h11 F11 q11
    intro t11 u11
    exact k _ _ F11 q11
  · refine ⟨fun g => AFr h g ∧ ∃ e, rW (tT L np) p = .inl e ∧ hI g 437 17 = e, ?_, ?_⟩
    · intro h12 t12 s12 z13
      exact ⟨z13.1, .inl ⟨rfl, z13.2⟩⟩
    · refine ⟨fun c17 => ?_, fun c17 => ?_⟩
      · obtain ⟨-, e, er, e17⟩ := q6.resolve_right (fun y => by omega)
        refine ⟨F06, e, ?_, e17⟩
        unfold rW
        rw [er]; rfl
      · obtain ⟨-, l0, j, er, Z6, B6⟩ := q6.resolve_left (fun y => c17 y.1)
        obtain ⟨g1, g2, g3, g4, g5⟩ := rG_c ok 200 l0 j er
        have rw_ : rW (tT L np) p = rE (tT L np) 0 (.inr ([(p, l0)], j)) := by unfold rW; rw [er]
        refine c_X14_isEnd t6 B6 ?_
        intro x14 h15 F15 q15
        have tq := TkP_e ok (w := 0) (.inl rfl) (fun y => by omega) (AcR_1 Z6 (LTr_s t4 F6 Y4)) (by rw [fsL_1, List.length_singleton]; omega) (by rw [fsL_1]; omega) (by simp) (by simp) (fun a ha => by rw [List.mem_singleton.mp ha]; exact ⟨hp.1, hp.2, g1⟩) q15
        rw [← rw_] at tq
        have F015 := AFr_tr F06 (AFr_s (SFr_v F15))
        intro t15 u15
        intro rx14 vx14
        refine ⟨fun c16 => ?_, fun c16 => ?_⟩
        · refine ⟨F015, ?_⟩
          rcases tq with y | y
          · exact y.2
          · omega
        · refine ⟨F015, ?_⟩
          rcases tq with y | y
          · omega
          · exact .inr ⟨rfl, y.2⟩
