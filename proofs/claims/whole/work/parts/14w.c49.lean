/-! SPANS AND RANGES, the reference -/
theorem c_rV {L : List Int} {h : XH} {np : Int} {i : Nat} (T : HT h) (ok : LOK L) (B : RB h L np i) {K : Int → XH → Prop} (k : ∀ x g, VFr h g → ((x = 0 ∧ ∃ e, rV (tT L np) i = .inl e ∧ hI g 437 17 = e) ∨ (x = 1 ∧ ∃ c j, rV (tT L np) i = .inr (c, j) ∧ hI g 437 23 = c ∧ RB g L np j)) → K x g) : w_X14_readVersion K h :=
  c_X14_readVersion T ok B (fun e g er F q => k 0 g F (.inl ⟨rfl, e, er, q⟩)) (fun c j g er F q b => k 1 g F (.inr ⟨rfl, c, j, er, q, b⟩))
theorem skK_b (k : Int) : 0 ≤ skK k ∧ skK k ≤ 5 ∧ (¬ skK k = 0 → 33 ≤ k) := by
  unfold skK
  repeat' split
  all_goals omega
theorem rS_c {L : List Int} {np : Int} (ok : LOK L) {i j : Nat} {q : Int × Int × Int} (e : rS (tT L np) i = .inr (q, j)) : sOK q ∧ i < j ∧ j ≤ 200 := by
  unfold rS at e
  have kb := skK_b (tT L np i).1
  have n0 := (tT_k (np := np) ok i).2.1
  by_cases c0 : (tT L np i).1 = 42
  · rw [if_pos c0] at e
    have e2 := Prod.mk.inj (Sum.inr.inj e)
    have := n0 (by omega)
    rw [← e2.1, ← e2.2]
    exact ⟨⟨by decide, by decide, by decide, by decide, by decide, by decide⟩, by omega, by omega⟩
  · rw [if_neg c0] at e
    by_cases c1 : skK (tT L np i).1 = 0
    · rw [if_neg (fun y => y c1)] at e
      cases v : rV (tT L np) i with
      | inl w => rw [v] at e; cases e
      | inr w =>
        obtain ⟨c, l⟩ := w
        have vc_ := rV_c ok v
        rw [v] at e
        dsimp only at e
        by_cases c2 : (tT L np l).1 = 4
        · rw [if_neg (fun y => y c2)] at e
          cases v2 : rV (tT L np) (l + 1) with
          | inl w => rw [v2] at e; cases e
          | inr w =>
            obtain ⟨d, m⟩ := w
            have vd := rV_c ok v2
            rw [v2] at e
            dsimp only at e
            by_cases c3 : d < c
            · rw [if_pos c3] at e; cases e
            · rw [if_neg c3] at e
              have e2 := Prod.mk.inj (Sum.inr.inj e)
              rw [← e2.1, ← e2.2]
              exact ⟨⟨by dsimp only; omega, by dsimp only; omega, vc_.1, vc_.2.1, vd.1, vd.2.1⟩, by omega, by omega⟩
        · rw [if_pos c2] at e
          have e2 := Prod.mk.inj (Sum.inr.inj e)
          rw [← e2.1, ← e2.2]
          exact ⟨⟨by dsimp only; omega, by dsimp only; omega, vc_.1, vc_.2.1, vc_.1, vc_.2.1⟩, by omega, by omega⟩
    · rw [if_pos c1] at e
      cases v : rV (tT L np) (i + 1) with
      | inl w => rw [v] at e; cases e
      | inr w =>
        obtain ⟨c, l⟩ := w
        have vc_ := rV_c ok v
        rw [v] at e
        have e2 := Prod.mk.inj (Sum.inr.inj e)
        rw [← e2.1, ← e2.2]
        exact ⟨⟨by dsimp only; omega, by dsimp only; omega, vc_.1, vc_.2.1, vc_.1, vc_.2.1⟩, by omega, by omega⟩
theorem rG_s (T : Nat → Tok) (i k : Nat) : rG T i (k + 1) = match rG T i k with
    | .inl e => .inl e
    | .inr (l, j) => if (T j).1 = 44 then (match rS T (j + 1) with | .inl e => .inl e | .inr (q, m) => .inr (l ++ [q], m)) else .inr (l, j) := rfl
theorem rG_st {T : Nat → Tok} {i k : Nat} (h : (∃ e, rG T i k = .inl e) ∨ ∃ l j, rG T i k = .inr (l, j) ∧ ¬ (T j).1 = 44) : ∀ d, rG T i (k + d) = rG T i k := by
  intro d
  induction d with
  | zero => rfl
  | succ d ih =>
    rw [← Nat.add_assoc, rG_s, ih]
    rcases h with ⟨e, h⟩ | ⟨l, j, h, n⟩
    · rw [h]
    · rw [h]; dsimp only; rw [if_neg n]
theorem rG_200 {T : Nat → Tok} {i k : Nat} (hk : k ≤ 200) (h : (∃ e, rG T i k = .inl e) ∨ ∃ l j, rG T i k = .inr (l, j) ∧ ¬ (T j).1 = 44) : rG T i 200 = rG T i k := by
  have := rG_st h (200 - k)
  rw [show k + (200 - k) = 200 by omega] at this
  exact this
theorem rG_c {L : List Int} {np : Int} (ok : LOK L) {i : Nat} : ∀ k l j, rG (tT L np) i k = .inr (l, j) → (∀ q ∈ l, sOK q) ∧ i < j ∧ j ≤ 200 ∧ l.length ≤ j - i ∧ ¬ l = [] := by
  intro k
  induction k with
  | zero =>
    intro l j e
    have e : (match rS (tT L np) i with | .inl e => .inl e | .inr (q, j) => .inr ([q], j) : Int ⊕ (List (Int × Int × Int) × Nat)) = .inr (l, j) := e
    cases v : rS (tT L np) i with
    | inl w => rw [v] at e; cases e
    | inr w =>
      obtain ⟨q, m⟩ := w
      have c := rS_c ok v
      rw [v] at e
      have e2 := Prod.mk.inj (Sum.inr.inj e)
      rw [← e2.1, ← e2.2]
      exact ⟨fun x hx => by rw [List.mem_singleton.mp hx]; exact c.1, c.2.1, c.2.2, by rw [List.length_singleton]; omega, by simp⟩
  | succ k ih =>
    intro l j e
    rw [rG_s] at e
    cases v : rG (tT L np) i k with
    | inl w => rw [v] at e; cases e
    | inr w =>
      obtain ⟨l0, j0⟩ := w
      obtain ⟨i1, i2, i3, i4, i5⟩ := ih l0 j0 v
      rw [v] at e
      dsimp only at e
      by_cases c : (tT L np j0).1 = 44
      · rw [if_pos c] at e
        cases v2 : rS (tT L np) (j0 + 1) with
        | inl w => rw [v2] at e; cases e
        | inr w =>
          obtain ⟨q, m⟩ := w
          have d := rS_c ok v2
          rw [v2] at e
          have e2 := Prod.mk.inj (Sum.inr.inj e)
          rw [← e2.1, ← e2.2]
          refine ⟨fun x hx => ?_, by omega, d.2.2, by rw [List.length_append, List.length_singleton]; omega, by simp⟩
          rcases List.mem_append.mp hx with y | y
          · exact i1 x y
          · rw [List.mem_singleton.mp y]; exact d.1
      · rw [if_neg c] at e
        have e2 := Prod.mk.inj (Sum.inr.inj e)
        rw [← e2.1, ← e2.2]
        exact ⟨i1, i2, i3, i4, i5⟩
/-- the spans read so far -/
def SPr (g : XH) (S : List (Int × Int × Int)) : Prop := hI g 437 22 = (S.length : Nat) ∧ ∀ k, k < S.length → hI g 445 (3 * k) = (S.getD k (0, 0, 0)).1 ∧ hI g 445 (3 * k + 1) = (S.getD k (0, 0, 0)).2.1 ∧ hI g 445 (3 * k + 2) = (S.getD k (0, 0, 0)).2.2
def SFr (h g : XH) : Prop := Fr (fun b => b = 437 ∨ b = 445) h g ∧ g.length = h.length ∧ xhs g = xhs h ∧ ∀ j, ¬ (13 ≤ j ∧ j ≤ 17) → ¬ j = 22 → ¬ j = 23 → el g 437 j = el h 437 j
theorem SFr_rf (h : XH) : SFr h h := ⟨Fr_rf _ _, rfl, rfl, fun _ _ _ _ => rfl⟩
theorem SFr_tr {h g k : XH} (a : SFr h g) (b : SFr g k) : SFr h k := ⟨Fr_tr a.1 (by rw [a.2.1]; exact Nat.le_refl _) b.1, b.2.1.trans a.2.1, b.2.2.1.trans a.2.2.1, fun j hj n m => (b.2.2.2 j hj n m).trans (a.2.2.2 j hj n m)⟩
theorem SFr_v {h g : XH} (a : VFr h g) : SFr h g := ⟨Fr_mono a.1 (fun b y => .inl y), a.2.1, a.2.2.1, fun j hj _ n => a.2.2.2 j hj n⟩
theorem SPr_v {h g : XH} {S : List (Int × Int × Int)} (T : HT h) (a : VFr h g) (z : SPr h S) : SPr g S := by
  have l := HT_len T
  have s : sameC h g 445 := a.1 445 (by omega) (by decide)
  exact ⟨(congrArg gvI (a.2.2.2 22 (by omega) (by decide))).trans z.1, fun k hk => by rw [sameC_I s, sameC_I s, sameC_I s]; exact z.2 k hk⟩
theorem getD_L {α : Type} {l : List α} {x d : α} {k : Nat} (h : k < l.length) : (l ++ [x]).getD k d = l.getD k d := by
  rw [List.getD_eq_getElem?_getD, List.getD_eq_getElem?_getD, List.getElem?_append_left h]
theorem getD_R {α : Type} {l : List α} {x d : α} : (l ++ [x]).getD l.length d = x := by
  rw [List.getD_eq_getElem?_getD, List.getElem?_append_right (Nat.le_refl _), Nat.sub_self]; rfl
set_option maxHeartbeats 1000000 in
theorem c_X14_addSpan {q0 q1 q2 : Int} {S : List (Int × Int × Int)} {L : List Int} {h : XH} {np : Int} {i : Nat} (T : HT h) (ok : LOK L) (B : RB h L np i) (Z : SPr h S) (l : S.length < 200) (r0 : rg q0) (r1 : rg q1) (r2 : rg q2) {K : Int → XH → Prop} (k : ∀ g, SFr h g → RB g L np i → SPr g (S ++ [(q0, q1, q2)]) → K 1 g) : w_X14_addSpan q0 q1 q2 K h := by
  unfold w_X14_addSpan
  have z1 := Z.1
  have n445 : ∀ {g}, HT g → hn g 445 = 600 := fun t => lyn (c := 100) (n := 600) t rfl
  rw [z1, wr_of (by omega) (by omega)]
  refine ⟨(by omega), ?_⟩
  intro h2 eh2 t2 u2
  have e2 : ∀ b, ¬ b = 445 → sameC h h2 b := fun b n => by rw [eh2]; exact sameC_sV (fun z => n z.symm)
  rw [sameC_I (e2 437 (by decide)), z1, wr_of (x := 3 * ((S.length : Nat) : Int)) (by omega) (by omega), wr_of (by omega) (by omega)]
  refine ⟨(by omega), ?_⟩
  intro h4 eh4 t4 u4
  have e4 : ∀ b, ¬ b = 445 → sameC h2 h4 b := fun b n => by rw [eh4]; exact sameC_sV (fun z => n z.symm)
  rw [sameC_I (e4 437 (by decide)), sameC_I (e2 437 (by decide)), z1, wr_of (x := 3 * ((S.length : Nat) : Int)) (by omega) (by omega), wr_of (by omega) (by omega)]
  refine ⟨(by omega), ?_⟩
  intro h6 eh6 t6 u6
  intro h7 eh7 t7 u7
  have e6 : ∀ b, ¬ b = 445 → sameC h4 h6 b := fun b n => by rw [eh6]; exact sameC_sV (fun z => n z.symm)
  rw [sameC_I (e6 437 (by decide)), sameC_I (e4 437 (by decide)), sameC_I (e2 437 (by decide)), z1, wr_of (by omega) (by omega)] at eh7
  have e7 : ∀ b, ¬ b = 437 → sameC h6 h7 b := fun b n => by rw [eh7]; exact sameC_sV (fun z => n z.symm)
  have s : ∀ b, ¬ b = 445 → ¬ b = 437 → sameC h h7 b := fun b n n2 => sameC_tr (sameC_tr (sameC_tr (e2 b n) (e4 b n)) (e6 b n)) (e7 b n2)
  have s6 : sameC h h6 437 := sameC_tr (sameC_tr (e2 437 (by decide)) (e4 437 (by decide))) (e6 437 (by decide))
  have g37 : ∀ j, ¬ j = 22 → el h7 437 j = el h 437 j := fun j n => by rw [eh7, el_ni (fun z => n z.symm)]; exact sameC_el s6 j
  have i0 : (3 * ((S.length : Nat) : Int)).toNat = 3 * S.length := by omega
  have i1 : (3 * ((S.length : Nat) : Int) + 1).toNat = 3 * S.length + 1 := by omega
  have i2 : (3 * ((S.length : Nat) : Int) + 2).toNat = 3 * S.length + 2 := by omega
  rw [i0] at eh2
  rw [i1] at eh4
  rw [i2] at eh6
  have v : ∀ m, hI h7 445 m = if m = 3 * S.length + 2 then q2 else if m = 3 * S.length + 1 then q1 else if m = 3 * S.length then q0 else hI h 445 m := fun m => by
    rw [sameC_I (e7 445 (by decide)), eh6]
    by_cases c2 : m = 3 * S.length + 2
    · rw [if_pos c2, c2]; exact hI_eq (by rw [n445 t4]; omega) r2
    · rw [if_neg c2, hI_ni (fun z => c2 z.symm), eh4]
      by_cases c1 : m = 3 * S.length + 1
      · rw [if_pos c1, c1]; exact hI_eq (by rw [n445 t2]; omega) r1
      · rw [if_neg c1, hI_ni (fun z => c1 z.symm), eh2]
        by_cases c0 : m = 3 * S.length
        · rw [if_pos c0, c0]; exact hI_eq (by rw [n445 T]; omega) r0
        · rw [if_neg c0, hI_ni (fun z => c0 z.symm)]
  refine k _ ⟨fun b _ n => s b (fun z => n (.inr z)) (fun z => n (.inl z)), by rw [eh7, eh6, eh4, eh2, len_sV, len_sV, len_sV, len_sV], by rw [eh7, eh6, eh4, eh2, xhs_sV, xhs_sV, xhs_sV, xhs_sV], fun j _ n _ => g37 j n⟩ (RB_fr B (s 441 (by decide) (by decide)) (s 438 (by decide) (by decide)) (fun j hj => g37 j (by omega))) ⟨?_, fun m hm => ?_⟩
  · rw [eh7, List.length_append, List.length_singleton]
    exact hI_eq (by rw [(lstn t6).2.2.2.2.1]; decide) (by unfold rg; omega)
  · rw [List.length_append, List.length_singleton] at hm
    rw [v, v, v]
    by_cases c : m = S.length
    · subst c
      rw [getD_R, if_neg (by omega), if_neg (by omega), if_pos rfl, if_neg (by omega), if_pos rfl, if_pos rfl]
      exact ⟨rfl, rfl, rfl⟩
    · rw [getD_L (by omega), if_neg (by omega), if_neg (by omega), if_neg (by omega), if_neg (by omega), if_neg (by omega), if_neg (by omega), if_neg (by omega), if_neg (by omega), if_neg (by omega)]
      exact Z.2 m (by omega)
set_option maxHeartbeats 2000000 in
theorem c_X14_readSpan {S : List (Int × Int × Int)} {L : List Int} {h : XH} {np : Int} {i : Nat} (T : HT h) (ok : LOK L) (B : RB h L np i) (Z : SPr h S) (l : S.length ≤ i) {K : Int → XH → Prop} (k : ∀ x g, SFr h g → ((x = 0 ∧ ∃ e, rS (tT L np) i = .inl e ∧ hI g 437 17 = e) ∨ (x = 1 ∧ ∃ q j, rS (tT L np) i = .inr (q, j) ∧ SPr g (S ++ [q]) ∧ RB g L np j)) → K x g) : w_X14_readSpan K h := by
  unfold w_X14_readSpan
  have n0 := (tT_k (np := np) ok i).2.1
  have kd := RB_kd B
  have kb := skK_b (tT L np i).1
  refine c_X14_isSign B (by decide) ?_
  intro x1 qx1
  intro rx1 vx1
  refine ⟨fun c47 => ?_, fun c47 => ?_⟩
  · have n42 := (bq1 qx1).2.1.mp c47
    refine c_X14_isSign B (by decide) ?_
    intro x2 qx2
    intro rx2 vx2
    refine ⟨fun y => y = -1 ∧ skK (tT L np i).1 = 0 ∨ y = skK (tT L np i).1 ∧ ¬ skK (tT L np i).1 = 0, ?_, ?_⟩
    · intro x3 rx3 z4
      refine ⟨fun c34 => ?_, fun c34 => ?_⟩
      · have s0 : skK (tT L np i).1 = 0 := by omega
        refine c_rV T ok B ?_
        intro x5 h6 F6 q6
        intro t6 u6
        intro rx5 vx5
        refine ⟨fun c20 => ?_, fun c20 => ?_⟩
        · obtain ⟨-, c, j, ev, e23, B6⟩ := q6.resolve_left (fun y => c20 y.1)
          have vb := rV_c ok ev
          have kd6 := RB_kd B6
          have li := n0 (by
            intro y
            have ev2 := ev
            unfold rV at ev2
            rw [if_pos (by omega)] at ev2; cases ev2)
          intro x7 ex7 rx7
          rw [e23] at ex7
          refine ⟨fun c19 => ?_, fun c19 => ?_⟩
          · have k4 := kd6.2.2.2.1.mp c19
            intro x8 ex8 rx8
            rw [B6.2.2.2.1] at ex8
            refine c_nx t6 ok B6 ?_
            intro h9 F9 B9
            intro t9 u9
            refine c_rV t9 ok B9 ?_
            intro x10 h11 F11 q11
            intro t11 u11
            intro rx10 vx10
            have F011 := VFr_tr (VFr_tr F6 (VFr_n F9)) F11
            refine ⟨fun c16 => ?_, fun c16 => ?_⟩
            · obtain ⟨-, d, j2, ev2, e23b, B11⟩ := q11.resolve_left (fun y => c16 y.1)
              have vd := rV_c ok ev2
              rw [e23b]
              refine ⟨fun c15 => ?_, fun c15 => ?_⟩
              · skip
                refine c_X14_addSpan t11 ok B11 (SPr_v T F011 Z) (by omega) (rgk rfl) (by unfold rg; omega) (by unfold rg; omega) ?_
                intro h13 F13 B13 Z13
                intro t13 u13 _ _
                refine k _ _ (SFr_tr (SFr_v F011) F13) (.inr ⟨rfl, _, j2, ?_, Z13, B13⟩)
                unfold rS
                rw [if_neg n42, if_neg (fun y => y s0), ev]
                dsimp only
                rw [if_neg (fun y => y k4), ev2]
                dsimp only
                rw [if_neg (by omega), ex7]
              · skip
                intro h14 eh14 t14 u14
                refine k _ _ (SFr_tr (SFr_v F011) (SFr_v (VFr_s (.inl rfl) eh14))) (.inl ⟨rfl, _, ?_, (at37 t11 (by decide) rx8 eh14).1⟩)
                unfold rS
                rw [if_neg n42, if_neg (fun y => y s0), ev]
                dsimp only
                rw [if_neg (fun y => y k4), ev2]
                dsimp only
                rw [if_pos (by omega), ex8]
            · obtain ⟨-, e, ev2, e17⟩ := q11.resolve_right (fun y => by omega)
              refine k _ _ (SFr_v F011) (.inl ⟨rfl, e, ?_, e17⟩)
              unfold rS
              rw [if_neg n42, if_neg (fun y => y s0), ev]
              dsimp only
              rw [if_neg (fun y => y k4), ev2]
          · have k4 : ¬ (tT L np j).1 = 4 := fun y => c19 (kd6.2.2.2.1.mpr y)
            refine c_X14_addSpan t6 ok B6 (SPr_v T F6 Z) (by omega) (rgk rfl) (by unfold rg; omega) (by unfold rg; omega) ?_
            intro h18 F18 B18 Z18
            intro t18 u18 _ _
            refine k _ _ (SFr_tr (SFr_v F6) F18) (.inr ⟨rfl, _, j, ?_, Z18, B18⟩)
            unfold rS
            rw [if_neg n42, if_neg (fun y => y s0), ev]
            dsimp only
            rw [if_pos k4, ex7]
        · obtain ⟨-, e, ev, e17⟩ := q6.resolve_right (fun y => by omega)
          refine k _ _ (SFr_v F6) (.inl ⟨rfl, e, ?_, e17⟩)
          unfold rS
          rw [if_neg n42, if_neg (fun y => y s0), ev]
      · have s1 : x3 = skK (tT L np i).1 ∧ ¬ skK (tT L np i).1 = 0 := z4.resolve_left (fun y => c34 y.1)
        have li := n0 (by have := kb.2.2 s1.2; omega)
        refine c_nx T ok B ?_
        intro h21 F21 B21
        intro t21 u21
        refine c_rV t21 ok B21 ?_
        intro x22 h23 F23 q23
        intro t23 u23
        intro rx22 vx22
        have F023 := VFr_tr (VFr_n F21) F23
        refine ⟨fun x g => SFr h g ∧ ((x = 0 ∧ ∃ e, rS (tT L np) i = .inl e ∧ hI g 437 17 = e) ∨ (x = 1 ∧ ∃ q j, rS (tT L np) i = .inr (q, j) ∧ SPr g (S ++ [q]) ∧ RB g L np j)), ?_, ?_⟩
        · intro x24 h25 t25 s25 rx24 z26
          refine ⟨(by rcases z26.2 with y | y; exact .inl y.1; exact .inr y.1), ?_⟩
          exact k _ _ z26.1 z26.2
        · refine ⟨fun g => SFr h g ∧ ∃ e, rS (tT L np) i = .inl e ∧ hI g 437 17 = e, ?_, ?_⟩
          · intro h28 t28 s28 z29
            exact ⟨z29.1, .inl ⟨rfl, z29.2⟩⟩
          · refine ⟨fun c33 => ?_, fun c33 => ?_⟩
            · obtain ⟨-, e, ev, e17⟩ := q23.resolve_right (fun y => by omega)
              refine ⟨SFr_v F023, e, ?_, e17⟩
              unfold rS
              rw [if_neg n42, if_pos s1.2, ev]
            · obtain ⟨-, c, j, ev, e23, B23⟩ := q23.resolve_left (fun y => c33 y.1)
              have vb := rV_c ok ev
              rw [e23]
              refine c_X14_addSpan t23 ok B23 (SPr_v T F023 Z) (by omega) (by unfold rg; omega) (by unfold rg; omega) (by unfold rg; omega) ?_
              intro h31 F31 B31 Z31
              intro t31 u31 _ _
              refine ⟨fun c32 => ?_, fun c32 => ?_⟩
              · omega
              · refine ⟨SFr_tr (SFr_v F023) F31, .inr ⟨rfl, _, j, ?_, Z31, B31⟩⟩
                unfold rS
                rw [if_neg n42, if_pos s1.2, ev, s1.1]
    · refine ⟨fun c43 => ?_, fun c43 => ?_⟩
      · have q61 := (bq1 qx2).2.1.mp c43
        refine c_X14_isSign B (by decide) ?_
        intro x35 qx35
        intro rx35 vx35
        refine ⟨fun c42 => ?_, fun c42 => ?_⟩
        · have q62 := (bq1 qx35).2.1.mp c42
          refine c_X14_isSign B (by decide) ?_
          intro x36 qx36
          intro rx36 vx36
          refine ⟨fun c41 => ?_, fun c41 => ?_⟩
          · have q60 := (bq1 qx36).2.1.mp c41
            refine c_X14_isSign B (by decide) ?_
            intro x37 qx37
            intro rx37 vx37
            refine ⟨fun c40 => ?_, fun c40 => ?_⟩
            · have q94 := (bq1 qx37).2.1.mp c40
              refine c_X14_isSign B (by decide) ?_
              intro x38 qx38
              intro rx38 vx38
              refine ⟨fun c39 => ?_, fun c39 => ?_⟩
              · have q := (bq1 qx38).2.1.mp c39
                exact .inl ⟨rfl, by unfold skK; rw [if_neg q61, if_neg q62, if_neg q60, if_neg q94, if_neg q]⟩
              · have q := (bq1 qx38).2.2.1.mp c39
                have e : skK (tT L np i).1 = 5 := by unfold skK; rw [if_neg q61, if_neg q62, if_neg q60, if_neg q94, if_pos q]
                exact .inr ⟨e.symm, by omega⟩
            · have q := (bq1 qx37).2.2.1.mp c40
              have e : skK (tT L np i).1 = 4 := by unfold skK; rw [if_neg q61, if_neg q62, if_neg q60, if_pos q]
              exact .inr ⟨e.symm, by omega⟩
          · have q := (bq1 qx36).2.2.1.mp c41
            have e : skK (tT L np i).1 = 3 := by unfold skK; rw [if_neg q61, if_neg q62, if_pos q]
            exact .inr ⟨e.symm, by omega⟩
        · have q := (bq1 qx35).2.2.1.mp c42
          have e : skK (tT L np i).1 = 2 := by unfold skK; rw [if_neg q61, if_pos q]
          exact .inr ⟨e.symm, by omega⟩
      · have q := (bq1 qx2).2.2.1.mp c43
        have e : skK (tT L np i).1 = 1 := by unfold skK; rw [if_pos q]
        exact .inr ⟨e.symm, by omega⟩
  · have k42 := (bq1 qx1).2.2.1.mp c47
    have li := n0 (by omega)
    refine c_nx T ok B ?_
    intro h44 F44 B44
    intro t44 u44
    refine c_X14_addSpan t44 ok B44 (SPr_v T (VFr_n F44) Z) (by omega) (rgk rfl) (rgk rfl) (rgk rfl) ?_
    intro h46 F46 B46 Z46
    intro t46 u46 _ _
    refine k _ _ (SFr_tr (SFr_v (VFr_n F44)) F46) (.inr ⟨rfl, _, i + 1, ?_, Z46, B46⟩)
    unfold rS
    rw [if_pos k42]
