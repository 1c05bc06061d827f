/-! WHAT A SYMBOLIC RUN SAYS -/
section SK0
variable {sn : Nat} {R : XRecs} {nw : List (List Value)} {xs : Nat → Int32} {goal : XO → XH → Prop} {cfs : List XF}
theorem sbody_ok {β : Type} {T : β → Prop} {bad : β} {many : List β → β} {fin : SV → Nat → Nat → β} {ih : SE → SH → Nat → Nat → Nat → Nat → XRec → List (Option SV) → List SV → List SF → β} (hbad : ¬ T bad) (hmany : ∀ l, T (many l) → ∀ x ∈ l, T x) (hI : SIH sn R nw xs goal cfs T ih) (hF : SFN sn R nw xs goal cfs T fin) (hc : cfs.length ≤ 800) (hsn : sn ≤ 6)
    {e : SE} {h : SH} {n sl mi pc : Nat} {r : XRec} {ls : List (Option SV)} {st : List SV} {fs : List SF} (hT : T (sbody R nw bad many fin ih sn e h n sl mi pc r ls st fs)) : SOK sn R nw xs goal cfs e h n sl mi pc r ls st fs := by
  intro he H hH hr hf
  unfold sbody at hT
  split at hT
  · exact absurd hT hbad
  · next q hq => exact sinst_ok ⟨hbad, hmany, hI, he, hH, hr, hf, s_code hr hq, hc, hsn⟩ hF hT
def SOKs (sn : Nat) (R : XRecs) (nw : List (List Value)) (xs : Nat → Int32) (goal : XO → XH → Prop) (cfs : List XF) (s : SS) : Prop := SOK sn R nw xs goal cfs s.1 s.2.1 s.2.2.1 s.2.2.2.1 s.2.2.2.2.1 s.2.2.2.2.2.1 s.2.2.2.2.2.2.1 s.2.2.2.2.2.2.2.1 s.2.2.2.2.2.2.2.2.1 s.2.2.2.2.2.2.2.2.2
theorem sone_ok (hc : cfs.length ≤ 800) (hsn : sn ≤ 6) {s s2 : SS} (h1 : sone R nw sn s = some s2) (h2 : SOKs sn R nw xs goal cfs s2) : SOKs sn R nw xs goal cfs s := by
  obtain ⟨e, h, n, sl, mi, pc, r, ls, st, fs⟩ := s
  refine sbody_ok (T := fun x : Option SS => ∃ s2, x = some s2 ∧ SOKs sn R nw xs goal cfs s2) (bad := none) (many := fun _ => none) (fin := fun _ _ _ => none) (ih := fun e h n sl mi pc r ls st fs => some (e, h, n, sl, mi, pc, r, ls, st, fs)) ?_ ?_ ?_ ?_ hc hsn ⟨s2, h1, h2⟩
  · rintro ⟨s9, z, -⟩; cases z
  · rintro l ⟨s9, z, -⟩; cases z
  · rintro e h n sl mi pc r ls st fs ⟨s9, z, hz⟩
    cases z
    exact hz
  · rintro v n sl ⟨s9, z, -⟩; cases z
theorem siter_ok (hc : cfs.length ≤ 800) (hsn : sn ≤ 6) {mi pcj : Nat} : ∀ (k : Nat) (s s2 : SS), siter R nw sn mi pcj k s = some s2 → s2.2.2.2.2.2.1 = pcj ∧ s2.2.2.2.2.1 = mi ∧ s2.2.2.2.2.2.2.2.2.2 = [] ∧ (SOKs sn R nw xs goal cfs s2 → SOKs sn R nw xs goal cfs s) := by
  intro k
  induction k with
  | zero => intro s s2 h; cases h
  | succ k ih =>
    intro s s2 h
    have h : (match sone R nw sn s with
      | none => none
      | some s2 => cond (Nat.beq s2.2.2.2.2.2.1 pcj && (Nat.beq s2.2.2.2.2.1 mi && s2.2.2.2.2.2.2.2.2.2.isEmpty)) (some s2) (siter R nw sn mi pcj k s2)) = some s2 := h
    cases h1 : sone R nw sn s with
    | none => rw [h1] at h; cases h
    | some s1 =>
      rw [h1] at h
      dsimp only at h
      cases hb : (Nat.beq s1.2.2.2.2.2.1 pcj && (Nat.beq s1.2.2.2.2.1 mi && s1.2.2.2.2.2.2.2.2.2.isEmpty)) with
      | true =>
        rw [hb] at h
        cases h
        simp only [Bool.and_eq_true] at hb
        exact ⟨Nat.eq_of_beq_eq_true hb.1, Nat.eq_of_beq_eq_true hb.2.1, List.isEmpty_iff.mp hb.2.2, fun z => sone_ok hc hsn h1 z⟩
      | false =>
        rw [hb] at h
        obtain ⟨a1, a2, a3, a4⟩ := ih s1 s2 h
        exact ⟨a1, a2, a3, fun z => sone_ok hc hsn h1 (a4 z)⟩
end SK0
section SK1
variable {ro : Nat → Int32}
theorem szeq_ok {a b : List Nat} (h : szeq a b = true) : a = b := of_decide_eq_true h
theorem sveq_ok {x y : SV} (h : sveq x y = true) : sden ro x = sden ro y := by
  unfold sveq at h
  split at h
  · rfl
  · cases Nat.eq_of_beq_eq_true h; rfl
  · cases i64_ext (Nat.eq_of_beq_eq_true h); rfl
  · simp only [Bool.and_eq_true] at h
    cases Nat.eq_of_beq_eq_true h.1
    cases Nat.eq_of_beq_eq_true h.2.1
    cases szeq_ok h.2.2
    rfl
  · cases h
theorem scnt_app1 (zs : List Nat) (b : Nat) : scnt ro (zs ++ [b]) = scnt ro zs + if ro b = 0 then 0 else 1 := by
  unfold scnt
  rw [List.countP_append, List.countP_cons, List.countP_nil]
  by_cases z : ro b = 0
  · simp [z]
  · simp [z]
theorem sgenV_ok {b : Nat} {x y v : SV} (h : sgenV b x y = some v) : (ro b = 0 → sden ro x = sden ro v) ∧ (¬ ro b = 0 → sden ro y = sden ro v) := by
  unfold sgenV at h
  cases hq : sveq x y with
  | true =>
    rw [hq] at h
    cases h
    exact ⟨fun _ => rfl, fun _ => (sveq_ok hq).symm⟩
  | false =>
    rw [hq, cond_false] at h
    split at h
    · next c zs c2 zs2 =>
      cases hb : (Nat.beq c2 (Nat.succ c) && szeq zs zs2) with
      | false => rw [hb] at h; cases h
      | true =>
        rw [hb, cond_true] at h
        simp only [Bool.and_eq_true] at hb
        cases Nat.eq_of_beq_eq_true hb.1
        cases szeq_ok hb.2
        cases h
        refine ⟨fun z => ?_, fun z => ?_⟩
        · show Value.int (slin ro c zs) = Value.int (slin ro c (zs ++ [b]))
          unfold slin
          rw [scnt_app1, if_pos z]
          rfl
        · show Value.int (slin ro (c + 1) zs) = Value.int (slin ro c (zs ++ [b]))
          unfold slin
          rw [scnt_app1, if_neg z, show c + 1 + scnt ro zs = c + (scnt ro zs + 1) by omega]
    · cases h
theorem smapL_get {α γ : Type} {f : α → α → Option γ} : ∀ (l u : List α) (w : List γ), smapL f l u = some w → w.length = l.length ∧ w.length = u.length ∧ ∀ (i : Nat) (c : γ), w[i]? = some c → ∃ a b, l[i]? = some a ∧ u[i]? = some b ∧ f a b = some c := by
  intro l
  induction l with
  | nil =>
    intro u w h
    cases u with
    | nil => cases h; exact ⟨rfl, rfl, fun i c hi => by cases hi⟩
    | cons b u => cases h
  | cons a l ih =>
    intro u w h
    cases u with
    | nil => cases h
    | cons b u =>
      have h : (match f a b with
        | none => none
        | some c => match smapL f l u with
          | none => none
          | some l => some (c :: l)) = some w := h
      cases h1 : f a b with
      | none => rw [h1] at h; cases h
      | some c =>
        rw [h1] at h
        dsimp only at h
        cases h2 : smapL f l u with
        | none => rw [h2] at h; cases h
        | some w2 =>
          rw [h2] at h
          cases h
          obtain ⟨k1, k2, k3⟩ := ih u w2 h2
          refine ⟨by rw [List.length_cons, List.length_cons, k1], by rw [List.length_cons, List.length_cons, k2], fun i c9 hi => ?_⟩
          cases i with
          | zero => cases hi; exact ⟨a, b, rfl, rfl, h1⟩
          | succ i => exact k3 i c9 hi
theorem smapL_lget {α γ : Type} {f : α → α → Option γ} {l u : List α} {w : List γ} (h : smapL f l u = some w) {i : Nat} {c : γ} (hi : lget w i = some c) : ∃ a b, lget l i = some a ∧ lget u i = some b ∧ f a b = some c := by
  rw [lget_eq] at hi
  obtain ⟨a, b, k1, k2, k3⟩ := (smapL_get l u w h).2.2 i c hi
  exact ⟨a, b, by rw [lget_eq]; exact k1, by rw [lget_eq]; exact k2, k3⟩
theorem smap_st {b : Nat} {l u w : List SV} (h : smapL (sgenV b) l u = some w) : (ro b = 0 → sds ro l = sds ro w) ∧ (¬ ro b = 0 → sds ro u = sds ro w) := by
  obtain ⟨k1, k2, k3⟩ := smapL_get l u w h
  constructor
  · intro z
    apply List.ext_getElem?
    intro i
    unfold sds
    rw [List.getElem?_map, List.getElem?_map]
    cases hi : w[i]? with
    | none => rw [List.getElem?_eq_none_iff.mpr (by have := List.getElem?_eq_none_iff.mp hi; omega)]
    | some c =>
      obtain ⟨a, d, g1, g2, g3⟩ := k3 i c hi
      rw [g1]
      exact congrArg some ((sgenV_ok g3).1 z)
  · intro z
    apply List.ext_getElem?
    intro i
    unfold sds
    rw [List.getElem?_map, List.getElem?_map]
    cases hi : w[i]? with
    | none => rw [List.getElem?_eq_none_iff.mpr (by have := List.getElem?_eq_none_iff.mp hi; omega)]
    | some c =>
      obtain ⟨a, d, g1, g2, g3⟩ := k3 i c hi
      rw [g2]
      exact congrArg some ((sgenV_ok g3).2 z)
theorem sgenL_ok {b : Nat} {x y v : Option SV} (h : sgenL b x y = some v) : (ro b = 0 → x.map (sden ro) = v.map (sden ro)) ∧ (¬ ro b = 0 → y.map (sden ro) = v.map (sden ro)) := by
  unfold sgenL at h
  split at h
  · cases h; exact ⟨fun _ => rfl, fun _ => rfl⟩
  · next x y =>
    split at h
    · next v hv =>
      cases h
      exact ⟨fun z => congrArg some ((sgenV_ok hv).1 z), fun z => congrArg some ((sgenV_ok hv).2 z)⟩
    · cases h
  · cases h
theorem smap_ls {b : Nat} {l u w : List (Option SV)} (h : smapL (sgenL b) l u = some w) : (ro b = 0 → sdl ro l = sdl ro w) ∧ (¬ ro b = 0 → sdl ro u = sdl ro w) := by
  obtain ⟨k1, k2, k3⟩ := smapL_get l u w h
  constructor
  · intro z
    apply List.ext_getElem?
    intro i
    unfold sdl
    rw [List.getElem?_map, List.getElem?_map]
    cases hi : w[i]? with
    | none => rw [List.getElem?_eq_none_iff.mpr (by have := List.getElem?_eq_none_iff.mp hi; omega)]
    | some c =>
      obtain ⟨a, d, g1, g2, g3⟩ := k3 i c hi
      rw [g1]
      exact congrArg some ((sgenL_ok g3).1 z)
  · intro z
    apply List.ext_getElem?
    intro i
    unfold sdl
    rw [List.getElem?_map, List.getElem?_map]
    cases hi : w[i]? with
    | none => rw [List.getElem?_eq_none_iff.mpr (by have := List.getElem?_eq_none_iff.mp hi; omega)]
    | some c =>
      obtain ⟨a, d, g1, g2, g3⟩ := k3 i c hi
      rw [g2]
      exact congrArg some ((sgenL_ok g3).2 z)
theorem seseq_ok : ∀ (a b : List (Nat × SV)), seseq a b = true → ∀ i d d2, sden ro d = sden ro d2 → sden ro (sfind a i d) = sden ro (sfind b i d2) := by
  intro a
  induction a with
  | nil =>
    intro b h i d d2 hd
    cases b with
    | nil => exact hd
    | cons q u => cases h
  | cons p t ih =>
    intro b h i d d2 hd
    cases b with
    | nil => cases h
    | cons q u =>
      have h : (Nat.beq p.1 q.1 && (sveq p.2 q.2 && seseq t u)) = true := h
      simp only [Bool.and_eq_true] at h
      rw [sfind_cons, sfind_cons, Nat.eq_of_beq_eq_true h.1]
      cases Nat.beq q.1 i with
      | true => exact sveq_ok h.2.1
      | false => exact ih u h.2.2 i d d2 hd
/-- the cell that stands for two -/
theorem sgenC_ok {b : Nat} {x y : Option SCell} {c : SCell} (h : sgenC b x y = some (some c)) : ∃ cx cy, x = some cx ∧ y = some cy ∧ (ro b = 0 → ∀ C, SCR ro cx C → SCR ro c C) ∧ (¬ ro b = 0 → ∀ C, SCR ro cy C → SCR ro c C) := by
  unfold sgenC at h
  split at h
  · next k row k2 row2 =>
    cases hb : Nat.beq k k2 with
    | false => rw [hb] at h; cases h
    | true =>
      rw [hb, cond_true] at h
      cases Nat.eq_of_beq_eq_true hb
      split at h
      · next row3 hr =>
        cases h
        refine ⟨_, _, rfl, rfl, fun z C hC => ?_, fun z C hC => ?_⟩
        · match C, hC with
          | .inl (c2, vs), ⟨g1, g2⟩ =>
            refine ⟨g1, fun i v hv => ?_⟩
            unfold rget at hv
            cases e1 : lget row3 (Nat.div i 8) with
            | none => rw [e1] at hv; cases hv
            | some l3 =>
              rw [e1] at hv
              obtain ⟨l1, l2, f1, f2, f3⟩ := smapL_lget hr e1
              obtain ⟨v1, v2, m1, m2, m3⟩ := smapL_lget f3 hv
              rw [g2 i v1 (by unfold rget; rw [f1]; exact m1), (sgenV_ok m3).1 z]
          | .inr _, hC => exact absurd hC id
        · match C, hC with
          | .inl (c2, vs), ⟨g1, g2⟩ =>
            refine ⟨g1, fun i v hv => ?_⟩
            unfold rget at hv
            cases e1 : lget row3 (Nat.div i 8) with
            | none => rw [e1] at hv; cases hv
            | some l3 =>
              rw [e1] at hv
              obtain ⟨l1, l2, f1, f2, f3⟩ := smapL_lget hr e1
              obtain ⟨v1, v2, m1, m2, m3⟩ := smapL_lget f3 hv
              rw [g2 i v2 (by unfold rget; rw [f2]; exact m2), (sgenV_ok m3).2 z]
          | .inr _, hC => exact absurd hC id
      · cases h
  · next t len d es kn t2 len2 d2 es2 kn2 =>
    cases hb : (Nat.beq t t2 && Nat.beq len len2) with
    | false => rw [hb] at h; cases h
    | true =>
      rw [hb, cond_true] at h
      simp only [Bool.and_eq_true] at hb
      cases Nat.eq_of_beq_eq_true hb.1
      cases Nat.eq_of_beq_eq_true hb.2
      cases hk : (kn && (kn2 && (sveq d d2 && seseq es es2))) with
      | true =>
        rw [hk, cond_true] at h
        simp only [Bool.and_eq_true] at hk
        obtain ⟨rfl, rfl, hd, he⟩ := hk
        cases h
        refine ⟨_, _, rfl, rfl, fun z C hC => hC, fun z C hC => ?_⟩
        match C, hC with
        | .inr (c2, vs), ⟨g1, g2, g3⟩ => exact ⟨g1, g2, fun _ i hi => by rw [g3 rfl i hi, seseq_ok es es2 he i d d2 (sveq_ok hd)]⟩
        | .inl _, hC => exact absurd hC id
      | false =>
        rw [hk, cond_false] at h
        cases h
        refine ⟨_, _, rfl, rfl, fun z C hC => ?_, fun z C hC => ?_⟩
        · match C, hC with
          | .inr (c2, vs), ⟨g1, g2, g3⟩ => exact ⟨g1, g2, fun z => by cases z⟩
          | .inl _, hC => exact absurd hC id
        · match C, hC with
          | .inr (c2, vs), ⟨g1, g2, g3⟩ => exact ⟨g1, g2, fun z => by cases z⟩
          | .inl _, hC => exact absurd hC id
  · cases h
theorem sgenH_ok {b : Nat} {hA hB h2 : SH} (h : smapL (smapL (smapL (sgenC b))) hA hB = some h2) {n sl : Nat} {H : XH} : (ro b = 0 → SHR ro hA n sl H → SHR ro h2 n sl H) ∧ (¬ ro b = 0 → SHR ro hB n sl H → SHR ro h2 n sl H) := by
  have key : ∀ k c, hget h2 k = some c → ∃ cx cy, hget hA k = some cx ∧ hget hB k = some cy ∧ (ro b = 0 → ∀ C, SCR ro cx C → SCR ro c C) ∧ (¬ ro b = 0 → ∀ C, SCR ro cy C → SCR ro c C) := by
    intro k c hk
    unfold hget at hk
    split at hk
    · cases hk
    · next a3 e1 =>
      split at hk
      · cases hk
      · next b3 e2 =>
        split at hk
        · cases hk
        · next c3 e3 =>
          subst hk
          obtain ⟨a1, a2, f1, f2, f3⟩ := smapL_lget h e1
          obtain ⟨b1, b2, g1, g2, g3⟩ := smapL_lget f3 e2
          obtain ⟨c1, c2, m1, m2, m3⟩ := smapL_lget g3 e3
          obtain ⟨cx, cy, rfl, rfl, z⟩ := sgenC_ok (ro := ro) m3
          refine ⟨cx, cy, ?_, ?_, z⟩
          · unfold hget
            rw [f1]
            dsimp only
            rw [g1]
            dsimp only
            rw [m1]
          · unfold hget
            rw [f2]
            dsimp only
            rw [g2]
            dsimp only
            rw [m2]
  refine ⟨fun z hH => ⟨hH.1, hH.2.1, hH.2.2.1, hH.2.2.2.1, fun k c hk => ?_⟩, fun z hH => ⟨hH.1, hH.2.1, hH.2.2.1, hH.2.2.2.1, fun k c hk => ?_⟩⟩
  · obtain ⟨cx, cy, e1, -, e3, -⟩ := key k c hk
    obtain ⟨C, q1, q2⟩ := hH.2.2.2.2 k cx e1
    exact ⟨C, q1, e3 z C q2⟩
  · obtain ⟨cx, cy, -, e2, -, e4⟩ := key k c hk
    obtain ⟨C, q1, q2⟩ := hH.2.2.2.2 k cy e2
    exact ⟨C, q1, e4 z C q2⟩
end SK1
section SK2
variable {sn : Nat} {R : XRecs} {nw : List (List Value)} {xs : Nat → Int32} {goal : XO → XH → Prop}
theorem smerge_ok (hsn : sn ≤ 6) {ih : SE → SH → Nat → Nat → Nat → Nat → XRec → List (Option SV) → List SV → List SF → Bool} (hI : SIH sn R nw xs goal [] (fun x => x = true) ih) {e : SE} {h : SH} {n sl mi pc : Nat} {r : XRec} {ls : List (Option SV)} {st : List SV} {fs : List SF} {b pcj : Nat} (hT : smerge R nw sn ih e h n sl mi pc r ls st fs b pcj = true) : SOK sn R nw xs goal [] e h n sl mi pc r ls st fs := by
  intro he H hH hr hf
  unfold smerge at hT
  split at hT
  · next q1 hA nA slA q2 q3 q4 lsA stA q5 q6 hB nB slB q7 q8 q9 lsB stB q10 hsA hsB =>
    cases hb : (Nat.beq nA nB && (Nat.beq slA slB && (Nat.ble 2147483648 (senv e b).1 && slenb fs 100))) with
    | false => rw [hb] at hT; cases hT
    | true =>
      rw [hb, cond_true] at hT
      simp only [Bool.and_eq_true] at hb
      cases Nat.eq_of_beq_eq_true hb.1
      cases Nat.eq_of_beq_eq_true hb.2.1
      have b3 := Nat.le_of_ble_eq_true hb.2.2.1
      have b4 : fs.length < 100 := Nat.blt_eq.mp hb.2.2.2
      split at hT
      · next h2 ls2 st2 m1 m2 m3 =>
        rw [frc_eq] at hT
        have hgo := hI _ _ _ _ _ _ _ _ _ _ hT he
        have hlen : (fs.map (sdf (srho xs))).length ≤ 800 := by rw [List.length_map]; omega
        rw [List.append_nil] at *
        by_cases z : srho xs b = 0
        · obtain ⟨a1, a2, a3, a4⟩ := siter_ok (xs := xs) (goal := goal) (cfs := fs.map (sdf (srho xs))) hlen hsn 40 _ _ hsA
          cases a1
          cases a2
          cases a3
          refine a4 (fun _ H1 hH1 _ _ => ?_) (sev_cons he ?_ ?_) H hH hr (fun f hf => by cases hf)
          · have := hgo H1 ((sgenH_ok m1).1 z hH1) hr hf
            rw [← (smap_ls m2).1 z, ← (smap_st m3).1 z] at this
            exact this
          · rw [z]; decide
          · rw [z]; decide
        · obtain ⟨a1, a2, a3, a4⟩ := siter_ok (xs := xs) (goal := goal) (cfs := fs.map (sdf (srho xs))) hlen hsn 40 _ _ hsB
          cases a1
          cases a2
          cases a3
          refine a4 (fun _ H1 hH1 _ _ => ?_) (sev_cons he ?_ (he b).2) H hH hr (fun f hf => by cases hf)
          · have := hgo H1 ((sgenH_ok m1).2 z hH1) hr hf
            rw [← (smap_ls m2).2 z, ← (smap_st m3).2 z] at this
            exact this
          · have h0 : ¬ bia (srho xs b) = 2147483648 := fun y => z (bia_eqI (y.trans (by decide)))
            have := (he b).1
            omega
      · cases hT
  · cases hT
theorem sexec_ok {J : List (Nat × Nat × Nat)} {mc ms : Nat} (hsn : sn ≤ 6) : ∀ k, SIH sn R nw xs (fun o h => o = .inl (some (.int 1)) ∧ h.length ≤ mc ∧ xhs h ≤ ms) [] (fun x => x = true) (sexec R nw J sn mc ms k) := by
  have hF : SFN sn R nw xs (fun o h => o = .inl (some (.int 1)) ∧ h.length ≤ mc ∧ xhs h ≤ ms) [] (fun x => x = true) (sfin mc ms) := by
    intro v n sl hT H h1 h2
    unfold sfin at hT
    split at hT
    · next c =>
      simp only [Bool.and_eq_true] at hT
      cases Nat.eq_of_beq_eq_true hT.1
      have := Nat.le_of_ble_eq_true hT.2.1
      have := Nat.le_of_ble_eq_true hT.2.2
      exact ⟨rfl, by omega, by omega⟩
    · cases hT
  intro k
  induction k with
  | zero => intro e h n sl mi pc r ls st fs hT; cases hT
  | succ k ih =>
    have hb : ∀ e h n sl mi pc r ls st fs, sbody R nw false (fun l => l.all id) (sfin mc ms) (sexec R nw J sn mc ms k) sn e h n sl mi pc r ls st fs = true → SOK sn R nw xs (fun o h => o = .inl (some (.int 1)) ∧ h.length ≤ mc ∧ xhs h ≤ ms) [] e h n sl mi pc r ls st fs := fun e h n sl mi pc r ls st fs hT =>
      sbody_ok (T := fun x => x = true) (by decide) (fun l hl x hx => by have := List.all_eq_true.mp hl x hx; exact this) ih hF (by decide) hsn hT
    intro e h n sl mi pc r ls st fs hT
    have hT : (match (generalizing := false) st with
      | .inr (0, b, _) :: _ => cond (Nat.ble 100 b && Nat.blt b 200) (match sJ J mi pc with
        | some pcj => smerge R nw sn (sexec R nw J sn mc ms k) e h n sl mi pc r ls st fs b pcj
        | none => sbody R nw false (fun l => l.all id) (sfin mc ms) (sexec R nw J sn mc ms k) sn e h n sl mi pc r ls st fs) (sbody R nw false (fun l => l.all id) (sfin mc ms) (sexec R nw J sn mc ms k) sn e h n sl mi pc r ls st fs)
      | _ => sbody R nw false (fun l => l.all id) (sfin mc ms) (sexec R nw J sn mc ms k) sn e h n sl mi pc r ls st fs) = true := hT
    split at hT
    · next b z rest _ =>
      cases hc : (Nat.ble 100 b && Nat.blt b 200) with
      | true =>
        rw [hc, cond_true] at hT
        split at hT
        · exact smerge_ok hsn ih hT
        · exact hb _ _ _ _ _ _ _ _ _ _ hT
      | false =>
        rw [hc, cond_false] at hT
        exact hb _ _ _ _ _ _ _ _ _ _ hT
    · exact hb _ _ _ _ _ _ _ _ _ _ hT
end SK2
