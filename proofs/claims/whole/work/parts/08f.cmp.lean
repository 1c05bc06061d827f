/-! BOUNDS, PARTS, NUMBERS, THE HEAP -/
section SQ
variable {ro : Nat → Int32}
theorem senv_cons (q : Nat × Nat × Nat) (e : SE) (k : Nat) : senv (q :: e) k = cond (Nat.beq q.1 k) q.2 (senv e k) := rfl
theorem sev_cons {e : SE} (he : SEV ro e) {k lo hi : Nat} (h1 : lo ≤ bia (ro k)) (h2 : bia (ro k) ≤ hi) : SEV ro ((k, lo, hi) :: e) := by
  intro j
  rw [senv_cons]
  cases hj : Nat.beq k j with
  | true =>
    cases Nat.eq_of_beq_eq_true hj
    exact ⟨h1, h2⟩
  | false => exact he j
theorem scnt_le (zs : List Nat) : scnt ro zs ≤ zs.length := List.countP_le_length
theorem sint_ok {e : SE} {v : SV} {lo hi : Nat} (he : SEV ro e) (h : sint e v = some (lo, hi)) : ∃ x, sden ro v = .int x ∧ lo ≤ bia x ∧ bia x ≤ hi := by
  unfold sint at h
  split at h
  · next k z =>
    have h := Option.some.inj h
    have := he k
    rw [h] at this
    exact ⟨_, rfl, this.1, this.2⟩
  · next c =>
    obtain ⟨rfl, rfl⟩ := Prod.mk.inj (Option.some.inj h)
    refine ⟨_, rfl, ?_, ?_⟩
    · exact Nat.le_of_eq (bia_of c).symm
    · exact Nat.le_of_eq (bia_of c)
  · next c z zs =>
    cases hb : Nat.blt (Nat.add c (z :: zs).length) 2147483648 with
    | false => rw [hb] at h; cases h
    | true =>
      rw [hb, cond_true] at h
      obtain ⟨rfl, rfl⟩ := Prod.mk.inj (Option.some.inj h)
      have hb : c + (z :: zs).length < 2147483648 := Nat.blt_eq.mp hb
      have hs := scnt_le (ro := ro) (z :: zs)
      have e9 : bia (slin ro c (z :: zs)) = c + scnt ro (z :: zs) + 2147483648 := by
        unfold slin
        rw [bia_of]
        omega
      refine ⟨_, rfl, ?_, ?_⟩
      · rw [e9]; show c + 2147483648 ≤ _; omega
      · rw [e9]; show _ ≤ c + 2147483648 + (z :: zs).length; omega
  · cases h
def sord (x y : Int32) (o : Nat) : Prop := (o = 0 ∧ x < y) ∨ (o = 1 ∧ x = y) ∨ (o = 2 ∧ y < x)
theorem sord_of {x y : Int32} : (bia x < bia y → sord x y 0) ∧ (bia x = bia y → sord x y 1) ∧ (bia y < bia x → sord x y 2) := ⟨fun h => Or.inl ⟨rfl, bia_ltI.mpr h⟩, fun h => Or.inr (Or.inl ⟨rfl, bia_eqI h⟩), fun h => Or.inr (Or.inr ⟨rfl, bia_ltI.mpr h⟩)⟩
variable {β : Type} {T : β → Prop} {bad : β} {many : List β → β}
theorem sparts_ok (hmany : ∀ l, T (many l) → ∀ x ∈ l, T x) {e : SE} (he : SEV ro e) {k lo hi c o0 o2 : Nat} {f : SE → Nat → β} (h : T (spartsK many e k lo hi c o0 o2 f)) (h1 : lo ≤ bia (ro k)) (h2 : bia (ro k) ≤ hi) :
    ∃ e2 o, SEV ro e2 ∧ T (f e2 o) ∧ ((o = o0 ∧ bia (ro k) < c) ∨ (o = 1 ∧ bia (ro k) = c) ∨ (o = o2 ∧ c < bia (ro k))) := by
  have h := hmany _ h
  rcases Nat.lt_trichotomy (bia (ro k)) c with hlt | heq | hgt
  · have hb : Nat.blt lo c = true := Nat.blt_eq.mpr (by omega)
    rw [hb] at h
    have h := h _ (List.mem_append_left _ List.mem_cons_self)
    rw [frc_eq] at h
    exact ⟨_, _, sev_cons he h1 (by show _ ≤ c - 1; omega), h, Or.inl ⟨rfl, hlt⟩⟩
  · have h := h _ (List.mem_append_right _ List.mem_cons_self)
    exact ⟨_, _, sev_cons he (Nat.le_of_eq heq.symm) (Nat.le_of_eq heq), h, Or.inr (Or.inl ⟨rfl, heq⟩)⟩
  · have hb : Nat.blt c hi = true := Nat.blt_eq.mpr (by omega)
    rw [hb] at h
    have h := h _ (List.mem_append_right _ (List.mem_cons_of_mem _ List.mem_cons_self))
    rw [frc_eq] at h
    exact ⟨_, _, sev_cons he (by show c + 1 ≤ _; omega) h2, h, Or.inr (Or.inr ⟨rfl, hgt⟩)⟩
theorem scmp_ok (hbad : ¬ T bad) (hmany : ∀ l, T (many l) → ∀ x ∈ l, T x) {e : SE} (he : SEV ro e) {a b : SV} {f : SE → Nat → β} (h : T (scmpK bad many e a b f)) :
    ∃ x y, sden ro a = .int x ∧ sden ro b = .int y ∧ ∃ e2 o, SEV ro e2 ∧ sord x y o ∧ T (f e2 o) := by
  unfold scmpK at h
  split at h
  · next la ha lb hb h1 h2 =>
    obtain ⟨x, ex, x1, x2⟩ := sint_ok he h1
    obtain ⟨y, ey, y1, y2⟩ := sint_ok he h2
    refine ⟨x, y, ex, ey, ?_⟩
    cases c1 : Nat.blt ha lb with
    | true =>
      rw [c1] at h
      have := Nat.blt_eq.mp c1
      exact ⟨e, 0, he, sord_of.1 (by omega), h⟩
    | false =>
      rw [c1] at h
      cases c2 : Nat.blt hb la with
      | true =>
        rw [c2] at h
        have := Nat.blt_eq.mp c2
        exact ⟨e, 2, he, sord_of.2.2 (by omega), h⟩
      | false =>
        rw [c2] at h
        cases c3 : (Nat.beq la ha && (Nat.beq lb hb && Nat.beq la lb)) with
        | true =>
          rw [c3] at h
          simp only [Bool.and_eq_true] at c3
          have e1 := Nat.eq_of_beq_eq_true c3.1
          have e2 := Nat.eq_of_beq_eq_true c3.2.1
          have e3 := Nat.eq_of_beq_eq_true c3.2.2
          exact ⟨e, 1, he, sord_of.2.1 (by omega), h⟩
        | false =>
          rw [c3] at h
          dsimp only [cond] at h
          split at h
          · next x9 k z =>
            cases c4 : Nat.beq lb hb with
            | false => rw [c4] at h; exact absurd h hbad
            | true =>
              rw [c4] at h
              have h : T (frc lb fun c => spartsK many e k la ha c 0 2 f) := h
              rw [frc_eq] at h
              have e4 := Nat.eq_of_beq_eq_true c4
              cases ex
              obtain ⟨e2, o, k1, k2, k3⟩ := sparts_ok hmany he h x1 x2
              refine ⟨e2, o, k1, ?_, k2⟩
              rcases k3 with ⟨rfl, k3⟩ | ⟨rfl, k3⟩ | ⟨rfl, k3⟩
              · exact sord_of.1 (by omega)
              · exact sord_of.2.1 (by omega)
              · exact sord_of.2.2 (by omega)
          · next k z _ =>
            cases c4 : Nat.beq la ha with
            | false => rw [c4] at h; exact absurd h hbad
            | true =>
              rw [c4] at h
              have h : T (frc la fun c => spartsK many e k lb hb c 2 0 f) := h
              rw [frc_eq] at h
              have e4 := Nat.eq_of_beq_eq_true c4
              cases ey
              obtain ⟨e2, o, k1, k2, k3⟩ := sparts_ok hmany he h y1 y2
              refine ⟨e2, o, k1, ?_, k2⟩
              rcases k3 with ⟨rfl, k3⟩ | ⟨rfl, k3⟩ | ⟨rfl, k3⟩
              · exact sord_of.2.2 (by omega)
              · exact sord_of.2.1 (by omega)
              · exact sord_of.1 (by omega)
          · exact absurd h hbad
  · exact absurd h hbad
theorem snums_mem {lo n x : Nat} (h1 : lo ≤ x) (h2 : x < lo + n) : x ∈ snums lo n := List.mem_map.mpr ⟨x - lo, List.mem_range.mpr (by omega), by omega⟩
theorem scon_ok (hbad : ¬ T bad) (hmany : ∀ l, T (many l) → ∀ x ∈ l, T x) {e : SE} (he : SEV ro e) {v : SV} {A : SE → β} {f : Nat → β} (h : T (sconK bad many e v A f)) :
    (∃ c, sden ro v = .int (Int32.ofNat c) ∧ T (f c)) ∨ ∃ e2, SEV ro e2 ∧ T (A e2) := by
  unfold sconK at h
  split at h
  · exact Or.inl ⟨_, rfl, h⟩
  · next k z =>
    obtain ⟨h1, h2⟩ := he k
    cases c1 : Nat.beq (senv e k).1 (senv e k).2 with
    | true =>
      rw [c1, cond_true, frc_eq] at h
      have e1 := Nat.eq_of_beq_eq_true c1
      refine Or.inl ⟨_, ?_, h⟩
      have : (senv e k).1 = bia (ro k) := by omega
      rw [this]
      exact congrArg Value.int (bia_back (ro k))
    | false =>
      rw [c1, cond_false] at h
      cases c2 : Nat.blt (Nat.sub (senv e k).2 (senv e k).1) 64 with
      | true =>
        rw [c2, cond_true] at h
        have h := hmany _ h _ (List.mem_map.mpr ⟨bia (ro k), snums_mem h1 (by show _ < (senv e k).1 + Nat.succ ((senv e k).2 - (senv e k).1); omega), rfl⟩)
        rw [frc_eq] at h
        exact Or.inr ⟨_, sev_cons he (Nat.le_refl _) (Nat.le_refl _), h⟩
      | false =>
        rw [c2, cond_false] at h
        exact absurd h hbad
  · exact absurd h hbad
theorem sbc_ok {x y : Int32} {o : Nat} (h : sord x y o) : decide (x = y) = sbc .eq o ∧ decide (¬ x = y) = sbc .ne o ∧ decide (x < y) = sbc .lt o ∧ decide (y ≤ x) = sbc .ge o ∧ decide (y < x) = sbc .gt o ∧ decide (x ≤ y) = sbc .le o := by
  have e1 : ∀ a b : Int32, a ≤ b ↔ bia a ≤ bia b := fun a b => by rw [Int32.le_iff_toInt_le, bia_int, bia_int]; omega
  have e2 : x = y ↔ bia x = bia y := ⟨fun z => by rw [z], bia_eqI⟩
  rcases h with ⟨rfl, h⟩ | ⟨rfl, h⟩ | ⟨rfl, h⟩
  · rw [bia_ltI] at h
    exact ⟨decide_eq_false (by rw [e2]; omega), decide_eq_true (by rw [e2]; omega), decide_eq_true (by rw [bia_ltI]; omega), decide_eq_false (by rw [e1]; omega), decide_eq_false (by rw [bia_ltI]; omega), decide_eq_true (by rw [e1]; omega)⟩
  · subst h
    exact ⟨decide_eq_true rfl, decide_eq_false (fun z => z rfl), decide_eq_false (by rw [bia_ltI]; omega), decide_eq_true (by rw [e1]; omega), decide_eq_false (by rw [bia_ltI]; omega), decide_eq_true (by rw [e1]; omega)⟩
  · rw [bia_ltI] at h
    exact ⟨decide_eq_false (by rw [e2]; omega), decide_eq_true (by rw [e2]; omega), decide_eq_false (by rw [bia_ltI]; omega), decide_eq_true (by rw [e1]; omega), decide_eq_true (by rw [bia_ltI]; omega), decide_eq_false (by rw [e1]; omega)⟩
theorem sjmp_ok (hbad : ¬ T bad) {pc : Nat} {off : Int} {f : Nat → β} (h : T (sjmpK bad pc off f)) : ∃ t, T (f t) ∧ ∀ ls st H, xjmp pc off ls st H = some (.inl (t, ls, st, H)) := by
  unfold sjmpK at h
  unfold xjmp
  split at h
  · next t ht =>
    rw [frc_eq] at h
    refine ⟨t, h, fun ls st H => ?_⟩
    rw [ht]
    rfl
  · exact absurd h hbad
theorem sbr_ok (hbad : ¬ T bad) {b : Bool} {pc : Nat} {off : Int} {f : Nat → β} (h : T (sbrK bad b pc off f)) : ∃ t, T (f t) ∧ ∀ ls st H, xbr b pc off ls st H = some (.inl (t, ls, st, H)) := by
  unfold sbrK at h
  unfold xbr
  split at h
  · next t ht =>
    cases b with
    | true =>
      have h : T (frc t f) := h
      rw [frc_eq] at h
      refine ⟨t, h, fun ls st H => ?_⟩
      rw [ht]
      rfl
    | false =>
      have h : T (frc (pc + 3) f) := h
      rw [frc_eq] at h
      refine ⟨pc + 3, h, fun ls st H => ?_⟩
      rw [ht]
      rfl
  · exact absurd h hbad
end SQ
/-! the heap -/
section SHP
theorem hput_ok {β : Type} {T : β → Prop} {bad : β} (hbad : ¬ T bad) {t : SH} {k : Nat} {c : Option SCell} {f : SH → β} (h : T (hputK bad t k c f)) : ∃ t2, T (f t2) ∧ ∀ j x, hget t2 j = some x → (j = k ∧ c = some x) ∨ (¬ j = k ∧ hget t j = some x) := by
  unfold hputK at h
  split at h
  · exact absurd h hbad
  · next a ha =>
    split at h
    · exact absurd h hbad
    · next b hb =>
      split at h
      · exact absurd h hbad
      · next b0 hb0 =>
        rw [lsetK_eq, lsetK_eq, lsetK_eq] at h
        refine ⟨_, h, fun j x hj => ?_⟩
        have la := lget_lt ha
        have lb := lget_lt hb
        have lc := lget_lt hb0
        rw [lget_eq] at ha hb hb0
        have dm : ∀ q : Nat, q = 64 * Nat.div q 64 + 8 * Nat.mod (Nat.div q 8) 8 + Nat.mod q 8 := fun q => by
          show q = 64 * (q / 64) + 8 * (q / 8 % 8) + q % 8
          omega
        unfold hget at hj ⊢
        rw [lget_eq] at hj ⊢
        by_cases e1 : Nat.div j 64 = Nat.div k 64
        · rw [e1, List.getElem?_set_self la] at hj
          dsimp only at hj
          rw [lget_eq] at hj
          by_cases e2 : Nat.mod (Nat.div j 8) 8 = Nat.mod (Nat.div k 8) 8
          · rw [e2, List.getElem?_set_self lb] at hj
            dsimp only at hj
            rw [lget_eq] at hj
            by_cases e3 : Nat.mod j 8 = Nat.mod k 8
            · rw [e3, List.getElem?_set_self lc] at hj
              dsimp only at hj
              exact Or.inl ⟨by rw [dm j, dm k, e1, e2, e3], hj⟩
            · rw [List.getElem?_set_ne (Ne.symm e3)] at hj
              refine Or.inr ⟨fun z => e3 (by rw [z]), ?_⟩
              rw [e1, ha]
              dsimp only
              rw [lget_eq, e2, hb]
              dsimp only
              rw [lget_eq]
              exact hj
          · rw [List.getElem?_set_ne (Ne.symm e2)] at hj
            refine Or.inr ⟨fun z => e2 (by rw [z]), ?_⟩
            rw [e1, ha]
            dsimp only
            rw [lget_eq]
            exact hj
        · rw [List.getElem?_set_ne (Ne.symm e1)] at hj
          exact Or.inr ⟨fun z => e1 (by rw [z]), hj⟩
theorem rset_ok {β : Type} {T : β → Prop} {bad : β} (hbad : ¬ T bad) {row : SRow} {i : Nat} {v : SV} {f : SRow → β} (h : T (rsetK bad row i v f)) : ∃ row2, T (f row2) ∧ ∀ j x, rget row2 j = some x → (j = i ∧ x = v) ∨ (¬ j = i ∧ rget row j = some x) := by
  unfold rsetK at h
  split at h
  · exact absurd h hbad
  · next l hl =>
    have h : T (match lget l (Nat.mod i 8) with
      | none => bad
      | some _ => lsetK l (Nat.mod i 8) v fun l2 => lsetK row (Nat.div i 8) l2 f) := h
    cases hq : lget l (Nat.mod i 8) with
    | none => rw [hq] at h; exact absurd h hbad
    | some w0 =>
    rw [hq] at h
    have h : T (lsetK l (Nat.mod i 8) v fun l2 => lsetK row (Nat.div i 8) l2 f) := h
    rw [lsetK_eq, lsetK_eq] at h
    have hl0 := hl
    rw [lget_eq] at hl
    have la := lget_lt hl0
    have dm : ∀ q : Nat, q = 8 * Nat.div q 8 + Nat.mod q 8 := fun q => by
      show q = 8 * (q / 8) + q % 8
      omega
    refine ⟨_, h, fun j x hj => ?_⟩
    unfold rget at hj ⊢
    rw [lget_eq] at hj ⊢
    by_cases e1 : Nat.div j 8 = Nat.div i 8
    · rw [e1, List.getElem?_set_self la] at hj
      dsimp only at hj
      rw [lget_eq] at hj
      by_cases e2 : Nat.mod j 8 = Nat.mod i 8
      · rw [e2, List.getElem?_set] at hj
        rw [if_pos rfl] at hj
        split at hj
        · cases hj
          exact Or.inl ⟨by rw [dm j, dm i, e1, e2], rfl⟩
        · cases hj
      · rw [List.getElem?_set_ne (Ne.symm e2)] at hj
        refine Or.inr ⟨fun z => e2 (by rw [z]), ?_⟩
        rw [e1, hl]
        dsimp only
        rw [lget_eq]
        exact hj
    · rw [List.getElem?_set_ne (Ne.symm e1)] at hj
      exact Or.inr ⟨fun z => e1 (by rw [z]), hj⟩
theorem rchunk_ok : ∀ (n : Nat) (l : List SV) (i : Nat) (v : SV), rget (schunk n l) i = some v → l[i]? = some v := by
  intro n
  induction n with
  | zero => intro l i v h; cases h
  | succ n ih =>
    intro l i v h
    have h : (match lget (l.take 8 :: schunk n (l.drop 8)) (Nat.div i 8) with
      | none => none
      | some l2 => lget l2 (Nat.mod i 8)) = some v := h
    by_cases hi : i < 8
    · have e1 : Nat.div i 8 = 0 := Nat.div_eq_of_lt hi
      have e2 : Nat.mod i 8 = i := Nat.mod_eq_of_lt hi
      rw [e1, e2] at h
      have h : lget (l.take 8) i = some v := h
      rw [lget_eq, List.getElem?_take_of_lt hi] at h
      exact h
    · have e1 : Nat.div i 8 = Nat.div (i - 8) 8 + 1 := by show i / 8 = (i - 8) / 8 + 1; omega
      have e2 : Nat.mod i 8 = Nat.mod (i - 8) 8 := by show i % 8 = (i - 8) % 8; omega
      rw [e1, e2] at h
      have h3 := ih (l.drop 8) (i - 8) v h
      rw [List.getElem?_drop] at h3
      rw [← h3]
      congr 1
      omega
theorem sfind_cons (q : Nat × SV) (es : List (Nat × SV)) (i : Nat) (d : SV) : sfind (q :: es) i d = cond (Nat.beq q.1 i) q.2 (sfind es i d) := rfl
theorem shas_cons (q : Nat × SV) (es : List (Nat × SV)) (i : Nat) : shas (q :: es) i = cond (Nat.beq q.1 i) true (shas es i) := rfl
theorem sfind_no {es : List (Nat × SV)} {i : Nat} {d : SV} (h : shas es i = false) : sfind es i d = d := by
  induction es with
  | nil => rfl
  | cons q t ih =>
    rw [shas_cons] at h
    rw [sfind_cons]
    cases hq : Nat.beq q.1 i with
    | true => rw [hq] at h; cases h
    | false => rw [hq] at h; exact ih h
theorem sfind_app (a b : List (Nat × SV)) (i : Nat) (d : SV) : sfind (a ++ b) i d = cond (shas a i) (sfind a i d) (sfind b i d) := by
  induction a with
  | nil => rfl
  | cons q t ih =>
    rw [List.cons_append, sfind_cons, ih, shas_cons, sfind_cons]
    cases Nat.beq q.1 i <;> rfl
theorem sfind_mem {es : List (Nat × SV)} {i : Nat} {d : SV} : sfind es i d = d ∨ ∃ q ∈ es, sfind es i d = q.2 := by
  induction es with
  | nil => exact Or.inl rfl
  | cons q t ih =>
    rw [sfind_cons]
    cases hq : Nat.beq q.1 i with
    | true => exact Or.inr ⟨q, List.mem_cons_self, rfl⟩
    | false =>
      rcases ih with h | ⟨q2, h1, h2⟩
      · exact Or.inl h
      · exact Or.inr ⟨q2, List.mem_cons_of_mem _ h1, h2⟩
end SHP
