/-! WHAT ONE SYMBOLIC INSTRUCTION SAYS: branches, the heap, calls -/
section SH1
variable {ro : Nat → Int32} {h h2 : SH} {n sl : Nat} {H : XH}
theorem SHR.obj (hH : SHR ro h n sl H) {k c : Nat} {row : SRow} (hg : hget h k = some (.inl (c, row))) : ∃ vs, xcell H k = some (.inl (c, vs)) ∧ H[k]? = some (some (.inl (c, vs))) ∧ ∀ i v, rget row i = some v → vs[i]? = some (sden ro v) := by
  obtain ⟨C, h1, h2⟩ := hH.2.2.2.2 k _ hg
  match C, h2 with
  | .inl (c2, vs), h2 =>
    obtain ⟨rfl, h3⟩ := h2
    exact ⟨vs, by unfold xcell; rw [h1]; rfl, h1, h3⟩
  | .inr _, h2 => exact absurd h2 id
theorem SHR.arr (hH : SHR ro h n sl H) {k t len : Nat} {d : SV} {es : List (Nat × SV)} {kn : Bool} (hg : hget h k = some (.inr (t, len, d, es, kn))) : ∃ vs, xcell H k = some (.inr (t, vs)) ∧ H[k]? = some (some (.inr (t, vs))) ∧ vs.length = len ∧ (kn = true → ∀ i, i < len → vs[i]? = some (sden ro (sfind es i d))) := by
  obtain ⟨C, h1, h2⟩ := hH.2.2.2.2 k _ hg
  match C, h2 with
  | .inr (c2, vs), h2 =>
    obtain ⟨rfl, h3, h4⟩ := h2
    exact ⟨vs, by unfold xcell; rw [h1]; rfl, h1, h3, h4⟩
  | .inl _, h2 => exact absurd h2 id
theorem SHR.set (hH : SHR ro h n sl H) {k : Nat} {C0 C1 : (Nat × List Value) ⊕ (Nat × List Value)} (h0 : H[k]? = some (some C0)) (hx : xcs (some C1) = xcs (some C0)) (hp : ∀ j x, hget h2 j = some x → (j = k ∧ SCR ro x C1) ∨ (¬ j = k ∧ hget h j = some x)) : SHR ro h2 n sl (H.set k (some C1)) := by
  obtain ⟨a1, a2, a3, a4, a5⟩ := hH
  have hk : ¬ k = 0 := fun z => by rw [z, a3] at h0; cases h0
  have hlt := (List.getElem?_eq_some_iff.mp h0).1
  refine ⟨by rw [List.length_set]; exact a1, by rw [xhs_set H k _ _ h0 hx]; exact a2, by rw [List.getElem?_set_ne hk]; exact a3, a4, fun j x hj => ?_⟩
  rcases hp j x hj with ⟨rfl, h3⟩ | ⟨h3, h4⟩
  · exact ⟨C1, List.getElem?_set_self hlt, h3⟩
  · obtain ⟨C, b1, b2⟩ := a5 j x h4
    exact ⟨C, by rw [List.getElem?_set_ne (Ne.symm h3)]; exact b1, b2⟩
theorem SHR.push (hH : SHR ro h n sl H) {cell : XC} {c : Option SCell} (hc : ∀ x, c = some x → ∃ C, cell = some C ∧ SCR ro x C) (hp : ∀ j x, hget h2 j = some x → (j = n ∧ c = some x) ∨ (¬ j = n ∧ hget h j = some x)) : SHR ro h2 (n + 1) (sl + xcs cell) (H ++ [cell]) := by
  obtain ⟨a1, a2, a3, a4, a5⟩ := hH
  refine ⟨by rw [List.length_append, a1]; rfl, by rw [xhs_app]; omega, by rw [List.getElem?_append_left (by omega)]; exact a3, by omega, fun j x hj => ?_⟩
  rcases hp j x hj with ⟨rfl, h3⟩ | ⟨h3, h4⟩
  · obtain ⟨C, rfl, b2⟩ := hc x h3
    refine ⟨C, ?_, b2⟩
    rw [← a1, List.getElem?_append_right (Nat.le_refl _), Nat.sub_self]
    rfl
  · obtain ⟨C, b1, b2⟩ := a5 j x h4
    exact ⟨C, by rw [List.getElem?_append_left ((List.getElem?_eq_some_iff.mp b1).1)]; exact b1, b2⟩
theorem xin_of {c m : Nat} (h1 : c < m) (h2 : m < 2147483648) : xin (Int32.ofNat c) m = true ∧ (Int32.ofNat c).toNatClampNeg = c := by
  obtain ⟨a, b⟩ := i32_nat (c := c) (by omega)
  refine ⟨?_, b⟩
  unfold xin
  rw [b, Bool.and_eq_true]
  refine ⟨?_, Nat.blt_eq.mpr h1⟩
  rw [decide_eq_false a]
  rfl
theorem xastore_of {a t : Nat} {vs : List Value} {c : Nat} {v : Value} (hc : xcell H a = some (.inr (t, vs))) (h1 : c < vs.length) (h2 : vs.length < 2147483648) : xastore H a (Int32.ofNat c) v t = some (H.set a (some (.inr (t, vs.set c v)))) := by
  obtain ⟨a1, a2⟩ := xin_of h1 h2
  unfold xastore
  rw [hc]
  dsimp only
  rw [if_pos ⟨rfl, a1⟩, a2]
end SH1
section SG2
variable {sn : Nat} {β : Type} {R : XRecs} {nw : List (List Value)} {xs : Nat → Int32} {goal : XO → XH → Prop} {cfs : List XF} {T : β → Prop} {bad : β} {many : List β → β} {fin : SV → Nat → Nat → β}
variable {ih : SE → SH → Nat → Nat → Nat → Nat → XRec → List (Option SV) → List SV → List SF → β} {e : SE} {h : SH} {n sl mi pc : Nat} {r : XRec} {ls : List (Option SV)} {st : List SV} {fs : List SF} {H : XH} {i : Instr}
theorem SCtx.br (C : SCtx sn R nw xs goal cfs T bad many ih e h n sl mi pc r ls st fs H i) {a b : SV} {c : ClassFile.Cond} {o : Int} {rest : List SV} (hT : T (scmpK bad many e a b fun e2 w => sbrK bad (sbc c w) pc o fun pc2 => ih e2 h n sl mi pc2 r ls rest fs))
    (hs : ∀ x y w, sden (srho xs) a = .int x → sden (srho xs) b = .int y → sord x y w → xstep (xPof R nw) (sn, xs) mi pc i (sdl (srho xs) ls) (sds (srho xs) st) H = xbr (sbc c w) pc o (sdl (srho xs) ls) (sds (srho xs) rest) H) : SGoal sn R nw xs goal cfs mi pc ls st fs H := by
  obtain ⟨x, y, ex, ey, e2, w, h1, h2, h3⟩ := scmp_ok C.1 C.2.1 C.2.2.2.1 hT
  obtain ⟨t, ht, hb⟩ := sbr_ok C.1 h3
  exact C.nx ((hs x y w ex ey h2).trans (hb _ _ _)) ht h1 C.2.2.2.2.1
/-- a branch on what is known -/
theorem SCtx.bk (C : SCtx sn R nw xs goal cfs T bad many ih e h n sl mi pc r ls st fs H i) {w : Bool} {o : Int} {rest : List SV} (hT : T (sbrK bad w pc o fun pc2 => ih e h n sl mi pc2 r ls rest fs))
    (hs : xstep (xPof R nw) (sn, xs) mi pc i (sdl (srho xs) ls) (sds (srho xs) st) H = xbr w pc o (sdl (srho xs) ls) (sds (srho xs) rest) H) : SGoal sn R nw xs goal cfs mi pc ls st fs H := by
  obtain ⟨t, ht, hb⟩ := sbr_ok C.1 hT
  exact C.nx (hs.trans (hb _ _ _)) ht C.2.2.2.1 C.2.2.2.2.1
theorem SCtx.ast (C : SCtx sn R nw xs goal cfs T bad many ih e h n sl mi pc r ls st fs H i) {a t0 : Nat} {ix v : SV} {rest : List SV} (hT : T (sastK bad many e h a t0 ix v (fun e2 => ih e2 h n sl mi pc r ls st fs) fun h2 => frc (Nat.succ pc) fun pc2 => ih e h2 n sl mi pc2 r ls rest fs))
    (hs : ∀ x H1, sden (srho xs) ix = .int x → xastore H a x (sden (srho xs) v) t0 = some H1 → xstep (xPof R nw) (sn, xs) mi pc i (sdl (srho xs) ls) (sds (srho xs) st) H = some (.inl (pc + 1, sdl (srho xs) ls, sds (srho xs) rest, H1))) : SGoal sn R nw xs goal cfs mi pc ls st fs H := by
  have hH := C.2.2.2.2.1
  unfold sastK at hT
  split at hT
  · next t len d es kn hg =>
    obtain ⟨vs, c1, c2, c3, c4⟩ := hH.arr hg
    cases ht : Nat.beq t t0 with
    | false => rw [ht] at hT; exact absurd hT C.1
    | true =>
      rw [ht] at hT
      cases Nat.eq_of_beq_eq_true ht
      dsimp only [cond] at hT
      split at hT
      · next c z zs =>
        cases hb : (Nat.blt (Nat.add c (z :: zs).length) len && Nat.blt len 2147483648) with
        | false => rw [hb] at hT; exact absurd hT C.1
        | true =>
          rw [hb] at hT
          simp only [Bool.and_eq_true] at hb
          have b1 : c + (z :: zs).length < len := Nat.blt_eq.mp hb.1
          have b2 := Nat.blt_eq.mp hb.2
          have b3 := scnt_le (ro := srho xs) (z :: zs)
          obtain ⟨t2, ht2, hp⟩ := hput_ok C.1 hT
          rw [frc_eq] at ht2
          refine C.nx (hs _ _ rfl (xastore_of c1 (by rw [c3]; omega) (by rw [c3]; exact b2))) ht2 C.2.2.2.1 (hH.set c2 ?_ ?_)
          · show (vs.set _ _).length = vs.length
            rw [List.length_set]
          · intro j x hj
            rcases hp j x hj with ⟨rfl, e1⟩ | k
            · cases e1
              exact Or.inl ⟨rfl, rfl, by rw [List.length_set]; exact c3, fun z => by cases z⟩
            · exact Or.inr k
      · rcases scon_ok C.1 C.2.1 C.2.2.2.1 hT with ⟨c, hc, hT⟩ | ⟨e2, h1, h2⟩
        · cases hb : (Nat.blt c len && Nat.blt len 2147483648) with
          | false => rw [hb] at hT; exact absurd hT C.1
          | true =>
            rw [hb] at hT
            simp only [Bool.and_eq_true] at hb
            have b1 := Nat.blt_eq.mp hb.1
            have b2 := Nat.blt_eq.mp hb.2
            have hst := hs _ _ hc (xastore_of (v := sden (srho xs) v) c1 (by rw [c3]; exact b1) (by rw [c3]; exact b2))
            have hln : xcs (some (.inr (t0, vs.set c (sden (srho xs) v)))) = xcs (some (.inr (t0, vs))) := by
              show (vs.set _ _).length = vs.length
              rw [List.length_set]
            cases kn with
            | true =>
              dsimp only [cond] at hT
              split at hT
              · next hq =>
                simp only [Bool.and_eq_true, Bool.not_eq_true'] at hq
                rw [frc_eq] at hT
                refine C.nx hst hT C.2.2.2.1 (hH.set c2 hln ?_)
                intro j x hj
                by_cases hja : j = a
                · subst hja
                  cases hg.symm.trans hj
                  refine Or.inl ⟨rfl, rfl, by rw [List.length_set]; exact c3, fun z q hq2 => ?_⟩
                  by_cases hqc : q = c
                  · subst hqc
                    rw [List.getElem?_set_self (by rw [c3]; exact hq2), sfind_no hq.2, seqd_spec hq.1]
                  · rw [List.getElem?_set_ne (Ne.symm hqc)]
                    exact c4 rfl q hq2
                · exact Or.inr ⟨hja, hj⟩
              · obtain ⟨t2, ht2, hp⟩ := hput_ok C.1 hT
                rw [frc_eq] at ht2
                refine C.nx hst ht2 C.2.2.2.1 (hH.set c2 hln ?_)
                intro j x hj
                rcases hp j x hj with ⟨rfl, e1⟩ | k
                · cases e1
                  refine Or.inl ⟨rfl, rfl, by rw [List.length_set]; exact c3, fun z q hq2 => ?_⟩
                  rw [sfind_cons]
                  by_cases hqc : q = c
                  · subst hqc
                    rw [List.getElem?_set_self (by rw [c3]; exact hq2), Nat.beq_refl]
                    rfl
                  · rw [List.getElem?_set_ne (Ne.symm hqc)]
                    have : Nat.beq c q = false := Bool.eq_false_iff.mpr fun z => hqc (Nat.eq_of_beq_eq_true z).symm
                    show _ = some (sden (srho xs) (cond (Nat.beq c q) v (sfind es q d)))
                    rw [this]
                    exact c4 rfl q hq2
                · exact Or.inr k
            | false =>
              have hT : T (frc (Nat.succ pc) fun pc2 => ih e h n sl mi pc2 r ls rest fs) := hT
              rw [frc_eq] at hT
              refine C.nx hst hT C.2.2.2.1 (hH.set c2 hln ?_)
              intro j x hj
              by_cases hja : j = a
              · subst hja
                cases hg.symm.trans hj
                exact Or.inl ⟨rfl, rfl, by rw [List.length_set]; exact c3, fun z => by cases z⟩
              · exact Or.inr ⟨hja, hj⟩
        · exact C.ag h1 h2
  · exact absurd hT C.1
theorem SCtx.ald (C : SCtx sn R nw xs goal cfs T bad many ih e h n sl mi pc r ls st fs H i) {ok : Nat → Bool} (hT : T (saldK bad many sn e h st ok (fun e2 => ih e2 h n sl mi pc r ls st fs) fun v rest => frc (Nat.add pc 1) fun pc2 => ih e h n sl mi pc2 r ls (v :: rest) fs))
    (hs : xstep (xPof R nw) (sn, xs) mi pc i (sdl (srho xs) ls) (sds (srho xs) st) H = xaload (sn, xs) pc (sdl (srho xs) ls) (sds (srho xs) st) H fun t _ => ok t) : SGoal sn R nw xs goal cfs mi pc ls st fs H := by
  have hH := C.2.2.2.2.1
  unfold saldK at hT
  split at hT
  · next ix a rest =>
    have key : ∀ x w, sden (srho xs) ix = .int x → xload (sn, xs) H a x = some w → ok (xkind H a) = true → xstep (xPof R nw) (sn, xs) mi pc i (sdl (srho xs) ls) (sds (srho xs) (ix :: .inl (.ref a) :: rest)) H = some (.inl (pc + 1, sdl (srho xs) ls, w :: sds (srho xs) rest, H)) := by
      intro x w h1 h2 h3
      rw [hs]
      show xaload _ _ _ (sden (srho xs) ix :: .ref a :: sds (srho xs) rest) _ _ = _
      rw [h1]
      show (match xload (sn, xs) H a x with
        | some v => if ok (xkind H a) = true then xnx (pc + 1) (sdl (srho xs) ls) (v :: sds (srho xs) rest) H else none
        | none => none) = _
      rw [h2]
      dsimp only
      rw [if_pos h3]
      rfl
    cases a with
    | zero =>
      have hT : T (sconK bad many e ix (fun e2 => ih e2 h n sl mi pc r ls (ix :: .inl (.ref 0) :: rest) fs) fun i => cond (Nat.blt i sn && (Nat.blt i 6 && ok 0)) (frc i fun i1 => frc (Nat.add pc 1) fun pc2 => ih e h n sl mi pc2 r ls (.inr (0, i1, []) :: rest) fs) bad) := hT
      rcases scon_ok C.1 C.2.1 C.2.2.2.1 hT with ⟨c, hc, hT⟩ | ⟨e2, h1, h2⟩
      · cases hb : (Nat.blt c sn && (Nat.blt c 6 && ok 0)) with
        | false => rw [hb] at hT; exact absurd hT C.1
        | true =>
          rw [hb] at hT
          have hT : T (frc c fun i1 => frc (Nat.add pc 1) fun pc2 => ih e h n sl mi pc2 r ls (.inr (0, i1, []) :: rest) fs) := hT
          rw [frc_eq] at hT
          simp only [Bool.and_eq_true] at hb
          have b1 := Nat.blt_eq.mp hb.1
          have b6 := Nat.blt_eq.mp hb.2.1
          have hsn := C.2.2.2.2.2.2.2.2.2
          obtain ⟨a1, a2⟩ := xin_of b1 (show sn < 2147483648 by omega)
          have h0 : xcell H 0 = none := by unfold xcell; rw [hH.2.2.1]; rfl
          refine C.g hT (key _ _ hc ?_ ?_)
          · show (if xin (Int32.ofNat c) sn = true then some (Value.int (xs (Int32.ofNat c).toNatClampNeg)) else none) = some (Value.int (srho xs c))
            rw [if_pos a1, a2]
            unfold srho
            rw [if_pos b6]
          · unfold xkind
            rw [h0]
            exact hb.2.2
      · exact C.ag h1 h2
    | succ a =>
      have hT : T (match hget h (a + 1) with
        | some (.inr (t, len, d, es, true)) => sconK bad many e ix (fun e2 => ih e2 h n sl mi pc r ls (ix :: .inl (.ref (a + 1)) :: rest) fs) fun i => cond (Nat.blt i len && (Nat.blt len 2147483648 && ok t)) (frc (Nat.add pc 1) fun pc2 => ih e h n sl mi pc2 r ls (sfind es i d :: rest) fs) bad
        | _ => bad) := hT
      split at hT
      · next t len d es hg =>
        obtain ⟨vs, c1, c2, c3, c4⟩ := hH.arr hg
        rcases scon_ok C.1 C.2.1 C.2.2.2.1 hT with ⟨c, hc, hT⟩ | ⟨e2, h1, h2⟩
        · cases hb : (Nat.blt c len && (Nat.blt len 2147483648 && ok t)) with
          | false => rw [hb] at hT; exact absurd hT C.1
          | true =>
            rw [hb, cond_true] at hT
            simp only [Bool.and_eq_true] at hb
            have b1 := Nat.blt_eq.mp hb.1
            have b2 := Nat.blt_eq.mp hb.2.1
            obtain ⟨a1, a2⟩ := xin_of b1 b2
            refine C.g hT (key _ _ hc ?_ ?_)
            · show (match xcell H (a + 1) with
                | some (.inr (_, vs)) => if xin (Int32.ofNat c) vs.length = true then vs[(Int32.ofNat c).toNatClampNeg]? else none
                | _ => none) = _
              rw [c1]
              dsimp only
              rw [c3, if_pos a1, a2]
              exact c4 rfl c b1
            · unfold xkind
              rw [c1]
              exact hb.2.2
        · exact C.ag h1 h2
      · exact absurd hT C.1
  · exact absurd hT C.1
theorem SCtx.newa (C : SCtx sn R nw xs goal cfs T bad many ih e h n sl mi pc r ls st fs H i) {t len : Nat} {d : SV} (hT : T (snewK bad many e h n sl st t d (fun e2 => ih e2 h n sl mi pc r ls st fs) fun h2 n2 sl2 st2 => frc (Nat.add pc len) fun pc2 => ih e h2 n2 sl2 mi pc2 r ls st2 fs))
    (hs : xstep (xPof R nw) (sn, xs) mi pc i (sdl (srho xs) ls) (sds (srho xs) st) H = xnewarr pc len t (sden (srho xs) d) (sdl (srho xs) ls) (sds (srho xs) st) H) : SGoal sn R nw xs goal cfs mi pc ls st fs H := by
  have hH := C.2.2.2.2.1
  unfold snewK at hT
  split at hT
  · next cv rest =>
    rcases scon_ok C.1 C.2.1 C.2.2.2.1 hT with ⟨c, hc, hT⟩ | ⟨e2, h1, h2⟩
    · cases hb : Nat.blt c 67108864 with
      | false => rw [hb] at hT; exact absurd hT C.1
      | true =>
        rw [hb] at hT
        have b1 := Nat.blt_eq.mp hb
        obtain ⟨t2, ht2, hp⟩ := hput_ok C.1 hT
        rw [frc_eq, frc_eq] at ht2
        have ht2 : T (frc (Nat.add pc len) fun pc2 => ih e t2 (Nat.succ n) (Nat.add sl c) mi pc2 r ls (.inl (.ref n) :: rest) fs) := ht2
        rw [frc_eq] at ht2
        obtain ⟨a1, a2⟩ := i32_nat (c := c) (by omega)
        have hx : xnewarr pc len t (sden (srho xs) d) (sdl (srho xs) ls) (sds (srho xs) (cv :: rest)) H = some (.inl (pc + len, sdl (srho xs) ls, sds (srho xs) (.inl (.ref n) :: rest), H ++ [some (.inr (t, List.replicate c (sden (srho xs) d)))])) := by
          show xnewarr _ _ _ _ _ (sden (srho xs) cv :: sds (srho xs) rest) _ = _
          rw [hc]
          show (if Int32.ofNat c < 0 then none else if Nat.blt (Int32.ofNat c).toNatClampNeg 67108864 then _ else none) = _
          rw [if_neg a1, a2, if_pos hb]
          show some (Sum.inl (_, _, Value.ref H.length :: _, _)) = some (Sum.inl (_, _, Value.ref n :: _, _))
          rw [hH.1]
          rfl
        have hsz : xcs (some (.inr (t, List.replicate c (sden (srho xs) d)))) = c := List.length_replicate
        have hH2 := hH.push (cell := some (.inr (t, List.replicate c (sden (srho xs) d)))) (c := some (.inr (t, c, d, [], true))) (h2 := t2) (fun x hx => by
          cases hx
          exact ⟨_, rfl, rfl, List.length_replicate, fun _ q hq => by rw [List.getElem?_replicate, if_pos hq]; rfl⟩) hp
        rw [hsz] at hH2
        exact C.nx (hs.trans hx) ht2 C.2.2.2.1 hH2
    · exact C.ag h1 h2
  · exact absurd hT C.1
theorem sret_fin (hbad : ¬ T bad) (hI : SIH sn R nw xs goal cfs T ih) (hF : SFN sn R nw xs goal cfs T fin) {v : Option SV} (hT : T (sretK bad fin ih e h n sl v fs)) (he : SEV (srho xs) e) (hH : SHR (srho xs) h n sl H) (hf : ∀ f ∈ fs, xfind R f.1 = some f.2.2.1) :
    XFin (xPof R nw) (sn, xs) goal (fs.map (sdf (srho xs)) ++ cfs) (.inl (v.map (sden (srho xs)))) H := by
  unfold sretK at hT
  cases fs with
  | nil =>
    cases v with
    | none => exact absurd hT hbad
    | some v => exact hF v n sl hT H hH.1 hH.2.1
  | cons f fs2 =>
    cases v with
    | none =>
      have hT : T (frc (Nat.add f.2.1 3) fun pc => ih e h n sl f.1 pc f.2.2.1 f.2.2.2.1 f.2.2.2.2 fs2) := hT
      rw [frc_eq] at hT
      exact hI _ _ _ _ _ _ _ _ _ _ hT he H hH (hf f List.mem_cons_self) (fun q hq => hf q (List.mem_cons_of_mem _ hq))
    | some v =>
      have hT : T (frc (Nat.add f.2.1 3) fun pc => ih e h n sl f.1 pc f.2.2.1 f.2.2.2.1 (v :: f.2.2.2.2) fs2) := hT
      rw [frc_eq] at hT
      exact hI _ _ _ _ _ _ _ _ _ _ hT he H hH (hf f List.mem_cons_self) (fun q hq => hf q (List.mem_cons_of_mem _ hq))
theorem xhand_len {P : XP} {M : XM} {l1 l2 : XL} {x : Nat} (hl : l1.length = l2.length) : xhand P mi M l1 pc x = xhand P mi M l2 pc x := by
  unfold xhand
  rw [hl]
theorem sthr_fin (hbad : ¬ T bad) (hI : SIH sn R nw xs goal cfs T ih) (hF : SFN sn R nw xs goal cfs T fin) {x : Nat} (he : SEV (srho xs) e) (hH : SHR (srho xs) h n sl H) : ∀ fs : List SF, T (sthrK R nw bad fin ih e h n sl x fs) → (∀ f ∈ fs, xfind R f.1 = some f.2.2.1) →
    XFin (xPof R nw) (sn, xs) goal (fs.map (sdf (srho xs)) ++ cfs) (.inr x) H := by
  intro fs
  induction fs with
  | nil => intro hT _; exact absurd hT hbad
  | cons f fs2 ihf =>
    intro hT hf
    have hm := s_meth (nw := nw) (hf f List.mem_cons_self)
    have hf2 : ∀ q ∈ fs2, xfind R q.1 = some q.2.2.1 := fun q hq => hf q (List.mem_cons_of_mem _ hq)
    have hT : T (match f.2.2.1.1.hh with
      | [] => sthrK R nw bad fin ih e h n sl x fs2
      | _ :: _ => match xhand (xPof R nw) f.1 f.2.2.1.1 (List.replicate f.2.2.2.1.length none) f.2.1 x with
        | some k => cond (xokr f.2.2.1.1.ret (some (.int k))) (sciK k fun v => sretK bad fin ih e h n sl (some v) fs2) bad
        | none => bad) := hT
    refine ⟨f.2.2.1.1, hm, ?_⟩
    split at hT
    · next hh => exact Or.inl ⟨hh, ihf hT hf2⟩
    · next q qs hh =>
      split at hT
      · next k hk =>
        cases hr : xokr f.2.2.1.1.ret (some (.int k)) with
        | false => rw [hr] at hT; exact absurd hT hbad
        | true =>
          rw [hr] at hT
          have hT : T (sciK k fun v => sretK bad fin ih e h n sl (some v) fs2) := hT
          unfold sciK at hT
          rw [frc_eq] at hT
          refine Or.inr ⟨by rw [hh]; exact List.cons_ne_nil _ _, k, ?_, hr, ?_⟩
          · rw [← hk]
            exact xhand_len (by rw [List.length_replicate]; exact sdl_len _)
          · have := sret_fin hbad hI hF hT he hH hf2
            rw [Option.map_some, sden_i] at this
            exact this
      · exact absurd hT hbad
theorem spop_ok : ∀ (k : Nat) (st acc : List SV) (f : List SV → List SV → β), T (Nat.rec (motive := fun _ => List SV → List SV → β) (fun st acc => f acc st) (fun _ ih st acc => match st with
    | [] => bad
    | v :: r => ih r (v :: acc)) k st acc) → ¬ T bad → ∃ a rest, st = a ++ rest ∧ a.length = k ∧ T (f (a.reverse ++ acc) rest) := by
  intro k
  induction k with
  | zero => intro st acc f hT _; exact ⟨[], st, rfl, rfl, hT⟩
  | succ k ihk =>
    intro st acc f hT hb
    cases st with
    | nil => exact absurd hT hb
    | cons v rest =>
      obtain ⟨a, rest2, e1, e2, e3⟩ := ihk rest (v :: acc) f hT hb
      refine ⟨v :: a, rest2, by rw [e1]; rfl, by rw [List.length_cons, e2], ?_⟩
      rw [List.reverse_cons, List.append_assoc]
      exact e3
theorem sent_ok (hbad : ¬ T bad) : ∀ (av : List SV) (m : Nat) (k : List (Option SV) → β), T (sentK bad av m k) → ∃ l, T (k l) ∧ (xargs (sds (srho xs) av)).length ≤ m ∧ sdl (srho xs) l = xargs (sds (srho xs) av) ++ List.replicate (m - (xargs (sds (srho xs) av)).length) none := by
  intro av
  induction av with
  | nil => intro m k hT; exact ⟨List.replicate m none, hT, Nat.zero_le _, by show (List.replicate m none).map _ = _; rw [List.map_replicate]; rfl⟩
  | cons v t ihv =>
    intro m k hT
    cases m with
    | zero => exact absurd hT hbad
    | succ m =>
      have hT : T (cond (swide v) (Nat.rec (motive := fun _ => β) bad (fun m2 _ => sentK bad t m2 (fun l => k (some v :: none :: l))) m) (sentK bad t m (fun l => k (some v :: l)))) := hT
      cases hw : swide v with
      | true =>
        rw [hw] at hT
        cases m with
        | zero => exact absurd hT hbad
        | succ m =>
          have hT : T (sentK bad t m (fun l => k (some v :: none :: l))) := hT
          obtain ⟨l, h1, h2, h3⟩ := ihv m _ hT
          have ex : xargs (sds (srho xs) (v :: t)) = some (sden (srho xs) v) :: none :: xargs (sds (srho xs) t) := by
            show xargs (sden (srho xs) v :: sds (srho xs) t) = _
            rcases swide_t (ro := srho xs) hw with ⟨x, hx⟩ | ⟨x, hx⟩
            · rw [hx]; rfl
            · rw [hx]; rfl
          refine ⟨_, h1, by rw [ex]; show _ + 1 + 1 ≤ _; omega, ?_⟩
          rw [ex]
          show some (sden (srho xs) v) :: none :: sdl (srho xs) l = some (sden (srho xs) v) :: none :: (xargs (sds (srho xs) t) ++ List.replicate (m + 1 + 1 - ((xargs (sds (srho xs) t)).length + 1 + 1)) none)
          rw [h3]
          congr 4
          omega
      | false =>
        rw [hw] at hT
        have hT : T (sentK bad t m (fun l => k (some v :: l))) := hT
        obtain ⟨l, h1, h2, h3⟩ := ihv m _ hT
        have ex : xargs (sds (srho xs) (v :: t)) = some (sden (srho xs) v) :: xargs (sds (srho xs) t) := by
          show xargs (sden (srho xs) v :: sds (srho xs) t) = _
          have hc := swide_f (ro := srho xs) hw
          cases hd : sden (srho xs) v with
          | long x => rw [hd] at hc; cases hc
          | double x => rw [hd] at hc; cases hc
          | _ => rfl
        refine ⟨_, h1, by rw [ex]; show _ + 1 ≤ _; omega, ?_⟩
        rw [ex]
        show some (sden (srho xs) v) :: sdl (srho xs) l = some (sden (srho xs) v) :: (xargs (sds (srho xs) t) ++ List.replicate (m + 1 - ((xargs (sds (srho xs) t)).length + 1)) none)
        rw [h3]
        congr 3
        omega
theorem SCtx.call (C : SCtx sn R nw xs goal cfs T bad many ih e h n sl mi pc r ls st fs H i) {j code : Nat} {ty : FieldType} {v0 : Value} (hT : T (scallK R bad ih e h n sl mi pc r ls st fs j code))
    (hs : xstep (xPof R nw) (sn, xs) mi pc i (sdl (srho xs) ls) (sds (srho xs) st) H = xcall (xPof R nw) (1, j, code, ty, v0) (sds (srho xs) st) H) : SGoal sn R nw xs goal cfs mi pc ls st fs H := by
  have hH := C.2.2.2.2.1
  unfold scallK at hT
  split at hT
  · exact absurd hT C.1
  · next r2 hr2 =>
    rw [qfind_eq] at hr2
    have hM2 := s_meth (nw := nw) hr2
    obtain ⟨a, rest, e1, e2, hT⟩ := spop_ok r2.1.nargs st [] _ hT C.1
    rw [List.append_nil] at hT
    cases hb : (Nat.ble (ssum rest) 8 && slenb fs 100) with
    | false => rw [hb] at hT; exact absurd hT C.1
    | true =>
      rw [hb] at hT
      dsimp only [cond] at hT
      simp only [Bool.and_eq_true] at hb
      have b1 := Nat.le_of_ble_eq_true hb.1
      have b2 : fs.length < 100 := Nat.blt_eq.mp hb.2
      split at hT
      · next hcode =>
        obtain ⟨l0, h1, h2, h3⟩ := sent_ok (xs := xs) C.1 _ _ _ hT
        have hsp : xsplit r2.1.nargs (sds (srho xs) st) = some (sds (srho xs) a.reverse, sds (srho xs) rest) := by
          subst e1
          unfold xsplit sds
          rw [if_pos (by rw [List.length_map, List.length_append]; omega)]
          rw [List.map_append, List.take_left' (by rw [List.length_map]; exact e2), List.drop_left' (by rw [List.length_map]; exact e2), List.map_reverse]
        have hxe : xentry r2.1.maxL (sds (srho xs) a.reverse) = some (sdl (srho xs) l0) := by
          unfold xentry
          rw [if_pos h2, h3]
        have hcall : xcall (xPof R nw) (1, j, code, ty, v0) (sds (srho xs) st) H = some (.inr (.inr (.inl (j, sds (srho xs) a.reverse, sds (srho xs) rest)))) := by
          unfold xcall
          rw [show (xPof R nw).meth (1, j, code, ty, v0).2.1 = some r2.1 from hM2]
          dsimp only
          rw [hsp]
          dsimp only
          rw [if_neg (by rw [ssum_spec]; omega)]
          match code, hcode with
          | 0, _ => rfl
          | 1, hc =>
            dsimp only at hc ⊢
            split at hc
            · next x y z hz => rw [hz]; rfl
            · cases hc
          | c + 2, hc =>
            dsimp only at hc ⊢
            split at hc
            · next k As hz =>
              rw [hz]
              split at hc
              · next c2 row hg =>
                obtain ⟨vs, d1, -, -⟩ := hH.obj hg
                show (match xcell H k with
                  | some (.inl (c3, _)) => if c3 = c then _ else none
                  | _ => none) = _
                rw [d1]
                dsimp only
                rw [if_pos (Nat.eq_of_beq_eq_true hc)]
              · cases hc
            · cases hc
        refine xr_call C.2.2.2.2.2.2.2.1 (hs.trans hcall) (s_meth C.2.2.2.2.2.1) hM2 hxe ?_ ?_
        · rw [List.length_append, List.length_map]
          have := C.2.2.2.2.2.2.2.2.1
          omega
        · exact C.2.2.1 _ _ _ _ _ _ _ _ _ _ h1 C.2.2.2.1 H hH hr2 (fun f hf => (List.mem_cons.mp hf).elim (fun z => by rw [z]; exact C.2.2.2.2.2.1) (C.2.2.2.2.2.2.1 f))
      · exact absurd hT C.1
end SG2
