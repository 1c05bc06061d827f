/-! WHAT ONE SYMBOLIC INSTRUCTION SAYS: the frame of it -/
section SG
def SOK (sn : Nat) (R : XRecs) (nw : List (List Value)) (xs : Nat → Int32) (goal : XO → XH → Prop) (cfs : List XF) (e : SE) (h : SH) (n sl mi pc : Nat) (r : XRec) (ls : List (Option SV)) (st : List SV) (fs : List SF) : Prop :=
  SEV (srho xs) e → ∀ H, SHR (srho xs) h n sl H → xfind R mi = some r → (∀ f ∈ fs, xfind R f.1 = some f.2.2.1) → XRun (xPof R nw) (sn, xs) goal (fs.map (sdf (srho xs)) ++ cfs) mi pc (sdl (srho xs) ls) (sds (srho xs) st) H
def SIH {β : Type} (sn : Nat) (R : XRecs) (nw : List (List Value)) (xs : Nat → Int32) (goal : XO → XH → Prop) (cfs : List XF) (T : β → Prop) (ih : SE → SH → Nat → Nat → Nat → Nat → XRec → List (Option SV) → List SV → List SF → β) : Prop :=
  ∀ e h n sl mi pc r ls st fs, T (ih e h n sl mi pc r ls st fs) → SOK sn R nw xs goal cfs e h n sl mi pc r ls st fs
def SFN {β : Type} (sn : Nat) (R : XRecs) (nw : List (List Value)) (xs : Nat → Int32) (goal : XO → XH → Prop) (cfs : List XF) (T : β → Prop) (fin : SV → Nat → Nat → β) : Prop :=
  ∀ v n sl, T (fin v n sl) → ∀ H, H.length = n → xhs H ≤ sl → XFin (xPof R nw) (sn, xs) goal cfs (.inl (some (sden (srho xs) v))) H
/-- all that is known where an instruction stands -/
def SCtx {β : Type} (sn : Nat) (R : XRecs) (nw : List (List Value)) (xs : Nat → Int32) (goal : XO → XH → Prop) (cfs : List XF) (T : β → Prop) (bad : β) (many : List β → β) (ih : SE → SH → Nat → Nat → Nat → Nat → XRec → List (Option SV) → List SV → List SF → β) (e : SE) (h : SH) (n sl mi pc : Nat) (r : XRec) (ls : List (Option SV)) (st : List SV) (fs : List SF) (H : XH) (i : Instr) : Prop :=
  ¬ T bad ∧ (∀ l, T (many l) → ∀ x ∈ l, T x) ∧ SIH sn R nw xs goal cfs T ih ∧ SEV (srho xs) e ∧ SHR (srho xs) h n sl H ∧ xfind R mi = some r ∧ (∀ f ∈ fs, xfind R f.1 = some f.2.2.1) ∧ (xPof R nw).code mi pc = some i ∧ cfs.length ≤ 800 ∧ sn ≤ 6
variable {sn : Nat} {β : Type} {R : XRecs} {nw : List (List Value)} {xs : Nat → Int32} {goal : XO → XH → Prop} {cfs : List XF} {T : β → Prop} {bad : β} {many : List β → β} {fin : SV → Nat → Nat → β}
variable {ih : SE → SH → Nat → Nat → Nat → Nat → XRec → List (Option SV) → List SV → List SF → β} {e : SE} {h : SH} {n sl mi pc : Nat} {r : XRec} {ls : List (Option SV)} {st : List SV} {fs : List SF} {H : XH} {i : Instr}
abbrev SGoal (sn : Nat) (R : XRecs) (nw : List (List Value)) (xs : Nat → Int32) (goal : XO → XH → Prop) (cfs : List XF) (mi pc : Nat) (ls : List (Option SV)) (st : List SV) (fs : List SF) (H : XH) : Prop := XRun (xPof R nw) (sn, xs) goal (fs.map (sdf (srho xs)) ++ cfs) mi pc (sdl (srho xs) ls) (sds (srho xs) st) H
theorem s_code (hr : xfind R mi = some r) {q : Instr × Nat} (hq : qfind r.2.1 pc = some q) : (xPof R nw).code mi pc = some q.1 := by
  show (match xfind R mi with
    | some r => (xfind r.2.1 pc).map Prod.fst
    | none => none) = _
  rw [qfind_eq] at hq
  rw [hr]
  dsimp only
  rw [hq]
  rfl
theorem s_site (hr : xfind R mi = some r) {k : Nat} {S : XS} (hq : qfind r.2.2 k = some S) : (xPof R nw).site mi k = some S := by
  show (match xfind R mi with
    | some r => xfind r.2.2 k
    | none => none) = _
  rw [qfind_eq] at hq
  rw [hr]
  dsimp only
  rw [hq]
theorem s_meth (hr : xfind R mi = some r) : (xPof R nw).meth mi = some r.1 := by
  show (xfind R mi).map Prod.fst = _
  rw [hr]
  rfl
/-- the same place once more, under closer bounds -/
theorem SCtx.ag (C : SCtx sn R nw xs goal cfs T bad many ih e h n sl mi pc r ls st fs H i) {e2 : SE} (h1 : SEV (srho xs) e2) (h2 : T (ih e2 h n sl mi pc r ls st fs)) : SGoal sn R nw xs goal cfs mi pc ls st fs H :=
  C.2.2.1 _ _ _ _ _ _ _ _ _ _ h2 h1 H C.2.2.2.2.1 C.2.2.2.2.2.1 C.2.2.2.2.2.2.1
/-- a step to the next place -/
theorem SCtx.nx (C : SCtx sn R nw xs goal cfs T bad many ih e h n sl mi pc r ls st fs H i) {e2 : SE} {h2 : SH} {n2 sl2 pc2 : Nat} {ls2 : List (Option SV)} {st2 : List SV} {H2 : XH} (hs : xstep (xPof R nw) (sn, xs) mi pc i (sdl (srho xs) ls) (sds (srho xs) st) H = some (.inl (pc2, sdl (srho xs) ls2, sds (srho xs) st2, H2)))
    (hT : T (ih e2 h2 n2 sl2 mi pc2 r ls2 st2 fs)) (he : SEV (srho xs) e2) (hH : SHR (srho xs) h2 n2 sl2 H2) : SGoal sn R nw xs goal cfs mi pc ls st fs H :=
  xr_next C.2.2.2.2.2.2.2.1 hs (C.2.2.1 _ _ _ _ _ _ _ _ _ _ hT he H2 hH C.2.2.2.2.2.1 C.2.2.2.2.2.2.1)
/-- the heap and the bounds stay -/
theorem SCtx.g (C : SCtx sn R nw xs goal cfs T bad many ih e h n sl mi pc r ls st fs H i) {len : Nat} {ls2 : List (Option SV)} {st2 : List SV} (hT : T (frc (Nat.add pc len) fun pc2 => ih e h n sl mi pc2 r ls2 st2 fs))
    (hs : xstep (xPof R nw) (sn, xs) mi pc i (sdl (srho xs) ls) (sds (srho xs) st) H = some (.inl (pc + len, sdl (srho xs) ls2, sds (srho xs) st2, H))) : SGoal sn R nw xs goal cfs mi pc ls st fs H := by
  rw [frc_eq] at hT
  exact C.nx hs hT C.2.2.2.1 C.2.2.2.2.1
theorem SCtx.ci (C : SCtx sn R nw xs goal cfs T bad many ih e h n sl mi pc r ls st fs H i) {len : Nat} {x : Int32} {rest : List SV} (hT : T (sciK x fun v => frc (Nat.add pc len) fun pc2 => ih e h n sl mi pc2 r ls (v :: rest) fs))
    (hs : xstep (xPof R nw) (sn, xs) mi pc i (sdl (srho xs) ls) (sds (srho xs) st) H = some (.inl (pc + len, sdl (srho xs) ls, .int x :: sds (srho xs) rest, H))) : SGoal sn R nw xs goal cfs mi pc ls st fs H := by
  unfold sciK at hT
  rw [frc_eq] at hT
  refine C.g hT (hs.trans ?_)
  show _ = some (Sum.inl (pc + len, _, sden (srho xs) (.inr (1, x.toUInt32.toNat, [])) :: sds (srho xs) rest, H))
  rw [sden_i]
theorem SCtx.cl (C : SCtx sn R nw xs goal cfs T bad many ih e h n sl mi pc r ls st fs H i) {len : Nat} {x : Int64} {rest : List SV} (hT : T (sclK x fun v => frc (Nat.add pc len) fun pc2 => ih e h n sl mi pc2 r ls (v :: rest) fs))
    (hs : xstep (xPof R nw) (sn, xs) mi pc i (sdl (srho xs) ls) (sds (srho xs) st) H = some (.inl (pc + len, sdl (srho xs) ls, .long x :: sds (srho xs) rest, H))) : SGoal sn R nw xs goal cfs mi pc ls st fs H := by
  unfold sclK at hT
  rw [frc_eq] at hT
  refine C.g hT (hs.trans ?_)
  show _ = some (Sum.inl (pc + len, _, sden (srho xs) (.inl (.long (Int64.ofNat x.toUInt64.toNat))) :: sds (srho xs) rest, H))
  rw [sden_l]
theorem SCtx.ld (C : SCtx sn R nw xs goal cfs T bad many ih e h n sl mi pc r ls st fs H i) {k kd len : Nat} (hT : T (sldK bad ls k kd fun v => frc (Nat.add pc len) fun pc2 => ih e h n sl mi pc2 r ls (v :: st) fs))
    (hs : ∀ v, lget ls k = some (some v) → skd v = kd → xstep (xPof R nw) (sn, xs) mi pc i (sdl (srho xs) ls) (sds (srho xs) st) H = some (.inl (pc + len, sdl (srho xs) ls, sden (srho xs) v :: sds (srho xs) st, H))) : SGoal sn R nw xs goal cfs mi pc ls st fs H := by
  unfold sldK at hT
  split at hT
  · next v hv =>
    cases hk : Nat.beq (skd v) kd with
    | false => rw [hk] at hT; exact absurd hT C.1
    | true =>
      rw [hk] at hT
      exact C.g hT (hs v hv (Nat.eq_of_beq_eq_true hk))
  · exact absurd hT C.1
theorem e_ldi {ro : Nat → Int32} {k : Nat} {v : SV} (h1 : lget ls k = some (some v)) (h2 : skd v = 0) (pc : Nat) (st : List Value) (H : XH) : xldi (sdl ro ls) k pc st H = some (.inl (pc, sdl ro ls, sden ro v :: st, H)) := by
  obtain ⟨x, hx⟩ := skd_0 (ro := ro) h2
  unfold xldi
  rw [sdl_xget h1, hx]
  rfl
theorem e_ldl {ro : Nat → Int32} {k : Nat} {v : SV} (h1 : lget ls k = some (some v)) (h2 : skd v = 1) (pc : Nat) (st : List Value) (H : XH) : xldl (sdl ro ls) k pc st H = some (.inl (pc, sdl ro ls, sden ro v :: st, H)) := by
  obtain ⟨x, hx⟩ := skd_1 (ro := ro) h2
  unfold xldl
  rw [sdl_xget h1, hx]
  rfl
theorem e_ldd {ro : Nat → Int32} {k : Nat} {v : SV} (h1 : lget ls k = some (some v)) (h2 : skd v = 4) (pc : Nat) (st : List Value) (H : XH) : xldd (sdl ro ls) k pc st H = some (.inl (pc, sdl ro ls, sden ro v :: st, H)) := by
  obtain ⟨x, hx⟩ := skd_4 (ro := ro) h2
  unfold xldd
  rw [sdl_xget h1, hx]
  rfl
theorem e_lda {ro : Nat → Int32} {k : Nat} {v : SV} (h1 : lget ls k = some (some v)) (h2 : skd v = 2) (pc : Nat) (st : List Value) (H : XH) : xlda (sdl ro ls) k pc st H = some (.inl (pc, sdl ro ls, sden ro v :: st, H)) := by
  unfold xlda
  rw [sdl_xget h1]
  rcases skd_2 (ro := ro) h2 with hx | ⟨x, hx⟩
  · rw [hx]; rfl
  · rw [hx]; rfl
theorem SCtx.s1 (C : SCtx sn R nw xs goal cfs T bad many ih e h n sl mi pc r ls st fs H i) {k kd len : Nat} (hT : T (sst1K bad ls k kd st fun l r2 => frc (Nat.add pc len) fun pc2 => ih e h n sl mi pc2 r l r2 fs))
    (hs : ∀ v rest, st = v :: rest → skd v = kd → k < ls.length → xstep (xPof R nw) (sn, xs) mi pc i (sdl (srho xs) ls) (sds (srho xs) (v :: rest)) H = some (.inl (pc + len, xput1 (sdl (srho xs) ls) k (sden (srho xs) v), sds (srho xs) rest, H))) : SGoal sn R nw xs goal cfs mi pc ls st fs H := by
  unfold sst1K at hT
  split at hT
  · next v rest =>
    cases hk : (Nat.beq (skd v) kd && Nat.blt k ls.length) with
    | false => rw [hk] at hT; exact absurd hT C.1
    | true =>
      rw [hk] at hT
      obtain ⟨l1, e1, hT⟩ := sput1_ok (ro := srho xs) hT
      simp only [Bool.and_eq_true] at hk
      have := hs v rest rfl (Nat.eq_of_beq_eq_true hk.1) (Nat.blt_eq.mp hk.2)
      rw [← e1] at this
      exact C.g hT this
  · exact absurd hT C.1
theorem SCtx.s2 (C : SCtx sn R nw xs goal cfs T bad many ih e h n sl mi pc r ls st fs H i) {k kd len : Nat} (hT : T (sst2K bad ls k kd st fun l r2 => frc (Nat.add pc len) fun pc2 => ih e h n sl mi pc2 r l r2 fs))
    (hs : ∀ v rest, st = v :: rest → skd v = kd → k + 1 < ls.length → xstep (xPof R nw) (sn, xs) mi pc i (sdl (srho xs) ls) (sds (srho xs) (v :: rest)) H = some (.inl (pc + len, xput2 (sdl (srho xs) ls) k (sden (srho xs) v), sds (srho xs) rest, H))) : SGoal sn R nw xs goal cfs mi pc ls st fs H := by
  unfold sst2K at hT
  split at hT
  · next v rest =>
    cases hk : (Nat.beq (skd v) kd && Nat.blt (Nat.succ k) ls.length) with
    | false => rw [hk] at hT; exact absurd hT C.1
    | true =>
      rw [hk] at hT
      obtain ⟨l1, e1, hT⟩ := sput2_ok (ro := srho xs) hT
      simp only [Bool.and_eq_true] at hk
      have := hs v rest rfl (Nat.eq_of_beq_eq_true hk.1) (Nat.blt_eq.mp hk.2)
      rw [← e1] at this
      exact C.g hT this
  · exact absurd hT C.1
theorem e_sti {ro : Nat → Int32} {k : Nat} {v : SV} {rest : List SV} (h2 : skd v = 0) (h3 : k < ls.length) (pc : Nat) (H : XH) : xsti (sdl ro ls) k pc (sds ro (v :: rest)) H = some (.inl (pc, xput1 (sdl ro ls) k (sden ro v), sds ro rest, H)) := by
  obtain ⟨x, hx⟩ := skd_0 (ro := ro) h2
  show x1i (sden ro v :: sds ro rest) _ = _
  rw [hx]
  show (if k < (sdl ro ls).length then _ else _) = _
  rw [sdl_len, if_pos h3]
  rfl
theorem e_sta {ro : Nat → Int32} {k : Nat} {v : SV} {rest : List SV} (h2 : skd v = 2) (h3 : k < ls.length) (pc : Nat) (H : XH) : xsta (sdl ro ls) k pc (sds ro (v :: rest)) H = some (.inl (pc, xput1 (sdl ro ls) k (sden ro v), sds ro rest, H)) := by
  show x1a (sden ro v :: sds ro rest) _ = _
  rcases skd_2 (ro := ro) h2 with hx | ⟨x, hx⟩
  · rw [hx]
    show (if k < (sdl ro ls).length then _ else _) = _
    rw [sdl_len, if_pos h3]
    rfl
  · rw [hx]
    show (if k < (sdl ro ls).length then _ else _) = _
    rw [sdl_len, if_pos h3]
    rfl
theorem e_stl {ro : Nat → Int32} {k : Nat} {v : SV} {rest : List SV} (h2 : skd v = 1) (h3 : k + 1 < ls.length) (pc : Nat) (H : XH) : xstl (sdl ro ls) k pc (sds ro (v :: rest)) H = some (.inl (pc, xput2 (sdl ro ls) k (sden ro v), sds ro rest, H)) := by
  obtain ⟨x, hx⟩ := skd_1 (ro := ro) h2
  show x1l (sden ro v :: sds ro rest) _ = _
  rw [hx]
  show (if k + 1 < (sdl ro ls).length then _ else _) = _
  rw [sdl_len, if_pos h3]
  rfl
theorem e_std {ro : Nat → Int32} {k : Nat} {v : SV} {rest : List SV} (h2 : skd v = 4) (h3 : k + 1 < ls.length) (pc : Nat) (H : XH) : xstd (sdl ro ls) k pc (sds ro (v :: rest)) H = some (.inl (pc, xput2 (sdl ro ls) k (sden ro v), sds ro rest, H)) := by
  obtain ⟨x, hx⟩ := skd_4 (ro := ro) h2
  show x1d (sden ro v :: sds ro rest) _ = _
  rw [hx]
  show (if k + 1 < (sdl ro ls).length then _ else _) = _
  rw [sdl_len, if_pos h3]
  rfl
/-- two numbers -/
theorem SCtx.b2 (C : SCtx sn R nw xs goal cfs T bad many ih e h n sl mi pc r ls st fs H i) {f : Nat → Nat → List SV → β} (hT : T (sbin2K bad many e st (fun e2 => ih e2 h n sl mi pc r ls st fs) f))
    (k : ∀ a b rest, sds (srho xs) st = .int (Int32.ofNat b) :: .int (Int32.ofNat a) :: sds (srho xs) rest → T (f a b rest) → SGoal sn R nw xs goal cfs mi pc ls st fs H) : SGoal sn R nw xs goal cfs mi pc ls st fs H := by
  unfold sbin2K at hT
  split at hT
  · next y x rest =>
    rcases scon_ok C.1 C.2.1 C.2.2.2.1 hT with ⟨b, hb, hT⟩ | ⟨e2, h1, h2⟩
    · rcases scon_ok C.1 C.2.1 C.2.2.2.1 hT with ⟨a, ha, hT⟩ | ⟨e2, h1, h2⟩
      · refine k a b rest ?_ hT
        show sden (srho xs) y :: sden (srho xs) x :: sds (srho xs) rest = _
        rw [hb, ha]
      · exact C.ag h1 h2
    · exact C.ag h1 h2
  · exact absurd hT C.1
end SG
