/-! WHAT ONE SYMBOLIC INSTRUCTION SAYS -/
theorem xcok_back {h : XH} {t : Nat} {vs : List Value} (ht : t < 2) (h1 : vs.all (xok (xet t)) = true) : vs.all (xcok h t) = true := by
  refine List.all_eq_true.mpr fun v hv => ?_
  have h2 := List.all_eq_true.mp h1 v hv
  match t, ht with
  | 0, _ => exact h2
  | 1, _ => exact h2
theorem i32_add (a b : Nat) : Int32.ofNat a + Int32.ofNat b = Int32.ofNat (Nat.mod (Nat.add a b) 4294967296) := by
  apply i32_ext
  have h : (Int32.ofNat a + Int32.ofNat b).toUInt32.toNat = ((Int32.ofNat a).toUInt32 + (Int32.ofNat b).toUInt32).toNat := rfl
  rw [h, UInt32.toNat_add, i32_of, i32_of, i32_of]
  show _ = (a + b) % 4294967296 % 4294967296
  omega
theorem slin_add {ro : Nat → Int32} (a b : Nat) (za zb : List Nat) : slin ro a za + slin ro b zb = slin ro (Nat.mod (Nat.add a b) 4294967296) (za ++ zb) := by
  unfold slin
  rw [i32_add]
  apply i32_ofEq
  have h : scnt ro (za ++ zb) = scnt ro za + scnt ro zb := List.countP_append ..
  rw [h]
  show (a + scnt ro za + (b + scnt ro zb)) % 4294967296 % 4294967296 = ((a + b) % 4294967296 + (scnt ro za + scnt ro zb)) % 4294967296
  omega
theorem slin_inc {ro : Nat → Int32} (a : Nat) (x : Int32) (zs : List Nat) : slin ro a zs + x = slin ro (Nat.mod (Nat.add a x.toUInt32.toNat) 4294967296) zs := by
  have h := slin_add (ro := ro) a x.toUInt32.toNat zs []
  rw [List.append_nil] at h
  rw [← h]
  show _ = _ + Int32.ofNat (x.toUInt32.toNat + 0)
  rw [Nat.add_zero, i32_back]
theorem srho_byte {xs : Nat → Int32} {k : Nat} (h1 : 1000 ≤ k) (h2 : k < 1100) : srho xs k &&& Int32.ofNat 255 = srho xs (Nat.sub k 900) := by
  show _ = srho xs (k - 900)
  unfold srho
  rw [if_neg (by omega), if_neg (by omega), if_neg (by omega), if_neg (by omega), if_neg (by omega), if_pos (by omega), show k - 900 - 100 = k - 1000 by omega]
  rfl
theorem srho_sh {xs : Nat → Int32} {k b : Nat} (h1 : k < 6) (h2 : b ≤ 24) (h3 : b % 8 = 0) : ((srho xs k).toUInt32 >>> ((Int32.ofNat b).toUInt32 &&& Int32.toUInt32 31)).toInt32 = srho xs (Nat.add 1000 (Nat.add (Nat.mul 4 k) (Nat.div b 8))) := by
  show _ = srho xs (1000 + (4 * k + b / 8))
  unfold srho
  rw [if_pos h1, if_neg (by omega), if_neg (by omega), if_neg (by omega), show 1000 + (4 * k + b / 8) - 1000 = 4 * k + b / 8 by omega]
  unfold ssh
  rw [show (4 * k + b / 8) / 4 = k by omega, show 8 * ((4 * k + b / 8) % 4) = b by omega]
theorem lg_same (x : Int64) : lg_cmp x x = 0 := by
  unfold lg_cmp
  rw [if_neg (Int64.lt_irrefl), if_pos rfl]
section SG3
variable {sn : Nat} {β : Type} {R : XRecs} {nw : List (List Value)} {xs : Nat → Int32} {goal : XO → XH → Prop} {cfs : List XF} {T : β → Prop} {bad : β} {many : List β → β} {fin : SV → Nat → Nat → β}
variable {ih : SE → SH → Nat → Nat → Nat → Nat → XRec → List (Option SV) → List SV → List SF → β} {e : SE} {h : SH} {n sl mi pc : Nat} {r : XRec} {ls : List (Option SV)} {st : List SV} {fs : List SF} {H : XH} {i : Instr}
theorem SCtx.add (C : SCtx sn R nw xs goal cfs T bad many ih e h n sl mi pc r ls st fs H .iadd) (hT : T (slin2K bad many e st (fun e2 => ih e2 h n sl mi pc r ls st fs) fun v rest => frc (Nat.add pc 1) fun pc2 => ih e h n sl mi pc2 r ls (v :: rest) fs)) : SGoal sn R nw xs goal cfs mi pc ls st fs H := by
  unfold slin2K at hT
  split at hT
  · next b a rest =>
    rw [frc_eq] at hT
    refine C.g hT ?_
    show some (Sum.inl (_, _, Value.int (Int32.ofNat a + Int32.ofNat b) :: _, _)) = _
    rw [i32_add]
    rfl
  · next b zb a za rest _ =>
    rw [frc_eq] at hT
    refine C.g hT ?_
    show some (Sum.inl (_, _, Value.int (slin (srho xs) a za + slin (srho xs) b zb) :: _, _)) = _
    rw [slin_add]
    rfl
  · refine C.b2 hT fun a b rest hst hT => ?_
    rw [frc_eq] at hT
    refine C.g hT ?_
    show x2i (sds (srho xs) _) _ = _
    rw [hst]
    show some (Sum.inl (_, _, Value.int (Int32.ofNat a + Int32.ofNat b) :: _, _)) = _
    rw [i32_add]
    rfl
theorem SCtx.and (C : SCtx sn R nw xs goal cfs T bad many ih e h n sl mi pc r ls st fs H .iand) (hT : T (sandK bad many e st (fun e2 => ih e2 h n sl mi pc r ls st fs) fun v rest => frc (Nat.add pc 1) fun pc2 => ih e h n sl mi pc2 r ls (v :: rest) fs)) : SGoal sn R nw xs goal cfs mi pc ls st fs H := by
  have hb2 : ∀ st, SCtx sn R nw xs goal cfs T bad many ih e h n sl mi pc r ls st fs H .iand → T (sbin2K bad many e st (fun e2 => ih e2 h n sl mi pc r ls st fs) fun a b rest => sciK (Int32.ofNat a &&& Int32.ofNat b) fun v => frc (Nat.add pc 1) fun pc2 => ih e h n sl mi pc2 r ls (v :: rest) fs) → SGoal sn R nw xs goal cfs mi pc ls st fs H := fun st C hT =>
    C.b2 hT fun a b rest hst hT => C.ci hT (by show x2i (sds (srho xs) st) _ = _; rw [hst]; rfl)
  unfold sandK at hT
  split at hT
  · next b k zs rest =>
    cases c1 : (Nat.ble 1000 k && (Nat.blt k 1100 && Nat.beq b 255)) with
    | true =>
      rw [c1, cond_true, frc_eq] at hT
      simp only [Bool.and_eq_true] at c1
      cases Nat.eq_of_beq_eq_true c1.2.2
      refine C.g hT ?_
      show some (Sum.inl (_, _, Value.int (srho xs k &&& Int32.ofNat 255) :: _, _)) = _
      rw [srho_byte (Nat.le_of_ble_eq_true c1.1) (Nat.blt_eq.mp c1.2.1)]
      rfl
    | false =>
      rw [c1, cond_false] at hT
      cases c2 : (Nat.beq k 0 && Nat.beq b 63) with
      | true =>
        rw [c2, cond_true] at hT
        simp only [Bool.and_eq_true] at c2
        cases Nat.eq_of_beq_eq_true c2.1
        cases Nat.eq_of_beq_eq_true c2.2
        exact C.g hT rfl
      | false =>
        rw [c2, cond_false] at hT
        exact hb2 _ C hT
  · exact hb2 _ C hT
theorem SCtx.ush (C : SCtx sn R nw xs goal cfs T bad many ih e h n sl mi pc r ls st fs H .iushr) (hT : T (sushK bad many e st (fun e2 => ih e2 h n sl mi pc r ls st fs) fun v rest => frc (Nat.add pc 1) fun pc2 => ih e h n sl mi pc2 r ls (v :: rest) fs)) : SGoal sn R nw xs goal cfs mi pc ls st fs H := by
  have hb2 : ∀ st, SCtx sn R nw xs goal cfs T bad many ih e h n sl mi pc r ls st fs H .iushr → T (sbin2K bad many e st (fun e2 => ih e2 h n sl mi pc r ls st fs) fun a b rest => sciK ((Int32.ofNat a).toUInt32 >>> ((Int32.ofNat b).toUInt32 &&& Int32.toUInt32 31)).toInt32 fun v => frc (Nat.add pc 1) fun pc2 => ih e h n sl mi pc2 r ls (v :: rest) fs) → SGoal sn R nw xs goal cfs mi pc ls st fs H := fun st C hT =>
    C.b2 hT fun a b rest hst hT => C.ci hT (by show x2i (sds (srho xs) st) _ = _; rw [hst]; rfl)
  unfold sushK at hT
  split at hT
  · next b k zs rest =>
    cases c1 : (Nat.blt k 6 && (Nat.ble b 24 && Nat.beq (Nat.mod b 8) 0)) with
    | true =>
      rw [c1, cond_true, frc_eq] at hT
      simp only [Bool.and_eq_true] at c1
      refine C.g hT ?_
      show some (Sum.inl (_, _, Value.int ((srho xs k).toUInt32 >>> ((Int32.ofNat b).toUInt32 &&& Int32.toUInt32 31)).toInt32 :: _, _)) = _
      rw [srho_sh (Nat.blt_eq.mp c1.1) (Nat.le_of_ble_eq_true c1.2.1) (Nat.eq_of_beq_eq_true c1.2.2)]
      rfl
    | false =>
      rw [c1, cond_false] at hT
      exact hb2 _ C hT
  · exact hb2 _ C hT
theorem SCtx.l2 (C : SCtx sn R nw xs goal cfs T bad many ih e h n sl mi pc r ls st fs H i) {op : Int64 → Int64 → Int64} (hT : T (slng2K bad st op fun v rest => frc (Nat.add pc 1) fun pc2 => ih e h n sl mi pc2 r ls (v :: rest) fs))
    (hs : ∀ x y rest, xstep (xPof R nw) (sn, xs) mi pc i (sdl (srho xs) ls) (.long y :: .long x :: sds (srho xs) rest) H = some (.inl (pc + 1, sdl (srho xs) ls, .long (op x y) :: sds (srho xs) rest, H))) : SGoal sn R nw xs goal cfs mi pc ls st fs H := by
  unfold slng2K at hT
  split at hT
  · exact C.cl hT (hs _ _ _)
  · exact absurd hT C.1
theorem SCtx.lsh (C : SCtx sn R nw xs goal cfs T bad many ih e h n sl mi pc r ls st fs H i) {op : Int64 → Int32 → Int64} (hT : T (slshK bad many e st (fun e2 => ih e2 h n sl mi pc r ls st fs) op fun v rest => frc (Nat.add pc 1) fun pc2 => ih e h n sl mi pc2 r ls (v :: rest) fs))
    (hs : ∀ x y rest, xstep (xPof R nw) (sn, xs) mi pc i (sdl (srho xs) ls) (.int y :: .long x :: sds (srho xs) rest) H = some (.inl (pc + 1, sdl (srho xs) ls, .long (op x y) :: sds (srho xs) rest, H))) : SGoal sn R nw xs goal cfs mi pc ls st fs H := by
  unfold slshK at hT
  split at hT
  · next y x rest =>
    rcases scon_ok C.1 C.2.1 C.2.2.2.1 hT with ⟨b, hb, hT⟩ | ⟨e2, h1, h2⟩
    · refine C.cl hT ?_
      show xstep _ _ _ _ _ _ (sden (srho xs) y :: .long x :: sds (srho xs) rest) _ = _
      rw [hb]
      exact hs _ _ _
    · exact C.ag h1 h2
  · exact absurd hT C.1
theorem xcopy_of {a b t m sp dp : Nat} {vs ws : List Value} {rest : List Value} (hca : xcell H a = some (.inr (t, vs))) (hcb : xcell H b = some (.inr (t, ws))) (ht : t < 2) (hab : ¬ a = b) (h1 : sp + m ≤ vs.length) (h2 : dp + m ≤ ws.length) (h3 : vs.length < 2147483648) (h4 : ws.length < 2147483648) (h5 : xsum rest ≤ 8) (h6 : ((vs.drop sp).take m).all (xok (xet t)) = true) :
    xcopy H (.int (Int32.ofNat m) :: .int (Int32.ofNat dp) :: .ref b :: .int (Int32.ofNat sp) :: .ref a :: rest) = some (rest, H.set b (some (.inr (t, ws.take dp ++ (vs.drop sp).take m ++ ws.drop (dp + m))))) := by
  obtain ⟨a1, a2⟩ := i32_nat (c := m) (by omega)
  obtain ⟨b1, b2⟩ := i32_nat (c := sp) (by omega)
  obtain ⟨c1, c2⟩ := i32_nat (c := dp) (by omega)
  unfold xcopy
  dsimp only
  rw [hca, hcb]
  dsimp only
  rw [a2, b2, c2, if_pos ⟨rfl, Or.inl ht, hab, b1, c1, a1, h1, h2, h5, xcok_back ht h6⟩]
theorem xcopied {sp dp m : Nat} {vs ws : List Value} (h4 : sp + m ≤ vs.length) (h5 : dp + m ≤ ws.length) (j : Nat) : (ws.take dp ++ (vs.drop sp).take m ++ ws.drop (dp + m))[j]? = if dp ≤ j ∧ j < dp + m then vs[j - dp + sp]? else ws[j]? := by
  have e1 : (ws.take dp).length = dp := by rw [List.length_take]; omega
  have e2 : ((vs.drop sp).take m).length = m := by rw [List.length_take, List.length_drop]; omega
  by_cases h1 : j < dp
  · rw [if_neg (by omega), List.append_assoc, List.getElem?_append_left (by omega), List.getElem?_take, if_pos h1]
  · by_cases h2 : j < dp + m
    · rw [if_pos (by omega), List.append_assoc, List.getElem?_append_right (by omega), List.getElem?_append_left (by omega), List.getElem?_take, if_pos (by omega), List.getElem?_drop, e1, Nat.add_comm]
    · rw [if_neg (by omega), List.getElem?_append_right (by rw [List.length_append]; omega), List.getElem?_drop, List.length_append, e1, e2, show dp + m + (j - (dp + m)) = j by omega]
theorem sfind_def {ro : Nat → Int32} {d d2 : SV} (hd : sden ro d = sden ro d2) : ∀ (es : List (Nat × SV)) (i : Nat), sden ro (sfind es i d) = sden ro (sfind es i d2) := by
  intro es
  induction es with
  | nil => intro i; exact hd
  | cons p t ih =>
    intro i
    rw [sfind_cons, sfind_cons]
    cases Nat.beq p.1 i with
    | true => rfl
    | false => exact ih i
theorem sshift_has (es : List (Nat × SV)) (sp dp m j : Nat) (d : SV) (hj : dp ≤ j ∧ j < dp + m) : sfind (es.filterMap fun q => cond (Nat.ble sp q.1 && Nat.blt q.1 (Nat.add sp m)) (some (Nat.add (Nat.sub q.1 sp) dp, q.2)) none) j d = sfind es (j - dp + sp) d := by
  induction es with
  | nil => rfl
  | cons q t iht =>
    rw [sfind_cons, List.filterMap_cons]
    cases c1 : (Nat.ble sp q.1 && Nat.blt q.1 (Nat.add sp m)) with
    | true =>
      simp only [Bool.and_eq_true] at c1
      have b1 := Nat.le_of_ble_eq_true c1.1
      rw [cond_true]
      show cond (Nat.beq (q.1 - sp + dp) j) q.2 (sfind (t.filterMap fun q => cond (Nat.ble sp q.1 && Nat.blt q.1 (Nat.add sp m)) (some (Nat.add (Nat.sub q.1 sp) dp, q.2)) none) j d) = _
      rw [iht]
      by_cases z : q.1 = j - dp + sp
      · rw [show Nat.beq (q.1 - sp + dp) j = true from Nat.beq_eq.mpr (by omega), show Nat.beq q.1 (j - dp + sp) = true from Nat.beq_eq.mpr z]
      · rw [show Nat.beq (q.1 - sp + dp) j = false from Bool.eq_false_iff.mpr fun y => z (by have := Nat.eq_of_beq_eq_true y; omega), show Nat.beq q.1 (j - dp + sp) = false from Bool.eq_false_iff.mpr fun y => z (Nat.eq_of_beq_eq_true y)]
    | false =>
      rw [cond_false]
      show sfind (t.filterMap fun q => cond (Nat.ble sp q.1 && Nat.blt q.1 (Nat.add sp m)) (some (Nat.add (Nat.sub q.1 sp) dp, q.2)) none) j d = _
      rw [iht]
      have : Nat.beq q.1 (j - dp + sp) = false := Bool.eq_false_iff.mpr fun y => by
        have y := Nat.eq_of_beq_eq_true y
        rw [show Nat.ble sp q.1 = true from Nat.ble_eq.mpr (by omega), show Nat.blt q.1 (Nat.add sp m) = true from Nat.blt_eq.mpr (by show _ < sp + m; omega)] at c1
        cases c1
      rw [this]
      rfl
theorem sshift_no (es : List (Nat × SV)) (sp dp m j : Nat) (hj : ¬ (dp ≤ j ∧ j < dp + m)) : shas (es.filterMap fun q => cond (Nat.ble sp q.1 && Nat.blt q.1 (Nat.add sp m)) (some (Nat.add (Nat.sub q.1 sp) dp, q.2)) none) j = false := by
  induction es with
  | nil => rfl
  | cons q t iht =>
    rw [List.filterMap_cons]
    cases c1 : (Nat.ble sp q.1 && Nat.blt q.1 (Nat.add sp m)) with
    | true =>
      simp only [Bool.and_eq_true] at c1
      have b1 := Nat.le_of_ble_eq_true c1.1
      have b2 : q.1 < sp + m := Nat.blt_eq.mp c1.2
      rw [cond_true]
      show cond (Nat.beq (q.1 - sp + dp) j) true (shas (t.filterMap fun q => cond (Nat.ble sp q.1 && Nat.blt q.1 (Nat.add sp m)) (some (Nat.add (Nat.sub q.1 sp) dp, q.2)) none) j) = _
      rw [iht, show Nat.beq (q.1 - sp + dp) j = false from Bool.eq_false_iff.mpr fun y => hj (by have := Nat.eq_of_beq_eq_true y; omega)]
      rfl
    | false =>
      rw [cond_false]
      exact iht
theorem sfilt (es : List (Nat × SV)) (dp m j : Nat) (d : SV) : (¬ (dp ≤ j ∧ j < dp + m) → sfind (es.filter fun q => !(Nat.ble dp q.1 && Nat.blt q.1 (Nat.add dp m))) j d = sfind es j d) ∧ ((dp ≤ j ∧ j < dp + m) → sfind (es.filter fun q => !(Nat.ble dp q.1 && Nat.blt q.1 (Nat.add dp m))) j d = d) := by
  induction es with
  | nil => exact ⟨fun _ => rfl, fun _ => rfl⟩
  | cons q t iht =>
    rw [List.filter_cons]
    cases c1 : (Nat.ble dp q.1 && Nat.blt q.1 (Nat.add dp m)) with
    | true =>
      simp only [Bool.and_eq_true] at c1
      have b1 := Nat.le_of_ble_eq_true c1.1
      have b2 : q.1 < dp + m := Nat.blt_eq.mp c1.2
      refine ⟨fun hj => ?_, fun hj => ?_⟩
      · show sfind (t.filter _) j d = cond (Nat.beq q.1 j) q.2 (sfind t j d)
        rw [iht.1 hj, show Nat.beq q.1 j = false from Bool.eq_false_iff.mpr fun y => hj (by have := Nat.eq_of_beq_eq_true y; omega)]
        rfl
      · exact iht.2 hj
    | false =>
      refine ⟨fun hj => ?_, fun hj => ?_⟩
      · show cond (Nat.beq q.1 j) q.2 (sfind (t.filter _) j d) = cond (Nat.beq q.1 j) q.2 (sfind t j d)
        rw [iht.1 hj]
      · show cond (Nat.beq q.1 j) q.2 (sfind (t.filter _) j d) = d
        rw [iht.2 hj]
        have : Nat.beq q.1 j = false := Bool.eq_false_iff.mpr fun y => by
          have y := Nat.eq_of_beq_eq_true y
          rw [show Nat.ble dp q.1 = true from Nat.ble_eq.mpr (by omega), show Nat.blt q.1 (Nat.add dp m) = true from Nat.blt_eq.mpr (by show _ < dp + m; omega)] at c1
          cases c1
        rw [this]
        rfl
theorem SCtx.copy (C : SCtx sn R nw xs goal cfs T bad many ih e h n sl mi pc r ls st fs H i) (hT : T (scopyK bad many h st e (fun e2 => ih e2 h n sl mi pc r ls st fs) fun h2 rest => frc (Nat.add pc 3) fun pc2 => ih e h2 n sl mi pc2 r ls rest fs))
    (hs : ∀ r9 H1, xcopy H (sds (srho xs) st) = some (r9, H1) → xstep (xPof R nw) (sn, xs) mi pc i (sdl (srho xs) ls) (sds (srho xs) st) H = some (.inl (pc + 3, sdl (srho xs) ls, r9, H1))) : SGoal sn R nw xs goal cfs mi pc ls st fs H := by
  have hH := C.2.2.2.2.1
  unfold scopyK at hT
  split at hT
  · next cn dpv b spv a rest =>
    rcases scon_ok C.1 C.2.1 C.2.2.2.1 hT with ⟨m, hm, hT⟩ | ⟨e2, h1, h2⟩
    · rcases scon_ok C.1 C.2.1 C.2.2.2.1 hT with ⟨dp, hdp, hT⟩ | ⟨e2, h1, h2⟩
      · rcases scon_ok C.1 C.2.1 C.2.2.2.1 hT with ⟨sp, hsp, hT⟩ | ⟨e2, h1, h2⟩
        · split at hT
          · next t len d es t2 len2 d2 es2 hga hgb =>
            obtain ⟨vs, a1, a2, a3, a4⟩ := hH.arr hga
            obtain ⟨ws, b1, b2, b3, b4⟩ := hH.arr hgb
            cases hc : ((Nat.beq t t2 && (Nat.blt t 2 && (!(Nat.beq a b) && (seqd d d2 && Nat.ble (ssum rest) 8)))) && ((Nat.ble (Nat.add sp m) len && Nat.ble (Nat.add dp m) len2) && ((Nat.blt len 2147483648 && Nat.blt len2 2147483648) && ((es.all fun q => sxok (xet t) q.2) && sxok (xet t) d)))) with
            | false => rw [hc] at hT; exact absurd hT C.1
            | true =>
              rw [hc, cond_true] at hT
              simp only [Bool.and_eq_true, Bool.not_eq_true'] at hc
              obtain ⟨⟨k1, k2, k3, k4, k5⟩, ⟨k6, k7⟩, ⟨k8, k9⟩, k10, k11⟩ := hc
              cases Nat.eq_of_beq_eq_true k1
              have k2 := Nat.blt_eq.mp k2
              have k3 : ¬ a = b := fun z => by rw [z, Nat.beq_refl] at k3; cases k3
              have k5 := Nat.le_of_ble_eq_true k5
              have k6 : sp + m ≤ len := Nat.le_of_ble_eq_true k6
              have k7 : dp + m ≤ len2 := Nat.le_of_ble_eq_true k7
              have k8 := Nat.blt_eq.mp k8
              have k9 := Nat.blt_eq.mp k9
              have hall : ((vs.drop sp).take m).all (xok (xet t)) = true := List.all_eq_true.mpr fun w hw => by
                obtain ⟨q, hq⟩ := List.mem_iff_getElem?.mp (List.mem_of_mem_drop (List.mem_of_mem_take hw))
                have hlt := (List.getElem?_eq_some_iff.mp hq).1
                have := (a4 rfl q (by omega)).symm.trans hq
                cases this
                rcases sfind_mem (es := es) (i := q) (d := d) with z | ⟨p, p1, p2⟩
                · rw [z]; exact sxok_spec k11
                · rw [p2]; exact sxok_spec (List.all_eq_true.mp k10 p p1)
              have hx := xcopy_of (rest := sds (srho xs) rest) a1 b1 k2 k3 (by rw [a3]; exact k6) (by rw [b3]; exact k7) (by rw [a3]; exact k8) (by rw [b3]; exact k9) (by rw [ssum_spec]; exact k5) hall
              have hst : sds (srho xs) (cn :: dpv :: .inl (.ref b) :: spv :: .inl (.ref a) :: rest) = .int (Int32.ofNat m) :: .int (Int32.ofNat dp) :: .ref b :: .int (Int32.ofNat sp) :: .ref a :: sds (srho xs) rest := by
                show sden (srho xs) cn :: sden (srho xs) dpv :: Value.ref b :: sden (srho xs) spv :: Value.ref a :: sds (srho xs) rest = _
                rw [hm, hdp, hsp]
              rw [← hst] at hx
              have hln : xcs (some (.inr (t, ws.take dp ++ (vs.drop sp).take m ++ ws.drop (dp + m)))) = xcs (some (.inr (t, ws))) := by
                show (_ : List Value).length = ws.length
                simp only [List.length_append, List.length_take, List.length_drop]
                omega
              have hl2 : (ws.take dp ++ (vs.drop sp).take m ++ ws.drop (dp + m)).length = len2 := by rw [← b3]; exact hln
              have hdd := seqd_spec (ro := srho xs) k4
              have hnew : ∀ j, j < len2 → (ws.take dp ++ (vs.drop sp).take m ++ ws.drop (dp + m))[j]? = some (sden (srho xs) (if dp ≤ j ∧ j < dp + m then sfind es (j - dp + sp) d else sfind es2 j d2)) := fun j hj => by
                rw [xcopied (by rw [a3]; exact k6) (by rw [b3]; exact k7)]
                by_cases z : dp ≤ j ∧ j < dp + m
                · rw [if_pos z, if_pos z]
                  exact a4 rfl _ (by omega)
                · rw [if_neg z, if_neg z]
                  exact b4 rfl _ hj
              split at hT
              · have hT : T (frc (Nat.add pc 3) fun pc2 => ih e h n sl mi pc2 r ls rest fs) := hT
                rw [frc_eq] at hT
                refine C.nx (hs _ _ hx) hT C.2.2.2.1 (hH.set b2 hln ?_)
                intro j x hj
                by_cases hjb : j = b
                · subst hjb
                  cases hgb.symm.trans hj
                  refine Or.inl ⟨rfl, rfl, hl2, fun _ q hq => ?_⟩
                  rw [hnew q hq]
                  split
                  · show some (sden (srho xs) d) = some (sden (srho xs) d2); rw [hdd]
                  · rfl
                · exact Or.inr ⟨hjb, hj⟩
              · obtain ⟨h2, ht2, hp⟩ := hput_ok C.1 hT
                have ht2 : T (frc (Nat.add pc 3) fun pc2 => ih e h2 n sl mi pc2 r ls rest fs) := ht2
                rw [frc_eq] at ht2
                refine C.nx (hs _ _ hx) ht2 C.2.2.2.1 (hH.set b2 hln ?_)
                intro j x hj
                rcases hp j x hj with ⟨rfl, e1⟩ | k
                · cases e1
                  refine Or.inl ⟨rfl, rfl, hl2, fun _ q hq => ?_⟩
                  rw [hnew q hq, sfind_app]
                  by_cases z : dp ≤ q ∧ q < dp + m
                  · rw [if_pos z]
                    have z1 := sshift_has es sp dp m q d2 z
                    have z2 := (sfilt es2 dp m q d2).2 z
                    have z3 : sden (srho xs) (sfind es (q - dp + sp) d) = sden (srho xs) (sfind es (q - dp + sp) d2) := sfind_def hdd es _
                    rw [z3, ← z1]
                    cases hs9 : shas (es.filterMap fun q => cond (Nat.ble sp q.1 && Nat.blt q.1 (Nat.add sp m)) (some (Nat.add (Nat.sub q.1 sp) dp, q.2)) none) q with
                    | true => rfl
                    | false =>
                      rw [cond_false, z2, sfind_no hs9]
                  · rw [if_neg z, sshift_no es sp dp m q z]
                    rw [cond_false, (sfilt es2 dp m q d2).1 z]
                · exact Or.inr k
          · exact absurd hT C.1
        · exact C.ag h1 h2
      · exact C.ag h1 h2
    · exact C.ag h1 h2
  · exact absurd hT C.1
theorem SCtx.tab (C : SCtx sn R nw xs goal cfs T bad many ih e h n sl mi pc r ls st fs H i) {d lo hi : Int} {offs : Array Int} {v : SV} {rest : List SV} (hst : st = v :: rest) (hT : T (stabK bad many e pc d lo hi offs v (fun e2 => ih e2 h n sl mi pc r ls st fs) fun pc2 => ih e h n sl mi pc2 r ls rest fs))
    (hs : ∀ x, xstep (xPof R nw) (sn, xs) mi pc i (sdl (srho xs) ls) (.int x :: sds (srho xs) rest) H = if x.toInt < lo ∨ hi < x.toInt then xjmp pc d (sdl (srho xs) ls) (sds (srho xs) rest) H else match offs[(x.toInt - lo).toNat]? with
      | some o => xjmp pc o (sdl (srho xs) ls) (sds (srho xs) rest) H
      | none => none) : SGoal sn R nw xs goal cfs mi pc ls st fs H := by
  have hst2 : sds (srho xs) st = sden (srho xs) v :: sds (srho xs) rest := by rw [hst]; rfl
  unfold stabK at hT
  split at hT
  · exact absurd hT C.1
  · next a b hab =>
    obtain ⟨x, hx, x1, x2⟩ := sint_ok C.2.2.2.1 hab
    have hi9 := bia_int x
    cases c1 : decide ((b : Int) - 2147483648 < lo ∨ hi < (a : Int) - 2147483648) with
    | true =>
      rw [c1] at hT
      have c1 := of_decide_eq_true c1
      obtain ⟨t, ht, hj⟩ := sjmp_ok C.1 hT
      refine C.nx ?_ ht C.2.2.2.1 C.2.2.2.2.1
      rw [hst2, hx, hs, if_pos (by omega)]
      exact hj _ _ _
    | false =>
      rw [c1] at hT
      cases c2 : Nat.beq a b with
      | true =>
        rw [c2] at hT
        have c2 := Nat.eq_of_beq_eq_true c2
        have hxa : x.toInt = (a : Int) - 2147483648 := by omega
        dsimp only [cond] at hT
        split at hT
        · next o ho =>
          cases c3 : decide ((a : Int) - 2147483648 < lo ∨ hi < (a : Int) - 2147483648) with
          | true => rw [c3] at hT; exact absurd hT C.1
          | false =>
            rw [c3] at hT
            have c3 := of_decide_eq_false c3
            obtain ⟨t, ht, hj⟩ := sjmp_ok C.1 hT
            refine C.nx ?_ ht C.2.2.2.1 C.2.2.2.2.1
            rw [hst2, hx, hs, hxa, if_neg c3, ho]
            exact hj _ _ _
        · exact absurd hT C.1
      | false =>
        rw [c2] at hT
        dsimp only [cond] at hT
        split at hT
        · next k zs =>
          rw [frc_eq, frc_eq] at hT
          split at hT
          · have hT := C.2.1 _ hT
            cases hx
            generalize (lo + 2147483648).toNat = L at hT
            generalize (hi + 2147483648).toNat = U at hT
            by_cases g1 : bia (srho xs k) < L
            · have hb : Nat.blt a L = true := Nat.blt_eq.mpr (by omega)
              rw [hb] at hT
              have := hT _ (List.mem_append_left _ (List.mem_append_left _ List.mem_cons_self))
              rw [frc_eq] at this
              exact C.ag (sev_cons C.2.2.2.1 x1 (by show _ ≤ L - 1; omega)) this
            · by_cases g2 : U < bia (srho xs k)
              · have hb : Nat.blt U b = true := Nat.blt_eq.mpr (by omega)
                rw [hb] at hT
                have := hT _ (List.mem_append_right _ List.mem_cons_self)
                rw [frc_eq] at this
                exact C.ag (sev_cons C.2.2.2.1 (by show U + 1 ≤ _; omega) x2) this
              · have := hT _ (List.mem_append_left _ (List.mem_append_right _ (List.mem_map.mpr ⟨bia (srho xs k), snums_mem (by
                  cases Nat.blt a L with
                  | true => show L ≤ _; omega
                  | false => show a ≤ _; omega) (by
                  cases Nat.blt U b with
                  | true =>
                    cases Nat.blt a L with
                    | true => show _ < L + (U + 1 - L); omega
                    | false => show _ < a + (U + 1 - a); omega
                  | false =>
                    cases Nat.blt a L with
                    | true => show _ < L + (b + 1 - L); omega
                    | false => show _ < a + (b + 1 - a); omega), rfl⟩)))
                rw [frc_eq] at this
                exact C.ag (sev_cons C.2.2.2.1 (Nat.le_refl _) (Nat.le_refl _)) this
          · exact absurd hT C.1
        · exact absurd hT C.1
end SG3
