/-! HOLD, UNWISH, LOCK, BACKTO: what a change of the state does to what is told of it -/
def putF (N : Nat → Int) (b : Nat) (f : Nat → Int) : Nat → Int := fun j => if b ≤ j ∧ j < b + 12 then f (j - b) else N j
theorem putF_in {N : Nat → Int} {b p : Nat} {f : Nat → Int} (hp : p < 12) : putF N b f (b + p) = f p := by unfold putF; rw [if_pos (by omega), Nat.add_sub_cancel_left]
theorem putF_out {N : Nat → Int} {b j : Nat} {f : Nat → Int} (n : ¬ (b ≤ j ∧ j < b + 12)) : putF N b f j = N j := if_neg n
theorem Rmb_CS {h h1 : XH} {o u : Int} {N : Nat → Int} {nd : Nat → ND} {m : Nat} (T : HT h) (r : Rmb o u h h1) (b0 : 0 ≤ o ∧ o < 10 ∧ 0 ≤ u ∧ u ≤ 10) (W : WF N m) (C : CS h 8 N nd) : CS h1 8 N nd := by
  have Bs := bs_lt (k := ((o + u) % 10).toNat) (by omega)
  exact CS_fr (fun j hj => Rmb_s T r b0 (by omega) (by omega)) (txt_fr T r.1 (fun b y => by omega)) (WF_b W) C
/-- a cell of the state at hand was stored to -/
theorem st_X {h : XH} {a i : Nat} {v : Value} (T : HT h) (ha : a < 468) (b : Nat) (hb : hk h b = 1 ∨ hk h b = 11) : sameC h (sV h a i v) b := sameC_sV (fun z => noTxt T (by omega) hb)
theorem CS_goal {h g : XH} {N : Nat → Int} {nd : Nat → ND} {m r : Nat} {b : BitVec 64} {f : Nat → Int} (T : HT h) (C : CS h 8 N nd) (W : WF N m) (hr : r < 3) (S : SetR N b f) (e : g = sL h (rc r) 5 b) : CS g 8 (putF N (805 + 291 * r + 35) f) nd ∧ WF (putF N (805 + 291 * r + 35) f) m := by
  have rb := rc_lt hr
  have hW := WF_b W
  have hv := WV_hp W.1
  have G : ∀ c, 8 ≤ c → c < 43 → ¬ c = rc r → sameC h g c := fun c _ _ n => by rw [e]; exact sameC_sV (fun z => n z.symm)
  have X : ∀ a, hk h a = 1 ∨ hk h a = 11 → sameC h g a := fun a ha => by rw [e]; exact st_X T (by omega) a ha
  have cI : ∀ i, ¬ i = 5 → hI g (rc r) i = hI h (rc r) i := fun i n => by rw [e, hI_ni (fun z => n z.symm)]
  have cL : ∀ i, ¬ i = 5 → hL g (rc r) i = hL h (rc r) i := fun i n => by rw [e, hL_ni (fun z => n z.symm)]
  have en : ∀ j, ¬ (805 + 291 * r + 35 ≤ j ∧ j < 805 + 291 * r + 35 + 12) → putF N (805 + 291 * r + 35) f j = N j := fun j n => putF_out n
  have E : VE N (putF N (805 + 291 * r + 35) f) := fun i _ _ => en i (by omega)
  have er : ∀ k, ¬ (35 ≤ k ∧ k < 47) → nR (putF N (805 + 291 * r + 35) f) r k = nR N r k := fun k n => en _ (by omega)
  have eg : ∀ p, p < 12 → nR (putF N (805 + 291 * r + 35) f) r (35 + p) = f p := fun p hp => by
    unfold nR
    rw [← Nat.add_assoc]
    exact putF_in hp
  obtain ⟨a1, a2, a3, a4, a5, a6, a7, a8, a9, a10, a11, a12⟩ := R8 (C.2.2.1 r hr)
  refine CS_one hr (fun c x y n => G c x y (by omega)) X W (fun i n => en i (by omega)) C ?_ ?_
  · refine R8_mk ⟨?_, fun w h8 hw => ?_, ?_, fun p hp => ?_, ?_, ?_, ?_, ?_, fun i hi hw => ?_, ?_, ?_, ?_⟩
    · rw [cI 0 (by decide), er 0 (by omega)]; exact a1
    · rw [er 0 (by omega)] at hw
      rw [er (1 + w) (by omega), sameC_R (G (rc r + 1) (by omega) (by omega) (by omega))]
      exact (a2 w h8 hw).imp_right fun y => ⟨y.1, AtomR_fr X y.2⟩
    · rw [cI 2 (by decide), er 9 (by omega)]; exact a3
    · rw [er (10 + p) (by omega), sameC_R (G (rc r + 2) (by omega) (by omega) (by omega))]
      exact (a4 p hp).imp_right fun y => ⟨y.1, SpanR_fr X y.2⟩
    · rw [cI 4 (by decide), er 22 (by omega)]; exact a5
    · have q : hL g (rc r) 5 = b := by rw [e]; exact hL_eq (hn_obj T (rc_k T hr) rfl rfl)
      rw [q]
      exact SetR_ve E hW.2.2.2 (fun p hp => eg p hp) hv S
    · rw [cL 6 (by decide)]; exact SetR_ve E hW.2.2.2 (fun p hp => er _ (by omega)) hv a7
    · rw [cI 7 (by decide), er 47 (by omega)]; exact a8
    · rw [er 47 (by omega)] at hw
      rw [sameC_L (G (rc r + 3) (by omega) (by omega) (by omega))]
      exact SetR_ve E hW.2.2.2 (fun p hp => er _ (by omega)) hv (a9 i hi hw)
    · rw [cI 9 (by decide), er 288 (by omega)]; exact a10
    · rw [cI 10 (by decide), er 289 (by omega)]; exact a11
    · rw [cI 11 (by decide), er 290 (by omega)]; exact a12
  · obtain ⟨d1, d2, d3, d4, d5, d6, d7, d8, d9, d10, d11⟩ := W.2.1 r hr
    unfold WRt
    rw [er 0 (by omega), er 9 (by omega), er 47 (by omega), er 22 (by omega), E 0 (by omega) (by omega)]
    refine ⟨d1, d2, fun w h8 hw => ?_, d4, d5, d6, fun p hp => ?_, d8, d9, d10, d11⟩
    · rw [er (1 + w) (by omega)]; exact d3 w h8 hw
    · rw [er (10 + p) (by omega)]; exact d7 p hp
theorem CS_held {h g : XH} {N : Nat → Int} {nd : Nat → ND} {m r : Nat} {b : Nat} (T : HT h) (C : CS h 8 N nd) (W : WF N m) (hr : r < 3) (lb : b < 4096) (bb : ∀ p : Nat, p < 12 → b.testBit p = true → (p : Int) < N 0) (e : g = sI h (rc r) 2 b) : CS g 8 (updN N (805 + 291 * r + 9) b) nd ∧ WF (updN N (805 + 291 * r + 9) b) m := by
  have rb := rc_lt hr
  have hW := WF_b W
  have hv := WV_hp W.1
  have G : ∀ c, 8 ≤ c → c < 43 → ¬ c = rc r → sameC h g c := fun c _ _ n => by rw [e]; exact sameC_sV (fun z => n z.symm)
  have X : ∀ a, hk h a = 1 ∨ hk h a = 11 → sameC h g a := fun a ha => by rw [e]; exact st_X T (by omega) a ha
  have cI : ∀ i, ¬ i = 2 → hI g (rc r) i = hI h (rc r) i := fun i n => by rw [e, hI_ni (fun z => n z.symm)]
  have cL : ∀ i, ¬ i = 2 → hL g (rc r) i = hL h (rc r) i := fun i n => by rw [e, hL_ni (fun z => n z.symm)]
  have en : ∀ j, ¬ j = 805 + 291 * r + 9 → updN N (805 + 291 * r + 9) b j = N j := fun j n => updN_ne n
  have E : VE N (updN N (805 + 291 * r + 9) b) := fun i _ _ => en i (by omega)
  have er : ∀ k, ¬ k = 9 → nR (updN N (805 + 291 * r + 9) b) r k = nR N r k := fun k n => en _ (by omega)
  have e9 : nR (updN N (805 + 291 * r + 9) b) r 9 = b := updN_eq
  obtain ⟨a1, a2, a3, a4, a5, a6, a7, a8, a9, a10, a11, a12⟩ := R8 (C.2.2.1 r hr)
  refine CS_one hr (fun c x y n => G c x y (by omega)) X W (fun i n => en i (by omega)) C ?_ ?_
  · refine R8_mk ⟨?_, fun w h8 hw => ?_, ?_, fun p hp => ?_, ?_, ?_, ?_, ?_, fun i hi hw => ?_, ?_, ?_, ?_⟩
    · rw [cI 0 (by decide), er 0 (by omega)]; exact a1
    · rw [er 0 (by omega)] at hw
      rw [er (1 + w) (by omega), sameC_R (G (rc r + 1) (by omega) (by omega) (by omega))]
      exact (a2 w h8 hw).imp_right fun y => ⟨y.1, AtomR_fr X y.2⟩
    · rw [e9, e]
      exact hI_eq (hn_obj T (rc_k T hr) rfl rfl) ⟨by omega, by omega⟩
    · rw [er (10 + p) (by omega), sameC_R (G (rc r + 2) (by omega) (by omega) (by omega))]
      exact (a4 p hp).imp_right fun y => ⟨y.1, SpanR_fr X y.2⟩
    · rw [cI 4 (by decide), er 22 (by omega)]; exact a5
    · rw [cL 5 (by decide)]; exact SetR_ve E hW.2.2.2 (fun p hp => er _ (by omega)) hv a6
    · rw [cL 6 (by decide)]; exact SetR_ve E hW.2.2.2 (fun p hp => er _ (by omega)) hv a7
    · rw [cI 7 (by decide), er 47 (by omega)]; exact a8
    · rw [er 47 (by omega)] at hw
      rw [sameC_L (G (rc r + 3) (by omega) (by omega) (by omega))]
      exact SetR_ve E hW.2.2.2 (fun p hp => er _ (by omega)) hv (a9 i hi hw)
    · rw [cI 9 (by decide), er 288 (by omega)]; exact a10
    · rw [cI 10 (by decide), er 289 (by omega)]; exact a11
    · rw [cI 11 (by decide), er 290 (by omega)]; exact a12
  · obtain ⟨d1, d2, d3, d4, d5, d6, d7, d8, d9, d10, d11⟩ := W.2.1 r hr
    unfold WRt
    rw [er 0 (by omega), e9, er 47 (by omega), er 22 (by omega), E 0 (by omega) (by omega)]
    refine ⟨d1, d2, fun w h8 hw => ?_, by omega, by omega, fun p hp z => bb p hp (by rw [Int.toNat_natCast] at z; exact z), fun p hp => ?_, d8, d9, d10, d11⟩
    · rw [er (1 + w) (by omega)]; exact d3 w h8 hw
    · rw [er (10 + p) (by omega)]; exact d7 p hp
theorem CS_unw {h g : XH} {N : Nat → Int} {nd : Nat → ND} {m r v : Nat} (T : HT h) (C : CS h 8 N nd) (W : WF N m) (hr : r < 3) (v8 : v < 8) (e : g = sR h (rc r + 1) v 0) (k4 : v < hn h (rc r + 1)) : CS g 8 (updN N (805 + 291 * r + (1 + v)) (-1)) nd ∧ WF (updN N (805 + 291 * r + (1 + v)) (-1)) m := by
  have rb := rc_lt hr
  have hW := WF_b W
  have hv := WV_hp W.1
  have G : ∀ c, 8 ≤ c → c < 43 → ¬ c = rc r + 1 → sameC h g c := fun c _ _ n => by rw [e]; exact sameC_sV (fun z => n z.symm)
  have X : ∀ a, hk h a = 1 ∨ hk h a = 11 → sameC h g a := fun a ha => by rw [e]; exact st_X T (by omega) a ha
  have cI : ∀ i, True → hI g (rc r) i = hI h (rc r) i := fun i _ => by rw [e, hI_ne (by omega)]
  have cL : ∀ i, True → hL g (rc r) i = hL h (rc r) i := fun i _ => by rw [e, hL_ne (by omega)]
  have en : ∀ j, ¬ j = 805 + 291 * r + (1 + v) → updN N (805 + 291 * r + (1 + v)) (-1) j = N j := fun j n => updN_ne n
  have E : VE N (updN N (805 + 291 * r + (1 + v)) (-1)) := fun i _ _ => en i (by omega)
  have er : ∀ k, ¬ k = 1 + v → nR (updN N (805 + 291 * r + (1 + v)) (-1)) r k = nR N r k := fun k n => en _ (by omega)
  have ev : nR (updN N (805 + 291 * r + (1 + v)) (-1)) r (1 + v) = -1 := updN_eq
  obtain ⟨a1, a2, a3, a4, a5, a6, a7, a8, a9, a10, a11, a12⟩ := R8 (C.2.2.1 r hr)
  refine CS_one hr (fun c x y n => G c x y (by omega)) X W (fun i n => en i (by omega)) C ?_ ?_
  · refine R8_mk ⟨?_, fun w h8 hw => ?_, ?_, fun p hp => ?_, ?_, ?_, ?_, ?_, fun i hi hw => ?_, ?_, ?_, ?_⟩
    · rw [cI 0 (by decide), er 0 (by omega)]; exact a1
    · rw [er 0 (by omega)] at hw
      by_cases c : w = v
      · subst c
        refine .inl ⟨ev, ?_⟩
        rw [e]
        exact hR_eq k4
      · rw [er (1 + w) (by omega), e, hR_ni (fun z => c z.symm)]
        exact (a2 w h8 hw).imp_right fun y => ⟨y.1, by rw [← e]; exact AtomR_fr X y.2⟩
    · rw [cI 2 (by decide), er 9 (by omega)]; exact a3
    · rw [er (10 + p) (by omega), sameC_R (G (rc r + 2) (by omega) (by omega) (by omega))]
      exact (a4 p hp).imp_right fun y => ⟨y.1, SpanR_fr X y.2⟩
    · rw [cI 4 (by decide), er 22 (by omega)]; exact a5
    · rw [cL 5 (by decide)]; exact SetR_ve E hW.2.2.2 (fun p hp => er _ (by omega)) hv a6
    · rw [cL 6 (by decide)]; exact SetR_ve E hW.2.2.2 (fun p hp => er _ (by omega)) hv a7
    · rw [cI 7 (by decide), er 47 (by omega)]; exact a8
    · rw [er 47 (by omega)] at hw
      rw [sameC_L (G (rc r + 3) (by omega) (by omega) (by omega))]
      exact SetR_ve E hW.2.2.2 (fun p hp => er _ (by omega)) hv (a9 i hi hw)
    · rw [cI 9 (by decide), er 288 (by omega)]; exact a10
    · rw [cI 10 (by decide), er 289 (by omega)]; exact a11
    · rw [cI 11 (by decide), er 290 (by omega)]; exact a12
  · obtain ⟨d1, d2, d3, d4, d5, d6, d7, d8, d9, d10, d11⟩ := W.2.1 r hr
    unfold WRt
    rw [er 0 (by omega), er 9 (by omega), er 47 (by omega), er 22 (by omega), E 0 (by omega) (by omega)]
    refine ⟨d1, d2, fun w h8 hw => ?_, d4, d5, d6, fun p hp => ?_, d8, d9, d10, d11⟩
    · by_cases c : w = v
      · rw [c, ev]; omega
      · rw [er (1 + w) (by omega)]; exact d3 w h8 hw
    · rw [er (10 + p) (by omega)]; exact d7 p hp
theorem CS_lock {h g : XH} {N : Nat → Int} {nd : Nat → ND} {m l : Nat} {b : BitVec 64} {f : Nat → Int} (T : HT h) (C : CS h 8 N nd) (W : WF N m) (hl : l < 3) (S : SetR N b f) (e : g = sL h 39 l b) : CS g 8 (putF N (1678 + 12 * l) f) nd ∧ WF (putF N (1678 + 12 * l) f) m := by
  have hW := WF_b W
  have hv := WV_hp W.1
  have G : ∀ c, 8 ≤ c → c < 43 → ¬ c = 39 → sameC h g c := fun c _ _ n => by rw [e]; exact sameC_sV (fun z => n z.symm)
  have X : ∀ a, hk h a = 1 ∨ hk h a = 11 → sameC h g a := fun a ha => by rw [e]; exact st_X T (by omega) a ha
  have en : ∀ j, ¬ (1678 + 12 * l ≤ j ∧ j < 1678 + 12 * l + 12) → putF N (1678 + 12 * l) f j = N j := fun j n => putF_out n
  have E : VE N (putF N (1678 + 12 * l) f) := fun i _ _ => en i (by omega)
  have er : ∀ r, r < 3 → ∀ k, k < 291 → nR (putF N (1678 + 12 * l) f) r k = nR N r k := fun r hr k hk => en _ (by omega)
  refine ⟨⟨CSV_ve E hW.2.2.2 (CSV_cp (fun j i w x _ => sameC_el (G (8 + j) (by omega) (by omega) (by omega)) i) X hW C.1), CSP_ve E hW.2.2.2 (CSP_cp (fun j i w x _ => sameC_el (G (8 + j) (by omega) (by omega) (by omega)) i) hW C.2.1), fun q hq => CSR_ve E hW.2.2.2 hv (er q hq) (CSR_cp (fun j i w _ => sameC_el (G _ (by omega) (by omega) (by omega)) i) X (C.2.2.1 q hq)), ?_⟩, WV_ve E W.1, fun r hr => WRt_ve E (er r hr) (W.2.1 r hr), ?_⟩
  · obtain ⟨a1, a2, a3, a4, a5⟩ := C.2.2.2
    refine ⟨by rw [sameC_I (G 8 (by decide) (by decide) (by decide)), en 1 (by omega)]; exact a1, by rw [sameC_I (G 8 (by decide) (by decide) (by decide)), en 3 (by omega)]; exact a2, by rw [sameC_I (G 8 (by decide) (by decide) (by decide)), en 2 (by omega)]; exact a3, fun k hk => ?_, fun m hm => ?_⟩
    · by_cases c : k = l
      · subst c
        have q : hL g 39 k = b := by rw [e]; exact hL_eq (by rw [lyn (c := 101) (n := 3) T rfl]; omega)
        rw [show 8 + 31 = 39 from rfl, q]
        exact SetR_ve E hW.2.2.2 (fun p hp => putF_in hp) hv S
      · have q : hL g 39 k = hL h 39 k := by rw [e, hL_ni (fun z => c z.symm)]
        rw [show 8 + 31 = 39 from rfl, q]
        exact SetR_ve E hW.2.2.2 (fun p hp => en _ (by omega)) hv (a4 k hk)
    · obtain ⟨q1, q2, q3⟩ := a5 m hm
      refine ⟨?_, fun v hv => ?_, fun v hv x => ?_⟩
      · rw [sameC_I (G 40 (by decide) (by decide) (by decide)), en _ (by omega)]; exact q1
      · rw [sameC_L (G 41 (by decide) (by decide) (by decide)), en _ (by omega)]; exact q2 v hv
      · rw [en _ (by omega)] at x
        rw [sameC_I (G 42 (by decide) (by decide) (by decide)), en _ (by omega)]
        exact q3 v hv x
  · obtain ⟨c1, c2, c3, c4, c5, c6, c7⟩ := W.2.2
    unfold WT
    rw [en 1 (by omega), en 2 (by omega), en 3 (by omega)]
    refine ⟨c1, c2, c3, c4, c5, c6, fun m hm => ?_⟩
    obtain ⟨q1, q2, q3⟩ := c7 m hm
    rw [en _ (by omega)]
    refine ⟨q1, q2, fun v hv => ?_⟩
    rw [en _ (by omega), VE_c E]
    exact q3 v hv
theorem SetR_0 {N : Nat → Int} {m : Nat} (W : WV N m) : SetR N 0#64 (fun _ => -1) := by
  refine ⟨fun v hv => ?_, fun p hp => ?_, fun j _ => BitVec.getLsbD_zero, fun p _ => .inl rfl⟩
  · rw [BitVec.getLsbD_zero]
    refine ⟨fun z => (by cases z), fun z => ?_⟩
    obtain ⟨z1, z2⟩ := z
    have := W.2.2.2.2.1 v z1
    dsimp only at z2
    omega
  · rw [BitVec.getLsbD_zero]
    exact ⟨fun z => (by cases z), fun z => (by dsimp only at z; omega)⟩
theorem iand_nt {a b : Nat} (ha : a < 2147483648) (hb : b < 2147483648) : iand (a : Int) (ixor (b : Int) (-1)) = ((a ^^^ (a &&& b) : Nat) : Int) := by
  unfold iand ixor
  rw [J_toInt]
  show ((J (a : Int)).toBitVec &&& ((J (b : Int)).toBitVec ^^^ (J (-1)).toBitVec)).toInt = _
  refine ti_of ?_ (Nat.xor_lt_two_pow (n := 31) ha (Nat.lt_of_le_of_lt Nat.and_le_left ha))
  rw [BitVec.toNat_and, BitVec.toNat_xor, bv_J ha, bv_J hb, show (J (-1)).toBitVec.toNat = 2 ^ 32 - 1 by decide]
  apply Nat.eq_of_testBit_eq
  intro i
  rw [Nat.testBit_and, Nat.testBit_xor, Nat.testBit_xor, Nat.testBit_and, Nat.testBit_two_pow_sub_one]
  by_cases c : i < 32
  · rw [dt c]
    cases a.testBit i <;> cases b.testBit i <;> rfl
  · have : a.testBit i = false := Nat.testBit_lt_two_pow (Nat.lt_of_lt_of_le ha (Nat.pow_le_pow_right (n := 2) (by decide) (show 31 ≤ i by omega)))
    rw [this]
    simp
/-- the packages that are held then -/
def heldN (H p : Nat) (b : Int) : Nat := if b = 0 then H ^^^ (H &&& 2 ^ p) else H ||| 2 ^ p
theorem heldN_at {H p i : Nat} {b : Int} : (heldN H p b).testBit i = (if b = 0 then (H.testBit i && !decide (p = i)) else (H.testBit i || decide (p = i))) := by
  unfold heldN
  by_cases c : b = 0
  · rw [if_pos c, if_pos c, Nat.testBit_xor, Nat.testBit_and, Nat.testBit_two_pow]
    cases H.testBit i <;> cases decide (p = i) <;> rfl
  · rw [if_neg c, if_neg c, Nat.testBit_or, Nat.testBit_two_pow]
theorem heldN_lt {H p : Nat} {b : Int} (hH : H < 4096) (hp : p < 12) : heldN H p b < 4096 := by
  unfold heldN
  by_cases c : b = 0
  · rw [if_pos c]; exact Nat.xor_lt_two_pow (n := 12) hH (Nat.lt_of_le_of_lt Nat.and_le_left hH)
  · rw [if_neg c]; exact Nat.or_lt_two_pow (n := 12) hH (Nat.pow_lt_pow_right (by decide) hp)
theorem ishl1 {n : Int} (hn : 0 ≤ n ∧ n < 31) : ishl 1 n = ((2 ^ n.toNat : Nat) : Int) := by
  have := ishl_nat (a := 1) (n := n.toNat) (by omega) (by rw [Nat.one_mul]; exact Nat.pow_lt_pow_right (n := 31) (by decide) (by omega))
  rw [show ((n.toNat : Nat) : Int) = n by omega, Nat.one_mul] at this
  exact this
theorem heldN_0 {H : Nat} {p b : Int} (hH : H < 4096) (hp : 0 ≤ p ∧ p < 12) (c : b = 0) : iand (H : Int) (ixor (ishl 1 p) (-1)) = (heldN H p.toNat b : Nat) := by
  have : 2 ^ p.toNat < 4096 := Nat.pow_lt_pow_right (m := p.toNat) (n := 12) (by decide) (by omega)
  rw [ishl1 (by omega), iand_nt (by omega) (by omega)]
  unfold heldN
  rw [if_pos c]
theorem heldN_1 {H : Nat} {p b : Int} (hH : H < 4096) (hp : 0 ≤ p ∧ p < 12) (c : ¬ b = 0) : ior (H : Int) (ishl 1 p) = (heldN H p.toNat b : Nat) := by
  have : 2 ^ p.toNat < 4096 := Nat.pow_lt_pow_right (m := p.toNat) (n := 12) (by decide) (by omega)
  rw [ishl1 (by omega), ior_nat (by omega) (by omega)]
  unfold heldN
  rw [if_neg c]
def hd (N : Nat → Int) : Nat := (nR N (rh N) 9).toNat
theorem hd_r {N : Nat → Int} {m : Nat} (W : WF N m) : nR N (rh N) 9 = (hd N : Nat) ∧ hd N < 4096 := by
  have := (W.2.1 (rh N) (rh_lt W)).2.2.2
  unfold hd
  omega
theorem W_nw {g5 g7 : XH} {N : Nat → Int} {i : Nat} {x : Int} (T : HT g5) (hi : i < 1957) (rx : rg x) (e7 : g7 = sI g5 438 i x) (e : nw g5 = N) : nw g7 = updN N i x := by
  funext j
  rw [e7, nw_sI T hi rx, e]
  rfl
set_option maxHeartbeats 1000000 in
theorem c_X12_hold {p0 p1 : Int} {h : XH} {N : Nat → Int} {nd : Nat → ND} {m : Nat} {o u : Int} (T : HT h) (C : CS h 8 N nd) (W : WF N m) (B0 : 0 ≤ o ∧ o < 10 ∧ 0 ≤ u ∧ u ≤ 10) (Bo : hI h 2 9 = o) (Bu : hI h 2 10 = u) (Bs : hI h 43 2 = 10) {K : Int → XH → Prop} {E : Nat → XH → Prop} (k0 : ¬ (0 ≤ p0 ∧ p0 < N 0) → E 2 (nT h)) (k : 0 ≤ p0 ∧ p0 < N 0 → ∀ h2 h4, Rmb o u h h2 → HT h2 → Fr (fun b => b = rc (rh N)) h2 h4 → h4.length = h2.length → xhs h4 = xhs h2 → CS h4 8 (updN N (805 + 291 * rh N + 9) (heldN (hd N) p0.toNat p1 : Nat)) nd → K ((cntN 32 (heldN (hd N) p0.toNat p1).testBit : Nat)) h4) : w_X12_hold p0 p1 K E h := by
  unfold w_X12_hold
  refine c_X12_checkPack (fun q => k0 (by rw [(V80 C.1).1] at q; exact q)) (fun q1 q2 => ?_)
  rw [(V80 C.1).1] at q2
  have b12 := W.1.2.1
  refine c_X12_remember B0 T Bo Bu Bs ?_
  intro h1 qh1
  intro t1 u1
  have hr := hd_r W
  have C1' := Rmb_CS T qh1 B0 W C
  have e2 := (R8 (C1'.2.2.1 (rh N) (rh_lt W))).2.2.1
  refine c_atH C1' W ?_
  refine ⟨fun x => x = (heldN (hd N) p0.toNat p1 : Nat), ?_, ?_⟩
  · intro x3 rx3 z4
    refine ⟨(rc_k t1 (rh_lt W)), ?_⟩
    intro h6 eh6 t6 u6
    have l12 := heldN_lt (p := p0.toNat) (b := p1) hr.2 (by omega)
    have e6 : hI h6 (rc (rh N)) 2 = (heldN (hd N) p0.toNat p1 : Nat) := by
      rw [eh6, z4]
      exact hI_eq (hn_obj t1 (rc_k t1 (rh_lt W)) rfl rfl) ⟨by omega, by omega⟩
    rw [e6]
    refine c_J6_bitCount_0f7a4 (by omega) ?_
    intro _
    have bb := (W.2.1 (rh N) (rh_lt W)).2.2.2.2.2.1
    obtain ⟨c1, c2⟩ := CS_held (g := h6) t1 C1' W (rh_lt W) l12 (fun p hp z => by
      rw [heldN_at] at z
      by_cases y : p = p0.toNat
      · omega
      · refine bb p hp ?_
        show (hd N).testBit p = true
        rw [df (show ¬ p0.toNat = p from fun w => y w.symm)] at z
        by_cases d : p1 = 0
        · rw [if_pos d] at z; simpa using z
        · rw [if_neg d] at z; simpa using z) (by rw [eh6, z4])
    exact k ⟨q1, q2⟩ _ _ qh1 t1 (by rw [eh6]; exact Fr_sV rfl) (by rw [eh6, len_sV]) (by rw [eh6, xhs_sV]) c1
  · refine ⟨fun c10 => ?_, fun c10 => ?_⟩
    · refine ⟨(rc_k t1 (rh_lt W)), ?_⟩
      first
        | (rw [e2, hr.1]; exact heldN_0 hr.2 (by omega) c10)
        | (rw [e2, hr.1]; exact heldN_1 hr.2 (by omega) c10)
    · refine ⟨(rc_k t1 (rh_lt W)), ?_⟩
      first
        | (rw [e2, hr.1]; exact heldN_0 hr.2 (by omega) c10)
        | (rw [e2, hr.1]; exact heldN_1 hr.2 (by omega) c10)
set_option maxHeartbeats 1000000 in
theorem c_L_hold {p0 p1 : Int} {h : XH} {N : Nat → Int} {nd : Nat → ND} {m : Nat} {o u : Int} (T : HT h) (C : CS h 8 N nd) (W : WF N m) (B0 : 0 ≤ o ∧ o < 10 ∧ 0 ≤ u ∧ u ≤ 10) (Bo : hI h 2 9 = o) (Bu : hI h 2 10 = u) (Bs : hI h 43 2 = 10) {K : Int → XH → Prop} (k0 : ¬ (0 ≤ p0 ∧ p0 < N 0) → K 1 (nT h)) (k : 0 ≤ p0 ∧ p0 < N 0 → ∀ h2 h4 h5, Rmb o u h h2 → HT h2 → Fr (fun b => b = rc (rh N)) h2 h4 → h4.length = h2.length → xhs h4 = xhs h2 → HT h4 → CS h4 8 (updN N (805 + 291 * rh N + 9) (heldN (hd N) p0.toNat p1 : Nat)) nd → h5 = sL h4 467 0 (i2l ((cntN 32 (heldN (hd N) p0.toNat p1).testBit : Nat))) → K 0 h5) : w_L_hold p0 p1 K h := by
  unfold w_L_hold
  refine c_X12_hold T C W B0 Bo Bu Bs (fun q => ⟨rfl, k0 q⟩) (fun q g2 g4 r t f l x c => ?_)
  intro tx ux _
  intro h5 eh5 t5 u5
  exact k q _ _ _ r t f l x tx c eh5
set_option maxHeartbeats 1000000 in
theorem c_X14_hold {p0 p1 : Int} {h : XH} {N : Nat → Int} {m : Nat} {q u : Int} (T : HT h) (eN : N = nw h) (W : WF N m) (B1 : 0 ≤ q ∧ q < 10 ∧ 0 ≤ u ∧ u ≤ 10) (Rq : hI h 437 3 = q) (Ru : hI h 437 2 = u) {K : Int → XH → Prop} (k0 : ¬ (0 ≤ p0 ∧ p0 < N 0) → ∀ h1 h2, HT h1 → h1 = sI h 437 5 0 → h2 = sI h1 437 5 1 → K 0 h2) (k : 0 ≤ p0 ∧ p0 < N 0 → ∀ h1 h5 h7, HT h1 → h1 = sI h 437 5 0 → Rrec q u h1 h5 → HT h5 → Fr (fun b => b = 438) h5 h7 → Gr 0 (0) h5 h7 → nw h7 = updN N (805 + 291 * rh N + 9) (heldN (hd N) p0.toNat p1 : Nat) → K ((cntN 32 (heldN (hd N) p0.toNat p1).testBit : Nat)) h7) : w_X14_hold p0 p1 K h := by
  unfold w_X14_hold
  intro h1 eh1 t1 u1
  have eN1 : N = nw h1 := eN.trans (nw_fr (by rw [eh1]; exact sameC_sV (by decide))).symm
  have Rq1 : hI h1 437 3 = q := by rw [eh1, hI_ni (by decide)]; exact Rq
  have Ru1 : hI h1 437 2 = u := by rw [eh1, hI_ni (by decide)]; exact Ru
  refine c_X14_isPack ?_ (by rw [show hI h1 438 0 = N 0 by rw [eN1]; rfl]; exact W.1.1)
  intro x2 qx2
  rw [show hI h1 438 0 = N 0 by rw [eN1]; rfl] at qx2
  have b12 := W.1.2.1
  intro rx2 vx2
  refine c_X14_refused qx2 ?_
  intro x3 h4 qx3
  intro t4 u4
  intro rx3 vx3
  refine ⟨fun c14 => ?_, fun c14 => ?_⟩
  · obtain ⟨b_, e_⟩ : (0 ≤ p0 ∧ p0 < N 0) ∧ h4 = h1 := by
      rcases qx3 with ⟨_, y, z⟩ | ⟨y, _⟩
      · exact ⟨y, z⟩
      · omega
    subst e_
    have hr := hd_r W
    refine c_X14_record B1 t4 Rq1 Ru1 ?_
    intro h5 qh5
    have eN5 : N = nw h5 := eN1.trans (nw_fr (qh5.1 438 (by have := HT_len t4; omega) (by decide))).symm
    intro t5 u5
    refine ⟨fun x => x = (heldN (hd N) p0.toNat p1 : Nat), ?_, ?_⟩
    · intro x6 rx6 z7
      have l12 := heldN_lt (p := p0.toNat) (b := p1) hr.2 (by omega)
      refine c_X14_putRoot (by decide) (hr_ eN5 W) (rh_lt W) ?_
      intro h8 eh8
      have en8 := W_nw t5 (by have := rh_lt W; omega) rx6 eh8 eN5.symm
      intro t8 u8
      refine c_X14_rootAt (by decide) (r := rh N) (by rw [eh8, hI_ni (by omega)]; exact hr_ eN5 W) (rh_lt W) ?_
      intro x9 qx9
      intro rx9
      have e9 : x9 = (heldN (hd N) p0.toNat p1 : Nat) := by
        rw [qx9, en8]
        exact updN_eq.trans z7
      rw [e9]
      refine c_J6_bitCount_0f7a4 (by omega) ?_
      intro _
      exact k b_ _ _ _ t4 eh1 qh5 t5 (by rw [eh8]; exact Fr_sV rfl) (by rw [eh8]; exact Gr_sV _ _ _ _) (by rw [en8, z7]; rfl)
    · refine ⟨fun c13 => ?_, fun c13 => ?_⟩
      · refine c_X14_rootAt (by decide) (hr_ eN5 W) (rh_lt W) ?_
        intro x11 qx11
        intro rx11
        first
          | (rw [qx11, ← eN5, show nR N (rh N) (Int.toNat 9) = nR N (rh N) 9 from rfl, hr.1]; exact heldN_0 hr.2 (by omega) c13)
          | (rw [qx12, ← eN5, show nR N (rh N) (Int.toNat 9) = nR N (rh N) 9 from rfl, hr.1]; exact heldN_1 hr.2 (by omega) c13)
      · refine c_X14_rootAt (by decide) (hr_ eN5 W) (rh_lt W) ?_
        intro x12 qx12
        intro rx12
        first
          | (rw [qx11, ← eN5, show nR N (rh N) (Int.toNat 9) = nR N (rh N) 9 from rfl, hr.1]; exact heldN_0 hr.2 (by omega) c13)
          | (rw [qx12, ← eN5, show nR N (rh N) (Int.toNat 9) = nR N (rh N) 9 from rfl, hr.1]; exact heldN_1 hr.2 (by omega) c13)
  · have q_ : ¬ (0 ≤ p0 ∧ p0 < N 0) ∧ h4 = sI h1 437 5 1 := by
      rcases qx3 with ⟨y, _⟩ | ⟨_, y, z⟩
      · omega
      · exact ⟨y, z⟩
    exact k0 q_.1 _ _ t1 eh1 q_.2
theorem held_bb {N : Nat → Int} {m : Nat} (W : WF N m) {p0 p1 : Int} (hp : 0 ≤ p0 ∧ p0 < N 0) : ∀ p : Nat, p < 12 → (heldN (hd N) p0.toNat p1).testBit p = true → (p : Int) < N 0 := fun p hp z => by
  rw [heldN_at] at z
  by_cases y : p = p0.toNat
  · omega
  · refine (W.2.1 (rh N) (rh_lt W)).2.2.2.2.2.1 p hp ?_
    show (hd N).testBit p = true
    rw [df (show ¬ p0.toNat = p from fun w => y w.symm)] at z
    by_cases d : p1 = 0
    · rw [if_pos d] at z; simpa using z
    · rw [if_neg d] at z; simpa using z
theorem WF_held {N : Nat → Int} {m r b : Nat} (W : WF N m) (hr : r < 3) (lb : b < 4096) (bb : ∀ p : Nat, p < 12 → b.testBit p = true → (p : Int) < N 0) : WF (updN N (805 + 291 * r + 9) b) m := by
  have en : ∀ j, ¬ j = 805 + 291 * r + 9 → updN N (805 + 291 * r + 9) b j = N j := fun j n => updN_ne n
  have E : VE N (updN N (805 + 291 * r + 9) b) := fun i _ _ => en i (by omega)
  refine ⟨WV_ve E W.1, fun q hq => ?_, WT_ve E (fun i hi => en i (by omega)) W.2.2⟩
  by_cases c : q = r
  · subst c
    have er : ∀ k, ¬ k = 9 → nR (updN N (805 + 291 * q + 9) b) q k = nR N q k := fun k n => en _ (by omega)
    have e9 : nR (updN N (805 + 291 * q + 9) b) q 9 = b := updN_eq
    obtain ⟨d1, d2, d3, d4, d5, d6, d7, d8, d9, d10, d11⟩ := W.2.1 q hr
    unfold WRt
    rw [er 0 (by omega), e9, er 47 (by omega), er 22 (by omega), E 0 (by omega) (by omega)]
    refine ⟨d1, d2, fun w h8 hw => ?_, by omega, by omega, fun p hp z => bb p hp (by rw [Int.toNat_natCast] at z; exact z), fun p hp => ?_, d8, d9, d10, d11⟩
    · rw [er (1 + w) (by omega)]; exact d3 w h8 hw
    · rw [er (10 + p) (by omega)]; exact d7 p hp
  · exact WRt_ve E (fun k hk => en _ (by omega)) (W.2.1 q hq)
theorem d_hold {h : XH} {nd : Nat → ND} {o u p0 p1 : Int} {c : Nat} (T : HT h) (R : Inv h nd o u c) (hc : c < 1000) {K : Int → XH → Prop} {J : XH → Prop} (k : ∀ h' o' u', HT h' → Inv h' nd o' u' (c + 1) → Gr (1 + 0) (xcs none + (0)) h h' → J h') : w_L_hold p0 p1 (LDw h (fun g Q => w_X14_hold p0 p1 Q g) K J) h := by
  have W := R.1.2.1
  have C := R.1.1
  have hr := rh_lt W
  obtain ⟨b0, p1', p2', p3', p4', p5'⟩ := id R.1.2.2.2.1
  refine dset (S := fun b => b = rc (rh (nw h))) (N' := updN (nw h) (805 + 291 * rh (nw h) + 9) (heldN (hd (nw h)) p0.toNat p1 : Nat)) (e := if 0 ≤ p0 ∧ p0 < (nw h) 0 then 0 else 1) (x := (cntN 32 (heldN (hd (nw h)) p0.toNat p1).testBit : Nat)) (wL := fun Q => w_L_hold p0 p1 Q h) (wR := fun g Q => w_X14_hold p0 p1 Q g) T R hc (fun b y => by have := rc_lt hr; omega) (fun ez => ?_) (fun ez b => ?_) (fun Q q0 q1 => ?_) (fun g Tg gF g3 g2 eg Q q0 q1 => ?_) k
  · have z := e1_0 (by decide) ez
    exact WF_held W hr (heldN_lt (hd_r W).2 (by have := W.1.2.1; omega)) (held_bb W z)
  · have z := e1_0 (by decide) ez
    exact BdN_cg (fun i hi => updN_ne (by omega)) (fun r hr => ⟨updN_ne (by omega), fun p hp => updN_ne (by omega)⟩) (fun m hm => updN_ne (by omega)) (WF_b W).2.2.2 b
  · exact c_L_hold T C W b0 p1' p2' R.1.2.2.2.2.1  (fun y => kA q0 (by decide) y) (fun y => kZ q1 y)
  · exact c_X14_hold Tg eg.symm W (by omega) g3 g2  (fun y => kA q0 (by decide) y) (fun y => kZ q1 y)
