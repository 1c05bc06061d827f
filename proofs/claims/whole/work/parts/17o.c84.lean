theorem fOv {N : Nat → Int} {m : Nat} (W : WF N m) {f : Nat → Int} (S : fOK N f) {p : Nat} (hp : p < 12) : f p = -1 ∨ (0 ≤ f p ∧ f p < 2000000) := by
  rcases S p hp with y | ⟨v, hv, -, e⟩
  · exact .inl y
  · have w := W.1.2.2.2.2.1 v hv
    have := w.2.2.1
    have := w.2.2.2.1
    exact .inr (by omega)
theorem fOK_upd {N : Nat → Int} {u g : Nat → Int} {x : Nat} (S : fOK N u) (Sg : fOK N g) : fOK N (updN u x (g x)) := fun p hp => by
  by_cases c : p = x
  · rw [c, updN_eq]; rw [c] at hp; exact Sg x hp
  · rw [updN_ne c]; exact S p hp
theorem fOK_u0 {N : Nat → Int} {t g : Nat → Int} {a : Nat} (S : fOK N t) (Sg : fOK N g) : fOK N (u0F a t g) := fun p hp => by
  unfold u0F
  by_cases b : a.testBit p = true
  · rw [if_pos b]
    by_cases c : cIn t p = cIn g p
    · rw [if_pos c]; exact Sg p hp
    · rw [if_neg c]; exact .inl rfl
  · rw [if_neg b]; exact S p hp
theorem LsR_fr {h g : XH} {a : Nat} {M : List Nat} (s : sameC h g a) (z : LsR h a M) : LsR g a M := ⟨(sameC_k s).trans z.1, (sameC_n s).trans z.2.1, fun i hi => (sameC_I s i).trans (z.2.2 i hi)⟩
/-- behind a step without a clash: all have moved -/
theorem u_mv {t g f0 u : Nat → Int} {a : Nat} {M : List Nat} (hm : ∀ x, x < 12 → a.testBit x = true → t x = f0 x) (hM : ∀ q, q < 12 → comC g f0 q = true → q ∈ M) (hu : ∀ q, q < 12 → u q = if q ∈ M ∧ a.testBit q = true then g q else u0F a t g q) (q : Nat) (hq : q < 12) : u q = mvF a t g q := by
  rw [hu q hq]
  unfold mvF u0F
  by_cases b : a.testBit q = true
  · rw [if_pos b, if_pos b]
    by_cases c : q ∈ M
    · rw [if_pos ⟨c, b⟩]
    · rw [if_neg (fun y => c y.1)]
      have nc : ¬ comC g f0 q = true := fun y => c (hM q hq y)
      have e : cIn t q = cIn f0 q := by unfold cIn; rw [hm q hq b]
      by_cases z : cIn t q = cIn g q
      · rw [if_pos z]
      · rw [if_neg z]
        refine Classical.byContradiction fun w => nc ?_
        unfold comC comF
        rw [if_neg (fun y => y.elim (fun y => w y.symm) (fun y => z (e.trans y.symm))), decide_eq_false (fun y => w y.symm)]; rfl
  · rw [if_neg (fun y => b y.2), if_neg b, if_neg b]
set_option maxHeartbeats 16000000 in
theorem c_X14_carryOut {k a p1 p2 p3 r m : Nat} {mo : Int} {t g0 f0 : Nat → Int} {M : List Nat} {h : XH} {N P : Nat → Int} (T : HT h) (en : nw h = P) (W : WF N m) (WP : WF P m) (E : E8 N P) (er : rh P = r) (e22 : nR P r 22 = mo) (A1 : AR h p1 t) (A2 : AR h p2 g0) (Lm : LsR h p3 M) (S : fOK N t) (Sg : fOK N g0) (q1 : 468 ≤ p1) (n12 : ¬ p2 = p1) (n13 : ¬ p3 = p1) (lt : a < 4096) (a0 : 0 < a) (k12 : k < 12) (e466 : hI h 466 k = (a : Int)) (l12 : M.length ≤ 12) (lp : ∀ i, i < M.length → M.getD i 0 < 12 ∧ ¬ g0 (M.getD i 0) = -1) (hm : ∀ x, x < 12 → a.testBit x = true → t x = f0 x) (hM : ∀ q, q < 12 → comC g0 f0 q = true → q ∈ M) {K : Int → XH → Prop} (kk : ∀ x g, g.length = h.length → xhs g = xhs h → ((x = (k : Int) ∧ cfl N g0 (fun x => a.testBit x) (u0F a t g0) M = -1 ∧ ¬ mo < szF N (mvF a t g0) ∧ fll N g0 (fun x => a.testBit x) M = -1 ∧ Fr (fun b => b = p1) h g ∧ AR g p1 (mvF a t g0) ∧ nw g = P) ∨ (x = -1 ∧ Fr (fun b => b = p1 ∨ b = 438) h g ∧ ∃ y1 y2 : Int, nw g = whyN P r y1 y2 k ∧ ((y1 = 2 ∧ ¬ cfl N g0 (fun x => a.testBit x) (u0F a t g0) M = -1 ∧ y2 = cfl N g0 (fun x => a.testBit x) (u0F a t g0) M) ∨ (y1 = 3 ∧ cfl N g0 (fun x => a.testBit x) (u0F a t g0) M = -1 ∧ mo < szF N (mvF a t g0) ∧ y2 = hiB a 12) ∨ (y1 = 4 ∧ cfl N g0 (fun x => a.testBit x) (u0F a t g0) M = -1 ∧ ¬ mo < szF N (mvF a t g0) ∧ ¬ fll N g0 (fun x => a.testBit x) M = -1 ∧ y2 = fll N g0 (fun x => a.testBit x) M)))) → K x g) : w_X14_carryOut (k : Int) p1 p2 p3 K h := by
  unfold w_X14_carryOut
  have r3 : r < 3 := by rw [← er]; exact rh_lt WP
  have L0 := HT_len T
  have l1 : p1 < h.length := hk_lt A1.1 (by decide)
  have l2 : p2 < h.length := hk_lt A2.1 (by decide)
  have l3 : p3 < h.length := hk_lt Lm.1 (by decide)
  have W4 := W.1.2.2.2.1
  have vP : ∀ v j, v < 40 → j < 20 → nV P v j = nV N v j := fun v j hv hj => E8_v E hv hj
  have SgP : fOK P g0 := E8_fO E W Sg
  obtain ⟨d, ed⟩ : ∃ d : Nat → Bool, d = (fun x => a.testBit x) := ⟨_, rfl⟩
  rw [← ed] at kk
  have dq : ∀ x, d x = a.testBit x := fun x => by rw [ed]
  have fb : ∀ f : Nat → Int, fOK N f → ∀ q, q < 12 → ¬ f q = -1 → 0 ≤ slF N f q ∧ (slF N f q).toNat < vc N ∧ (slF N f q).toNat < 40 ∧ filesP N f q = (nV N (slF N f q).toNat 2).toNat := fun f Sf q hq n => by
    obtain ⟨s0, sv, -⟩ := slF_fOK W Sf hq n
    exact ⟨s0, sv, by unfold vc at sv; omega, by unfold filesP; rw [if_neg n]⟩
  have f31 : ∀ v, v < vc N → 0 ≤ nV N v 2 ∧ (nV N v 2).toNat < 2147483648 := fun v hv => by
    have e : hI h 438 (5 + 20 * v + 2) = nV N v 2 := by rw [← vP v 2 (by unfold vc at hv; omega) (by decide), ← en]; rfl
    have r_ := rg16 h 438 (5 + 20 * v + 2)
    rw [e] at r_
    have := (W.1.2.2.2.2.1 v hv).2.2.2.2.2.1
    have := r_.2
    omega
  refine ⟨(by omega), ?_⟩
  intro x2 ex2 rx2
  rw [Int.toNat_natCast, e466] at ex2
  refine ⟨fun x g => ∃ p : Nat, x = (p : Int) ∧ p ≤ 12 ∧ Fr (fun b => b = p1) h g ∧ g.length = h.length ∧ xhs g = xhs h ∧ AR g p1 (fun q => if q < p then u0F a t g0 q else t q), fun x _ => (12 - x).toNat, ?_, ?_⟩
  · exact ⟨0, rfl, by decide, Fr_rf _ _, rfl, rfl, AR_cg A1 (fun q _ => if_neg (by omega))⟩
  · intro x3 h5 t5 s5 rx3 z6
    obtain ⟨p, ep, pl, F5, l5, x5, A5⟩ := z6
    have s2 : sameC h h5 p2 := F5 p2 l2 n12
    have s3 : sameC h h5 p3 := F5 p3 l3 n13
    have B5 := AR_fr s2 A2
    have Lm5 := LsR_fr s3 Lm
    refine ⟨fun c90 => ?_, fun c90 => ?_⟩
    · refine ⟨Lm5.1, ?_⟩
      refine ⟨(by have := Lm5.2.1; omega), ?_⟩
      intro x9 ex9 rx9
      rw [Lm5.2.1] at ex9
      have A6 : AR h5 p1 (u0F a t g0) := AR_cg A5 (fun q hq => (if_pos (by omega)).symm)
      refine ⟨fun y g => ∃ (j : Nat) (u : Nat → Int), y = (j : Int) ∧ j ≤ M.length ∧ Fr (fun b => b = p1) h g ∧ g.length = h.length ∧ xhs g = xhs h ∧ AR g p1 u ∧ fOK N u ∧ cfl N g0 d (u0F a t g0) M = cfl N g0 d u (M.drop j) ∧ ∀ q, q < 12 → u q = if q ∈ M.take j ∧ a.testBit q = true then g0 q else u0F a t g0 q, fun y _ => ((M.length : Int) - y).toNat, ?_, ?_⟩
      · exact ⟨0, u0F a t g0, rfl, Nat.zero_le _, F5, l5, x5, A6, fOK_u0 S Sg, by rw [List.drop_zero], fun q _ => by rw [if_neg (fun y => by have := y.1; simp at this)]⟩
      · intro x10 h14 t14 s14 rx10 z15
        obtain ⟨j, u, ej, jl, F14, l14, x14, A14, Su, cf, hu⟩ := z15
        have B14 := AR_fr (F14 p2 l2 n12) A2
        have Lm14 := LsR_fr (F14 p3 l3 n13) Lm
        have en14 : P = nw h14 := en.symm.trans (nw_fr (F14 438 (by omega) (by omega))).symm
        have SuP : fOK P u := E8_fO E W Su
        refine ⟨fun c69 => ?_, fun c69 => ?_⟩
        · have jl2 : j = M.length := by omega
          have cf0 : cfl N g0 d (u0F a t g0) M = -1 := by rw [cf, jl2, List.drop_length]; rfl
          have hu2 : ∀ q, q < 12 → u q = mvF a t g0 q := u_mv hm hM (fun q hq => by rw [hu q hq, jl2, List.take_length])
          refine c_X14_sizeOf en14 WP.1 A14 SuP ?_
          have sz : sumN 12 (fun p => if u p = -1 then 0 else nV P (slF P u p).toNat 3) = szF N (mvF a t g0) := by
            unfold szF
            refine sumN_cg 12 (fun q hq => ?_)
            rw [hu2 q hq, E8_sl E W, slF_cgp (hu2 q hq), vP _ 3 (slF_40 W _ q) (by decide)]
          rw [sz]
          intro rx16
          refine c_X14_rootAt (by decide) (by rw [← er]; exact hr_ en14 WP) r3 ?_
          intro x17 ex17
          have e17 : x17 = mo := by rw [ex17, ← en14]; exact e22
          intro rx17
          refine ⟨fun c38 => ?_, fun c38 => ?_⟩
          · refine ⟨Lm14.1, ?_⟩
            refine ⟨(by have := Lm14.2.1; omega), ?_⟩
            intro x20 ex20 rx20
            rw [Lm14.2.1] at ex20
            refine ⟨fun y => ∃ i : Nat, y = (i : Int) ∧ i ≤ M.length ∧ fll N g0 d M = fll N g0 d (M.drop i), fun y => ((M.length : Int) - y).toNat, ?_, ?_⟩
            · exact ⟨0, rfl, Nat.zero_le _, by rw [List.drop_zero]⟩
            · intro x21 rx21 z23
              obtain ⟨i, ei, il, fl⟩ := z23
              refine ⟨fun c34 => ?_, fun c34 => ?_⟩
              · have il2 : i = M.length := by omega
                have fl0 : fll N g0 d M = -1 := by rw [fl, il2, List.drop_length]; rfl
                exact kk _ h14 l14 x14 (.inl ⟨rfl, cf0, by omega, fl0, F14, AR_cg A14 (fun q hq => (hu2 q hq).symm), en14.symm⟩)
              · refine ⟨(by have := Lm14.2.1; omega), ?_⟩
                intro x25 ex25 rx25
                have i12 : i < M.length := by omega
                obtain ⟨x, ex⟩ : ∃ x, x = M.getD i 0 := ⟨_, rfl⟩
                obtain ⟨x12, gx⟩ := lp i i12
                rw [← ex] at x12 gx
                have e25 : x25 = (x : Int) := by rw [ex25, show x21.toNat = i by omega, ex]; exact Lm14.2.2 i i12
                have dr := drop_g i12
                rw [← ex] at dr
                rw [ex2, e25, bit_ishr lt x12]
                refine ⟨fll N g0 d (M.drop i) = fll N g0 d (M.drop (i + 1)), ?_, ?_⟩
                · intro z26
                  intro x27 ex27 rx27
                  rw [wr_of (by omega) (by omega)] at ex27
                  exact ⟨⟨i + 1, by omega, by omega, fl.trans z26⟩, by dsimp only; omega⟩
                · refine ⟨fun c33 => ?_, fun c33 => ?_⟩
                  · rw [dr]
                    conv => lhs; unfold fll
                    rw [if_neg (fun y => c33 (by rw [if_pos (by rw [← dq]; exact y.1)]))]
                  · have bx : d x = true := by rw [dq]; exact Classical.byContradiction fun y => c33 (by rw [if_neg y]; decide)
                    obtain ⟨s0, sv, s40, -⟩ := fb g0 Sg x x12 gx
                    refine c_X14_slotIn en14 WP.1 B14 SgP ⟨by omega, by omega⟩ ?_
                    rw [Int.toNat_natCast, E8_sl E W]
                    intro rx28
                    refine c_X14_ver (by omega) ?_
                    intro x29 ex29
                    have e29 : x29 = nV N (slF N g0 x).toNat 5 := by rw [ex29, ← vP _ 5 s40 (by decide), en14]; rfl
                    intro rx29
                    refine ⟨fun c32 => ?_, fun c32 => ?_⟩
                    · rw [dr]
                      conv => lhs; unfold fll
                      rw [if_neg (fun y => c32 (by rw [e29]; exact y.2))]
                    · refine c_X14_goesWrong t14 en14.symm WP er (rgk rfl) (by unfold rg; omega) (by unfold rg; omega) ?_
                      intro h31 F31 l31 x31_ n31
                      intro t31 u31
                      intro rx30
                      have fx : fll N g0 d M = (x : Int) := by
                        rw [fl, dr]
                        conv => lhs; unfold fll
                        rw [if_pos ⟨bx, by rw [← e29]; exact Decidable.not_not.mp c32⟩]
                      exact kk _ h31 (by omega) (by omega) (.inr ⟨rfl, Fr_tr (Fr_mono F14 (fun b y => .inl y)) (by omega) (Fr_mono F31 (fun b y => .inr y)), 4, x, n31, .inr (.inr ⟨rfl, cf0, by omega, by omega, fx.symm⟩)⟩)
          · rw [ex2]
            refine c_J6_numberOfLeadingZeros_0f7a4 lt a0 ?_
            obtain ⟨nz1_, nz2_⟩ := nlz_hi lt a0
            intro rx35
            rw [wr_of (by omega) (by omega), nz2_]
            have hb := hiB_b a 12
            refine c_X14_goesWrong t14 en14.symm WP er (rgk rfl) (by unfold rg; omega) (by unfold rg; omega) ?_
            intro h37 F37 l37 x37_ n37
            intro t37 u37
            intro rx36
            exact kk _ h37 (by omega) (by omega) (.inr ⟨rfl, Fr_tr (Fr_mono F14 (fun b y => .inl y)) (by omega) (Fr_mono F37 (fun b y => .inr y)), 3, hiB a 12, n37, .inr (.inl ⟨rfl, cf0, by omega, rfl⟩)⟩)
        · refine ⟨Lm14.1, ?_⟩
          refine ⟨(by have := Lm14.2.1; omega), ?_⟩
          intro x41 ex41 rx41
          have jlt : j < M.length := by omega
          obtain ⟨x, ex⟩ : ∃ x, x = M.getD j 0 := ⟨_, rfl⟩
          obtain ⟨x12, gx⟩ := lp j jlt
          rw [← ex] at x12 gx
          have e41 : x41 = (x : Int) := by rw [ex41, show x10.toNat = j by omega, ex]; exact Lm14.2.2 j jlt
          have dr := drop_g jlt
          rw [← ex] at dr
          have tk : ∀ q, q ∈ M.take (j + 1) ↔ q ∈ M.take j ∨ q = x := fun q => by
            have : M.take (j + 1) = M.take j ++ [x] := by rw [List.take_succ, ex, List.getD_eq_getElem?_getD, List.getElem?_eq_getElem jlt]; rfl
            rw [this, List.mem_append, List.mem_singleton]
          have cfs : cfl N g0 d u (M.drop j) = if d x = true then (if hitB N u (filesP N g0 x) = true then (x : Int) else cfl N g0 d (updN u x (g0 x)) (M.drop (j + 1))) else cfl N g0 d u (M.drop (j + 1)) := by rw [dr]; rfl
          rw [ex2, e41, bit_ishr lt x12]
          refine ⟨fun g => ∃ u, Fr (fun b => b = p1) h g ∧ g.length = h.length ∧ xhs g = xhs h ∧ AR g p1 u ∧ fOK N u ∧ cfl N g0 d (u0F a t g0) M = cfl N g0 d u (M.drop (j + 1)) ∧ ∀ q, q < 12 → u q = if q ∈ M.take (j + 1) ∧ a.testBit q = true then g0 q else u0F a t g0 q, ?_, ?_⟩
          · intro h45 t45 s45 z46
            intro x47 ex47 rx47
            obtain ⟨u2, y1, y2, y3, y4, y5, y6, y7⟩ := z46
            rw [wr_of (by omega) (by omega)] at ex47
            exact ⟨⟨j + 1, u2, by omega, by omega, y1, y2, y3, y4, y5, y6, y7⟩, by dsimp only; omega⟩
          · refine ⟨fun c68 => ?_, fun c68 => ?_⟩
            · have bx : a.testBit x = true := Classical.byContradiction fun y => c68 (if_neg y)
              rw [if_pos (by rw [dq]; exact bx)] at cfs
              obtain ⟨s0, sv, s40, sf⟩ := fb g0 Sg x x12 gx
              obtain ⟨fn0, fn1⟩ := f31 _ sv
              refine c_X14_slotIn en14 WP.1 B14 SgP ⟨by omega, by omega⟩ ?_
              rw [Int.toNat_natCast, E8_sl E W]
              intro rx48
              refine c_X14_ver (by omega) ?_
              intro x49 ex49
              have e49 : x49 = (filesP N g0 x : Nat) := by
                have : x49 = nV N (slF N g0 x).toNat 2 := by rw [ex49, ← vP _ 2 s40 (by decide), en14]; rfl
                rw [this, sf]; omega
              intro rx49
              refine ⟨fun y => ∃ q : Nat, y = (q : Int) ∧ q ≤ 12 ∧ ∀ i, i < q → u i = -1 ∨ filesP N u i &&& filesP N g0 x = 0, fun y => (12 - y).toNat, ?_, ?_⟩
              · exact ⟨0, rfl, by decide, fun i hi => by omega⟩
              · intro x50 rx50 z51
                obtain ⟨q, eq, ql, hq⟩ := z51
                refine ⟨fun c67 => ?_, fun c67 => ?_⟩
                · refine ⟨B14.1, ?_⟩
                  refine ⟨(by have := B14.2.1; omega), ?_⟩
                  refine ⟨A14.1, ?_⟩
                  refine ⟨(by have := A14.2.1; omega), ?_⟩
                  intro h56 eh56 t56 u56
                  have nh : ¬ hitB N u (filesP N g0 x) = true := fun y => by
                    obtain ⟨i, hi, y1, y2⟩ := hitB_is.mp y
                    rcases hq i (by omega) with z | z
                    · exact y1 z
                    · exact y2 z
                  rw [if_neg nh] at cfs
                  try rw [Int.toNat_natCast] at eh56
                  rw [B14.2.2 x x12] at eh56
                  have gr := fOv W Sg x12
                  refine ⟨updN u x (g0 x), Fr_tr F14 (by omega) (by rw [eh56]; exact Fr_sV rfl), by rw [eh56, len_sV]; exact l14, by rw [eh56, xhs_sV]; exact x14, AR_st A14 x12 (by unfold rg; omega) eh56, fOK_upd Su Sg, cf.trans cfs, fun w hw => ?_⟩
                  by_cases c : w = x
                  · rw [c, updN_eq, if_pos ⟨(tk x).mpr (.inr rfl), bx⟩]
                  · rw [updN_ne c, hu w hw]
                    by_cases z : w ∈ M.take j ∧ a.testBit w = true
                    · rw [if_pos z, if_pos ⟨(tk w).mpr (.inl z.1), z.2⟩]
                    · rw [if_neg z, if_neg (fun y => ((tk w).mp y.1).elim (fun v => z ⟨v, y.2⟩) (fun v => c v))]
                · refine ⟨A14.1, ?_⟩
                  refine ⟨(by have := A14.2.1; omega), ?_⟩
                  refine ⟨u q = -1 ∨ filesP N u q &&& filesP N g0 x = 0, ?_, ?_⟩
                  · intro z59
                    intro x60 ex60 rx60
                    rw [wr_of (by omega) (by omega)] at ex60
                    exact ⟨⟨q + 1, by omega, by omega, fun i hi => by
                      by_cases c : i = q
                      · rw [c]; exact z59
                      · exact hq i (by omega)⟩, by dsimp only; omega⟩
                  · refine ⟨fun c66 => ?_, fun c66 => ?_⟩
                    · rw [show x50.toNat = q by omega, A14.2.2 q (by omega)] at c66
                      exact .inl c66
                    · rw [show x50.toNat = q by omega, A14.2.2 q (by omega)] at c66
                      obtain ⟨z0, zv, z40, zf⟩ := fb u Su q (by omega) c66
                      obtain ⟨fz0, fz1⟩ := f31 _ zv
                      refine c_X14_slotIn en14 WP.1 A14 SuP ⟨by omega, by omega⟩ ?_
                      rw [show x50.toNat = q by omega, E8_sl E W]
                      intro rx61
                      refine c_X14_ver (by omega) ?_
                      intro x62 ex62
                      have e62 : x62 = (filesP N u q : Nat) := by
                        have : x62 = nV N (slF N u q).toNat 2 := by rw [ex62, ← vP _ 2 z40 (by decide), en14]; rfl
                        rw [this, zf]; omega
                      have ia : iand x62 x49 = ((filesP N u q &&& filesP N g0 x : Nat) : Int) := by rw [e62, e49]; exact iand_nat (by omega) (by omega)
                      intro rx62
                      refine ⟨fun c65 => ?_, fun c65 => ?_⟩
                      · rw [ia] at c65
                        exact .inr (by omega)
                      · rw [ia] at c65
                        have hy : hitB N u (filesP N g0 x) = true := hitB_is.mpr ⟨q, by omega, c66, fun y => c65 (by rw [y]; rfl)⟩
                        rw [if_pos hy] at cfs
                        refine c_X14_goesWrong t14 en14.symm WP er (rgk rfl) (by unfold rg; omega) (by unfold rg; omega) ?_
                        intro h64 F64 l64 x64_ n64
                        intro t64 u64
                        intro rx63
                        exact kk _ h64 (by omega) (by omega) (.inr ⟨rfl, Fr_tr (Fr_mono F14 (fun b y => .inl y)) (by omega) (Fr_mono F64 (fun b y => .inr y)), 2, x, n64, .inl ⟨rfl, by rw [cf, cfs]; omega, by rw [cf, cfs]⟩⟩)
            · have nb : ¬ a.testBit x = true := fun y => c68 (by rw [if_pos y]; decide)
              rw [if_neg (by rw [dq]; exact nb)] at cfs
              refine ⟨u, F14, l14, x14, A14, Su, cf.trans cfs, fun q hq => ?_⟩
              rw [hu q hq]
              by_cases z : q ∈ M.take j ∧ a.testBit q = true
              · rw [if_pos z, if_pos ⟨(tk q).mpr (.inl z.1), z.2⟩]
              · rw [if_neg z, if_neg (fun y => ((tk q).mp y.1).elim (fun w => z ⟨w, y.2⟩) (fun w => nb (w ▸ y.2)))]
    · have p12 : p < 12 := by omega
      have ip : x3.toNat = p := by omega
      have tp : (fun q => if q < p then u0F a t g0 q else t q) p = t p := if_neg (by omega)
      rw [ex2, ep, bit_ishr lt p12]
      refine ⟨fun y => bq y (a.testBit p = true), ?_, ?_⟩
      · intro x70 rx70 z71
        refine ⟨fun g => Fr (fun b => b = p1) h g ∧ g.length = h.length ∧ xhs g = xhs h ∧ AR g p1 (fun q => if q < p + 1 then u0F a t g0 q else t q), ?_, ?_⟩
        · intro h72 t72 s72 z73
          intro x74 ex74 rx74
          obtain ⟨y1, y2, y3, y4⟩ := z73
          rw [wr_of (by omega) (by omega)] at ex74
          exact ⟨⟨p + 1, by omega, by omega, y1, y2, y3, y4⟩, by dsimp only; omega⟩
        · refine ⟨x70 = 0 ∨ cIn t p = cIn g0 p, ?_, ?_⟩
          · intro z75
            refine ⟨fun c81 => ?_, fun c81 => ?_⟩
            · have nb := (bq1 z71).2.1.mp c81
              refine ⟨F5, l5, x5, AR_cg A5 (fun q hq => ?_)⟩
              by_cases c : q = p
              · rw [c, if_pos (by omega), if_neg (by omega)]; unfold u0F; rw [if_neg nb]
              · by_cases c2 : q < p
                · rw [if_pos (by omega), if_pos c2]
                · rw [if_neg (by omega), if_neg c2]
            · refine ⟨B5.1, ?_⟩
              refine ⟨(by have := B5.2.1; omega), ?_⟩
              refine ⟨A5.1, ?_⟩
              refine ⟨(by have := A5.2.1; omega), ?_⟩
              intro h80 eh80 t80 u80
              have yb := (bq1 z71).2.2.1.mp c81
              have ce := z75.resolve_left c81
              rw [Int.toNat_natCast, B5.2.2 p p12] at eh80
              have gr := fOv W Sg p12
              refine ⟨Fr_tr F5 (by omega) (by rw [eh80]; exact Fr_sV rfl), by rw [eh80, len_sV]; exact l5, by rw [eh80, xhs_sV]; exact x5, AR_cg (AR_st A5 p12 (by unfold rg; omega) eh80) (fun q hq => ?_)⟩
              by_cases c : q = p
              · rw [c, if_pos (by omega), if_pos rfl]; unfold u0F; rw [if_pos yb, if_pos ce]
              · rw [if_neg c]
                by_cases c2 : q < p
                · rw [if_pos (by omega), if_pos c2]
                · rw [if_neg (by omega), if_neg c2]
          · refine ⟨fun c88 => ?_, fun c88 => ?_⟩
            · exact .inl c88
            · refine c_X14_codeIn A5 ⟨by omega, by omega⟩ (by rw [Int.toNat_natCast]; have y := fOv W S p12; rw [← tp] at y; exact y) ?_
              rw [Int.toNat_natCast]
              have ct : cIn (fun q => if q < p then u0F a t g0 q else t q) p = cIn t p := by unfold cIn; rw [tp]
              rw [ct]
              intro rx82
              refine c_X14_codeIn B5 ⟨by omega, by omega⟩ (by rw [Int.toNat_natCast]; exact fOv W Sg p12) ?_
              rw [Int.toNat_natCast]
              intro rx83
              refine ⟨fun c87 => ?_, fun c87 => ?_⟩
              · exact .inr c87
              · refine ⟨A5.1, ?_⟩
                refine ⟨(by have := A5.2.1; omega), ?_⟩
                intro h86 eh86 t86 u86
                have yb := (bq1 z71).2.2.1.mp c88
                try rw [Int.toNat_natCast] at eh86
                refine ⟨Fr_tr F5 (by omega) (by rw [eh86]; exact Fr_sV rfl), by rw [eh86, len_sV]; exact l5, by rw [eh86, xhs_sV]; exact x5, AR_cg (AR_st A5 p12 (rgk rfl) eh86) (fun q hq => ?_)⟩
                by_cases c : q = p
                · rw [c, if_pos (by omega), if_pos rfl]; unfold u0F; rw [if_pos yb, if_neg c87]
                · rw [if_neg c]
                  by_cases c2 : q < p
                  · rw [if_pos (by omega), if_pos c2]
                  · rw [if_neg (by omega), if_neg c2]
      · refine ⟨fun c89 => ?_, fun c89 => ?_⟩
        · exact bqF (fun y => c89 (if_pos y))
        · exact bqT (Classical.byContradiction fun y => c89 (fun z => by rw [if_neg y] at z; cases z))
