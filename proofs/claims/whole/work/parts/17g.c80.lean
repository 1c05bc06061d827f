/-! A STEP, the class -/
theorem orf_cg {N M : Nat → Int} {s : BitVec 64} : ∀ n, (∀ v, v < n → nV M v 2 = nV N v 2) → orf M s n = orf N s n := by
  intro n
  induction n with
  | zero => intro _; rfl
  | succ n ih => intro h; unfold orf; rw [ih (fun v hv => h v (by omega)), h n (by omega)]
theorem idF_E8 {N M : Nat → Int} {m : Nat} (E : E8 N M) (W : WF N m) (s : BitVec 64) (p : Int) : idF M s p = idF N s p := by
  unfold idF
  rw [E8_c E]
  exact fnd_cg _ (fun v hv => by rw [E8_v E (by have := W.1.2.2.2.1; unfold vc at hv; omega) (by decide)])
theorem E8_sy {N M : Nat → Int} (E : E8 N M) : E8 M N := fun i x y => (E i x y).symm
theorem cc_is {a : Nat} {t g f0 : Nat → Int} (hm : ∀ x, x < 12 → a.testBit x = true → t x = f0 x) {x : Nat} (hx : x < 12) : comC (mvF a t g) t x = (comC g f0 x && a.testBit x) := by
  by_cases b : a.testBit x = true
  · rw [b, Bool.and_true]
    unfold comC
    rw [comF_cg (f := g) (g := f0) (show mvF a t g x = g x by unfold mvF; rw [if_pos b]) (hm x hx b)]
  · have e : mvF a t g x = t x := by unfold mvF; rw [if_neg b]
    rw [Bool.eq_false_iff.mpr b, Bool.and_false]
    unfold comC comF cIn
    rw [e, if_pos (.inr rfl), decide_eq_true rfl]; rfl
theorem drop_g {L : List Nat} {j : Nat} (h : j < L.length) : L.drop j = L.getD j 0 :: L.drop (j + 1) := by
  rw [List.drop_eq_getElem_cons h, List.getD_eq_getElem?_getD, List.getElem?_eq_getElem h]; rfl
theorem getD_mem {L : List Nat} {j : Nat} (h : j < L.length) : L.getD j 0 ∈ L := by
  rw [List.getD_eq_getElem?_getD, List.getElem?_eq_getElem h]
  exact List.getElem_mem h
set_option maxHeartbeats 1000000 in
theorem c_X2_failedBy {p0 p1 p2 : Int} {r : Nat} {h : XH} {N : Nat → Int} {nd : Nat → ND} {m : Nat} (T : HT h) (C : CS h 8 N nd) (W : WF N m) (er : rh N = r) (r0 : rg p0) (r1 : rg p1) (r2 : rg p2) {K : BitVec 64 → XH → Prop} (k : ∀ g, Fr (fun b => b = rc r) h g → g.length = h.length → xhs g = xhs h → CS g 8 (whyN N r p0 p1 p2) nd → K (4611686018427387904#64) g) : w_X2_failedBy p0 p1 p2 K h := by
  unfold w_X2_failedBy
  have r3 : r < 3 := by rw [← er]; exact rh_lt W
  refine c_atH C W ?_
  rw [er]
  refine ⟨(rc_k T r3), ?_⟩
  refine c_X6_tellFailure ?_
  intro g1 g2 h3 eg1 eg2 eg3 tg1 tg2 tg3 ug1 ug2 ug3
  intro t3 u3
  obtain ⟨c1, c2⟩ := CS_why T C W r3 r0 r1 r2 tg1 tg2 eg1 eg2 eg3
  refine k h3 ?_ (by rw [eg3, eg2, eg1, len_sV, len_sV, len_sV]) (by rw [eg3, eg2, eg1, xhs_sV, xhs_sV, xhs_sV]) c1
  rw [eg3, eg2, eg1]
  exact fun b _ n => sameC_tr (sameC_sV (fun z => n z.symm)) (sameC_tr (sameC_sV (fun z => n z.symm)) (sameC_sV (fun z => n z.symm)))
set_option maxHeartbeats 16000000 in
theorem c_X2_afterStep {p0 : BitVec 64} {k a r : Nat} {t : Nat → Int} {L : List Nat} {h : XH} {N N1 : Nat → Int} {nd : Nat → ND} {m : Nat} (T : HT h) (C : CS h 8 N1 nd) (W : WF N m) (W1 : WF N1 m) (E : E8 N N1) (er : r = rh N) (eg : ∀ q, q < 12 → goal N1 r q = goal N r q) (e22 : nR N1 r 22 = nR N r 22) (S : SetR N p0 t) (Sg : fOK N (goal N r)) (lt : a < 4096) (k12 : k < 12) (e85 : hI h 85 k = (a : Int)) (e6 : hI h 79 6 = (L.length : Nat)) (l12 : L.length ≤ 12) (lp : ∀ i, i < L.length → L.getD i 0 < 12) (e82 : ∀ i, i < L.length → hI h 82 i = ((L.getD i 0 : Nat) : Int)) (hm : ∀ x, x < 12 → a.testBit x = true → t x = inst N r x) (hp : ∀ x, a.testBit x = true → x < pc N) {K : BitVec 64 → XH → Prop} (k1 : stp N (goal N r) t (fun x => comC (goal N r) (inst N r) x && a.testBit x) a L (nR N r 22) = (-1, -1) → ∀ b, SetR N b (mvF a t (goal N r)) → K b h) (k0 : ∀ x y : Int, stp N (goal N r) t (fun x => comC (goal N r) (inst N r) x && a.testBit x) a L (nR N r 22) = (x, y) → ¬ x = -1 → ∀ g, Fr (fun b => b = rc r) h g → g.length = h.length → xhs g = xhs h → CS g 8 (whyN N1 r x y k) nd → K (4611686018427387904#64) g) : w_X2_afterStep p0 (k : Int) K h := by
  unfold w_X2_afterStep
  have r3 : r < 3 := by rw [er]; exact rh_lt W
  have rb := rc_lt r3
  have rh1 : rh N1 = r := by rw [E8_r E]; exact er.symm
  have W4 := W.1.2.2.2.1
  have w12 := W.1.2.1
  obtain ⟨g, eg_⟩ : ∃ g, g = goal N r := ⟨_, rfl⟩
  obtain ⟨c, ec⟩ : ∃ c, c = (fun x => comC (goal N r) (inst N r) x && a.testBit x) := ⟨_, rfl⟩
  obtain ⟨mo, emo⟩ : ∃ mo, mo = nR N r 22 := ⟨_, rfl⟩
  rw [← ec, ← emo, ← eg_] at k1 k0
  rw [← eg_] at Sg eg
  have Sg1 : SetR N1 (hL h (rc r) 5) g := SetR_ve (fun _ _ _ => rfl) (WF_b W1).2.2.2 (fun p hp => (eg p hp).symm) (WV_hp W1.1) (CS_g C r3)
  have a22 : hI h (rc r) 4 = mo := by rw [emo, ← e22]; exact (R8 (C.2.2.1 r r3)).2.2.2.2.1
  have f15 : ∀ v, v < vc N → hI h 15 v = nV N v 2 := fun v hv => by
    rw [(V8 C.1 (show v < vc N1 by rw [E8_c E]; exact hv)).2.2.1]; exact E8_v E (by unfold vc at hv; omega) (by decide)
  refine c_atH C W1 ?_
  rw [rh1]
  refine ⟨(rc_k T r3), ?_⟩
  intro b3 eb3
  refine ⟨(by omega), ?_⟩
  rw [Int.toNat_natCast, e85, eb3]
  refine c_X2_moved T C W1 lt (E8_S E W S) Sg1 ?_
  intro b5 S5_
  intro b6 eb6
  have S5 : SetR N b5 (mvF a t g) := E8_S (E8_sy E) W1 S5_
  obtain ⟨bc, Sbc, ebc⟩ := com_S W.1 S5 S
  have eb6' : b6 = bc &&& 1099511627775#64 := by rw [eb6, and40 ebc]
  have mv : ∀ x, c x = true → mvF a t g x = g x := fun x hx => by
    rw [ec] at hx
    have b := (Bool.and_eq_true _ _ ▸ hx : _ ∧ _).2
    unfold mvF; rw [if_pos b]
  have id6 : ∀ x : Nat, x < 12 → idF N1 b6 (x : Int) = if c x = true then slF N g x else -1 := fun x hx => by
    have c40 : ∀ v, v < 40 → bc.getLsbD v = (bc &&& 1099511627775#64).getLsbD v := fun v hv => by
      have al : ∀ m : Fin 64, (1099511627775#64 : BitVec 64).getLsbD m.1 = decide (m.1 < 40) := by decide +kernel
      rw [BitVec.getLsbD_and, al ⟨v, by omega⟩, decide_eq_true hv, Bool.and_true]
    rw [idF_E8 E W, eb6', idF_40 W4 c40, idF_F W.1 Sbc hx, slF_com, cc_is hm hx]
    have ecx : (comC g (inst N r) x && a.testBit x) = c x := by rw [ec, eg_]
    rw [ecx]
    by_cases y : c x = true
    · rw [if_pos y, if_pos y, slF_cgp (mv x y)]
    · rw [if_neg y, if_neg y]
  have gn : ∀ x, c x = true → ¬ g x = -1 := fun x hx z => by
    rw [ec] at hx
    have b := (Bool.and_eq_true _ _ ▸ hx : _ ∧ _).1
    unfold comC comF at b
    rw [← eg_, if_pos (.inl z)] at b
    exact absurd b (by decide)
  have sg : ∀ x, x < 12 → c x = true → 0 ≤ slF N g x ∧ (slF N g x).toNat < vc N ∧ filesP N g x = (nV N (slF N g x).toNat 2).toNat ∧ 0 ≤ nV N (slF N g x).toNat 2 ∧ nV N (slF N g x).toNat 2 < 2147483648 := fun x hx y => by
    obtain ⟨s0, sv, -⟩ := slF_fOK W Sg hx (gn x y)
    have r_ := rg16 h 15 (slF N g x).toNat
    rw [f15 _ sv] at r_
    have := (W.1.2.2.2.2.1 _ sv).2.2.2.2.2.1
    exact ⟨s0, sv, by unfold filesP; rw [if_neg (gn x y)], this, r_.2⟩
  have un0 : ∀ y, y < 12 → c y = true → u0F a t g y = -1 := fun y hy cy => by
    rw [ec] at cy
    obtain ⟨d1, d2⟩ := (Bool.and_eq_true _ _ ▸ cy : _ ∧ _)
    unfold u0F
    rw [if_pos d2, if_neg]
    intro z
    unfold comC comF at d1
    have e : cIn t y = cIn (inst N r) y := by unfold cIn; rw [hm y hy d2]
    rw [if_pos (.inr (by rw [← e, z, eg_]))] at d1
    exact absurd d1 (by decide)
  refine c_X2_filesOf T C W1 ?_
  have F0 := FlR_0 W S S5
  rw [E8_c E, orf_cg (N := N) (vc N) (fun v hv => E8_v E (by unfold vc at hv; omega) (by decide))]
  have ol : orf N (p0 &&& b5) (vc N) < 2147483648 := orf_lt _ (fun v hv => by
    have r_ := rg16 h 15 v
    rw [f15 v hv] at r_
    have := r_.2
    omega)
  intro rx7
  refine ⟨fun x y => ∃ (j X : Nat) (u : Nat → Int), y = (j : Int) ∧ j ≤ L.length ∧ x = (X : Int) ∧ X < 2147483648 ∧ FlR N X u ∧ (∀ z, z < 12 → c z = true → u z = -1 ∨ u z = g z) ∧ cfl N g c (u0F a t g) L = cfl N g c u (L.drop j), fun _ y => ((L.length : Int) - y).toNat, ?_, ?_⟩
  · exact ⟨0, _, u0F a t g, rfl, Nat.zero_le _, rfl, ol, F0, fun z hz cz => .inl (un0 z hz cz), by rw [List.drop_zero]⟩
  · intro x8 x9 rx8 rx9 z11
    obtain ⟨j, X, u, ej, jl, eX, lX, FX, uz, cf⟩ := z11
    rw [e6]
    refine ⟨fun c47 => ?_, fun c47 => ?_⟩
    · have jl2 : j = L.length := by omega
      have cf0 : cfl N g c (u0F a t g) L = -1 := by rw [cf, jl2, List.drop_length]; rfl
      refine c_X8_sizeOf C.1 W1.1 ?_
      have sz : sumN (vc N1) (fun v => if b5.getLsbD v = true then nV N1 v 3 else 0) = szF N (mvF a t g) := by
        rw [E8_c E, sumN_cg (vc N) (fun v hv => by rw [E8_v E (by unfold vc at hv; omega) (by decide)])]
        exact size_F W.1 S5 (fun v => nV N v 3)
      rw [sz]
      intro rx12
      refine c_atH C W1 ?_
      rw [rh1]
      refine ⟨(rc_k T r3), ?_⟩
      refine ⟨fun c32 => ?_, fun c32 => ?_⟩
      · rw [a22] at c32
        refine ⟨fun y => ∃ j : Nat, y = (j : Int) ∧ j ≤ L.length ∧ fll N g c L = fll N g c (L.drop j), fun y => ((L.length : Int) - y).toNat, ?_, ?_⟩
        · exact ⟨0, rfl, Nat.zero_le _, by rw [List.drop_zero]⟩
        · intro x16 rx16 z18
          obtain ⟨i, ei, il, fl⟩ := z18
          refine ⟨fun c28 => ?_, fun c28 => ?_⟩
          · have il2 : i = L.length := by omega
            have fl0 : fll N g c L = -1 := by rw [fl, il2, List.drop_length]; rfl
            refine k1 ?_ b5 S5
            unfold stp
            rw [cf0, fl0, if_neg (by decide), if_neg (by omega), if_neg (by decide)]
          · have i12 : i < L.length := by omega
            obtain ⟨x, ex⟩ : ∃ x, x = L.getD i 0 := ⟨_, rfl⟩
            have x12 : x < 12 := by rw [ex]; exact lp i i12
            have hx : hI h 82 x16.toNat = (x : Int) := by rw [show x16.toNat = i by omega, ex]; exact e82 i i12
            rw [hx]
            have dr := drop_g i12
            rw [← ex] at dr
            refine ⟨(by omega), ?_⟩
            refine c_X8_idIn C.1 ⟨W1.1.2.2.1, W1.1.2.2.2.1⟩ ?_
            rw [id6 x x12]
            intro rx20
            refine ⟨fll N g c (L.drop i) = fll N g c (L.drop (i + 1)), ?_, ?_⟩
            · intro z21
              intro x22 ex22 rx22
              rw [wr_of (by omega) (by omega)] at ex22
              exact ⟨⟨i + 1, by omega, by omega, fl.trans z21⟩, by dsimp only; omega⟩
            · refine ⟨fun c27 => ?_, fun c27 => ?_⟩
              · have nc : ¬ c x = true := fun y => by rw [if_pos y] at c27; have := (sg x x12 y).1; omega
                rw [dr]
                conv => lhs; unfold fll
                rw [if_neg (fun y => nc y.1)]
              · have yc : c x = true := Classical.byContradiction fun y => c27 (if_neg y)
                rw [if_pos yc]
                obtain ⟨s0, sv, -⟩ := sg x x12 yc
                refine c_X12_has (by have := vc64 W.1; omega) ?_
                intro x23 qx23
                have b5_ := (V8 C.1 (show (slF N g x).toNat < vc N1 by rw [E8_c E]; exact sv)).2.2.2.2.2.1
                rw [E8_v E (by unfold vc at sv; omega) (by decide)] at b5_
                replace qx23 := bq_iff qx23 b5_
                intro rx23 vx23
                refine ⟨fun c26 => ?_, fun c26 => ?_⟩
                · rw [dr]
                  conv => lhs; unfold fll
                  rw [if_neg (fun y => (bq1 qx23).2.1.mp c26 y.2)]
                · refine c_X2_failedBy T C W1 rh1 (rgk rfl) (by unfold rg; omega) (by unfold rg; omega) ?_
                  intro h25 F25 g25 x25 C25
                  intro t25 u25
                  have f5 := (bq1 qx23).2.2.1.mp c26
                  have fx : fll N g c L = (x : Int) := by
                    rw [fl, dr]
                    conv => lhs; unfold fll
                    rw [if_pos ⟨yc, f5⟩]
                  refine k0 4 x ?_ (by decide) h25 F25 g25 x25 C25
                  unfold stp
                  rw [cf0, fx, if_neg (by decide), if_neg (by omega), if_pos (by omega)]
      · rw [a22] at c32
        try rw [Int.toNat_natCast, e85]
        refine c_X2_greatestOf lt T C W1 ?_
        have hb : hiB a (pc N1) = hiB a 12 := by
          rw [E8_p E]
          have p12 : pc N ≤ 12 := by unfold pc; omega
          have := hiB_up (a := a) (n := pc N) (12 - pc N) (fun i h1 _ => Bool.eq_false_iff.mpr (fun y => by have := hp i y; omega))
          rw [show pc N + (12 - pc N) = 12 by omega] at this
          exact this.symm
        rw [hb]
        intro rx29
        refine c_X2_failedBy T C W1 rh1 (rgk rfl) rx29 (by unfold rg; omega) ?_
        intro h31 F31 g31 x31 C31
        intro t31 u31
        refine k0 3 (hiB a 12) ?_ (by decide) h31 F31 g31 x31 C31
        unfold stp
        rw [cf0, if_neg (by decide), if_pos (by omega)]
    · have i12 : j < L.length := by omega
      obtain ⟨x, ex⟩ : ∃ x, x = L.getD j 0 := ⟨_, rfl⟩
      have x12 : x < 12 := by rw [ex]; exact lp j i12
      have hx : hI h 82 x9.toNat = (x : Int) := by rw [show x9.toNat = j by omega, ex]; exact e82 j i12
      rw [hx]
      have dr := drop_g i12
      rw [← ex] at dr
      refine ⟨(by omega), ?_⟩
      refine c_X8_idIn C.1 ⟨W1.1.2.2.1, W1.1.2.2.2.1⟩ ?_
      rw [id6 x x12]
      obtain ⟨x34, ex34⟩ : ∃ x34, x34 = if c x = true then slF N g x else -1 := ⟨_, rfl⟩
      rw [← ex34]
      intro rx34
      refine ⟨¬ c x = true ∨ c x = true ∧ ¬ hitB N u (filesP N g x) = true, ?_, ?_⟩
      · intro z35
        refine ⟨fun y => (¬ c x = true ∧ y = 0) ∨ (c x = true ∧ ¬ hitB N u (filesP N g x) = true ∧ y = (filesP N g x : Nat)), ?_, ?_⟩
        · intro x36 rx36 z37
          intro x38 ex38 rx38
          intro x39 ex39 rx39
          rw [wr_of (by omega) (by omega)] at ex39
          have cfs : cfl N g c u (L.drop j) = if c x = true then (if hitB N u (filesP N g x) = true then (x : Int) else cfl N g c (updN u x (g x)) (L.drop (j + 1))) else cfl N g c u (L.drop (j + 1)) := by rw [dr]; rfl
          rcases z37 with ⟨nc, e0⟩ | ⟨yc, nh, e0⟩
          · rw [if_neg nc] at cfs
            refine ⟨⟨j + 1, X, u, by omega, by omega, ?_, lX, FX, uz, cf.trans cfs⟩, by dsimp only; omega⟩
            rw [ex38, e0, eX]
            have := ior_nat (a := X) (b := 0) lX (by decide)
            rw [Nat.or_zero] at this
            exact this
          · rw [if_pos yc, if_neg nh] at cfs
            obtain ⟨s0, sv, sf, sn, sl⟩ := sg x x12 yc
            refine ⟨⟨j + 1, X ||| filesP N g x, updN u x (g x), by omega, by omega, ?_, Nat.or_lt_two_pow (n := 31) lX (by omega), FlR_upd FX x12 (gn x yc) (uz x x12 yc), fun z hz cz => ?_, cf.trans cfs⟩, by dsimp only; omega⟩
            · rw [ex38, e0, eX]; exact ior_nat lX (by omega)
            · by_cases ez : z = x
              · rw [ez, updN_eq]; exact .inr rfl
              · rw [updN_ne ez]; exact uz z hz cz
        · refine ⟨fun c41 => ?_, fun c41 => ?_⟩
          · refine .inl ⟨?_, rfl⟩
            intro y
            rw [if_pos y] at ex34
            have := (sg x x12 y).1
            omega
          · refine ⟨(by have yc : c x = true := Classical.byContradiction fun y => c41 (by rw [ex34, if_neg y]); rw [if_pos yc] at ex34; have := sg x x12 yc; unfold vc at this; omega), ?_⟩
            have yc : c x = true := Classical.byContradiction fun y => c41 (by rw [ex34, if_neg y])
            rw [if_pos yc] at ex34
            obtain ⟨s0, sv, sf, sn, sl⟩ := sg x x12 yc
            refine .inr ⟨yc, (z35.resolve_left (fun y => y yc)).2, ?_⟩
            rw [ex34, f15 _ sv, sf]; omega
      · refine ⟨fun c46 => ?_, fun c46 => ?_⟩
        · exact .inl (fun y => by rw [if_pos y] at ex34; have := (sg x x12 y).1; omega)
        · have yc : c x = true := Classical.byContradiction fun y => c46 (by rw [ex34, if_neg y])
          rw [if_pos yc] at ex34
          obtain ⟨s0, sv, sf, sn, sl⟩ := sg x x12 yc
          have v40 : (slF N g x).toNat < 40 := by unfold vc at sv; omega
          have e15 : hI h 15 x34.toNat = (filesP N g x : Nat) := by rw [ex34, f15 _ sv, sf]; omega
          have hit := FlR_hit (F := filesP N g x) FX
          have ia : iand x8 (hI h 15 x34.toNat) = ((X &&& filesP N g x : Nat) : Int) := by rw [e15, eX]; exact iand_nat lX (by omega)
          refine ⟨(by omega), ?_⟩
          refine ⟨fun c45 => ?_, fun c45 => ?_⟩
          · rw [ia] at c45
            exact .inr ⟨yc, hit.mp (by omega)⟩
          · rw [ia] at c45
            have hy : hitB N u (filesP N g x) = true := Classical.byContradiction fun y => c45 (by rw [hit.mpr y]; rfl)
            refine c_X2_failedBy T C W1 rh1 (rgk rfl) (by unfold rg; omega) (by unfold rg; omega) ?_
            intro h44 F44 g44 x44 C44
            intro t44 u44
            have cx : cfl N g c (u0F a t g) L = (x : Int) := by
              rw [cf, dr]
              conv => lhs; unfold cfl
              rw [if_pos yc, if_pos hy]
            refine k0 2 x ?_ (by decide) h44 F44 g44 x44 C44
            unfold stp
            rw [cx, if_pos (by omega)]
