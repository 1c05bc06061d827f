/-! THE SAME, the reference -/
theorem fOK_w {N : Nat → Int} {m : Nat} (W : WV N m) {f : Nat → Int} (S : fOK N f) {p : Nat} (hp : p < 12) (n : ¬ f p = -1) : ∃ v : Nat, v < vc N ∧ slF N f p = v ∧ nV N v 0 = p ∧ (f p = nV N v 1 ∨ f p = nV N v 1 + 1000000) := by
  rcases S p hp with x | ⟨v, hv, e0, e1⟩
  · exact absurd x n
  · exact ⟨v, hv, slF_r W hv e0 e1, e0, e1⟩
def QP (N : Nat → Int) (d : ND) (f : Nat → Int) (p : Nat) : Prop := ¬ f p = -1 ∧ (d.1 = 1 → 1000000 ≤ f p) ∧ nmet N d (slF N f p).toNat = true
theorem mP_Q {N : Nat → Int} {d : ND} {f : Nat → Int} : mP N d f ↔ ∃ p : Nat, (p : Int) < 12 ∧ QP N d f p := by
  unfold mP QP
  exact ⟨fun ⟨p, a, b⟩ => ⟨p, by omega, b⟩, fun ⟨p, a, b⟩ => ⟨p, by omega, b⟩⟩
def SP (N : Nat → Int) (nd : Nat → ND) (f : Nat → Int) (p : Nat) : Prop := needsP N nd f p ∧ (1000000 ≤ f p → ¬ nV N (slF N f p).toNat 6 = 0) ∧ ∀ b : Nat, (b : Int) < nV N (slF N f p).toNat 12 → ∀ q, q < 12 → ¬ q = p → ¬ f q = -1 → nmet N (nd (nV N (slF N f p).toNat (13 + b)).toNat) (slF N f q).toNat = false
theorem rng_0 {d : ND} (h : 0 < d.2.length) : (d.2[0]).2 = rng d := by
  unfold rng
  match q : d.2, h with
  | a :: l, _ => simp
set_option maxHeartbeats 1000000 in
theorem c_X14_isMet {p0 p1 : Nat} {d : ND} {h : XH} {N : Nat → Int} {m : Nat} (T : HT h) (eN : N = nw h) (W : WF N m) (Z : NeedR h p0 d) {f : Nat → Int} (A : AR h p1 f) (S : fOK N f) {K : Int → Prop} (k : ∀ x, bq x (mP N d f) → K x) : w_X14_isMet p0 p1 K h := by
  unfold w_X14_isMet
  obtain ⟨A1, A2, A3⟩ := id A
  refine ⟨fun a x => 0 ≤ x ∧ x ≤ 12 ∧ bq a (∃ p : Nat, (p : Int) < x ∧ QP N d f p), fun _ x => (12 - x).toNat, ?_, ?_⟩
  · exact ⟨by omega, by omega, bqF (fun ⟨p, y, _⟩ => by omega)⟩
  · intro x1 x2 rx1 rx2 z3
    obtain ⟨z0, z1, zb⟩ := z3
    refine ⟨bq x1 (mP N d f), ?_, ?_⟩
    · intro z4
      refine ⟨vOr z4, ?_⟩
      exact k _ z4
    · refine ⟨fun c22 => ?_, fun c22 => ?_⟩
      · rw [mP_Q]
        exact bq_iff zb (by rw [show x2 = 12 by omega])
      · refine ⟨fun c21 => ?_, fun c21 => ?_⟩
        · rw [mP_Q]
          obtain ⟨p, y, q⟩ := (bq1 zb).2.2.1.mp c21
          exact .inl ⟨(by rcases vOr zb with y | y; exact absurd y c21; exact y), p, by omega, q⟩
        · have ex2 : hI h p1 x2.toNat = f x2.toNat := A3 x2.toNat (by omega)
          have nq := (bq1 zb).2.1.mp (by omega)
          refine ⟨A1, ?_⟩
          refine ⟨(by omega), ?_⟩
          refine ⟨fun x => bq x (QP N d f x2.toNat), ?_, ?_⟩
          · intro x8 rx8 z9
            intro x10 ex10 rx10
            rw [wr_of (by omega) (by omega)] at ex10
            refine ⟨⟨by omega, by omega, bq_iff z9 ⟨fun y => ⟨x2.toNat, by omega, y⟩, fun ⟨p, y, q⟩ => ?_⟩⟩, by dsimp only; omega⟩
            by_cases c : p = x2.toNat
            · rw [← c]; exact q
            · exact absurd ⟨p, by omega, q⟩ nq
          · refine ⟨¬ QP N d f x2.toNat, ?_, ?_⟩
            · intro z11
              exact bqF z11
            · refine ⟨fun c20 => ?_, fun c20 => ?_⟩
              · exact fun z => z.1 (by omega)
              · refine ⟨Z.1, ?_⟩
                refine ⟨¬ f x2.toNat = -1 ∧ (d.1 = 1 → 1000000 ≤ f x2.toNat), ?_, ?_⟩
                · intro z13
                  obtain ⟨v, hv, es, e0, e1⟩ := fOK_w W.1 S (p := x2.toNat) (by omega) z13.1
                  refine c_X14_slotIn eN W.1 A S (by omega) ?_
                  rw [es]
                  intro _
                  refine c_X14_meets T eN W Z (by omega) (by rw [Int.toNat_natCast]; exact hv) ?_
                  intro x15 qx15
                  rw [Int.toNat_natCast] at qx15
                  intro rx15 vx15
                  refine ⟨fun c16 => ?_, fun c16 => ?_⟩
                  · exact fun z => (bq1 qx15).2.1.mp c16 (by have := z.2.2; rw [es, Int.toNat_natCast] at this; exact this)
                  · exact bqT ⟨z13.1, z13.2, by rw [es, Int.toNat_natCast]; exact (bq1 qx15).2.2.1.mp c16⟩
                · refine ⟨fun c19 => ?_, fun c19 => ?_⟩
                  · exact ⟨by omega, fun y => by have := Z.2.1; omega⟩
                  · refine c_X14_isOnIn A1 (by omega) ?_
                    intro x17 qx17
                    rw [ex2] at qx17
                    intro rx17 vx17
                    refine ⟨fun c18 => ?_, fun c18 => ?_⟩
                    · exact fun z => (bq1 qx17).2.1.mp c18 (z.2.1 (by have := Z.2.1; have := Z.2.2.1.1; omega))
                    · exact ⟨by omega, fun _ => (bq1 qx17).2.2.1.mp c18⟩
set_option maxHeartbeats 1000000 in
theorem c_X14_hasNeeds {p0 : Nat} {p1 : Int} {nd : Nat → ND} {h : XH} {N : Nat → Int} {m : Nat} (T : HT h) (eN : N = nw h) (W : WF N m) (Z : NTm h nd m) {f : Nat → Int} (A : AR h p0 f) (S : fOK N f) (hp : 0 ≤ p1 ∧ p1 < 12) (nf : ¬ f p1.toNat = -1) {K : Int → Prop} (k : ∀ x, bq x (needsP N nd f p1.toNat) → K x) : w_X14_hasNeeds p0 p1 K h := by
  unfold w_X14_hasNeeds
  obtain ⟨A1, A2, A3⟩ := id A
  obtain ⟨v, hv, es, e0, e1⟩ := fOK_w W.1 S (p := p1.toNat) (by omega) nf
  have wv := W.1.2.2.2.2.1 v hv
  have v40 := vc64 W.1
  have z2 := Z.2
  have zn := Z.1.2.2.2.1
  have zb := Z.1.2.1
  have EV : ∀ j, hI h 438 (5 + 20 * v + j) = nV N v j := fun j => by rw [eN]; rfl
  have NP : needsP N nd f p1.toNat ↔ (∀ k : Nat, (k : Int) < nV N v 7 → mP N (nd (nV N v (8 + k)).toNat) f) ∧ (1000000 ≤ f p1.toNat → ¬ nV N v 6 = 0 → mP N (nd (nV N v 6 - 1).toNat) f) := by
    unfold needsP
    rw [es, Int.toNat_natCast]
  refine c_X14_slotIn eN W.1 A S hp ?_
  rw [es]
  intro _
  refine ⟨fun a x => 0 ≤ x ∧ x ≤ nV N v 7 ∧ bq a (∀ k : Nat, (k : Int) < x → mP N (nd (nV N v (8 + k)).toNat) f), fun _ x => (nV N v 7 - x).toNat, ?_, ?_⟩
  · exact ⟨by omega, by omega, bqT (fun k hk => by omega)⟩
  · intro x2 x3 rx2 rx3 z4
    obtain ⟨y0, y1, yb⟩ := z4
    refine c_X14_ver (by omega) ?_
    rw [Int.toNat_natCast, EV, show (7 : Int).toNat = 7 from rfl]
    intro x5 ex5
    intro rx5
    refine ⟨fun c32 => ?_, fun c32 => ?_⟩
    · refine ⟨fun x => bq x (needsP N nd f p1.toNat), ?_, ?_⟩
      · intro x6 rx6 z7
        refine ⟨vOr z7, ?_⟩
        exact k _ z7
      · refine ⟨¬ needsP N nd f p1.toNat, ?_, ?_⟩
        · intro z9
          exact bqF z9
        · refine ⟨fun c21 => ?_, fun c21 => ?_⟩
          · exact fun z => (bq1 yb).2.1.mp c21 (fun k hk => (NP.mp z).1 k (by omega))
          · refine c_X14_isOnIn A1 (by omega) ?_
            rw [A3 p1.toNat (by omega)]
            intro x10 qx10
            intro rx10 vx10
            refine ⟨1000000 ≤ f p1.toNat → ¬ nV N v 6 = 0 → mP N (nd (nV N v 6 - 1).toNat) f, ?_, ?_⟩
            · intro z11
              exact bqT (NP.mpr ⟨fun k hk => (bq1 yb).2.2.1.mp c21 k (by omega), z11⟩)
            · refine ⟨fun c20 => ?_, fun c20 => ?_⟩
              · exact fun y => absurd y ((bq1 qx10).2.1.mp c20)
              · refine c_X14_ver (by omega) ?_
                rw [Int.toNat_natCast, EV, show (6 : Int).toNat = 6 from rfl]
                intro x12 ex12
                intro rx12
                refine ⟨fun c19 => ?_, fun c19 => ?_⟩
                · exact fun _ n => absurd (ex12.symm.trans c19) n
                · refine c_X14_ver (by omega) ?_
                  rw [Int.toNat_natCast, EV, show (6 : Int).toNat = 6 from rfl]
                  intro x13 ex13
                  intro rx13
                  intro x14 ex14 rx14
                  rw [wr_of (by omega) (by omega)] at ex14
                  refine ⟨Z.1.2.2.1, ?_⟩
                  refine ⟨(by omega), ?_⟩
                  refine c_X14_isMet T eN W (Z.1.2.2.2.2.2.2.2 x14.toNat (by omega)) A S ?_
                  rw [show x14.toNat = (nV N v 6 - 1).toNat by omega]
                  intro x17 qx17
                  intro rx17 vx17
                  refine ⟨fun c18 => ?_, fun c18 => ?_⟩
                  · exact fun z => (bq1 qx17).2.1.mp c18 ((NP.mp z).2 ((bq1 qx10).2.2.1.mp c20) (by omega))
                  · exact fun _ _ => (bq1 qx17).2.2.1.mp c18
    · refine ⟨fun x => bq x (∀ k : Nat, (k : Int) < x3 + 1 → mP N (nd (nV N v (8 + k)).toNat) f), ?_, ?_⟩
      · intro x22 rx22 z23
        intro x24 ex24 rx24
        rw [wr_of (by omega) (by omega)] at ex24
        exact ⟨⟨by omega, by omega, by rw [ex24]; exact z23⟩, by dsimp only; omega⟩
      · refine ⟨¬ ∀ k : Nat, (k : Int) < x3 + 1 → mP N (nd (nV N v (8 + k)).toNat) f, ?_, ?_⟩
        · intro z25
          exact bqF z25
        · refine ⟨fun c31 => ?_, fun c31 => ?_⟩
          · exact fun z => (bq1 yb).2.1.mp c31 (fun k hk => z k (by omega))
          · rw [wr_of (by omega) (by omega)]
            refine c_X14_ver (by omega) ?_
            rw [Int.toNat_natCast, EV, show (8 + x3).toNat = 8 + x3.toNat by omega]
            intro x26 ex26
            have wk := wv.2.2.2.2.2.2.2.2.2.2.2.2.2.1 x3.toNat (by omega) (by omega)
            intro rx26
            refine ⟨Z.1.2.2.1, ?_⟩
            refine ⟨(by omega), ?_⟩
            refine c_X14_isMet T eN W (Z.1.2.2.2.2.2.2.2 x26.toNat (by omega)) A S ?_
            rw [ex26]
            intro x29 qx29
            intro rx29 vx29
            refine ⟨fun c30 => ?_, fun c30 => ?_⟩
            · exact fun z => (bq1 qx29).2.1.mp c30 (z x3.toNat (by omega))
            · refine bqT (fun k hk => ?_)
              by_cases c : k = x3.toNat
              · rw [c]; exact (bq1 qx29).2.2.1.mp c30
              · exact (bq1 yb).2.2.1.mp c31 k (by omega)
set_option maxHeartbeats 2000000 in
theorem c_X14_isSoundSet {p0 : Nat} {nd : Nat → ND} {h : XH} {N : Nat → Int} {m : Nat} (T : HT h) (eN : N = nw h) (W : WF N m) (Z : NTm h nd m) {f : Nat → Int} (A : AR h p0 f) (S : fOK N f) {K : Int → Prop} (k : ∀ x, bq x (sndP N nd f) → K x) : w_X14_isSoundSet p0 K h := by
  unfold w_X14_isSoundSet
  obtain ⟨A1, A2, A3⟩ := id A
  have v40 := vc64 W.1
  have z2 := Z.2
  have zn := Z.1.2.2.2.1
  have zb := Z.1.2.1
  have EV : ∀ v j : Nat, hI h 438 (5 + 20 * v + j) = nV N v j := fun v j => by rw [eN]; rfl
  refine ⟨fun x => 0 ≤ x ∧ x ≤ 12 ∧ ∀ p : Nat, (p : Int) < x → ¬ f p = -1 → SP N nd f p, fun x => (12 - x).toNat, ?_, ?_⟩
  · exact ⟨by omega, by omega, fun p hp => by omega⟩
  · intro x1 rx1 z5
    obtain ⟨y0, y1, ym⟩ := z5
    refine ⟨fun c43 => ?_, fun c43 => ?_⟩
    · exact k _ (bqT (fun p hp n => ym p (by omega) n))
    · have ex1 : hI h p0 x1.toNat = f x1.toNat := A3 x1.toNat (by omega)
      refine ⟨A1, ?_⟩
      refine ⟨(by omega), ?_⟩
      refine ⟨¬ f x1.toNat = -1 → SP N nd f x1.toNat, ?_, ?_⟩
      · intro z11
        intro x12 ex12 rx12
        rw [wr_of (by omega) (by omega)] at ex12
        refine ⟨⟨by omega, by omega, fun p hp => ?_⟩, by dsimp only; omega⟩
        by_cases c : p = x1.toNat
        · rw [c]; exact z11
        · exact ym p (by omega)
      · refine ⟨fun c42 => ?_, fun c42 => ?_⟩
        · obtain ⟨v, hv, es, e0, e1⟩ := fOK_w W.1 S (p := x1.toNat) (by omega) (by omega)
          have wv := W.1.2.2.2.2.1 v hv
          have SE : SP N nd f x1.toNat ↔ needsP N nd f x1.toNat ∧ (1000000 ≤ f x1.toNat → ¬ nV N v 6 = 0) ∧ ∀ b : Nat, (b : Int) < nV N v 12 → ∀ q, q < 12 → ¬ q = x1.toNat → ¬ f q = -1 → nmet N (nd (nV N v (13 + b)).toNat) (slF N f q).toNat = false := by
            unfold SP
            rw [es, Int.toNat_natCast]
          have KN : ¬ SP N nd f x1.toNat → K 0 := fun n => k _ (bqF (fun z => n (z x1.toNat (by omega) (by omega))))
          refine c_X14_slotIn eN W.1 A S (by omega) ?_
          rw [es]
          intro _
          refine c_X14_hasNeeds T eN W Z A S (by omega) (by omega) ?_
          intro x14 qx14
          intro rx14 vx14
          refine ⟨¬ SP N nd f x1.toNat, ?_, ?_⟩
          · intro z15
            exact KN z15
          · refine ⟨fun c41 => ?_, fun c41 => ?_⟩
            · exact fun z => (bq1 qx14).2.1.mp c41 z.1
            · refine c_X14_isOnIn A1 (by omega) ?_
              rw [ex1]
              intro x16 qx16
              intro rx16 vx16
              refine ⟨1000000 ≤ f x1.toNat → ¬ nV N v 6 = 0, ?_, ?_⟩
              · intro z17
                refine ⟨fun x => 0 ≤ x ∧ x ≤ nV N v 12 ∧ ∀ b : Nat, (b : Int) < x → ∀ q, q < 12 → ¬ q = x1.toNat → ¬ f q = -1 → nmet N (nd (nV N v (13 + b)).toNat) (slF N f q).toNat = false, fun x => (nV N v 12 - x).toNat, ?_, ?_⟩
                · exact ⟨by omega, by omega, fun b hb => by omega⟩
                · intro x18 rx18 z20
                  obtain ⟨u0, u1, um⟩ := z20
                  refine c_X14_ver (by omega) ?_
                  rw [Int.toNat_natCast, EV, show (12 : Int).toNat = 12 from rfl]
                  intro x21 ex21
                  intro rx21
                  refine ⟨fun c37 => ?_, fun c37 => ?_⟩
                  · exact fun _ => SE.mpr ⟨(bq1 qx14).2.2.1.mp c41, z17, fun b hb => um b (by omega)⟩
                  · refine ⟨fun x => 0 ≤ x ∧ x ≤ 12 ∧ ∀ q : Nat, (q : Int) < x → ¬ q = x1.toNat → ¬ f q = -1 → nmet N (nd (nV N v (13 + x18.toNat)).toNat) (slF N f q).toNat = false, fun x => (12 - x).toNat, ?_, ?_⟩
                    · exact ⟨by omega, by omega, fun q hq => by omega⟩
                    · intro x22 rx22 z23
                      obtain ⟨t0, t1, tm⟩ := z23
                      refine ⟨fun c36 => ?_, fun c36 => ?_⟩
                      · intro x24 ex24 rx24
                        rw [wr_of (by omega) (by omega)] at ex24
                        refine ⟨⟨by omega, by omega, fun b hb => ?_⟩, by dsimp only; omega⟩
                        by_cases c : b = x18.toNat
                        · rw [c]; exact fun q hq => tm q (by omega)
                        · exact um b (by omega)
                      · refine ⟨¬ x22.toNat = x1.toNat → ¬ f x22.toNat = -1 → nmet N (nd (nV N v (13 + x18.toNat)).toNat) (slF N f x22.toNat).toNat = false, ?_, ?_⟩
                        · intro z25
                          intro x26 ex26 rx26
                          rw [wr_of (by omega) (by omega)] at ex26
                          refine ⟨⟨by omega, by omega, fun q hq => ?_⟩, by dsimp only; omega⟩
                          by_cases c : q = x22.toNat
                          · rw [c]; exact z25
                          · exact tm q (by omega)
                        · refine ⟨fun c35 => ?_, fun c35 => ?_⟩
                          · exact fun n => absurd (by omega) n
                          · refine ⟨(by omega), ?_⟩
                            refine ⟨fun c34 => ?_, fun c34 => ?_⟩
                            · exact fun _ n => absurd ((A3 x22.toNat (by omega)).symm.trans c34) n
                            · rw [wr_of (by omega) (by omega)]
                              refine c_X14_ver (by omega) ?_
                              rw [Int.toNat_natCast, EV, show (13 + x18).toNat = 13 + x18.toNat by omega]
                              intro x28 ex28
                              have wk := wv.2.2.2.2.2.2.2.2.2.2.2.2.2.2.2.2.2.2.1 x18.toNat (by omega) (by omega)
                              have nf2 : ¬ f x22.toNat = -1 := fun y => c34 ((A3 x22.toNat (by omega)).trans y)
                              obtain ⟨u, hu, us, -⟩ := fOK_w W.1 S (p := x22.toNat) (by omega) nf2
                              intro rx28
                              refine ⟨Z.1.2.2.1, ?_⟩
                              refine ⟨(by omega), ?_⟩
                              refine c_X14_slotIn eN W.1 A S (by omega) ?_
                              rw [us]
                              intro _
                              refine c_X14_meets T eN W (Z.1.2.2.2.2.2.2.2 x28.toNat (by omega)) (by omega) (by rw [Int.toNat_natCast]; exact hu) ?_
                              rw [Int.toNat_natCast, ex28]
                              intro x32 qx32
                              intro rx32 vx32
                              refine ⟨fun c33 => ?_, fun c33 => ?_⟩
                              · exact fun _ _ => bt ((bq1 qx32).2.1.mp c33)
                              · refine KN (fun z => ?_)
                                have := (SE.mp z).2.2 x18.toNat (by omega) x22.toNat (by omega) (by omega) nf2
                                rw [us, Int.toNat_natCast, (bq1 qx32).2.2.1.mp c33] at this
                                cases this
              · refine ⟨fun c40 => ?_, fun c40 => ?_⟩
                · exact fun y => absurd y ((bq1 qx16).2.1.mp c40)
                · refine c_X14_ver (by omega) ?_
                  rw [Int.toNat_natCast, EV, show (6 : Int).toNat = 6 from rfl]
                  intro x38 ex38
                  intro rx38
                  refine ⟨fun c39 => ?_, fun c39 => ?_⟩
                  · exact fun _ => by omega
                  · exact fun z => (SE.mp z).2.1 ((bq1 qx16).2.2.1.mp c40) (by omega)
        · exact fun n => absurd (by omega) n
set_option maxHeartbeats 1000000 in
theorem c_X14_isHeld {p0 : Int} {h : XH} {N : Nat → Int} {m : Nat} (T : HT h) (eN : N = nw h) (W : WF N m) (hp : 0 ≤ p0 ∧ p0 < 12) {K : Int → Prop} (k : ∀ x, bq x (isHeld N (rh N) p0.toNat = true) → K x) : w_X14_isHeld p0 K h := by
  unfold w_X14_isHeld
  obtain ⟨r1, r2, r3, r4, r5, -⟩ := W.2.1 (rh N) (rh_lt W)
  refine c_X14_rootAt (by decide) (hr_ eN W) (rh_lt W) ?_
  rw [← eN, show (9 : Int).toNat = 9 from rfl]
  intro x1 ex1
  have bi := bitI (a := (nR N (rh N) 9).toNat) (n := p0.toNat) (by omega) (by omega)
  rw [show (((nR N (rh N) 9).toNat : Nat) : Int) = x1 by omega, show ((p0.toNat : Nat) : Int) = p0 by omega] at bi
  intro rx1
  refine ⟨fun x => bq x (isHeld N (rh N) p0.toNat = true), ?_, ?_⟩
  · intro x2 rx2 z3
    refine ⟨vOr z3, ?_⟩
    exact k _ z3
  · refine ⟨fun c5 => ?_, fun c5 => ?_⟩
    · refine bqF (fun y => c5 ?_)
      rw [bi]
      exact if_pos y
    · refine bqT ?_
      unfold isHeld
      cases e : (nR N (rh N) 9).toNat.testBit p0.toNat with
      | true => rfl
      | false => rw [bi, e] at c5; exact absurd (fun y => by cases y) c5
set_option maxHeartbeats 1000000 in
theorem c_X14_fitsHere {p0 : Nat} {nd : Nat → ND} {h : XH} {N : Nat → Int} {m : Nat} (T : HT h) (eN : N = nw h) (W : WF N m) (Z : NTm h nd m) {f : Nat → Int} (A : AR h p0 f) (S : fOK N f) {K : Int → Prop} (k : ∀ x, bq x (fitP N nd (rh N) f) → K x) : w_X14_fitsHere p0 K h := by
  unfold w_X14_fitsHere
  obtain ⟨A1, A2, A3⟩ := id A
  have z2 := Z.2
  have zn := Z.1.2.2.2.1
  have zb := Z.1.2.1
  have dk := DK_of Z
  obtain ⟨r1, r2, r3, r4, r5, r6, r7, -⟩ := W.2.1 (rh N) (rh_lt W)
  refine ⟨fun x => 0 ≤ x ∧ x ≤ 12 ∧ ∀ p : Nat, (p : Int) < x → (isHeld N (rh N) p = true → f p = inst N (rh N) p) ∧ (¬ nR N (rh N) (10 + p) = 0 → ¬ f p = -1 → rmet (rng (nd (nR N (rh N) (10 + p) - 1).toNat)) (cIn f p) = true), fun x => (12 - x).toNat, ?_, ?_⟩
  · exact ⟨by omega, by omega, fun p hp => by omega⟩
  · intro x1 rx1 z3
    obtain ⟨y0, y1, ym⟩ := z3
    refine ⟨fun c36 => ?_, fun c36 => ?_⟩
    · refine ⟨fun x => 0 ≤ x ∧ x ≤ nR N (rh N) 0 ∧ ∀ w : Nat, (w : Int) < x → ¬ nR N (rh N) (1 + w) = -1 → mP N (nd (nR N (rh N) (1 + w)).toNat) f, fun x => (nR N (rh N) 0 - x).toNat, ?_, ?_⟩
      · exact ⟨by omega, r1, fun w hw => by omega⟩
      · intro x4 rx4 z5
        obtain ⟨u0, u1, um⟩ := z5
        refine c_X14_rootAt (by decide) (hr_ eN W) (rh_lt W) ?_
        rw [← eN, show (0 : Int).toNat = 0 from rfl]
        intro x6 ex6
        intro rx6
        refine ⟨fun c15 => ?_, fun c15 => ?_⟩
        · refine c_X14_isSoundSet T eN W Z A S ?_
          intro x7 qx7
          intro rx7 vx7
          exact k _ (bq_iff qx7 ⟨fun z => ⟨fun p hp => ym p (by omega), fun w hw => um w (by omega), z⟩, fun z => z.2.2⟩)
        · refine c_X14_wishAt T eN W Z (by omega) ?_
          intro a8 qa8
          refine ⟨¬ nR N (rh N) (1 + x4.toNat) = -1 → mP N (nd (nR N (rh N) (1 + x4.toNat)).toNat) f, ?_, ?_⟩
          · intro z9
            intro x10 ex10 rx10
            rw [wr_of (by omega) (by omega)] at ex10
            refine ⟨⟨by omega, by omega, fun w hw => ?_⟩, by dsimp only; omega⟩
            by_cases c : w = x4.toNat
            · rw [c]; exact z9
            · exact um w (by omega)
          · refine ⟨fun c14 => ?_, fun c14 => ?_⟩
            · rcases qa8 with y | ⟨y, z⟩
              · exact fun n => absurd y.1 n
              · exact absurd z.2.2.2.1 (by omega)
            · refine c_X14_wishAt T eN W Z (by omega) ?_
              intro a11 qa11
              have nw_ : 0 ≤ nR N (rh N) (1 + x4.toNat) ∧ NeedR h a11 (nd (nR N (rh N) (1 + x4.toNat)).toNat) := by
                rcases qa8 with y | y
                · exact absurd y.2 c14
                · rcases qa11 with z | z
                  · omega
                  · exact z
              refine c_X14_isMet T eN W nw_.2 A S ?_
              intro x12 qx12
              intro rx12 vx12
              refine ⟨fun c13 => ?_, fun c13 => ?_⟩
              · exact fun _ => (bq1 qx12).2.2.1.mp c13
              · exact k _ (bqF (fun z => (bq1 qx12).2.1.mp (Decidable.not_not.mp c13) (z.2.1 x4.toNat (by omega) (by omega))))
    · have ex1 : hI h p0 x1.toNat = f x1.toNat := A3 x1.toNat (by omega)
      have pw := r7 x1.toNat (by omega)
      refine c_X14_isHeld T eN W (by omega) ?_
      intro x16 qx16
      intro rx16 vx16
      refine ⟨isHeld N (rh N) x1.toNat = true → f x1.toNat = inst N (rh N) x1.toNat, ?_, ?_⟩
      · intro z17
        rw [wr_of (by omega) (by omega)]
        refine c_X14_rootAt (by omega) (hr_ eN W) (rh_lt W) ?_
        rw [← eN, show (10 + x1).toNat = 10 + x1.toNat by omega]
        intro x18 ex18
        intro rx18
        refine ⟨¬ nR N (rh N) (10 + x1.toNat) = 0 → ¬ f x1.toNat = -1 → rmet (rng (nd (nR N (rh N) (10 + x1.toNat) - 1).toNat)) (cIn f x1.toNat) = true, ?_, ?_⟩
        · intro z19
          intro x20 ex20 rx20
          rw [wr_of (by omega) (by omega)] at ex20
          refine ⟨⟨by omega, by omega, fun p hp => ?_⟩, by dsimp only; omega⟩
          by_cases c : p = x1.toNat
          · rw [c]; exact ⟨z17, z19⟩
          · exact ym p (by omega)
        · refine ⟨fun c30 => ?_, fun c30 => ?_⟩
          · exact fun n => absurd (by omega) n
          · refine ⟨A1, ?_⟩
            refine ⟨(by omega), ?_⟩
            refine ⟨fun c29 => ?_, fun c29 => ?_⟩
            · exact fun _ n => absurd (ex1.symm.trans c29) n
            · intro x23 ex23 rx23
              rw [wr_of (by omega) (by omega)] at ex23
              have ZP := Z.1.2.2.2.2.2.2.2 x23.toNat (by omega)
              obtain ⟨v, hv, es, e0, e1⟩ := fOK_w W.1 S (p := x1.toNat) (by omega) (by omega)
              have wv := W.1.2.2.2.2.1 v hv
              have ec := cIn_v W.1 hv e1
              refine ⟨Z.1.2.2.1, ?_⟩
              refine ⟨(by omega), ?_⟩
              refine c_X14_codeIn A (by omega) (by omega) ?_
              rw [ec]
              intro _
              have l0 : 0 < (nd x23.toNat).2.length := by
                have := (dk x23.toNat (by omega)).2.1
                cases e : (nd x23.toNat).2 with
                | nil => exact absurd e this
                | cons a l => simp
              refine c_X14_meetsRange ZP (by omega) (by omega) ?_
              intro x27 qx27
              replace qx27 : bq x27 (rmet (rng (nd (nR N (rh N) (10 + x1.toNat) - 1).toNat)) (nV N v 1) = true) := by
                have e := rng_0 l0
                rw [← show x23.toNat = (nR N (rh N) (10 + x1.toNat) - 1).toNat by omega, ← e]
                exact qx27
              intro rx27 vx27
              refine ⟨fun c28 => ?_, fun c28 => ?_⟩
              · exact fun _ _ => (bq1 qx27).2.2.1.mp c28
              · refine k _ (bqF (fun z => (bq1 qx27).2.1.mp (Decidable.not_not.mp c28) ?_))
                have := (z.1 x1.toNat (by omega)).2 (by omega) (by omega)
                rw [ec] at this
                exact this
      · refine ⟨fun c35 => ?_, fun c35 => ?_⟩
        · exact fun y => absurd y ((bq1 qx16).2.1.mp c35)
        · refine ⟨A1, ?_⟩
          refine ⟨(by omega), ?_⟩
          rw [wr_of (by omega) (by omega)]
          refine c_X14_rootAt (by omega) (hr_ eN W) (rh_lt W) ?_
          rw [← eN, show (23 + x1).toNat = 23 + x1.toNat by omega]
          intro x33 ex33
          replace ex33 : x33 = inst N (rh N) x1.toNat := ex33
          intro rx33
          refine ⟨fun c34 => ?_, fun c34 => ?_⟩
          · exact fun _ => by omega
          · exact k _ (bqF (fun z => c34 (by have := (z.1 x1.toNat (by omega)).1 ((bq1 qx16).2.2.1.mp c35); omega)))
