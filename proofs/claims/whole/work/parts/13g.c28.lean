/-! NEEDS: whether a version meets one, which ones do -/
/-- the k-th thing that a version provides meets an atom -/
def gift (N : Nat → Int) (a : Int × List (Int × Int × Int)) (v g : Nat) : Bool := decide (nV N v (16 + 2 * g) = a.1) && rmet a.2 (nV N v (17 + 2 * g))
def ownM (N : Nat → Int) (a : Int × List (Int × Int × Int)) (v : Nat) : Bool := decide (nV N v 0 = a.1) && rmet a.2 (nV N v 1)
theorem am_e {N : Nat → Int} {w : Int} {a : Int × List (Int × Int × Int)} {v : Nat} : am N w a v = true ↔ ownM N a v = true ∨ w = 0 ∧ (List.range (nV N v 15).toNat).any (gift N a v) = true := by
  unfold am ownM
  rw [Bool.or_eq_true, Bool.and_eq_true (decide (w = 0)), decide_eq_true_eq]
  exact Iff.rfl
theorem range_any {f : Nat → Bool} {n : Nat} : (List.range (n + 1)).any f = ((List.range n).any f || f n) := by
  rw [List.range_succ, List.any_append]
  simp
theorem take_all {α : Type} {l : List α} {f : α → Bool} {n : Nat} (h : (l.take n).any f = true) : l.any f = true := by
  rw [List.any_eq_true] at h ⊢
  obtain ⟨x, hx, y⟩ := h
  exact ⟨x, List.mem_of_mem_take hx, y⟩
set_option maxHeartbeats 1000000 in
theorem c_X14_meets {p0 : Nat} {p1 : Int} {d : ND} {h : XH} {N : Nat → Int} {m : Nat} (T : HT h) (eN : N = nw h) (W : WF N m) (Z : NeedR h p0 d) (hp : 0 ≤ p1) (hv : p1.toNat < vc N) {K : Int → Prop} (k : ∀ x, bq x (nmet N d p1.toNat = true) → K x) : w_X14_meets p0 p1 K h := by
  unfold w_X14_meets
  obtain ⟨k0, k1, k2, k3, k4, k5, k6, ok, k8⟩ := needs_k Z
  have v40 : p1.toNat < 40 := by have := W.1.2.2.2.1; unfold vc at hv; omega
  obtain ⟨w0, w0a, w1, w1a, -, -, -, -, -, -, -, -, -, -, -, -, -, -, -, w15, w15a, wg⟩ := W.1.2.2.2.2.1 p1.toNat hv
  refine ⟨fun a i => 0 ≤ i ∧ i ≤ (d.2.length : Int) ∧ bq a ((d.2.take i.toNat).any (fun a => am N d.1 a p1.toNat) = true), fun _ i => (d.2.length - i : Int).toNat, ?_, ?_⟩
  · exact ⟨by omega, by omega, bqF (by simp)⟩
  · intro x1 x2 rx1 rx2 z4
    obtain ⟨z0, z1, zb⟩ := z4
    refine ⟨k0, ?_⟩
    refine ⟨k1, ?_⟩
    refine ⟨(by omega), ?_⟩
    refine ⟨bq x1 (nmet N d p1.toNat = true), ?_, ?_⟩
    · intro z8
      refine ⟨vOr z8, ?_⟩
      exact k _ z8
    · refine ⟨fun c38 => ?_, fun c38 => ?_⟩
      · rw [List.take_of_length_le (by omega)] at zb
        exact zb
      · have hi : x2.toNat < d.2.length := by omega
        obtain ⟨b, y1, y2, y3, y4, y5, y6⟩ := needs_at Z hi
        refine ⟨fun c37 => ?_, fun c37 => ?_⟩
        · exact .inl ⟨(by rcases vOr zb with y | y; exact absurd y c37; exact y), take_all ((bq1 zb).2.2.1.mp c37)⟩
        · refine c_X14_ver (by omega) ?_
          intro x10 ex10
          have e10 : x10 = nV N p1.toNat 0 := by rw [ex10, eN]; rfl
          intro rx10
          refine ⟨(by omega), ?_⟩
          refine ⟨fun x => bq x (ownM N d.2[x2.toNat] p1.toNat = true), ?_, ?_⟩
          · intro x12 rx12 z13
            refine ⟨fun a g => 0 ≤ g ∧ g ≤ nV N p1.toNat 15 ∧ bq a (ownM N d.2[x2.toNat] p1.toNat = true ∨ d.1 = 0 ∧ (List.range g.toNat).any (gift N d.2[x2.toNat] p1.toNat) = true), fun _ g => (nV N p1.toNat 15 - g).toNat, ?_, ?_⟩
            · exact ⟨by omega, by omega, bq_iff z13 ⟨.inl, fun y => y.elim id (fun w => by simp at w)⟩⟩
            · intro x14 x15 rx14 rx15 z16
              obtain ⟨g0, g1, gb⟩ := z16
              refine c_X14_ver (by omega) ?_
              intro x17 ex17
              have e17 : x17 = nV N p1.toNat 15 := by rw [ex17, eN]; rfl
              intro rx17
              refine ⟨bq x14 (am N d.1 d.2[x2.toNat] p1.toNat = true), ?_, ?_⟩
              · intro z18
                intro x19 ex19 rx19
                rw [wr_of (by omega) (by omega)] at ex19
                refine ⟨⟨by omega, by omega, bq_iff z18 ?_⟩, by dsimp only; omega⟩
                rw [show x19.toNat = x2.toNat + 1 by omega, take_any _ _ _ hi, bt ((bq1 zb).2.1.mp (by omega)), Bool.false_or]
              · refine ⟨fun c31 => ?_, fun c31 => ?_⟩
                · refine bq_iff gb ?_
                  rw [am_e, show x15.toNat = (nV N p1.toNat 15).toNat by omega]
                · refine ⟨fun c30 => ?_, fun c30 => ?_⟩
                  · refine bq_iff gb ?_
                    rw [am_e]
                    exact ⟨fun y => y.elim .inl (fun w => absurd w.1 (by omega)), fun y => y.elim .inl (fun w => absurd w.1 (by omega))⟩
                  · refine ⟨fun c29 => ?_, fun c29 => ?_⟩
                    · refine .inl ⟨(by rcases vOr gb with y | y; exact absurd y c29; exact y), am_e.mpr ?_⟩
                      rcases (bq1 gb).2.2.1.mp c29 with y | ⟨y, z⟩
                      · exact .inl y
                      · refine .inr ⟨y, ?_⟩
                        rw [List.any_eq_true] at z ⊢
                        obtain ⟨i, hi2, z⟩ := z
                        exact ⟨i, List.mem_range.mpr (by have := List.mem_range.mp hi2; omega), z⟩
                    · rw [wr_of (x := 2 * x15) (by omega) (by omega), wr_of (x := 16 + 2 * x15) (by omega) (by omega), wr_of (x := 16 + 2 * x15 + 1) (by omega) (by omega)]
                      refine c_X14_ver (by omega) ?_
                      intro x20 ex20
                      have e20 : x20 = nV N p1.toNat (16 + 2 * x15.toNat) := by rw [ex20, eN, show (16 + 2 * x15).toNat = 16 + 2 * x15.toNat by omega]; rfl
                      have wgk := wg x15.toNat (by omega) (by omega)
                      intro rx20
                      refine ⟨fun x => bq x (gift N d.2[x2.toNat] p1.toNat x15.toNat = true), ?_, ?_⟩
                      · intro x21 rx21 z22
                        intro x23 ex23 rx23
                        rw [wr_of (by omega) (by omega)] at ex23
                        refine ⟨⟨by omega, by omega, bq_iff z22 ?_⟩, by dsimp only; omega⟩
                        rw [show x23.toNat = x15.toNat + 1 by omega, range_any, Bool.or_eq_true]
                        have n := (bq1 gb).2.1.mp (by omega)
                        constructor
                        · exact fun y => .inr ⟨by omega, .inr y⟩
                        · rintro (y | ⟨y, z | z⟩)
                          · exact absurd (.inl y) n
                          · exact absurd (.inr ⟨y, z⟩) n
                          · exact z
                      · refine ⟨¬ gift N d.2[x2.toNat] p1.toNat x15.toNat = true, ?_, ?_⟩
                        · intro z24
                          exact bqF z24
                        · refine ⟨fun c28 => ?_, fun c28 => ?_⟩
                          · unfold gift
                            rw [df (by omega)]
                            simp
                          · refine c_X14_ver (by omega) ?_
                            intro x25 ex25
                            have e25 : x25 = nV N p1.toNat (17 + 2 * x15.toNat) := by rw [ex25, eN, show (16 + 2 * x15 + 1).toNat = 17 + 2 * x15.toNat by omega]; rfl
                            intro rx25
                            refine c_X14_meetsRange Z (by omega) (by omega) ?_
                            intro x26 qx26
                            rw [e25] at qx26
                            intro rx26 vx26
                            refine ⟨fun c27 => ?_, fun c27 => ?_⟩
                            · unfold gift
                              rw [bt ((bq1 qx26).2.1.mp c27)]
                              simp
                            · refine bqT ?_
                              unfold gift
                              rw [dt (by omega), (bq1 qx26).2.2.1.mp c27]
                              rfl
          · refine ⟨¬ ownM N d.2[x2.toNat] p1.toNat = true, ?_, ?_⟩
            · intro z32
              exact bqF z32
            · refine ⟨fun c36 => ?_, fun c36 => ?_⟩
              · unfold ownM
                rw [df (by omega)]
                simp
              · refine c_X14_ver (by omega) ?_
                intro x33 ex33
                have e33 : x33 = nV N p1.toNat 1 := by rw [ex33, eN]; rfl
                intro rx33
                refine c_X14_meetsRange Z (by omega) (by omega) ?_
                intro x34 qx34
                rw [e33] at qx34
                intro rx34 vx34
                refine ⟨fun c35 => ?_, fun c35 => ?_⟩
                · unfold ownM
                  rw [bt ((bq1 qx34).2.1.mp c35)]
                  simp
                · refine bqT ?_
                  unfold ownM
                  rw [dt (by omega), (bq1 qx34).2.2.1.mp c35]
                  rfl
/-- the class: one atom -/
def AtomC (h : XH) (a : Nat) (w : Int) (q : Int × List (Int × Int × Int)) : Prop := hk h a = 1 ∧ hI h a 0 = q.1 ∧ hI h a 1 = w ∧ SpanL h (hR h a 2) (nrm q.2) ∧ ∀ s ∈ q.2, sOK s
set_option maxHeartbeats 1000000 in
theorem c_X3_isMeeting {p0 : Int} {p1 : Nat} {w : Int} {a : Int × List (Int × Int × Int)} {h : XH} {N : Nat → Int} {nd : Nat → ND} {m : Nat} (T : HT h) (C : CS h 8 N nd) (W : WF N m) (hw : w = 0 ∨ w = 1) (A : AtomC h p1 w a) (hp : 0 ≤ p0) (hv : p0.toNat < vc N) {K : Int → Prop} (k : ∀ x, bq x (am N w a p0.toNat = true) → K x) : w_X3_isMeeting p0 p1 K h := by
  unfold w_X3_isMeeting
  obtain ⟨A0, A1, A2, A3, A4⟩ := A
  have v40 : p0.toNat < 40 := by have := W.1.2.2.2.1; unfold vc at hv; omega
  obtain ⟨w0, w0a, w1, w1a, -, -, -, -, -, -, -, -, -, -, -, -, -, -, -, w15, w15a, wg⟩ := W.1.2.2.2.2.1 p0.toNat hv
  obtain ⟨v0, v1, -, -, -, -, -, -, -, -, -, v15, v16⟩ := V8 C.1 hv
  refine ⟨(by omega), ?_⟩
  refine ⟨A0, ?_⟩
  refine ⟨fun c19 => ?_, fun c19 => ?_⟩
  · have no : ownM N a p0.toNat = false := by unfold ownM; rw [df (by omega)]; rfl
    intro x3 ex3 rx3
    rw [wr_of (by omega) (by omega)] at ex3
    refine ⟨fun g => 0 ≤ g ∧ g ≤ nV N p0.toNat 15 ∧ (w = 0 → (List.range g.toNat).any (gift N a p0.toNat) = false), fun g => (nV N p0.toNat 15 - g).toNat, ?_, ?_⟩
    · exact ⟨by omega, by omega, fun _ => by simp⟩
    · intro x4 rx4 z5
      obtain ⟨g0, g1, gn⟩ := z5
      refine ⟨¬ am N w a p0.toNat = true, ?_, ?_⟩
      · intro z6
        exact k _ (bqF z6)
      · refine ⟨fun c17 => ?_, fun c17 => ?_⟩
        · rw [am_e, no]
          rintro (y | ⟨y, z⟩)
          · cases y
          · have := gn y
            rw [show x4.toNat = (nV N p0.toNat 15).toNat by omega] at this
            rw [this] at z
            cases z
        · refine ⟨fun c16 => ?_, fun c16 => ?_⟩
          · rw [am_e, no]
            rintro (y | ⟨y, z⟩)
            · cases y
            · omega
          · have wgk := wg x4.toNat (by omega) (by omega)
            have vk := v16 x4.toNat (by omega) (by omega)
            intro x7 ex7 rx7
            rw [wr_of (by omega) (by omega)] at ex7
            have e7 : x7.toNat = 2 * p0.toNat + x4.toNat := by omega
            refine ⟨(by omega), ?_⟩
            refine ⟨gift N a p0.toNat x4.toNat = false, ?_, ?_⟩
            · intro z9
              intro x10 ex10 rx10
              rw [wr_of (by omega) (by omega)] at ex10
              exact ⟨⟨by omega, by omega, fun y => by rw [show x10.toNat = x4.toNat + 1 by omega, range_any, gn y, z9]; rfl⟩, by dsimp only; omega⟩
            · refine ⟨fun c15 => ?_, fun c15 => ?_⟩
              · unfold gift
                rw [df (by rw [e7] at c15; omega)]
                rfl
              · intro x11 ex11 rx11
                rw [wr_of (by omega) (by omega)] at ex11
                have e11 : x11.toNat = 2 * p0.toNat + x4.toNat := by omega
                refine ⟨(by omega), ?_⟩
                rw [e11, vk.2]
                refine c_X10_isAnyMet T (by omega) A3 (nrm_ok A4) ?_
                intro x13 qx13
                intro rx13 vx13
                refine ⟨fun c14 => ?_, fun c14 => ?_⟩
                · unfold gift rmet
                  rw [bt ((bq1 qx13).2.1.mp c14)]
                  simp
                · refine k _ (bqT (am_e.mpr (.inr ⟨by omega, ?_⟩)))
                  rw [List.any_eq_true]
                  refine ⟨x4.toNat, List.mem_range.mpr (by omega), ?_⟩
                  unfold gift rmet
                  rw [dt (by rw [e7] at c15; omega), (bq1 qx13).2.2.1.mp c14]
                  rfl
  · rw [v1]
    refine c_X10_isAnyMet T (by omega) A3 (nrm_ok A4) ?_
    intro x18 qx18
    intro rx18 vx18
    refine k _ (bq_iff qx18 ?_)
    have e0 : nV N p0.toNat 0 = a.1 := by omega
    rw [am_e]
    constructor
    · intro y
      refine .inl ?_
      unfold ownM rmet
      rw [dt e0, y]
      rfl
    · rintro (y | ⟨y, z⟩)
      · unfold ownM rmet at y
        rw [dt e0, Bool.true_and] at y
        exact y
      · rw [List.any_eq_true] at z
        obtain ⟨i, hi, z⟩ := z
        have hi := List.mem_range.mp hi
        have := wg i (by omega) (by omega)
        unfold gift at z
        rw [df (by omega)] at z
        simp at z
def atl (h : XH) : Nat → Nat → Nat
  | 0, _ => 0
  | n + 1, a => if a = 0 then 0 else 1 + atl h n (hR h a 3)
theorem atl_eq {h : XH} (T : HT h) (w : Int) : ∀ (n a : Nat) (l : List (Int × List (Int × Int × Int))), AtomL h w a l → l.length ≤ n → atl h n a = l.length := by
  intro n
  induction n with
  | zero => intro a l _ hl; unfold atl; omega
  | succ n ih =>
    intro a l z hl
    unfold atl
    cases l with
    | nil =>
      have z : a = 0 := z
      rw [if_pos z]; rfl
    | cons q l =>
      rw [if_neg (fun e => noTxt T (b := a) (by omega) (.inl z.1)), ih _ l z.2.2.2.2 (by simp at hl; omega)]
      simp; omega
theorem AtomL_0 {h : XH} (T : HT h) {w : Int} {l : List (Int × List (Int × Int × Int))} (z : AtomL h w 0 l) : l = [] := by
  cases l with
  | nil => rfl
  | cons q l => exact absurd (.inl z.1) (noTxt T (by decide))
theorem AtomL_c {h : XH} {w : Int} {a : Nat} (n : ¬ a = 0) {l : List (Int × List (Int × Int × Int))} (z : AtomL h w a l) : ∃ q k, l = q :: k := by
  cases l with
  | nil => exact absurd z n
  | cons q l => exact ⟨q, l, rfl⟩
set_option maxHeartbeats 1000000 in
theorem c_X3_meeting {p0 : Nat} {d : ND} {h : XH} {N : Nat → Int} {nd : Nat → ND} {m : Nat} (T : HT h) (C : CS h 8 N nd) (W : WF N m) (A : AtomR h p0 d) (ok : ndOK d) {K : BitVec 64 → Prop} (k : K (nMask N d)) : w_X3_meeting p0 K h := by
  unfold w_X3_meeting
  have V1 := (V80 C.1).2
  have w3 := W.1.2.2.1
  have w4 := W.1.2.2.2.1
  have vcN : vc N = (N 4).toNat := rfl
  refine ⟨fun b a => ∃ r, AtomL h d.1 a r ∧ r.length ≤ d.2.length ∧ (∀ q ∈ r, q ∈ d.2) ∧ ∀ j, (b.getLsbD j || (decide (j < vc N) && r.any (fun q => am N d.1 q j))) = (nMask N d).getLsbD j, fun _ a => atl h d.2.length a, ?_, ?_⟩
  · refine ⟨d.2, A, Nat.le_refl _, fun _ y => y, fun j => ?_⟩
    unfold nMask nmet
    rw [orN_at _ _ _ (by omega), BitVec.getLsbD_zero, Bool.false_or]
  · intro b2 a3 z5
    obtain ⟨r, z0, z1, zm, ze⟩ := z5
    refine ⟨fun c19 => ?_, fun c19 => ?_⟩
    · rw [c19] at z0
      have e := AtomL_0 T z0
      subst e
      have : b2 = nMask N d := by
        apply BitVec.eq_of_getLsbD_eq
        intro j _
        have := ze j
        rw [List.any_nil, Bool.and_false, Bool.or_false] at this
        exact this
      rw [this]
      exact k
    · obtain ⟨q, r2, er⟩ := AtomL_c c19 z0
      subst er
      have z00 := z0
      obtain ⟨y0, y1, y2, y3, y4⟩ := z0
      have okq := ok.2.2.2.1 q (zm q (List.mem_cons_self ..))
      refine ⟨fun b x => 0 ≤ x ∧ x ≤ N 4 ∧ ∀ j, b.getLsbD j = (b2.getLsbD j || (decide ((j : Int) < x) && am N d.1 q j)), fun _ x => (N 4 - x).toNat, ?_, ?_⟩
      · exact ⟨by omega, w3, fun j => by rw [df (by omega), Bool.false_and, Bool.or_false]⟩
      · intro b7 x8 rx8 z9
        obtain ⟨g0, g1, gb⟩ := z9
        refine ⟨fun c18 => ?_, fun c18 => ?_⟩
        · refine ⟨y0, ?_⟩
          intro a11 ea11
          refine ⟨⟨r2, by rw [ea11]; exact y4, by simp at z1; omega, fun w hw => zm w (List.mem_cons_of_mem _ hw), fun j => ?_⟩, ?_⟩
          · rw [← ze j, gb j, List.any_cons, show decide ((j : Int) < x8) = decide (j < vc N) from decide_eq_decide.mpr (by omega)]
            cases b2.getLsbD j <;> cases decide (j < vc N) <;> simp
          · dsimp only
            rw [ea11, atl_eq T _ _ _ _ y4 (by simp at z1; omega), atl_eq T _ _ _ _ z00 z1]
            simp
        · refine c_X3_isMeeting T C W ok.1 ⟨y0, y1, y2, y3, okq.2.2⟩ (by omega) (by omega) ?_
          intro x12 qx12
          intro rx12 vx12
          refine ⟨fun b => ∀ j, b.getLsbD j = (decide (j = x8.toNat) && am N d.1 q j), ?_, ?_⟩
          · intro b13 z14
            intro b15 eb15
            intro x16 ex16 rx16
            rw [wr_of (by omega) (by omega)] at ex16
            refine ⟨⟨by omega, by omega, fun j => ?_⟩, by dsimp only; omega⟩
            rw [eb15, BitVec.getLsbD_or, gb j, z14 j]
            by_cases c : j = x8.toNat
            · rw [dt c, df (by omega), dt (show (j : Int) < x16 by omega)]; simp
            · rw [df c, show decide ((j : Int) < x16) = decide ((j : Int) < x8) from decide_eq_decide.mpr (by omega)]; simp
          · refine ⟨fun c17 => ?_, fun c17 => ?_⟩
            · intro j
              rw [BitVec.getLsbD_zero]
              by_cases c : j = x8.toNat
              · rw [c, bt ((bq1 qx12).2.1.mp c17)]; simp
              · rw [df c]; simp
            · intro j
              rw [show x8 = ((x8.toNat : Nat) : Int) by omega, lshl1 (by omega), bit1_at (by omega), Int.toNat_natCast]
              by_cases c : j = x8.toNat
              · rw [c, (bq1 qx12).2.2.1.mp c17]; simp
              · rw [df c]; simp
