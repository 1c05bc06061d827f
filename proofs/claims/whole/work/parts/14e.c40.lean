/-! THE ORDER OF SCRIPTS, the class -/
theorem neg_pw : ∀ p : Fin 12, wr (-((2 ^ p.1 : Nat) : Int)) = ixor ((2 ^ p.1 - 1 : Nat) : Int) (-1) := by decide +kernel
theorem pw_at {p q : Nat} : (2 ^ p - 1).testBit q = decide (q < p) := Nat.testBit_two_pow_sub_one p q
def FA (h g : XH) : Prop := Fr (fun b => 79 ≤ b ∧ b < 83) h g ∧ g.length = h.length ∧ xhs g = xhs h
theorem FA_rf (h : XH) : FA h h := ⟨Fr_rf _ _, rfl, rfl⟩
theorem FA_tr {h g k : XH} (a : FA h g) (b : FA g k) : FA h k := ⟨Fr_tr a.1 (by rw [a.2.1]; exact Nat.le_refl _) b.1, b.2.1.trans a.2.1, b.2.2.trans a.2.2⟩
theorem FA_s {h g : XH} {a i : Nat} {x : Int} (e : g = sI h a i x) (ha : 79 ≤ a ∧ a < 83) : FA h g := ⟨by rw [e]; exact Fr_sV ha, by rw [e, len_sV], by rw [e, xhs_sV]⟩
theorem FA_CS {h g : XH} {N : Nat → Int} {nd : Nat → ND} {m : Nat} (T : HT h) (C : CS h 8 N nd) (W : WF N m) (q : FA h g) : CS g 8 N nd := by
  have L := HT_len T
  exact CS_fr (fun j hj => q.1 (8 + j) (by omega) (by omega)) (txt_fr T q.1 (fun b y => by omega)) (WF_b W) C
theorem FA_M {h g : XH} {N : Nat → Int} {nd : Nat → ND} (T : HT h) (M : MetOK h N nd) (q : FA h g) : MetOK g N nd := by
  have L := HT_len T
  exact MetOK_fr (fun b x y => q.1 b (by omega) (by omega)) M
/-- who is ahead, as the class has it -/
def AHo (g : XH) (N : Nat → Int) (nd : Nat → ND) (f : Nat → Int) : Prop := ∀ p, p < pc N → hI g 80 p = (ahM N nd f p : Nat)
/-- those at a distance from a package -/
def AD (g : XH) (N : Nat → Int) (nd : Nat → ND) (f : Nat → Int) (s e : Nat) : Prop := ∃ M : Nat, hI g 81 e = (M : Int) ∧ M < 4096 ∧ ∀ p, M.testBit p = true ↔ p < 12 ∧ md N nd f s e p ∧ (restN N nd f).testBit p = true
set_option maxHeartbeats 1000000 in
theorem c_X2_aheadOf {q : Nat} {s : BitVec 64} {f : Nat → Int} {h : XH} {N : Nat → Int} {nd : Nat → ND} {m : Nat} (T : HT h) (C : CS h 8 N nd) (W : WF N m) (dk : DK nd m) (M : MetOK h N nd) (S : SetR N s f) (hq : q < 12) {K : Int → Prop} (k : K (ahM N nd f q : Nat)) : w_X2_aheadOf (q : Int) s K h := by
  unfold w_X2_aheadOf
  have v40 := vc64 W.1
  have b12 := W.1.2.1
  refine c_X8_idIn C.1 ⟨W.1.2.2.1, W.1.2.2.2.1⟩ ?_
  rw [idF_F W.1 S hq]
  intro _
  obtain ⟨x1, ex1⟩ : ∃ x1, x1 = slF N f q := ⟨_, rfl⟩
  rw [← ex1]
  have hx : x1 = -1 ∧ f q = -1 ∨ ∃ v : Nat, x1 = v ∧ v < vc N ∧ nV N v 0 = q ∧ ¬ f q = -1 := by
    by_cases c : f q = -1
    · exact .inl ⟨by rw [ex1, slF_0 c], c⟩
    · obtain ⟨v, hv, es, e0, -⟩ := Set_v W.1 S hq c
      exact .inr ⟨v, by rw [ex1, es], hv, e0, c⟩
  refine ⟨fun b x => 0 ≤ x ∧ (x1 = -1 → x = 0) ∧ (∀ v : Nat, x1 = v → x ≤ nV N v 7) ∧ ∀ j, j < vc N → (b.getLsbD j = true ↔ ∃ v i : Nat, x1 = v ∧ (i : Int) < x ∧ (nV N v 11).toNat.testBit i = true ∧ nmet N (nd (nV N v (8 + i)).toNat) j = true), fun _ x => (3 - x).toNat, ?_, ?_⟩
  · refine ⟨by omega, fun _ => rfl, fun v e => ?_, fun j _ => ⟨fun z => (by rw [BitVec.getLsbD_zero] at z; cases z), fun ⟨v, i, _, y, _⟩ => by omega⟩⟩
    rcases hx with ⟨y, _⟩ | ⟨w, y, hw, _⟩
    · omega
    · have := W.1.2.2.2.2.1 w hw
      obtain rfl : v = w := by omega
      omega
  · intro b2 x3 rx3 z4
    obtain ⟨z0, zn, z1, zb⟩ := z4
    refine ⟨∀ j, j < vc N → (b2.getLsbD j = true ↔ ∃ v i : Nat, x1 = v ∧ (i : Int) < nV N v 7 ∧ (nV N v 11).toNat.testBit i = true ∧ nmet N (nd (nV N v (8 + i)).toNat) j = true), ?_, ?_⟩
    · intro z5
      refine c_X2_packsWith T C W ?_
      intro Mk lM hM
      intro rx6
      have pq : 2 ^ q < 2 ^ 12 := Nat.pow_lt_pow_right (by decide) hq
      rw [ishl1 (by omega), Int.toNat_natCast, iand_nt (by omega) (by omega)]
      have : Mk ^^^ (Mk &&& 2 ^ q) = ahM N nd f q := by
        apply Nat.eq_of_testBit_eq
        intro p
        have h1 : (Mk ^^^ (Mk &&& 2 ^ q)).testBit p = true ↔ (ahM N nd f q).testBit p = true := by
          rw [tb_rem, Bool.and_eq_true, hM p, Nat.testBit_two_pow, Bool.not_eq_true', decide_eq_false_iff_not, ahM_at, ahB_e]
          constructor
          · rintro ⟨⟨w, hw, w0, wb⟩, n⟩
            rw [BitVec.getLsbD_and, Bool.and_eq_true] at wb
            obtain ⟨p', hp', p0', np, ep, -⟩ := S_in W.1 S hw wb.2
            have : p' = p := by omega
            subst this
            obtain ⟨v, i, e1, hi, b1, y1⟩ := (z5 w hw).mp wb.1
            rcases hx with ⟨y, _⟩ | ⟨v', y, hv, e0, nf⟩
            · omega
            · obtain rfl : v = v' := by omega
              rw [← ex1, e1, ep, Int.toNat_natCast, Int.toNat_natCast]
              exact ⟨hp', nf, np, fun z => n z.symm, i, hi, b1, y1⟩
          · rintro ⟨hp, nf, np, npq, i, hi, b1, y1⟩
            rcases hx with ⟨-, y⟩ | ⟨v, y, hv, e0, -⟩
            · exact absurd y nf
            · obtain ⟨w, hw, ws, w0, -, wb⟩ := Set_v W.1 S hp np
              rw [← ex1, y, ws, Int.toNat_natCast, Int.toNat_natCast] at y1
              rw [← ex1, y, Int.toNat_natCast] at hi b1
              refine ⟨⟨w, hw, w0, ?_⟩, fun z => npq z.symm⟩
              rw [BitVec.getLsbD_and, wb, Bool.and_true, z5 w hw]
              exact ⟨v, i, y, hi, b1, y1⟩
        cases x : (Mk ^^^ (Mk &&& 2 ^ q)).testBit p <;> cases y : (ahM N nd f q).testBit p <;> rw [x, y] at h1 <;> first | rfl | (simp at h1)
      rw [this]
      exact k
    · refine ⟨fun c18 => ?_, fun c18 => ?_⟩
      · intro j hj
        rw [zb j hj]
        exact ⟨fun ⟨v, i, e, a, b⟩ => ⟨v, i, e, by omega, b⟩, fun ⟨v, i, e, a, b⟩ => by omega⟩
      · obtain ⟨v, ev, hv, e0, nf⟩ := hx.resolve_left (fun y => c18 y.1)
        have V := V8 C.1 hv
        have wv := W.1.2.2.2.2.1 v hv
        obtain ⟨M1, M2, M3⟩ := M.1 v hv
        have e18 : hI h 18 x1.toNat = nV N v 7 := by rw [ev, Int.toNat_natCast]; exact V.2.2.2.2.2.2.2.1
        have zv := z1 v ev
        refine ⟨(by rcases hx with y | ⟨v, y, hv, _⟩ <;> omega), ?_⟩
        refine ⟨fun c17 => ?_, fun c17 => ?_⟩
        · intro j hj
          rw [zb j hj]
          have wv_ : ∀ w : Nat, x1 = w → w = v := fun w e => by omega
          constructor
          · rintro ⟨w, i, e, a, b⟩
            have := wv_ w e
            subst this
            exact ⟨w, i, e, by omega, b⟩
          · rintro ⟨w, i, e, a, b⟩
            have := wv_ w e
            subst this
            exact ⟨w, i, e, by omega, b⟩
        · intro x8 ex8 rx8
          rw [wr_of (x := x1 * 3) (by omega) (by omega), wr_of (by omega) (by omega)] at ex8
          have nk := V.2.2.2.2.2.2.2.2.1 x3.toNat (by omega) (by omega)
          have nw_ := wv.2.2.2.2.2.2.2.2.2.2.2.2.2.1 x3.toNat (by omega) (by omega)
          have e8 : x8.toNat = 3 * v + x3.toNat := by omega
          refine ⟨(by omega), ?_⟩
          refine ⟨fun b => ∀ j, j < vc N → (b.getLsbD j = true ↔ (nV N v 11).toNat.testBit x3.toNat = true ∧ nmet N (nd (nV N v (8 + x3.toNat)).toNat) j = true), ?_, ?_⟩
          · intro b10 z11
            intro b12 eb12
            intro x13 ex13 rx13
            rw [wr_of (by omega) (by omega)] at ex13
            have wv_ : ∀ w : Nat, x1 = w → w = v := fun w e => by omega
            have le_ : ∀ w : Nat, x1 = w → x13 ≤ nV N w 7 := fun w e => by rw [wv_ w e]; omega
            refine ⟨⟨by omega, fun y => by omega, le_, fun j hj => ?_⟩, by dsimp only; omega⟩
            rw [eb12, BitVec.getLsbD_or, Bool.or_eq_true, zb j hj, z11 j hj]
            constructor
            · rintro (⟨w, i, e, a, b⟩ | b)
              · exact ⟨w, i, e, by omega, b⟩
              · exact ⟨v, x3.toNat, ev, by omega, b⟩
            · rintro ⟨w, i, e, a, b⟩
              have := wv_ w e
              subst this
              by_cases c : i = x3.toNat
              · rw [c] at b; exact .inr b
              · exact .inl ⟨w, i, e, by omega, b⟩
          · refine ⟨fun c16 => ?_, fun c16 => ?_⟩
            · rw [e8, nk.2, b2i_0] at c16
              intro j hj
              rw [BitVec.getLsbD_zero, c16]
              exact ⟨fun z => (by cases z), fun z => (by cases z.1)⟩
            · intro x14 ex14 rx14
              have e14 : x14 = x8 := by rw [ex14, ex8, wr_of (x := x1 * 3) (by omega) (by omega), wr_of (by omega) (by omega)]
              refine ⟨(by omega), ?_⟩
              intro j hj
              have tb : (nV N v 11).toNat.testBit x3.toNat = true := by
                cases e : (nV N v 11).toNat.testBit x3.toNat with
                | true => rfl
                | false => rw [e8, nk.2, e] at c16; exact absurd rfl c16
              rw [e14, e8, M1 x3.toNat (by omega) (by omega), mNeed_p (by omega), nMask_at W.1 hj]
              exact ⟨fun z => ⟨tb, z⟩, fun z => z.2⟩
set_option maxHeartbeats 1000000 in
theorem c_X2_firstFree {l : Nat} {f : Nat → Int} {h : XH} {N : Nat → Int} {nd : Nat → ND} {m : Nat} (T : HT h) (C : CS h 8 N nd) (W : WF N m) (A : AHo h N nd f) (ll : l < 4096) (lp : ∀ q, l.testBit q = true → q < pc N) {K : Int → Prop} (k : K (free N nd f l)) : w_X2_firstFree (l : Int) K h := by
  unfold w_X2_firstFree
  have w0 := W.1.1
  have b12 := W.1.2.1
  have pcN : pc N = (N 0).toNat := rfl
  have P1 := (V80 C.1).1
  refine ⟨fun x => 0 ≤ x ∧ x ≤ N 0 ∧ ∀ p : Nat, (p : Int) < x → (l.testBit p && decide (ahM N nd f p &&& l = 0)) = false, fun x => (N 0 - x).toNat, ?_, ?_⟩
  · exact ⟨by omega, w0, fun p hp => by omega⟩
  · intro x1 rx1 z2
    obtain ⟨z0, z1, zm⟩ := z2
    refine ⟨fun c8 => ?_, fun c8 => ?_⟩
    · have : free N nd f l = -1 := by
        refine fnd_no (fun p hp => ?_)
        by_cases c : p < pc N
        · exact zm p (by omega)
        · rw [bt (fun z => c (lp p z))]; rfl
      rw [this] at k
      exact k
    · obtain ⟨p, rfl⟩ : ∃ p : Nat, x1 = p := ⟨x1.toNat, by omega⟩
      have bi := bitI (a := l) (n := p) (by omega) (by omega)
      rw [bi, Int.toNat_natCast, A p (by omega), iand_nat (by have := ahM_lt N nd f p; omega) (by omega)]
      refine ⟨(l.testBit p && decide (ahM N nd f p &&& l = 0)) = false, ?_, ?_⟩
      · intro z3
        intro x4 ex4 rx4
        rw [wr_of (by omega) (by omega)] at ex4
        refine ⟨⟨by omega, by omega, fun q hq => ?_⟩, by dsimp only; omega⟩
        by_cases c : q = p
        · rw [c]; exact z3
        · exact zm q (by omega)
      · refine ⟨fun c7 => ?_, fun c7 => ?_⟩
        · have : l.testBit p = false := bt fun z => by rw [if_pos z] at c7; cases c7
          rw [this]; rfl
        · refine ⟨(by omega), ?_⟩
          refine ⟨fun c6 => ?_, fun c6 => ?_⟩
          · rw [df (fun z => c6 (by rw [z]; rfl)), Bool.and_false]
          · have tb : l.testBit p = true := by
              cases e : l.testBit p with
              | true => rfl
              | false => rw [e] at c7; exact absurd rfl c7
            have : free N nd f l = p := fnd_is (by omega) (by rw [tb, dt (by omega)]; rfl) (fun q hq => zm q (by omega))
            rw [this] at k
            exact k
set_option maxHeartbeats 1000000 in
theorem c_X2_leastBehind {r M : Nat} {f : Nat → Int} {s e : Nat} {h : XH} {N : Nat → Int} {nd : Nat → ND} {m : Nat} (T : HT h) (C : CS h 8 N nd) (W : WF N m) (A : AHo h N nd f) (lM : M < 4096) (hM : ∀ p, M.testBit p = true ↔ p < 12 ∧ md N nd f s e p ∧ (restN N nd f).testBit p = true) (hr12 : r < 12) (rr : (restN N nd f).testBit r = true) (rp : ∀ q, (restN N nd f).testBit q = true → q < pc N) (ex : ∃ q, q < 12 ∧ md N nd f s e q ∧ ahB N nd f r q = true) {K : Int → Prop} (k : ∀ q : Nat, q < 12 → md N nd f s e q → ahB N nd f r q = true → (∀ p, p < q → ¬ (md N nd f s e p ∧ ahB N nd f r p = true)) → K (q : Int)) : w_X2_leastBehind (r : Int) (M : Int) K h := by
  unfold w_X2_leastBehind
  have w0 := W.1.1
  have b12 := W.1.2.1
  have pcN : pc N = (N 0).toNat := rfl
  have P1 := (V80 C.1).1
  have rin : ∀ q, q < 12 → ahB N nd f r q = true → (restN N nd f).testBit q = true := fun q hq y => in_rest hq hr12 y rr
  refine ⟨fun x => 0 ≤ x ∧ x ≤ N 0 ∧ ∀ p : Nat, (p : Int) < x → ¬ (md N nd f s e p ∧ ahB N nd f r p = true), fun x => (N 0 - x).toNat, ?_, ?_⟩
  · exact ⟨by omega, w0, fun p hp => by omega⟩
  · intro x1 rx1 z2
    obtain ⟨z0, z1, zm⟩ := z2
    refine ⟨fun c8 => ?_, fun c8 => ?_⟩
    · obtain ⟨q, hq, m1, y⟩ := ex
      exact absurd ⟨m1, y⟩ (zm q (by have := rp q (rin q hq y); omega))
    · obtain ⟨p, rfl⟩ : ∃ p : Nat, x1 = p := ⟨x1.toNat, by omega⟩
      have bi := bitI (a := M) (n := p) (by omega) (by omega)
      have ba := bitI (a := ahM N nd f p) (n := r) (by omega) (by have := ahM_lt N nd f p; omega)
      rw [bi, Int.toNat_natCast, A p (by omega), ba]
      refine ⟨¬ (md N nd f s e p ∧ ahB N nd f r p = true), ?_, ?_⟩
      · intro z3
        intro x4 ex4 rx4
        rw [wr_of (by omega) (by omega)] at ex4
        refine ⟨⟨by omega, by omega, fun q hq => ?_⟩, by dsimp only; omega⟩
        by_cases c : q = p
        · rw [c]; exact z3
        · exact zm q (by omega)
      · refine ⟨fun c7 => ?_, fun c7 => ?_⟩
        · intro z
          rw [if_pos ((hM p).mpr ⟨by omega, z.1, rin p (by omega) z.2⟩)] at c7
          cases c7
        · refine ⟨(by omega), ?_⟩
          refine ⟨fun c6 => ?_, fun c6 => ?_⟩
          · intro z
            rw [if_pos (ahM_at.mpr ⟨hr12, z.2⟩)] at c6
            cases c6
          · have tM : M.testBit p = true := by
              cases e : M.testBit p with
              | true => rfl
              | false => rw [e] at c7; exact absurd rfl c7
            have tA : (ahM N nd f p).testBit r = true := by
              cases e : (ahM N nd f p).testBit r with
              | true => rfl
              | false => rw [e] at c6; exact absurd rfl c6
            exact k p (by omega) ((hM p).mp tM).2.1 (ahM_at.mp tA).2 (fun q hq => zm q (by omega))
set_option maxHeartbeats 2000000 in
theorem c_X2_walkRing {s d : Nat} {f : Nat → Int} {h : XH} {N : Nat → Int} {nd : Nat → ND} {m : Nat} (T : HT h) (C : CS h 8 N nd) (W : WF N m) (A : AHo h N nd f) (hs : s < 12) (R : Ring N nd f s d) (D : ∀ e, e ≤ d → AD h N nd f s e) (rp : ∀ q, (restN N nd f).testBit q = true → q < pc N) {K : XH → Prop} (k : ∀ L g, RowOK N nd f s d L → FA h g → (∀ j, ¬ j = 6 → el g 79 j = el h 79 j) → sameC h g 80 → hI g 79 6 = ((d : Int) + 1) → (∀ i, i < L.length → hI g 82 i = ((L.getD i 0 : Nat) : Int)) → K g) : w_X2_walkRing (s : Int) ((d : Int) + 1) K h := by
  unfold w_X2_walkRing
  have d11 := Ring_short R
  have d1 := Ring_pos R.1
  have sr := out_ring hs R.1
  have L0 := HT_len T
  have n82 : ∀ gg, HT gg → hn gg 82 = 12 := fun gg t => lyn (c := 100) (n := 12) t rfl
  have n79 : ∀ gg, HT gg → hn gg 79 = 12 := fun gg t => lyn (c := 3) (n := 12) t rfl
  intro h1 eh1 t1 u1
  intro h2 eh2 t2 u2
  refine ⟨fun x g => 1 ≤ x ∧ x ≤ (d : Int) + 1 ∧ FA h g ∧ sameC h g 80 ∧ sameC h g 81 ∧ (∀ j, ¬ j = 6 → el g 79 j = el h 79 j) ∧ hI g 79 6 = (d : Int) + 1 ∧ ∃ pre : List Nat, (pre.length : Int) = x ∧ pre.getD 0 0 = s ∧ (∀ j, j < pre.length → hI g 82 j = ((pre.getD j 0 : Nat) : Int)) ∧ (∀ k, k + 1 < pre.length → pre.getD (k + 1) 0 < 12 ∧ (md N nd f s (d - k) (pre.getD (k + 1) 0) ∧ ahB N nd f (pre.getD k 0) (pre.getD (k + 1) 0) = true) ∧ ∀ p, p < pre.getD (k + 1) 0 → ¬ (md N nd f s (d - k) p ∧ ahB N nd f (pre.getD k 0) p = true)) ∧ pre.getD (pre.length - 1) 0 < 12 ∧ (restN N nd f).testBit (pre.getD (pre.length - 1) 0) = true, fun x _ => ((d : Int) + 1 - x).toNat, ?_, ?_⟩
  · refine ⟨by omega, by omega, FA_tr (FA_s eh1 (by decide)) (FA_s eh2 (by decide)), ?_, ?_, fun j n => ?_, ?_, [s], rfl, rfl, fun j hj => ?_, fun k hk => by simp at hk, hs, sr⟩
    · rw [eh2, eh1]; exact sameC_tr (sameC_sV (by decide)) (sameC_sV (by decide))
    · rw [eh2, eh1]; exact sameC_tr (sameC_sV (by decide)) (sameC_sV (by decide))
    · rw [eh2, el_ni (fun z => n z.symm), eh1, el_ne (by decide)]
    · rw [eh2]; exact hI_eq (by rw [n79 h1 t1]; decide) (by unfold rg; omega)
    · have : j = 0 := by simp at hj; omega
      subst this
      rw [eh2, hI_ne (by decide), eh1]
      exact hI_eq (by rw [n82 h T]; decide) (by unfold rg; omega)
  · intro x3 h4 t4 s4 rx3 z5
    obtain ⟨z0, z1, zf, z80, z81, z79, zz6, pre, zl, zs, zr, zk, zq, zt⟩ := z5
    refine ⟨x3 = (d : Int) + 1, ?_, ?_⟩
    · intro z6
      have l_ : pre.length = d + 1 := by omega
      exact k pre _ ⟨l_, zs, fun k hk => zk k (by omega)⟩ zf z79 z80 zz6 zr
    · refine ⟨fun c16 => ?_, fun c16 => ?_⟩
      · omega
      · refine ⟨fun c15 => ?_, fun c15 => ?_⟩
        · omega
        · intro x7 ex7 rx7
          rw [wr_of (by omega) (by omega)] at ex7
          refine ⟨(by omega), ?_⟩
          intro x9 ex9 rx9
          rw [wr_of (by omega) (by omega)] at ex9
          obtain ⟨Mm, e81, lM, hM⟩ := D x9.toNat (by omega)
          rw [← sameC_I z81] at e81
          refine ⟨(by omega), ?_⟩
          have C4 := FA_CS T C W zf
          rw [zr x7.toNat (by omega), e81, show x7.toNat = pre.length - 1 by omega]
          have A4 : AHo h4 N nd f := fun p hp => (sameC_I z80 p).trans (A p hp)
          have exn : ∃ q, q < 12 ∧ md N nd f s x9.toNat q ∧ ahB N nd f (pre.getD (pre.length - 1) 0) q = true := by
            refine row_next R ?_
            by_cases c : pre.length = 1
            · exact .inl ⟨by omega, by rw [c]; exact zs⟩
            · obtain ⟨-, y, -⟩ := zk (pre.length - 2) (by omega)
              rw [show pre.length - 2 + 1 = pre.length - 1 by omega, show d - (pre.length - 2) = x9.toNat + 1 by omega] at y
              exact .inr y.1
          refine c_X2_leastBehind t4 C4 W A4 lM hM zq zt rp exn ?_
          intro q hq12 mq aq lq
          intro _
          refine ⟨(by omega), ?_⟩
          intro h13 eh13 t13 u13
          intro x14 ex14 rx14
          rw [wr_of (by omega) (by omega)] at ex14
          have g0 : ∀ k, k < pre.length → (pre ++ [q]).getD k 0 = pre.getD k 0 := fun k hk => by rw [List.getD_eq_getElem?_getD, List.getD_eq_getElem?_getD, List.getElem?_append_left hk]
          have g1 : (pre ++ [q]).getD pre.length 0 = q := by rw [List.getD_eq_getElem?_getD, List.getElem?_append_right (by omega), Nat.sub_self]; rfl
          have ll : (pre ++ [q]).length = pre.length + 1 := by rw [List.length_append, List.length_singleton]
          have s13 : ∀ b, ¬ b = 82 → sameC h4 h13 b := fun b n => by rw [eh13]; exact sameC_sV (fun z => n z.symm)
          refine ⟨⟨by omega, by omega, FA_tr zf (FA_s eh13 (by decide)), sameC_tr z80 (s13 80 (by decide)), sameC_tr z81 (s13 81 (by decide)), fun j n => (sameC_el (s13 79 (by decide)) j).trans (z79 j n), (sameC_I (s13 79 (by decide)) 6).trans zz6, pre ++ [q], by rw [ll]; omega, by rw [g0 0 (by omega)]; exact zs, fun j hj => ?_, fun k hk => ?_, ?_, ?_⟩, by dsimp only; omega⟩
          · rw [ll] at hj
            by_cases c : j = pre.length
            · rw [c, g1, eh13, show x3.toNat = pre.length by omega]
              exact hI_eq (by rw [n82 h4 t4]; omega) (by unfold rg; omega)
            · rw [g0 j (by omega), eh13, hI_ni (by omega)]
              exact zr j (by omega)
          · rw [ll] at hk
            by_cases c : k + 1 = pre.length
            · rw [c, g1, g0 k (by omega), show k = pre.length - 1 by omega]
              rw [show x9.toNat = d - (pre.length - 1) by omega] at mq lq
              exact ⟨hq12, ⟨mq, aq⟩, lq⟩
            · rw [g0 (k + 1) (by omega), g0 k (by omega)]
              exact zk k (by omega)
          · rw [ll, show pre.length + 1 - 1 = pre.length by omega, g1]; exact hq12
          · rw [ll, show pre.length + 1 - 1 = pre.length by omega, g1]; exact in_rest hq12 zq aq zt
set_option maxHeartbeats 2000000 in
theorem c_X2_isRingFrom {s : Nat} {f : Nat → Int} {h : XH} {N : Nat → Int} {nd : Nat → ND} {m : Nat} (T : HT h) (C : CS h 8 N nd) (W : WF N m) (A : AHo h N nd f) (hs : s < 12) (rp : ∀ q, (restN N nd f).testBit q = true → q < pc N) {K : Int → XH → Prop} (k0 : (∀ e, ¬ rgU N nd f s e) → ∀ g, FA h g → (∀ j, el g 79 j = el h 79 j) → sameC h g 80 → sameC h g 82 → K 0 g) (k1 : ∀ d L g, Ring N nd f s d → RowOK N nd f s d L → FA h g → (∀ j, ¬ j = 6 → el g 79 j = el h 79 j) → hI g 79 6 = ((d : Int) + 1) → (∀ i, i < L.length → hI g 82 i = ((L.getD i 0 : Nat) : Int)) → K 1 g) : w_X2_isRingFrom (s : Int) (restN N nd f : Nat) K h := by
  unfold w_X2_isRingFrom
  have w0 := W.1.1
  have b12 := W.1.2.1
  have pcN : pc N = (N 0).toNat := rfl
  have L0 := HT_len T
  have n81 : ∀ gg, HT gg → hn gg 81 = 13 := fun gg t => lyn (c := 100) (n := 13) t rfl
  obtain ⟨lr, -, -⟩ := rest_f (N := N) (nd := nd) (f := f)
  have ps : 2 ^ s < 2 ^ 12 := Nat.pow_lt_pow_right (by decide) hs
  have rp12 : ∀ q, (restN N nd f).testBit q = true → q < 12 := fun q y => by have := rp q y; omega
  intro x1 ex1 rx1
  rw [ishl1 (by omega), Int.toNat_natCast, neg_pw ⟨s, hs⟩, iand_nt (by omega) (by have := Nat.sub_le (2 ^ s) 1; dsimp only; omega)] at ex1
  dsimp only at ex1
  obtain ⟨X, eX⟩ : ∃ X, X = (restN N nd f) ^^^ ((restN N nd f) &&& (2 ^ s - 1)) := ⟨_, rfl⟩
  have lX : X < 4096 := by rw [eX]; exact rem_lt lr
  rw [← eX, iand_nt (by omega) (by omega)] at ex1
  have hX : ∀ p, (X ^^^ (X &&& 2 ^ s)).testBit p = true ↔ (restN N nd f).testBit p = true ∧ s < p := fun p => by
    rw [tb_rem, eX, tb_rem, pw_at, Nat.testBit_two_pow, Bool.and_eq_true, Bool.and_eq_true, Bool.not_eq_true', Bool.not_eq_true', decide_eq_false_iff_not, decide_eq_false_iff_not]
    exact ⟨fun z => ⟨z.1.1, by have := z.1.2; have := z.2; omega⟩, fun z => ⟨⟨z.1, by omega⟩, by omega⟩⟩
  intro h2 eh2 t2 u2
  refine ⟨fun u x g => 1 ≤ x ∧ x ≤ 13 ∧ FA h g ∧ (∀ j, el g 79 j = el h 79 j) ∧ sameC h g 80 ∧ sameC h g 82 ∧ (∀ e : Nat, (e : Int) < x → AD g N nd f s e) ∧ (∃ X1 : Nat, u = (X1 : Int) ∧ X1 < 4096 ∧ ∀ p, X1.testBit p = true ↔ (restN N nd f).testBit p = true ∧ s < p ∧ ∀ e : Nat, 1 ≤ e → (e : Int) < x → ¬ U N nd f s e p) ∧ ∀ e : Nat, (e : Int) + 1 < x → ¬ rgU N nd f s e, fun _ x _ => (13 - x).toNat, ?_, ?_⟩
  · have s2 : ∀ b, ¬ b = 81 → sameC h h2 b := fun b n => by rw [eh2]; exact sameC_sV (fun z => n z.symm)
    rw [ishl1 (by omega), Int.toNat_natCast, iand_nat (by omega) (by omega)] at eh2
    refine ⟨by omega, by omega, FA_s eh2 (by decide), fun j => sameC_el (s2 79 (by decide)) j, s2 80 (by decide), s2 82 (by decide), fun e he => ?_, ⟨_, ex1, rem_lt lX, fun p => ?_⟩, fun e he => by omega⟩
    · have : e = 0 := by omega
      subst this
      have la : restN N nd f &&& 2 ^ s < 4096 := Nat.lt_of_le_of_lt Nat.and_le_left lr
      refine ⟨restN N nd f &&& 2 ^ s, by rw [eh2]; exact hI_eq (by rw [n81 h T]; decide) (by unfold rg; omega), la, fun p => ?_⟩
      rw [Nat.testBit_and, Nat.testBit_two_pow, Bool.and_eq_true, decide_eq_true_eq]
      constructor
      · rintro ⟨a, b⟩
        subst b
        exact ⟨hs, ⟨rfl, fun e he => by omega⟩, a⟩
      · rintro ⟨a, b, c⟩
        have : p = s := b.1
        subst this
        exact ⟨c, rfl⟩
    · rw [hX p]
      exact ⟨fun z => ⟨z.1, z.2, fun e h1 h2 => by omega⟩, fun z => ⟨z.1, z.2.1⟩⟩
  · intro x4 x5 h8 t8 s8 rx4 rx5 z9
    obtain ⟨z0, z1, zf, z79, z80, z82, zd, ⟨X1, eX1, lX1, hX1⟩, zr⟩ := z9
    have C8 := FA_CS T C W zf
    have P8 := (V80 C8.1).1
    refine ⟨fun c28 => ?_, fun c28 => ?_⟩
    · refine k0 (fun e r => ?_) _ zf z79 z80 z82
      obtain ⟨d, -, R⟩ := rg_least e r
      have := Ring_short R
      exact zr d (by omega) R.1
    · obtain ⟨dd, rfl⟩ : ∃ dd : Nat, x5 = (dd : Int) + 1 := ⟨(x5 - 1).toNat, by omega⟩
      obtain ⟨Md, e81, lMd, hMd⟩ := zd dd (by omega)
      refine ⟨fun a x => 0 ≤ x ∧ x ≤ N 0 ∧ ∃ Lv : Nat, a = (Lv : Int) ∧ Lv < 4096 ∧ ∀ p, Lv.testBit p = true ↔ p < 12 ∧ ∃ q : Nat, (q : Int) < x ∧ Md.testBit q = true ∧ ahB N nd f p q = true, fun _ x => (N 0 - x).toNat, ?_, ?_⟩
      · exact ⟨by omega, w0, 0, rfl, by decide, fun p => ⟨fun z => (by rw [Nat.zero_testBit] at z; cases z), fun ⟨_, q, y, _⟩ => by omega⟩⟩
      · intro x10 x11 rx10 rx11 z12
        obtain ⟨y0, y1, Lv, eLv, lLv, hLv⟩ := z12
        refine ⟨fun c27 => ?_, fun c27 => ?_⟩
        · have hL : ∀ p, Lv.testBit p = true ↔ p < 12 ∧ ∃ q, q < 12 ∧ md N nd f s dd q ∧ (restN N nd f).testBit q = true ∧ ahB N nd f p q = true := fun p => by
            rw [hLv p]
            constructor
            · rintro ⟨hp, q, _, b, y⟩
              obtain ⟨b1, b2, b3⟩ := (hMd q).mp b
              exact ⟨hp, q, b1, b2, b3, y⟩
            · rintro ⟨hp, q, b1, b2, b3, y⟩
              exact ⟨hp, q, by have := rp q b3; omega, (hMd q).mpr ⟨b1, b2, b3⟩, y⟩
          have bs_ := bitI (a := Lv) (n := s) (by omega) (by omega)
          rw [← eLv] at bs_
          have lv1 : ∀ p, s < p → Lv.testBit p = true → U N nd f s (dd + 1) p := fun p sp b => by
            obtain ⟨hp, q, hq, m1, -, y⟩ := (hL p).mp b
            exact ⟨sp, q, hq, m1.1, y⟩
          have lv2 : ∀ p, p < 12 → (restN N nd f).testBit p = true → md N nd f s (dd + 1) p → Lv.testBit p = true := fun p hp b m1 => by
            obtain ⟨q, hq, mq, y⟩ := md_prev m1
            exact (hL p).mpr ⟨hp, q, hq, mq, in_rest hq hp y b, y⟩
          refine ⟨fun c18 => ?_, fun c18 => ?_⟩
          · refine ⟨(by omega), ?_⟩
            intro h14 eh14 t14 u14
            intro x15 ex15 rx15
            intro x16 ex16 rx16
            have nos : ¬ Lv.testBit s = true := fun z => by rw [bs_, if_pos z] at c18; cases c18
            have norg : ¬ rgU N nd f s dd := fun r => by
              have sr := out_ring hs r
              obtain ⟨q, hq, u, y⟩ := r
              have mq := rg_md hq (fun e he => zr e (by omega)) u y
              exact nos ((hL s).mpr ⟨hs, q, hq, mq, in_rest hq hs y sr, y⟩)
            rw [eLv, eX1, iand_nat (by omega) (by omega)] at eh14
            rw [eLv, eX1, iand_nt (by omega) (by omega)] at ex15
            rw [wr_of (by omega) (by omega)] at ex16
            have s14 : ∀ b, ¬ b = 81 → sameC h8 h14 b := fun b n => by rw [eh14]; exact sameC_sV (fun z => n z.symm)
            have key : ∀ p, (Lv &&& X1).testBit p = true ↔ p < 12 ∧ md N nd f s (dd + 1) p ∧ (restN N nd f).testBit p = true := fun p => by
              rw [Nat.testBit_and, Bool.and_eq_true, hX1 p]
              constructor
              · rintro ⟨a, b, sp, c⟩
                refine ⟨rp12 p b, ⟨lv1 p sp a, fun e he z => ?_⟩, b⟩
                cases e with
                | zero => have : p = s := z; omega
                | succ e => exact c (e + 1) (by omega) (by omega) z
              · rintro ⟨hp, m1, b⟩
                exact ⟨lv2 p hp b m1, b, m1.1.1, fun e h1 h2 => m1.2 e (by omega)⟩
            refine ⟨⟨by omega, by omega, FA_tr zf (FA_s eh14 (by decide)), fun j => (sameC_el (s14 79 (by decide)) j).trans (z79 j), sameC_tr z80 (s14 80 (by decide)), sameC_tr z82 (s14 82 (by decide)), fun e he => ?_, ⟨_, ex15, rem_lt lX1, fun p => ?_⟩, fun e he => ?_⟩, by dsimp only; omega⟩
            · by_cases c : e = dd + 1
              · subst c
                refine ⟨Lv &&& X1, ?_, Nat.lt_of_le_of_lt Nat.and_le_left lLv, key⟩
                rw [eh14, show ((dd : Int) + 1).toNat = dd + 1 by omega]
                exact hI_eq (by rw [n81 h8 t8]; omega) (rg_nat (Nat.lt_of_le_of_lt Nat.and_le_left (by omega)))
              · obtain ⟨M1, e1, l1, m1⟩ := zd e (by omega)
                exact ⟨M1, by rw [eh14, hI_ni (by omega)]; exact e1, l1, m1⟩
            · rw [tb_rem, Bool.and_eq_true, hX1 p, Bool.not_eq_true']
              constructor
              · rintro ⟨⟨b, sp, c⟩, n⟩
                refine ⟨b, sp, fun e h1 h2 => ?_⟩
                by_cases x : e = dd + 1
                · intro z
                  subst x
                  have m1 : md N nd f s (dd + 1) p := ⟨z, fun e he y => by
                    cases e with
                    | zero => have : p = s := y; omega
                    | succ e => exact c (e + 1) (by omega) (by omega) y⟩
                  rw [lv2 p (rp12 p b) b m1] at n
                  cases n
                · exact c e h1 (by omega)
              · rintro ⟨b, sp, c⟩
                exact ⟨⟨b, sp, fun e h1 h2 => c e h1 (by omega)⟩, bt fun z => c (dd + 1) (by omega) (by omega) (lv1 p sp z)⟩
            · by_cases c : e = dd
              · rw [c]; exact norg
              · exact zr e (by omega)
          · have ys : Lv.testBit s = true := by
              cases e : Lv.testBit s with
              | true => rfl
              | false => rw [bs_, e] at c18; exact absurd rfl c18
            obtain ⟨-, q, hq, mq, -, y⟩ := (hL s).mp ys
            have R : Ring N nd f s dd := ⟨⟨q, hq, mq.1, y⟩, fun e he => zr e (by omega)⟩
            refine c_X2_walkRing t8 C8 W (fun p hp => (sameC_I z80 p).trans (A p hp)) hs R (fun e he => zd e (by omega)) rp ?_
            intro L h17 ro f17 e79 s80 e6 e82
            intro t17 u17
            exact k1 dd L _ R ro (FA_tr zf f17) (fun j n => (e79 j n).trans (z79 j)) e6 e82
        · intro x19 ex19 rx19
          rw [wr_of (by omega) (by omega)] at ex19
          obtain ⟨q, rfl⟩ : ∃ q : Nat, x11 = q := ⟨x11.toNat, by omega⟩
          have bm := bitI (a := Md) (n := q) (by omega) (by omega)
          rw [show x19.toNat = dd by omega, e81, bm, Int.toNat_natCast]
          refine ⟨(by omega), ?_⟩
          refine ⟨fun y => ∃ Y : Nat, y = (Y : Int) ∧ Y < 4096 ∧ ∀ p, Y.testBit p = true ↔ p < 12 ∧ Md.testBit q = true ∧ ahB N nd f p q = true, ?_, ?_⟩
          · intro x21 rx21 z22
            intro x23 ex23 rx23
            intro x24 ex24 rx24
            obtain ⟨Y, eY, lY, hY⟩ := z22
            rw [wr_of (by omega) (by omega)] at ex24
            refine ⟨⟨by omega, by omega, Lv ||| Y, by rw [ex23, eLv, eY, ior_nat (by omega) (by omega)], Nat.or_lt_two_pow (n := 12) lLv lY, fun p => ?_⟩, by dsimp only; omega⟩
            rw [Nat.testBit_or, Bool.or_eq_true, hLv p, hY p]
            constructor
            · rintro (⟨a, r, b, c⟩ | ⟨a, b⟩)
              · exact ⟨a, r, by omega, c⟩
              · exact ⟨a, q, by omega, b⟩
            · rintro ⟨a, r, b, c⟩
              by_cases x : r = q
              · rw [x] at c; exact .inr ⟨a, c⟩
              · exact .inl ⟨a, r, by omega, c⟩
          · refine ⟨fun c26 => ?_, fun c26 => ?_⟩
            · refine ⟨0, rfl, by decide, fun p => ⟨fun z => (by rw [Nat.zero_testBit] at z; cases z), fun z => ?_⟩⟩
              rw [if_pos z.2.1] at c26
              cases c26
            · refine ⟨(by omega), ?_⟩
              have tb : Md.testBit q = true := by
                cases e : Md.testBit q with
                | true => rfl
                | false => rw [e] at c26; exact absurd rfl c26
              refine ⟨ahM N nd f q, (sameC_I z80 q).trans (A q (by omega)), ahM_lt N nd f q, fun p => ?_⟩
              rw [ahM_at]
              exact ⟨fun z => ⟨z.1, tb, z.2⟩, fun z => ⟨z.1, z.2.2⟩⟩
theorem c_ringFrom {p : Int} {f : Nat → Int} {h : XH} {N : Nat → Int} {nd : Nat → ND} {m : Nat} (T : HT h) (C : CS h 8 N nd) (W : WF N m) (A : AHo h N nd f) (hs : 0 ≤ p ∧ p < 12) (rp : ∀ q, (restN N nd f).testBit q = true → q < pc N) {K : Int → XH → Prop} (k : ∀ x g, FA h g → (∀ j, ¬ j = 6 → el g 79 j = el h 79 j) → (x = 0 ∧ (∀ e, ¬ rgU N nd f p.toNat e) ∧ sameC h g 80 ∧ sameC h g 82 ∧ hI g 79 6 = hI h 79 6 ∨ x = 1 ∧ ∃ d L, Ring N nd f p.toNat d ∧ RowOK N nd f p.toNat d L ∧ hI g 79 6 = ((d : Int) + 1) ∧ ∀ i, i < L.length → hI g 82 i = ((L.getD i 0 : Nat) : Int)) → K x g) : w_X2_isRingFrom p (restN N nd f : Nat) K h := by
  obtain ⟨s, rfl⟩ : ∃ s : Nat, p = s := ⟨p.toNat, by omega⟩
  rw [Int.toNat_natCast] at k
  exact c_X2_isRingFrom T C W A (by omega) rp (fun no g fg e79 s80 s82 => k 0 g fg (fun j _ => e79 j) (.inl ⟨rfl, no, s80, s82, congrArg gvI (e79 6)⟩)) (fun d L g R ro fg e79 e6 e82 => k 1 g fg e79 (.inr ⟨rfl, d, L, R, ro, e6, e82⟩))
set_option maxHeartbeats 2000000 in
theorem c_X2_arrange {s : BitVec 64} {f : Nat → Int} {h : XH} {N : Nat → Int} {nd : Nat → ND} {m : Nat} (T : HT h) (C : CS h 8 N nd) (W : WF N m) (dk : DK nd m) (M : MetOK h N nd) (S : SetR N s f) {K : XH → Prop} (k : ∀ g b L, Arr N nd f b L → L.length ≤ 12 → FA h g → (∀ j, ¬ j = 6 → ¬ j = 7 → el g 79 j = el h 79 j) → hI g 79 7 = b2i b → hI g 79 6 = (L.length : Nat) → (∀ i, i < L.length → hI g 82 i = ((L.getD i 0 : Nat) : Int)) → K g) : w_X2_arrange s K h := by
  unfold w_X2_arrange
  have w0 := W.1.1
  have b12 := W.1.2.1
  have pcN : pc N = (N 0).toNat := rfl
  have L0 := HT_len T
  have n79 : ∀ gg, HT gg → hn gg 79 = 12 := fun gg t => lyn (c := 3) (n := 12) t rfl
  have n80 : ∀ gg, HT gg → hn gg 80 = 12 := fun gg t => lyn (c := 100) (n := 12) t rfl
  have n82 : ∀ gg, HT gg → hn gg 82 = 12 := fun gg t => lyn (c := 100) (n := 12) t rfl
  have hout : ∀ p, pc N ≤ p → p < 12 → f p = -1 := fun p c hp => Set_out W.1 S hp c
  obtain ⟨i1, i2, i3, i4, -⟩ := sch_in (N := N) (nd := nd) (f := f) 12 (thM f) (orM_lt _ 12) (cntN_le _ 12)
  have tp : ∀ q, (thM f).testBit q = true → q < pc N := fun q y => by
    obtain ⟨a, b⟩ := thM_at.mp y
    exact Classical.byContradiction fun c => b (hout q (by omega) a)
  have rp : ∀ q, (restN N nd f).testBit q = true → q < pc N := fun q y => tp q (i2 q y)
  refine ⟨fun a x g => 0 ≤ x ∧ x ≤ N 0 ∧ a = (orM x.toNat (fun p => !decide (f p = -1)) : Nat) ∧ FA h g ∧ (∀ j, el g 79 j = el h 79 j) ∧ ∀ p : Nat, (p : Int) < x → hI g 80 p = (ahM N nd f p : Nat), fun _ x _ => (N 0 - x).toNat, ?_, ?_⟩
  · exact ⟨by omega, w0, rfl, FA_rf h, fun _ => rfl, fun p hp => by omega⟩
  · intro x1 x2 h3 t3 s3 rx1 rx2 z4
    obtain ⟨z0, z1, za, zf, z79, z80⟩ := z4
    have C3 := FA_CS T C W zf
    have P3 := (V80 C3.1).1
    refine ⟨fun c46 => ?_, fun c46 => ?_⟩
    · intro h5 eh5 t5 u5
      have e1 : x1 = (thM f : Nat) := by rw [za, show x2.toNat = pc N by omega]; exact (congrArg (fun x : Nat => (x : Int)) (orM_ex (fun p => !decide (f p = -1)) (n := pc N) (k := 12) (by omega) (fun i a b => by rw [dt (hout i a b)]; rfl))).symm
      have s5 : ∀ b, ¬ b = 79 → sameC h3 h5 b := fun b n => by rw [eh5]; exact sameC_sV (fun z => n z.symm)
      have f5 := FA_tr zf (FA_s eh5 (by decide))
      have C5 := FA_CS T C W f5
      have A5 : AHo h5 N nd f := fun p hp => (sameC_I (s5 80 (by decide)) p).trans (z80 p (by omega))
      rw [e1]
      refine c_X2_firstFree t5 C5 W A5 (orM_lt _ 12) tp ?_
      intro rx6
      refine ⟨fun a y i g => ∃ (l : Nat) (pre : List Nat), a = (l : Int) ∧ l < 4096 ∧ (∀ q, l.testBit q = true → q < pc N) ∧ y = free N nd f l ∧ i = (pre.length : Nat) ∧ pre.length ≤ 12 ∧ pre ++ (sch N nd f (12 - pre.length) l).1 = (sch N nd f 12 (thM f)).1 ∧ (sch N nd f (12 - pre.length) l).2 = restN N nd f ∧ cntN 12 l.testBit ≤ 12 - pre.length ∧ FA h g ∧ (∀ j, ¬ j = 6 → el g 79 j = el h 79 j) ∧ AHo g N nd f ∧ hI g 79 6 = (pre.length : Nat) ∧ ∀ j, j < pre.length → hI g 82 j = ((pre.getD j 0 : Nat) : Int), fun _ _ i _ => (12 - i).toNat, ?_, ?_⟩
      · exact ⟨thM f, [], rfl, orM_lt _ 12, tp, rfl, rfl, by decide, rfl, rfl, cntN_le _ 12, f5, fun j n => (by rw [eh5, el_ni (fun z => n z.symm)]; exact z79 j), A5, (by rw [eh5]; exact hI_eq (by rw [n79 h3 t3]; decide) (rgk rfl)), fun j hj => by simp at hj⟩
      · intro x7 x8 x9 h10 t10 s10 rx7 rx8 rx9 z11
        obtain ⟨l, pre, e7, ll, lp, e8, e9, l12, ap, ar, cn, yf, y79, yA, y6, yr⟩ := z11
        have C10 := FA_CS T C W yf
        refine ⟨free N nd f l = -1, ?_, ?_⟩
        · intro z12
          rw [sch_n z12] at ap ar
          rw [List.append_nil] at ap
          replace ar : l = restN N nd f := ar
          refine ⟨fun x => x = if l = 0 then 0 else 1, ?_, ?_⟩
          · intro x13 rx13 z14
            refine ⟨(by rw [z14]; split; exact .inl rfl; exact .inr rfl), ?_⟩
            intro h16 eh16 t16 u16
            have s16 : ∀ b, ¬ b = 79 → sameC h10 h16 b := fun b n => by rw [eh16]; exact sameC_sV (fun z => n z.symm)
            have e716 : hI h16 79 7 = x13 := by rw [eh16]; exact hI_eq (by rw [n79 h10 t10]; decide) rx13
            refine ⟨fun p g => 0 ≤ p ∧ p ≤ N 0 ∧ FA h g ∧ (∀ j, ¬ j = 6 → ¬ j = 7 → el g 79 j = el h 79 j) ∧ hI g 79 7 = x13 ∧ hI g 79 6 = (pre.length : Nat) ∧ AHo g N nd f ∧ (∀ j, j < pre.length → hI g 82 j = ((pre.getD j 0 : Nat) : Int)) ∧ (¬ l = 0 → ∀ r : Nat, (r : Int) < p → ∀ e, ¬ rgU N nd f r e), fun p _ => (N 0 - p).toNat, ?_, ?_⟩
            · exact ⟨by omega, w0, FA_tr yf (FA_s eh16 (by decide)), fun j n6 n7 => (by rw [eh16, el_ni (fun z => n7 z.symm)]; exact y79 j n6), e716, (by rw [eh16, hI_ni (by decide)]; exact y6), fun p hp => (sameC_I (s16 80 (by decide)) p).trans (yA p hp), fun j hj => (sameC_I (s16 82 (by decide)) j).trans (yr j hj), fun _ r hr => by omega⟩
            · intro x18 h19 t19 s19 rx18 z20
              obtain ⟨u0, u1, uf, u79, u7, u6_, uA, ur, un⟩ := z20
              have C19 := FA_CS T C W uf
              have P19 := (V80 C19.1).1
              refine ⟨l = 0, ?_, ?_⟩
              · intro z21
                rw [z14, if_pos z21] at u7
                exact k _ false pre (.inl ⟨by rw [← ar]; exact z21, rfl, ap⟩) l12 uf u79 u7 u6_ ur
              · refine ⟨fun c27 => ?_, fun c27 => ?_⟩
                · refine Classical.byContradiction fun nl => ?_
                  obtain ⟨r, e, hr, rg_⟩ := rest_ring (N := N) (nd := nd) (f := f) ll nl z12
                  have := rp r (out_ring hr rg_)
                  exact un nl r (by omega) e rg_
                · refine ⟨fun c26 => ?_, fun c26 => ?_⟩
                  · rw [u7, z14] at c26
                    by_cases c : l = 0
                    · exact c
                    · rw [if_neg c] at c26; cases c26
                  · have nl : ¬ l = 0 := fun z => by rw [u7, z14, if_pos z] at c26; exact c26 rfl
                    rw [e7, ar]
                    refine c_ringFrom t19 C19 W uA (by omega) rp ?_
                    intro x22 h23 f23 e23 q23
                    intro t23 u23
                    intro rx22 vx22
                    refine ⟨fun c25 => ?_, fun c25 => ?_⟩
                    · intro x24 ex24 rx24
                      obtain ⟨-, no, s80, s82, e6⟩ := q23.resolve_right (fun y => by omega)
                      rw [wr_of (by omega) (by omega)] at ex24
                      refine ⟨⟨by omega, by omega, FA_tr uf f23, fun j n6 n7 => (e23 j n6).trans (u79 j n6 n7), (congrArg gvI (e23 7 (by decide))).trans u7, e6.trans u6_, fun p hp => (sameC_I s80 p).trans (uA p hp), fun j hj => (sameC_I s82 j).trans (ur j hj), fun n r hr e => ?_⟩, by dsimp only; omega⟩
                      by_cases c : r = x18.toNat
                      · rw [c]; exact no e
                      · exact un nl r (by omega) e
                    · obtain ⟨-, d, L, R, ro, e6, e82⟩ := q23.resolve_left (fun y => by omega)
                      have d11 := Ring_short R
                      have ll_ := ro.1
                      refine k _ true L (.inr ⟨by rw [← ar]; exact nl, rfl, x18.toNat, d, by omega, R, fun r e hr => un nl r (by omega) e, ro⟩) (by omega) (FA_tr uf f23) (fun j n6 n7 => (e23 j n6).trans (u79 j n6 n7)) ?_ (by rw [e6, ll_]; omega) e82
                      rw [show hI h23 79 7 = x13 from (congrArg gvI (e23 7 (by decide))).trans u7, z14, if_neg nl]; rfl
          · refine ⟨fun c28 => ?_, fun c28 => ?_⟩
            · rw [if_pos (by omega)]
            · rw [if_neg (by omega)]
        · refine ⟨fun c36 => ?_, fun c36 => ?_⟩
          · have : l = 0 := cnt_0 ll (by omega)
            subst this
            rcases free_cs N nd f 0 with ⟨e, -⟩ | ⟨p, -, -, b, -⟩
            · exact e
            · rw [Nat.zero_testBit] at b; cases b
          · refine ⟨fun c35 => ?_, fun c35 => ?_⟩
            · exact e8.symm.trans c35
            · obtain ⟨p, ep, hp, tb, -⟩ := (free_cs N nd f l).resolve_left (fun y => c35 (e8.trans y.1))
              have rcn := rmB_cnt hp tb
              have pq : 2 ^ p < 2 ^ 12 := Nat.pow_lt_pow_right (by decide) hp
              have nf : ¬ free N nd f l = -1 := fun y => c35 (e8.trans y)
              refine ⟨(by omega), ?_⟩
              intro h30 eh30 t30 u30
              intro h31 eh31 t31 u31
              intro x32 ex32 rx32
              rw [e8, ep] at ex32
              rw [ishl1 (by omega), Int.toNat_natCast, e7, iand_nt (by omega) (by omega)] at ex32
              replace ex32 : x32 = (rmB l p : Nat) := ex32
              rw [wr_of (by omega) (by omega)] at eh31
              have s31 : ∀ b, ¬ b = 79 → ¬ b = 82 → sameC h10 h31 b := fun b n1 n2 => by rw [eh31, eh30]; exact sameC_tr (sameC_sV (fun z => n2 z.symm)) (sameC_sV (fun z => n1 z.symm))
              have f31 := FA_tr yf (FA_tr (FA_s eh30 (by decide)) (FA_s eh31 (by decide)))
              have C31 := FA_CS T C W f31
              have A31 : AHo h31 N nd f := fun r hr => (sameC_I (s31 80 (by decide) (by decide)) r).trans (yA r hr)
              have lp' : ∀ q, (rmB l p).testBit q = true → q < pc N := fun q y => by rw [rmB_at, Bool.and_eq_true] at y; exact lp q y.1
              rw [ex32]
              refine c_X2_firstFree t31 C31 W A31 (rmB_lt ll) lp' ?_
              intro rx33
              intro x34 ex34 rx34
              rw [wr_of (by omega) (by omega)] at ex34
              have ll1 : (pre ++ [p]).length = pre.length + 1 := by rw [List.length_append, List.length_singleton]
              have st := sch_s (n := 12 - (pre ++ [p]).length) nf
              rw [ep, Int.toNat_natCast, show 12 - (pre ++ [p]).length + 1 = 12 - pre.length by omega] at st
              refine ⟨⟨rmB l p, pre ++ [p], rfl, rmB_lt ll, lp', rfl, by rw [ll1]; omega, by omega, ?_, ?_, by omega, f31, fun j n => ?_, A31, ?_, fun j hj => ?_⟩, by dsimp only; omega⟩
              · rw [← ap, st, List.append_assoc]; rfl
              · rw [← ar, st]
              · rw [eh31, el_ni (fun z => n z.symm), eh30, el_ne (by decide)]; exact y79 j n
              · rw [eh31, hI_eq (by rw [n79 h30 t30]; decide) (by unfold rg; omega), ll1]; omega
              · rw [eh31, hI_ne (by decide), eh30]
                rw [ll1] at hj
                by_cases c : j = pre.length
                · rw [show x9.toNat = j by omega, e8, ep, hI_eq (by rw [n82 h10 t10]; omega) (by unfold rg; omega), c]
                  rw [List.getD_eq_getElem?_getD, List.getElem?_append_right (by omega), Nat.sub_self]; rfl
                · rw [hI_ni (by omega), yr j (by omega)]
                  rw [List.getD_eq_getElem?_getD, List.getD_eq_getElem?_getD, List.getElem?_append_left (by omega)]
    · obtain ⟨p, rfl⟩ : ∃ p : Nat, x2 = p := ⟨x2.toNat, by omega⟩
      rw [Int.toNat_natCast] at za
      have p12 : p < 12 := by omega
      have pq : 2 ^ p < 2 ^ 12 := Nat.pow_lt_pow_right (by decide) p12
      have ol := orM_12 (fun p => !decide (f p = -1)) (n := p) (by omega)
      refine c_X2_aheadOf t3 C3 W dk (FA_M T M zf) S p12 ?_
      intro _
      refine ⟨(by omega), ?_⟩
      intro h39 eh39 t39 u39
      rw [Int.toNat_natCast] at eh39
      have s39 : ∀ b, ¬ b = 80 → sameC h3 h39 b := fun b n => by rw [eh39]; exact sameC_sV (fun z => n z.symm)
      have f39 := FA_tr zf (FA_s eh39 (by decide))
      have C39 := FA_CS T C W f39
      refine c_X8_idIn C39.1 ⟨W.1.2.2.1, W.1.2.2.2.1⟩ ?_
      rw [idF_F W.1 S p12]
      intro _
      refine ⟨fun y => y = ((if (!decide (f p = -1)) = true then 2 ^ p else 0 : Nat) : Int), ?_, ?_⟩
      · intro x41 rx41 z42
        intro x43 ex43 rx43
        intro x44 ex44 rx44
        rw [wr_of (by omega) (by omega)] at ex44
        refine ⟨⟨by omega, by omega, by rw [ex43, za, z42, ior_nat (by omega) (by split <;> omega), show x44.toNat = p + 1 by omega, orM_s], f39, fun j => (sameC_el (s39 79 (by decide)) j).trans (z79 j), fun r hr => ?_⟩, by dsimp only; omega⟩
        by_cases c : r = p
        · rw [c, eh39]; exact hI_eq (by rw [n80 h3 t3]; omega) (by have := ahM_lt N nd f p; unfold rg; omega)
        · rw [eh39, hI_ni (fun z => c z.symm)]; exact z80 r (by omega)
      · refine ⟨fun c45 => ?_, fun c45 => ?_⟩
        · have fp : f p = -1 := Classical.byContradiction fun y => by
            obtain ⟨v, hv, es, -⟩ := Set_v W.1 S p12 y
            omega
          rw [dt fp]; rfl
        · rw [df (fun y => c45 (slF_0 y)), ishl1 (by omega), Int.toNat_natCast]; rfl
