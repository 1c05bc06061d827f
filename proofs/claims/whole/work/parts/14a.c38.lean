/-! WHAT IS REACHED, the reference -/
def wfP (N : Nat → Int) (nd : Nat → ND) (r : Nat) (f : Nat → Int) (p w : Nat) : Bool := !decide (nR N r (1 + w) = -1) && nmet N (nd (nR N r (1 + w)).toNat) (slF N f p).toNat
def wfN (N : Nat → Int) (nd : Nat → ND) (r : Nat) (f : Nat → Int) (n p : Nat) : Int := fnd n (wfP N nd r f p)
def r0N (N : Nat → Int) (nd : Nat → ND) (r : Nat) (f : Nat → Int) (n : Nat) : RD := (fun p => if f p = -1 ∨ wfN N nd r f n p = -1 then -1 else 100 + wfN N nd r f n p, fun p => if f p = -1 ∨ wfN N nd r f n p = -1 then -1 else 1)
theorem r0N_e (N : Nat → Int) (nd : Nat → ND) (r : Nat) (f : Nat → Int) : r0N N nd r f (nR N r 0).toNat = rch0 N nd r f := rfl
theorem r0N_1 {N : Nat → Int} {nd : Nat → ND} {r : Nat} {f : Nat → Int} {n p : Nat} : (r0N N nd r f n).1 p = if f p = -1 ∨ wfN N nd r f n p = -1 then -1 else 100 + wfN N nd r f n p := rfl
theorem r0N_2 {N : Nat → Int} {nd : Nat → ND} {r : Nat} {f : Nat → Int} {n p : Nat} : (r0N N nd r f n).2 p = if f p = -1 ∨ wfN N nd r f n p = -1 then -1 else 1 := rfl
theorem wfN_s {N : Nat → Int} {nd : Nat → ND} {r : Nat} {f : Nat → Int} {n p : Nat} : wfN N nd r f (n + 1) p = if wfN N nd r f n p = -1 then (if wfP N nd r f p n = true then (n : Int) else -1) else wfN N nd r f n p := rfl
/-- a wish that changes nothing for a package -/
theorem r0N_no {N : Nat → Int} {nd : Nat → ND} {r : Nat} {f : Nat → Int} {n p : Nat} (h : f p = -1 ∨ ¬ wfN N nd r f n p = -1 ∨ wfP N nd r f p n = false) : (r0N N nd r f (n + 1)).1 p = (r0N N nd r f n).1 p ∧ (r0N N nd r f (n + 1)).2 p = (r0N N nd r f n).2 p := by
  rw [r0N_1, r0N_1, r0N_2, r0N_2]
  by_cases a : f p = -1
  · rw [if_pos (.inl a), if_pos (.inl a), if_pos (.inl a), if_pos (.inl a)]; exact ⟨rfl, rfl⟩
  · have e : wfN N nd r f (n + 1) p = wfN N nd r f n p := by
      rw [wfN_s]
      by_cases b : wfN N nd r f n p = -1
      · have c := (h.resolve_left a).resolve_left (fun z => z b)
        rw [if_pos b, c, if_neg (by decide)]; exact b.symm
      · rw [if_neg b]
    rw [e]; exact ⟨rfl, rfl⟩
def DR (g : XH) (S : RD) : Prop := ∀ p, p < 12 → hI g 462 p = S.1 p ∧ hI g 463 p = S.2 p
def FRr (h g : XH) : Prop := Fr (fun b => b = 462 ∨ b = 463) h g ∧ g.length = h.length ∧ xhs g = xhs h
theorem FRr_rf (h : XH) : FRr h h := ⟨Fr_rf _ _, rfl, rfl⟩
theorem FRr_tr {h g k : XH} (a : FRr h g) (b : FRr g k) : FRr h k := ⟨Fr_tr a.1 (by rw [a.2.1]; exact Nat.le_refl _) b.1, b.2.1.trans a.2.1, b.2.2.trans a.2.2⟩
theorem FRr_2 {h g : XH} {i : Nat} {x y : Int} (e1 : g = sI h 462 i x) {g2 : XH} (e2 : g2 = sI g 463 i y) : FRr h g2 := by
  refine ⟨fun b _ n => ?_, ?_, ?_⟩
  · rw [e2, e1]; exact sameC_tr (sameC_sV (fun z => n (.inl z.symm))) (sameC_sV (fun z => n (.inr z.symm)))
  · rw [e2, e1, len_sV, len_sV]
  · rw [e2, e1, xhs_sV, xhs_sV]
theorem st463 {h g g2 : XH} {i : Nat} {x y : Int} (T : HT h) (Tg : HT g) (hi : i < 12) (rx : rg x) (ry : rg y) (e1 : g = sI h 462 i x) (e2 : g2 = sI g 463 i y) (p : Nat) : hI g2 462 p = (if p = i then x else hI h 462 p) ∧ hI g2 463 p = (if p = i then y else hI h 463 p) := by
  have n83 : hn h 462 = 12 := lyn (c := 100) (n := 12) T rfl
  have n84 : hn g 463 = 12 := lyn (c := 100) (n := 12) Tg rfl
  by_cases c : p = i
  · subst c
    rw [if_pos rfl, if_pos rfl, e2]
    refine ⟨?_, hI_eq (by omega) ry⟩
    rw [hI_ne (by decide), e1]
    exact hI_eq (by omega) rx
  · rw [if_neg c, if_neg c, e2, hI_ne (by decide), hI_ni (fun z => c z.symm), e1, hI_ni (fun z => c z.symm), hI_ne (by decide)]
    exact ⟨rfl, rfl⟩
/-- one more package is done -/
theorem DR_step {g g1 : XH} {S S' : RD} {x : Int} {p : Nat} (e : x = p) (hp : p < 12)
    (a : ∀ r, r < 12 → hI g 462 r = (if (r : Int) < x then S'.1 r else S.1 r) ∧ hI g 463 r = (if (r : Int) < x then S'.2 r else S.2 r))
    (b : ∀ r, r < 12 → hI g1 462 r = (if r = p then S'.1 p else hI g 462 r) ∧ hI g1 463 r = (if r = p then S'.2 p else hI g 463 r)) :
    ∀ r, r < 12 → hI g1 462 r = (if (r : Int) < x + 1 then S'.1 r else S.1 r) ∧ hI g1 463 r = (if (r : Int) < x + 1 then S'.2 r else S.2 r) := fun r hr => by
  obtain ⟨b1, b2⟩ := b r hr
  obtain ⟨b3, b4⟩ := a r hr
  rw [b1, b2]
  by_cases c : r = p
  · subst c
    rw [if_pos rfl, if_pos rfl, if_pos (by omega), if_pos (by omega)]; exact ⟨rfl, rfl⟩
  · rw [if_neg c, if_neg c, b3, b4]
    by_cases d : (r : Int) < x
    · rw [if_pos d, if_pos d, if_pos (by omega), if_pos (by omega)]; exact ⟨rfl, rfl⟩
    · rw [if_neg d, if_neg d, if_neg (by omega), if_neg (by omega)]; exact ⟨rfl, rfl⟩
/-- nothing changes for this one -/
theorem DR_no {g : XH} {S S' : RD} {x : Int} {p : Nat} (e : x = p) (hp : p < 12)
    (a : ∀ r, r < 12 → hI g 462 r = (if (r : Int) < x then S'.1 r else S.1 r) ∧ hI g 463 r = (if (r : Int) < x then S'.2 r else S.2 r))
    (n : S'.1 p = S.1 p ∧ S'.2 p = S.2 p) : ∀ r, r < 12 → hI g 462 r = (if r = p then S'.1 p else hI g 462 r) ∧ hI g 463 r = (if r = p then S'.2 p else hI g 463 r) := fun r hr => by
  by_cases c : r = p
  · subst c
    obtain ⟨b1, b2⟩ := a r hr
    rw [if_neg (by omega)] at b1 b2
    rw [if_pos rfl, if_pos rfl, n.1, n.2]; exact ⟨b1, b2⟩
  · rw [if_neg c, if_neg c]; exact ⟨rfl, rfl⟩
set_option maxHeartbeats 1000000 in
theorem c_X14_isWanted {p0 q p w : Nat} {nd : Nat → ND} {h : XH} {N : Nat → Int} {m : Nat} (T : HT h) (eN : N = nw h) (W : WF N m) (Z : NTm h nd m) {f : Nat → Int} (A : AR h p0 f) (S : fOK N f) (hq : q < 12) (nf : ¬ f q = -1) (ep : slF N f p = w) (hw : w < vc N) {K : Int → Prop} (k : ∀ x, bq x (wantB N nd f q p = true) → K x) : w_X14_isWanted p0 (q : Int) (w : Int) K h := by
  unfold w_X14_isWanted
  obtain ⟨A1, A2, A3⟩ := id A
  obtain ⟨v, hv, es, e0, e1⟩ := fOK_v W.1 S hq nf
  have wv := W.1.2.2.2.2.1 v hv
  have v40 := vc64 W.1
  have z2 := Z.2
  have zn := Z.1.2.2.2.1
  have zb := Z.1.2.1
  have EV : ∀ j, hI h 438 (5 + 20 * v + j) = nV N v j := fun j => by rw [eN]; rfl
  have wE := @wantB_e N nd f q p
  rw [es, ep, Int.toNat_natCast, Int.toNat_natCast] at wE
  refine c_X14_slotIn eN W.1 A S (by omega) ?_
  rw [Int.toNat_natCast, es]
  intro _
  refine c_X14_isOnIn A1 (by omega) ?_
  rw [Int.toNat_natCast, A3 q hq]
  intro x2 qx2
  intro rx2 vx2
  refine ⟨fun x => bq x (1000000 ≤ f q ∧ 0 < nV N v 6 ∧ nmet N (nd (nV N v 6 - 1).toNat) w = true), ?_, ?_⟩
  · intro x3 rx3 z4
    refine ⟨fun a x => 0 ≤ x ∧ x ≤ nV N v 7 ∧ bq a ((1000000 ≤ f q ∧ 0 < nV N v 6 ∧ nmet N (nd (nV N v 6 - 1).toNat) w = true) ∨ ∃ i : Nat, (i : Int) < x ∧ nmet N (nd (nV N v (8 + i)).toNat) w = true), fun _ x => (nV N v 7 - x).toNat, ?_, ?_⟩
    · exact ⟨by omega, by omega, bq_iff z4 ⟨.inl, fun z => z.elim id (fun ⟨i, y, _⟩ => by omega)⟩⟩
    · intro x5 x6 rx5 rx6 z7
      obtain ⟨y0, y1, yb⟩ := z7
      refine c_X14_ver (by omega) ?_
      rw [Int.toNat_natCast, EV, show (7 : Int).toNat = 7 from rfl]
      intro x8 ex8
      intro rx8
      refine ⟨fun c20 => ?_, fun c20 => ?_⟩
      · refine ⟨vOr yb, ?_⟩
        refine k _ (bq_iff yb ?_)
        rw [wE]
        exact ⟨fun z => z.imp_right (fun ⟨i, a, b⟩ => ⟨i, by omega, b⟩), fun z => z.imp_right (fun ⟨i, a, b⟩ => ⟨i, by omega, b⟩)⟩
      · refine ⟨fun y => bq y ((1000000 ≤ f q ∧ 0 < nV N v 6 ∧ nmet N (nd (nV N v 6 - 1).toNat) w = true) ∨ ∃ i : Nat, (i : Int) < x6 + 1 ∧ nmet N (nd (nV N v (8 + i)).toNat) w = true), ?_, ?_⟩
        · intro x10 rx10 z11
          intro x12 ex12 rx12
          rw [wr_of (by omega) (by omega)] at ex12
          exact ⟨⟨by omega, by omega, by rw [ex12]; exact z11⟩, by dsimp only; omega⟩
        · refine ⟨(1000000 ≤ f q ∧ 0 < nV N v 6 ∧ nmet N (nd (nV N v 6 - 1).toNat) w = true) ∨ ∃ i : Nat, (i : Int) < x6 + 1 ∧ nmet N (nd (nV N v (8 + i)).toNat) w = true, ?_, ?_⟩
          · intro z13
            exact bqT z13
          · refine ⟨fun c19 => ?_, fun c19 => ?_⟩
            · exact ((bq1 yb).2.2.1.mp c19).imp_right (fun ⟨i, a, b⟩ => ⟨i, by omega, b⟩)
            · rw [wr_of (by omega) (by omega)]
              refine c_X14_ver (by omega) ?_
              rw [Int.toNat_natCast, EV, show (8 + x6).toNat = 8 + x6.toNat by omega]
              intro x14 ex14
              have wk := wv.2.2.2.2.2.2.2.2.2.2.2.2.2.1 x6.toNat (by omega) (by omega)
              intro rx14
              refine ⟨Z.1.2.2.1, ?_⟩
              refine ⟨(by omega), ?_⟩
              refine c_X14_meets T eN W (Z.1.2.2.2.2.2.2.2 x14.toNat (by omega)) (by omega) (by rw [Int.toNat_natCast]; exact hw) ?_
              rw [Int.toNat_natCast, ex14]
              intro x17 qx17
              intro rx17 vx17
              refine ⟨fun c18 => ?_, fun c18 => ?_⟩
              · have nn := (bq1 yb).2.1.mp (Decidable.not_not.mp c19)
                refine bqF (fun z => ?_)
                rcases z with z | ⟨i, a, b⟩
                · exact nn (.inl z)
                · by_cases c : i = x6.toNat
                  · rw [c] at b; exact (bq1 qx17).2.1.mp c18 b
                  · exact nn (.inr ⟨i, by omega, b⟩)
              · exact .inr ⟨x6.toNat, by omega, (bq1 qx17).2.2.1.mp c18⟩
  · refine ⟨¬ (1000000 ≤ f q ∧ 0 < nV N v 6 ∧ nmet N (nd (nV N v 6 - 1).toNat) w = true), ?_, ?_⟩
    · intro z21
      exact bqF z21
    · refine ⟨fun c30 => ?_, fun c30 => ?_⟩
      · exact fun z => (bq1 qx2).2.1.mp c30 z.1
      · refine c_X14_ver (by omega) ?_
        rw [Int.toNat_natCast, EV, show (6 : Int).toNat = 6 from rfl]
        intro x22 ex22
        intro rx22
        refine ⟨fun c29 => ?_, fun c29 => ?_⟩
        · exact fun z => by omega
        · refine c_X14_ver (by omega) ?_
          rw [Int.toNat_natCast, EV, show (6 : Int).toNat = 6 from rfl]
          intro x23 ex23
          intro rx23
          intro x24 ex24 rx24
          rw [wr_of (by omega) (by omega)] at ex24
          refine ⟨Z.1.2.2.1, ?_⟩
          refine ⟨(by omega), ?_⟩
          refine c_X14_meets T eN W (Z.1.2.2.2.2.2.2.2 x24.toNat (by omega)) (by omega) (by rw [Int.toNat_natCast]; exact hw) ?_
          rw [Int.toNat_natCast, show x24.toNat = (nV N v 6 - 1).toNat by omega]
          intro x27 qx27
          intro rx27 vx27
          refine ⟨fun c28 => ?_, fun c28 => ?_⟩
          · exact fun z => (bq1 qx27).2.1.mp c28 z.2.2
          · exact bqT ⟨(bq1 qx2).2.2.1.mp c30, by omega, (bq1 qx27).2.2.1.mp c28⟩
set_option maxHeartbeats 4000000 in
theorem c_X14_reach {p0 : Nat} {nd : Nat → ND} {h : XH} {N : Nat → Int} {m : Nat} (T : HT h) (eN : N = nw h) (W : WF N m) (Z : NTm h nd m) {f : Nat → Int} (A : AR h p0 f) (S : fOK N f) (q0 : 468 ≤ p0) {K : XH → Prop} (k : ∀ g, FRr h g → DR g (rch N nd (rh N) f 11) → K g) : w_X14_reach p0 K h := by
  unfold w_X14_reach
  have L := HT_len T
  have kp := hk_lt A.1 (by decide)
  obtain ⟨r1, r2, r3, -⟩ := W.2.1 (rh N) (rh_lt W)
  have BK : ∀ gg, HT gg → FRr h gg → N = nw gg ∧ NTm gg nd m ∧ AR gg p0 f := fun gg _ fg => ⟨eN.trans (nw_fr (fg.1 438 (by omega) (by decide))).symm, NTm_fr T (fun b x y => fg.1 b x (by omega)) (fun j _ => sameC_el (fg.1 437 (by omega) (by decide)) j) Z, AR_fr (fg.1 p0 kp (by omega)) A⟩
  refine ⟨fun x g => 0 ≤ x ∧ x ≤ 12 ∧ FRr h g ∧ ∀ r : Nat, r < 12 → (r : Int) < x → hI g 462 r = -1 ∧ hI g 463 r = -1, fun x _ => (12 - x).toNat, ?_, ?_⟩
  · exact ⟨by omega, by omega, FRr_rf h, fun r _ hr => by omega⟩
  · intro x1 h2 t2 s2 rx1 z3
    obtain ⟨z0, z1, zf, zv⟩ := z3
    refine ⟨fun c69 => ?_, fun c69 => ?_⟩
    · refine ⟨fun x g => 0 ≤ x ∧ x ≤ nR N (rh N) 0 ∧ FRr h g ∧ DR g (r0N N nd (rh N) f x.toNat), fun x _ => (nR N (rh N) 0 - x).toNat, ?_, ?_⟩
      · refine ⟨by omega, r1, zf, fun r hr => ?_⟩
        rw [r0N_1, r0N_2, if_pos (.inr rfl), if_pos (.inr rfl)]
        exact zv r hr (by omega)
      · intro x4 h6 t6 s6 rx4 z7
        obtain ⟨y0, y1, yf, yd⟩ := z7
        obtain ⟨eN6, Z6, A6⟩ := BK h6 t6 yf
        refine c_X14_rootAt (by decide) (hr_ eN6 W) (rh_lt W) ?_
        rw [← eN6, show (0 : Int).toNat = 0 from rfl]
        intro x8 ex8
        intro rx8
        refine ⟨fun c64 => ?_, fun c64 => ?_⟩
        · refine ⟨fun x g => 1 ≤ x ∧ x ≤ 12 ∧ FRr h g ∧ DR g (rch N nd (rh N) f (x - 1).toNat), fun x _ => (12 - x).toNat, ?_, ?_⟩
          · rw [show x4.toNat = (nR N (rh N) 0).toNat by omega, r0N_e] at yd
            exact ⟨by omega, by omega, yf, yd⟩
          · intro x9 h12 t12 s12 rx9 z13
            obtain ⟨u0, u1, uf, ud⟩ := z13
            refine ⟨fun c41 => ?_, fun c41 => ?_⟩
            · rw [show (x9 - 1).toNat = 11 by omega] at ud
              exact k _ uf ud
            · obtain ⟨n, rfl⟩ : ∃ n : Nat, x9 = (n : Int) + 1 := ⟨(x9 - 1).toNat, by omega⟩
              rw [show ((n : Int) + 1 - 1).toNat = n by omega] at ud
              have ri := rInv_r (N := N) (nd := nd) (r := rh N) (f := f) n
              refine ⟨fun x g => 0 ≤ x ∧ x ≤ 12 ∧ FRr h g ∧ DR g (lev N nd f ((n : Int) + 1) x.toNat (rch N nd (rh N) f n)), fun x _ => (12 - x).toNat, ?_, ?_⟩
              · exact ⟨by omega, by omega, uf, ud⟩
              · intro x14 h16 t16 s16 rx14 z17
                obtain ⟨w0, w1, wf, wd⟩ := z17
                refine ⟨fun c40 => ?_, fun c40 => ?_⟩
                · intro x18 ex18 rx18
                  rw [wr_of (by omega) (by omega)] at ex18
                  refine ⟨⟨by omega, by omega, wf, ?_⟩, by dsimp only; omega⟩
                  rw [show (x18 - 1).toNat = n + 1 by omega, rch_s, ← show x14.toNat = 12 by omega]
                  exact wd
                · obtain ⟨q, rfl⟩ : ∃ q : Nat, x14 = q := ⟨x14.toNat, by omega⟩
                  rw [Int.toNat_natCast] at wd
                  have rl := rInv_l (N := N) (nd := nd) (by omega) ri q (by omega)
                  have q12 : q < 12 := by omega
                  refine ⟨fun x g => 0 ≤ x ∧ x ≤ 12 ∧ FRr h g ∧ ∀ r, r < 12 → hI g 462 r = (if (r : Int) < x then (vis N nd f ((n : Int) + 1) q (lev N nd f ((n : Int) + 1) q (rch N nd (rh N) f n))).1 r else (lev N nd f ((n : Int) + 1) q (rch N nd (rh N) f n)).1 r) ∧ hI g 463 r = (if (r : Int) < x then (vis N nd f ((n : Int) + 1) q (lev N nd f ((n : Int) + 1) q (rch N nd (rh N) f n))).2 r else (lev N nd f ((n : Int) + 1) q (rch N nd (rh N) f n)).2 r), fun x _ => (12 - x).toNat, ?_, ?_⟩
                  · exact ⟨by omega, by omega, wf, fun r hr => by rw [if_neg (by omega), if_neg (by omega)]; exact wd r hr⟩
                  · intro x19 h20 t20 s20 rx19 z21
                    obtain ⟨v0, v1, vf, vd⟩ := z21
                    obtain ⟨eN20, Z20, A20⟩ := BK h20 t20 vf
                    have dq : (lev N nd f ((n : Int) + 1) q (rch N nd (rh N) f n)).2 q = (n : Int) + 1 ↔ hI h20 463 q = (n : Int) + 1 := by
                      rw [(vd q q12).2]
                      split
                      · rw [vis_2]
                        split
                        · rename_i c
                          omega
                        · exact Iff.rfl
                      · exact Iff.rfl
                    refine ⟨DR h20 (vis N nd f ((n : Int) + 1) q (lev N nd f ((n : Int) + 1) q (rch N nd (rh N) f n))), ?_, ?_⟩
                    · intro z22
                      intro x23 ex23 rx23
                      rw [wr_of (by omega) (by omega)] at ex23
                      exact ⟨⟨by omega, by omega, vf, by rw [show x23.toNat = q + 1 by omega]; exact z22⟩, by dsimp only; omega⟩
                    · refine ⟨fun c39 => ?_, fun c39 => ?_⟩
                      · intro r hr
                        obtain ⟨a, b⟩ := vd r hr
                        rw [if_pos (by omega)] at a b
                        exact ⟨a, b⟩
                      · refine ⟨(by omega), ?_⟩
                        refine ⟨fun c38 => ?_, fun c38 => ?_⟩
                        · have nq : ¬ (lev N nd f ((n : Int) + 1) q (rch N nd (rh N) f n)).2 q = (n : Int) + 1 := fun z => c38 (dq.mp z)
                          intro r hr
                          obtain ⟨a, b⟩ := vd r hr
                          rw [vis_no nq] at a b ⊢
                          rw [ite_self] at a b
                          exact ⟨a, b⟩
                        · obtain ⟨p, rfl⟩ : ∃ p : Nat, x19 = p := ⟨x19.toNat, by omega⟩
                          have p12 : p < 12 := by omega
                          have eq_ := dq.mpr (Decidable.not_not.mp c38)
                          have ap := A20.2.2 p p12
                          have nfq : ¬ f q = -1 := fun y => by have := rl.1 q q12 y; omega
                          obtain ⟨d1, d2⟩ := vd p p12
                          rw [if_neg (by omega)] at d1 d2
                          refine ⟨A20.1, ?_⟩
                          refine ⟨(by rw [A20.2.1]; omega), ?_⟩
                          refine ⟨fun g => FRr h20 g ∧ ∀ r, r < 12 → hI g 462 r = (if r = p then (vis N nd f ((n : Int) + 1) q (lev N nd f ((n : Int) + 1) q (rch N nd (rh N) f n))).1 p else hI h20 462 r) ∧ hI g 463 r = (if r = p then (vis N nd f ((n : Int) + 1) q (lev N nd f ((n : Int) + 1) q (rch N nd (rh N) f n))).2 p else hI h20 463 r), ?_, ?_⟩
                          · intro h27 t27 s27 z28
                            intro x29 ex29 rx29
                            rw [wr_of (by omega) (by omega)] at ex29
                            refine ⟨⟨by omega, by omega, FRr_tr vf z28.1, by rw [ex29]; exact DR_step rfl p12 vd z28.2⟩, by dsimp only; omega⟩
                          · refine ⟨fun c37 => ?_, fun c37 => ?_⟩
                            · refine ⟨FRr_rf _, DR_no rfl p12 vd ?_⟩
                              rw [vis_1, vis_2, if_neg (fun z => z.2.1 (ap.symm.trans c37)), if_neg (fun z => z.2.1 (ap.symm.trans c37))]
                              exact ⟨rfl, rfl⟩
                            · refine ⟨(by omega), ?_⟩
                              refine ⟨fun c36 => ?_, fun c36 => ?_⟩
                              · refine ⟨FRr_rf _, DR_no rfl p12 vd ?_⟩
                                rw [vis_1, vis_2, if_neg (fun z => c36 (d2.trans z.2.2.1)), if_neg (fun z => c36 (d2.trans z.2.2.1))]
                                exact ⟨rfl, rfl⟩
                              · have nfp : ¬ f p = -1 := fun y => c37 (ap.trans y)
                                obtain ⟨w, hw, ws, -⟩ := fOK_v W.1 S p12 nfp
                                refine c_X14_slotIn eN20 W.1 A20 S (by omega) ?_
                                rw [Int.toNat_natCast, ws]
                                intro _
                                refine c_X14_isWanted t20 eN20 W Z20 A20 S q12 nfq ws hw ?_
                                intro x32 qx32
                                intro rx32 vx32
                                refine ⟨fun c35 => ?_, fun c35 => ?_⟩
                                · refine ⟨FRr_rf _, DR_no rfl p12 vd ?_⟩
                                  rw [vis_1, vis_2, if_neg (fun z => (bq1 qx32).2.1.mp c35 z.2.2.2), if_neg (fun z => (bq1 qx32).2.1.mp c35 z.2.2.2)]
                                  exact ⟨rfl, rfl⟩
                                · intro h33 eh33 t33 u33
                                  intro h34 eh34 t34 u34
                                  have hc : (lev N nd f ((n : Int) + 1) q (rch N nd (rh N) f n)).2 q = (n : Int) + 1 ∧ ¬ f p = -1 ∧ (lev N nd f ((n : Int) + 1) q (rch N nd (rh N) f n)).2 p = -1 ∧ wantB N nd f q p = true := ⟨eq_, nfp, d2.symm.trans (Decidable.not_not.mp c36), (bq1 qx32).2.2.1.mp c35⟩
                                  rw [wr_of (by omega) (by omega)] at eh34
                                  refine ⟨FRr_2 (g := h33) eh33 eh34, fun r hr => ?_⟩
                                  obtain ⟨b1, b2⟩ := st463 t20 t33 p12 (by unfold rg; omega) (by unfold rg; omega) eh33 eh34 r
                                  rw [b1, b2, vis_1, vis_2, if_pos hc, if_pos hc]
                                  exact ⟨rfl, rfl⟩
        · obtain ⟨n, rfl⟩ : ∃ n : Nat, x4 = n := ⟨x4.toNat, by omega⟩
          rw [Int.toNat_natCast] at yd
          refine ⟨fun x g => 0 ≤ x ∧ x ≤ 12 ∧ FRr h g ∧ ∀ r, r < 12 → hI g 462 r = (if (r : Int) < x then (r0N N nd (rh N) f (n + 1)).1 r else (r0N N nd (rh N) f n).1 r) ∧ hI g 463 r = (if (r : Int) < x then (r0N N nd (rh N) f (n + 1)).2 r else (r0N N nd (rh N) f n).2 r), fun x _ => (12 - x).toNat, ?_, ?_⟩
          · exact ⟨by omega, by omega, yf, fun r hr => by rw [if_neg (by omega), if_neg (by omega)]; exact yd r hr⟩
          · intro x42 h43 t43 s43 rx42 z44
            obtain ⟨v0, v1, vf, vd⟩ := z44
            obtain ⟨eN43, Z43, A43⟩ := BK h43 t43 vf
            refine ⟨DR h43 (r0N N nd (rh N) f (n + 1)), ?_, ?_⟩
            · intro z45
              intro x46 ex46 rx46
              rw [wr_of (by omega) (by omega)] at ex46
              exact ⟨⟨by omega, by omega, vf, by rw [show x46.toNat = n + 1 by omega]; exact z45⟩, by dsimp only; omega⟩
            · refine ⟨fun c63 => ?_, fun c63 => ?_⟩
              · intro r hr
                obtain ⟨a, b⟩ := vd r hr
                rw [if_pos (by omega)] at a b
                exact ⟨a, b⟩
              · refine c_X14_wishAt t43 eN43 W Z43 (by omega) ?_
                rw [Int.toNat_natCast]
                intro a47 qa47
                refine ⟨fun c62 => ?_, fun c62 => ?_⟩
                · have nw_ : nR N (rh N) (1 + n) = -1 := by
                    rcases qa47 with y | ⟨-, y⟩
                    · exact y.1
                    · exact absurd y.2.2.2.1 (by omega)
                  intro r hr
                  obtain ⟨a, b⟩ := vd r hr
                  obtain ⟨e1, e2⟩ := r0N_no (N := N) (nd := nd) (r := rh N) (f := f) (n := n) (p := r) (.inr (.inr (by unfold wfP; rw [dt nw_]; rfl)))
                  rw [e1, ite_self] at a
                  rw [e2, ite_self] at b
                  rw [e1, e2]
                  exact ⟨a, b⟩
                · obtain ⟨p, rfl⟩ : ∃ p : Nat, x42 = p := ⟨x42.toNat, by omega⟩
                  have p12 : p < 12 := by omega
                  have ap := A43.2.2 p p12
                  obtain ⟨d1, d2⟩ := vd p p12
                  rw [if_neg (by omega)] at d1 d2
                  have yw := qa47.resolve_left (fun y => c62 y.2)
                  refine ⟨A43.1, ?_⟩
                  refine ⟨(by rw [A43.2.1]; omega), ?_⟩
                  refine ⟨fun g => FRr h43 g ∧ ∀ r, r < 12 → hI g 462 r = (if r = p then (r0N N nd (rh N) f (n + 1)).1 p else hI h43 462 r) ∧ hI g 463 r = (if r = p then (r0N N nd (rh N) f (n + 1)).2 p else hI h43 463 r), ?_, ?_⟩
                  · intro h50 t50 s50 z51
                    intro x52 ex52 rx52
                    rw [wr_of (by omega) (by omega)] at ex52
                    refine ⟨⟨by omega, by omega, FRr_tr vf z51.1, by rw [ex52]; exact DR_step rfl p12 vd z51.2⟩, by dsimp only; omega⟩
                  · refine ⟨fun c61 => ?_, fun c61 => ?_⟩
                    · exact ⟨FRr_rf _, DR_no rfl p12 vd (r0N_no (.inl (ap.symm.trans c61)))⟩
                    · refine ⟨(by omega), ?_⟩
                      refine ⟨fun c60 => ?_, fun c60 => ?_⟩
                      · refine ⟨FRr_rf _, DR_no rfl p12 vd (r0N_no (.inr (.inl (fun z => c60 ?_))))⟩
                        rw [Int.toNat_natCast, d2, r0N_2, if_pos (.inr z)]
                      · refine c_X14_wishAt t43 eN43 W Z43 (by omega) ?_
                        rw [Int.toNat_natCast]
                        intro a54 qa54
                        have nfp : ¬ f p = -1 := fun y => c61 (ap.trans y)
                        obtain ⟨w, hw, ws, -⟩ := fOK_v W.1 S p12 nfp
                        refine c_X14_slotIn eN43 W.1 A43 S (by omega) ?_
                        rw [Int.toNat_natCast, ws]
                        intro _
                        have yn := qa54.resolve_left (fun y => by omega)
                        refine c_X14_meets t43 eN43 W yn.2 (by omega) (by rw [Int.toNat_natCast]; exact hw) ?_
                        rw [Int.toNat_natCast]
                        intro x56 qx56
                        have wp : wfP N nd (rh N) f p n = nmet N (nd (nR N (rh N) (1 + n)).toNat) w := by unfold wfP; rw [df (show ¬ nR N (rh N) (1 + n) = -1 by omega), ws, Int.toNat_natCast]; rfl
                        intro rx56 vx56
                        refine ⟨fun c59 => ?_, fun c59 => ?_⟩
                        · exact ⟨FRr_rf _, DR_no rfl p12 vd (r0N_no (.inr (.inr (by rw [wp]; exact bt ((bq1 qx56).2.1.mp c59)))))⟩
                        · intro h57 eh57 t57 u57
                          intro h58 eh58 t58 u58
                          have wm : wfN N nd (rh N) f n p = -1 := by
                            refine Classical.byContradiction fun y => ?_
                            have e := d2.symm.trans (Decidable.not_not.mp c60)
                            rw [r0N_2, if_neg (fun z => z.elim nfp y)] at e
                            omega
                          have ws2 : wfN N nd (rh N) f (n + 1) p = n := by rw [wfN_s, if_pos wm, if_pos (by rw [wp]; exact (bq1 qx56).2.2.1.mp c59)]
                          rw [wr_of (by omega) (by omega)] at eh57
                          refine ⟨FRr_2 (g := h57) eh57 eh58, fun r hr => ?_⟩
                          obtain ⟨b1, b2⟩ := st463 t43 t57 p12 (by unfold rg; omega) (rgk rfl) eh57 eh58 r
                          have nc : ¬ (f p = -1 ∨ (n : Int) = -1) := fun z => z.elim nfp (fun y => by omega)
                          rw [b1, b2, r0N_1, r0N_2, ws2, if_neg nc, if_neg nc]
                          exact ⟨rfl, rfl⟩
    · refine ⟨(by omega), ?_⟩
      intro h66 eh66 t66 u66
      intro h67 eh67 t67 u67
      intro x68 ex68 rx68
      rw [wr_of (by omega) (by omega)] at ex68
      refine ⟨⟨by omega, by omega, FRr_tr zf (FRr_2 (g := h66) eh66 eh67), fun r hr hx => ?_⟩, by dsimp only; omega⟩
      obtain ⟨b1, b2⟩ := st463 t2 t66 (show x1.toNat < 12 by omega) (rgk rfl) (rgk rfl) eh66 eh67 r
      rw [b1, b2]
      by_cases c : r = x1.toNat
      · rw [if_pos c, if_pos c]; exact ⟨rfl, rfl⟩
      · rw [if_neg c, if_neg c]; exact zv r hr (by omega)
set_option maxHeartbeats 1000000 in
theorem c_X12_because {p0 : Int} {h : XH} {N : Nat → Int} {nd : Nat → ND} {m : Nat} (T : HT h) (C : CS h 8 N nd) (W : WF N m) (dk : DK nd m) (CC : CaC h N nd) {K : Int → XH → Prop} {E : Nat → XH → Prop} (k0 : ¬ (0 ≤ p0 ∧ p0 < N 0) → E 2 (nT h)) (k : (0 ≤ p0 ∧ p0 < N 0) → ∀ g, HT g → CSt h g N nd → K ((rch N nd (rh N) (goal N (rh N)) 11).1 p0.toNat) g) : w_X12_because p0 K E h := by
  unfold w_X12_because
  have hr := rh_lt W
  refine c_X12_checkPack (fun q => k0 (by rw [(V80 C.1).1] at q; exact q)) (fun q1 q2 => ?_)
  rw [(V80 C.1).1] at q2
  have b12 := W.1.2.1
  refine c_X12_knowMet T C W dk CC ?_
  intro h1 s1 cc1 k1 m1
  intro t1 u1
  have C1 := CSt_CS T C W s1
  refine c_atH C1 W ?_
  refine ⟨(rc_k t1 hr), ?_⟩
  refine c_X2_reach t1 C1 W dk m1 (CS_g C1 hr) ?_
  intro h4 f4 d4
  intro t4 u4
  refine ⟨(by omega), ?_⟩
  rw [(d4 p0.toNat (by omega)).1]
  exact k ⟨q1, q2⟩ _ t4 (CSt_tr s1 (CSt_s t1 (Fr_mono f4.1 (fun b y => by omega)) f4.2.1 f4.2.2))
set_option maxHeartbeats 1000000 in
theorem c_L_because {p1 : Int} {h : XH} {N : Nat → Int} {nd : Nat → ND} {m : Nat} (T : HT h) (C : CS h 8 N nd) (W : WF N m) (dk : DK nd m) (CC : CaC h N nd) {K : Int → XH → Prop} (k0 : ¬ (0 ≤ p1 ∧ p1 < N 0) → ∀ g, HT g → CSt h g N nd → K 1 (nT g)) (k : (0 ≤ p1 ∧ p1 < N 0) → ∀ g g6, HT g → CSt h g N nd → g6 = sL g 467 0 (i2l ((rch N nd (rh N) (goal N (rh N)) 11).1 p1.toNat)) → K 0 g6) : w_L_because p1 K h := by
  unfold w_L_because
  refine c_X12_because T C W dk CC (fun q => ⟨rfl, k0 q h T (CSt_rf _ _ _)⟩) (fun q g t s => ?_)
  intro tx ux _
  intro h5 eh5 t5 u5
  exact k q _ _ t s eh5
set_option maxHeartbeats 1000000 in
theorem c_X14_because {p0 : Int} {nd : Nat → ND} {h : XH} {N : Nat → Int} {m : Nat} (T : HT h) (eN : N = nw h) (W : WF N m) (Z : NTm h nd m) (fg : fOK N (goal N (rh N))) (fi : fOK N (inst N (rh N))) {K : Int → XH → Prop} (k0 : ¬ (0 ≤ p0 ∧ p0 < N 0) → ∀ h1 h2 h3, HT h1 → h1 = sI h 437 5 0 → RSt h1 h2 nd 1 (n12) → HT h2 → h3 = sI h2 437 5 1 → K 0 h3) (k : (0 ≤ p0 ∧ p0 < N 0) → ∀ h1 h2, HT h1 → h1 = sI h 437 5 0 → RSt h1 h2 nd 1 (n12) → K ((rch N nd (rh N) (goal N (rh N)) 11).1 p0.toNat) h2) : w_X14_because p0 K h := by
  unfold w_X14_because
  intro h1 eh1 t1 u1
  have eN1 : N = nw h1 := eN.trans (nw_fr (by rw [eh1]; exact sameC_sV (by decide))).symm
  have Z1 := NTm_5 T eh1 Z
  have L1 := HT_len t1
  refine c_X14_isPack ?_ (by rw [show hI h1 438 0 = N 0 by rw [eN1]; rfl]; exact W.1.1)
  intro x2 qx2
  rw [show hI h1 438 0 = N 0 by rw [eN1]; rfl] at qx2
  have b12 := W.1.2.1
  intro rx2 vx2
  refine c_X14_refused qx2 ?_
  intro x3 h4 qx3
  intro t4 u4
  intro rx3 vx3
  refine ⟨fun c9 => ?_, fun c9 => ?_⟩
  · obtain ⟨b_, e_⟩ : (0 ≤ p0 ∧ p0 < N 0) ∧ h4 = h1 := by
      rcases qx3 with ⟨_, y, z⟩ | ⟨y, _⟩
      · exact ⟨y, z⟩
      · omega
    subst e_
    have Lh4 := HT_len t4
    refine c_gS t4 eN1 W ?_
    intro a5 h6 f6 g6 l6 A6
    intro t6 u6
    have eN6 : N = nw h6 := eN1.trans (nw_F t4 f6).symm
    have L6 := HT_len t6
    have Z6 : NTm h6 nd m := NTm_fr t4 (fun b x _ => f6 b x id) (fun j _ => sameC_el (f6 437 (by omega) id) j) Z1
    refine c_X14_reach t6 eN6 W Z6 A6 fg (by omega) ?_
    intro h7 f7 d7
    intro t7 u7
    have r7 : RSt h4 h7 nd 1 n12 := by
      refine RSt_mono (RSt_tr t4 u6.1 (RSt_a t4 f6 g6 u6.1) (RSt_n (n := 0) (s := 0) t6 (Fr_mono f7.1 (fun b y => by omega)) (fun j _ => sameC_el (f7.1 437 (by omega) (by decide)) j) ⟨by have := f7.2.1; omega, by have := f7.2.2; omega⟩ (by have := f7.2.1; omega))) (by omega) (by omega)
    refine ⟨(by omega), ?_⟩
    rw [(d7 p0.toNat (by omega)).1]
    exact k b_ _ _ t4 eh1 r7
  · have q_ : ¬ (0 ≤ p0 ∧ p0 < N 0) ∧ h4 = sI h1 437 5 1 := by
      rcases qx3 with ⟨y, _⟩ | ⟨_, y, z⟩
      · omega
      · exact ⟨y, z⟩
    exact k0 q_.1 _ _ _ t1 eh1 (RSt_mono (RSt_rf _ _) (by omega) (by omega)) t1 q_.2
theorem d_because {h : XH} {nd : Nat → ND} {o u p0 : Int} {c : Nat} (T : HT h) (R : Inv h nd o u c) {K : Int → XH → Prop} {J : XH → Prop} (k : ∀ h' o' u', HT h' → Inv h' nd o' u' (c + 1) → Gr (1 + 1) (xcs none + n12) h h' → J h') : w_L_because p0 (LDw h (fun g Q => w_X14_because p0 Q g) K J) h := by
  classical
  have W := R.1.2.1
  have C := R.1.1
  have hr := rh_lt W
  refine dask (e := if 0 ≤ p0 ∧ p0 < (nw h) 0 then 0 else 1) (x := (rch (nw h) nd (rh (nw h)) (goal (nw h) (rh (nw h))) 11).1 p0.toNat) (wL := fun Q => w_L_because p0 Q h) (wR := fun g Q => w_X14_because p0 Q g) (mkAe T R (fun Q q0 q1 => ?_)) (fun g Tg Rg eg => mkBe Tg Rg (by split <;> exact rgk rfl) (fun Q q0 q1 => ?_)) k
  · refine c_L_because T C W (DK_of (NTm_of R.1)) R.2.2.1  (fun y g t s => ?_) (fun y => q1 (if_pos y))
    have := q0 (by rw [if_neg y]; decide) g t s
    rw [if_neg y] at this
    exact this
  · refine c_X14_because (m := (hI g 437 7).toNat) Tg eg.symm (by rw [← eg]; exact Rg.1.2.1) (NTm_of Rg.1) (CS_g C hr).2.2.2 (CS_i C hr).2.2.2 (fun y h1 h2 h3 t1 e1 r t2 e3 => ?_) (fun y => q1 (if_pos y))
    refine q0 (by rw [if_neg y]; decide) h1 h2 h3 t1 e1 r t2 ?_
    rw [if_neg y]
    exact e3
set_option maxHeartbeats 1000000 in
theorem c_X12_far {p0 : Int} {h : XH} {N : Nat → Int} {nd : Nat → ND} {m : Nat} (T : HT h) (C : CS h 8 N nd) (W : WF N m) (dk : DK nd m) (CC : CaC h N nd) {K : Int → XH → Prop} {E : Nat → XH → Prop} (k0 : ¬ (0 ≤ p0 ∧ p0 < N 0) → E 2 (nT h)) (k : (0 ≤ p0 ∧ p0 < N 0) → ∀ g, HT g → CSt h g N nd → K ((rch N nd (rh N) (goal N (rh N)) 11).2 p0.toNat) g) : w_X12_far p0 K E h := by
  unfold w_X12_far
  have hr := rh_lt W
  refine c_X12_checkPack (fun q => k0 (by rw [(V80 C.1).1] at q; exact q)) (fun q1 q2 => ?_)
  rw [(V80 C.1).1] at q2
  have b12 := W.1.2.1
  refine c_X12_knowMet T C W dk CC ?_
  intro h1 s1 cc1 k1 m1
  intro t1 u1
  have C1 := CSt_CS T C W s1
  refine c_atH C1 W ?_
  refine ⟨(rc_k t1 hr), ?_⟩
  refine c_X2_reach t1 C1 W dk m1 (CS_g C1 hr) ?_
  intro h4 f4 d4
  intro t4 u4
  refine ⟨(by omega), ?_⟩
  rw [(d4 p0.toNat (by omega)).2]
  exact k ⟨q1, q2⟩ _ t4 (CSt_tr s1 (CSt_s t1 (Fr_mono f4.1 (fun b y => by omega)) f4.2.1 f4.2.2))
set_option maxHeartbeats 1000000 in
theorem c_L_far {p1 : Int} {h : XH} {N : Nat → Int} {nd : Nat → ND} {m : Nat} (T : HT h) (C : CS h 8 N nd) (W : WF N m) (dk : DK nd m) (CC : CaC h N nd) {K : Int → XH → Prop} (k0 : ¬ (0 ≤ p1 ∧ p1 < N 0) → ∀ g, HT g → CSt h g N nd → K 1 (nT g)) (k : (0 ≤ p1 ∧ p1 < N 0) → ∀ g g6, HT g → CSt h g N nd → g6 = sL g 467 0 (i2l ((rch N nd (rh N) (goal N (rh N)) 11).2 p1.toNat)) → K 0 g6) : w_L_far p1 K h := by
  unfold w_L_far
  refine c_X12_far T C W dk CC (fun q => ⟨rfl, k0 q h T (CSt_rf _ _ _)⟩) (fun q g t s => ?_)
  intro tx ux _
  intro h5 eh5 t5 u5
  exact k q _ _ t s eh5
set_option maxHeartbeats 1000000 in
theorem c_X14_far {p0 : Int} {nd : Nat → ND} {h : XH} {N : Nat → Int} {m : Nat} (T : HT h) (eN : N = nw h) (W : WF N m) (Z : NTm h nd m) (fg : fOK N (goal N (rh N))) (fi : fOK N (inst N (rh N))) {K : Int → XH → Prop} (k0 : ¬ (0 ≤ p0 ∧ p0 < N 0) → ∀ h1 h2 h3, HT h1 → h1 = sI h 437 5 0 → RSt h1 h2 nd 1 (n12) → HT h2 → h3 = sI h2 437 5 1 → K 0 h3) (k : (0 ≤ p0 ∧ p0 < N 0) → ∀ h1 h2, HT h1 → h1 = sI h 437 5 0 → RSt h1 h2 nd 1 (n12) → K ((rch N nd (rh N) (goal N (rh N)) 11).2 p0.toNat) h2) : w_X14_far p0 K h := by
  unfold w_X14_far
  intro h1 eh1 t1 u1
  have eN1 : N = nw h1 := eN.trans (nw_fr (by rw [eh1]; exact sameC_sV (by decide))).symm
  have Z1 := NTm_5 T eh1 Z
  have L1 := HT_len t1
  refine c_X14_isPack ?_ (by rw [show hI h1 438 0 = N 0 by rw [eN1]; rfl]; exact W.1.1)
  intro x2 qx2
  rw [show hI h1 438 0 = N 0 by rw [eN1]; rfl] at qx2
  have b12 := W.1.2.1
  intro rx2 vx2
  refine c_X14_refused qx2 ?_
  intro x3 h4 qx3
  intro t4 u4
  intro rx3 vx3
  refine ⟨fun c9 => ?_, fun c9 => ?_⟩
  · obtain ⟨b_, e_⟩ : (0 ≤ p0 ∧ p0 < N 0) ∧ h4 = h1 := by
      rcases qx3 with ⟨_, y, z⟩ | ⟨y, _⟩
      · exact ⟨y, z⟩
      · omega
    subst e_
    have Lh4 := HT_len t4
    refine c_gS t4 eN1 W ?_
    intro a5 h6 f6 g6 l6 A6
    intro t6 u6
    have eN6 : N = nw h6 := eN1.trans (nw_F t4 f6).symm
    have L6 := HT_len t6
    have Z6 : NTm h6 nd m := NTm_fr t4 (fun b x _ => f6 b x id) (fun j _ => sameC_el (f6 437 (by omega) id) j) Z1
    refine c_X14_reach t6 eN6 W Z6 A6 fg (by omega) ?_
    intro h7 f7 d7
    intro t7 u7
    have r7 : RSt h4 h7 nd 1 n12 := by
      refine RSt_mono (RSt_tr t4 u6.1 (RSt_a t4 f6 g6 u6.1) (RSt_n (n := 0) (s := 0) t6 (Fr_mono f7.1 (fun b y => by omega)) (fun j _ => sameC_el (f7.1 437 (by omega) (by decide)) j) ⟨by have := f7.2.1; omega, by have := f7.2.2; omega⟩ (by have := f7.2.1; omega))) (by omega) (by omega)
    refine ⟨(by omega), ?_⟩
    rw [(d7 p0.toNat (by omega)).2]
    exact k b_ _ _ t4 eh1 r7
  · have q_ : ¬ (0 ≤ p0 ∧ p0 < N 0) ∧ h4 = sI h1 437 5 1 := by
      rcases qx3 with ⟨y, _⟩ | ⟨_, y, z⟩
      · omega
      · exact ⟨y, z⟩
    exact k0 q_.1 _ _ _ t1 eh1 (RSt_mono (RSt_rf _ _) (by omega) (by omega)) t1 q_.2
theorem d_far {h : XH} {nd : Nat → ND} {o u p0 : Int} {c : Nat} (T : HT h) (R : Inv h nd o u c) {K : Int → XH → Prop} {J : XH → Prop} (k : ∀ h' o' u', HT h' → Inv h' nd o' u' (c + 1) → Gr (1 + 1) (xcs none + n12) h h' → J h') : w_L_far p0 (LDw h (fun g Q => w_X14_far p0 Q g) K J) h := by
  classical
  have W := R.1.2.1
  have C := R.1.1
  have hr := rh_lt W
  refine dask (e := if 0 ≤ p0 ∧ p0 < (nw h) 0 then 0 else 1) (x := (rch (nw h) nd (rh (nw h)) (goal (nw h) (rh (nw h))) 11).2 p0.toNat) (wL := fun Q => w_L_far p0 Q h) (wR := fun g Q => w_X14_far p0 Q g) (mkAe T R (fun Q q0 q1 => ?_)) (fun g Tg Rg eg => mkBe Tg Rg (by split <;> exact rgk rfl) (fun Q q0 q1 => ?_)) k
  · refine c_L_far T C W (DK_of (NTm_of R.1)) R.2.2.1  (fun y g t s => ?_) (fun y => q1 (if_pos y))
    have := q0 (by rw [if_neg y]; decide) g t s
    rw [if_neg y] at this
    exact this
  · refine c_X14_far (m := (hI g 437 7).toNat) Tg eg.symm (by rw [← eg]; exact Rg.1.2.1) (NTm_of Rg.1) (CS_g C hr).2.2.2 (CS_i C hr).2.2.2 (fun y h1 h2 h3 t1 e1 r t2 e3 => ?_) (fun y => q1 (if_pos y))
    refine q0 (by rw [if_neg y]; decide) h1 h2 h3 t1 e1 r t2 ?_
    rw [if_neg y]
    exact e3
def orph (N : Nat → Int) (nd : Nat → ND) (p : Nat) : Bool := !decide (inst N (rh N) p = -1) && decide ((rch N nd (rh N) (inst N (rh N)) 11).2 p = -1)
theorem orM_s (P : Nat → Bool) (n : Nat) : orM (n + 1) P = orM n P ||| (if P n = true then 2 ^ n else 0) := rfl
theorem orM_12 (P : Nat → Bool) {n : Nat} (h : n ≤ 12) : orM n P < 4096 := Nat.lt_of_lt_of_le (orM_lt P n) (by have := Nat.pow_le_pow_right (n := 2) (by decide) h; omega)
theorem orM_ex (P : Nat → Bool) {n k : Nat} (h : n ≤ k) (a : ∀ i, n ≤ i → i < k → P i = false) : orM k P = orM n P := by
  apply Nat.eq_of_testBit_eq
  intro i
  rw [orM_at, orM_at]
  by_cases c : i < n
  · rw [dt c, dt (show i < k by omega)]
  · rw [df c, Bool.false_and]
    by_cases d : i < k
    · rw [dt d, a i (by omega) d]; rfl
    · rw [df d]; rfl
set_option maxHeartbeats 1000000 in
theorem c_X12_orphans {h : XH} {N : Nat → Int} {nd : Nat → ND} {m : Nat} (T : HT h) (C : CS h 8 N nd) (W : WF N m) (dk : DK nd m) (CC : CaC h N nd) {K : Int → XH → Prop} (k : ∀ g, HT g → CSt h g N nd → K ((orM 12 (orph N nd) : Nat)) g) : w_X12_orphans K h := by
  unfold w_X12_orphans
  have hr := rh_lt W
  have w0 := W.1.1
  have b12 := W.1.2.1
  have pcN : pc N = (N 0).toNat := rfl
  refine c_X12_knowMet T C W dk CC ?_
  intro h1 s1 cc1 k1 m1
  intro t1 u1
  have C1 := CSt_CS T C W s1
  refine c_atH C1 W ?_
  refine ⟨(rc_k t1 hr), ?_⟩
  refine c_X2_reach t1 C1 W dk m1 (CS_i C1 hr) ?_
  intro h4 f4 d4
  intro t4 u4
  have C4 := FR_CS t1 C1 W f4
  obtain ⟨P4, -⟩ := V80 C4.1
  have Si := CS_i C4 hr
  have s4 := CSt_tr s1 (CSt_s (nd := nd) (N := N) t1 (Fr_mono f4.1 (fun b y => by omega)) f4.2.1 f4.2.2)
  refine ⟨fun a x => 0 ≤ x ∧ x ≤ N 0 ∧ a = (orM x.toNat (orph N nd) : Nat), fun _ x => (N 0 - x).toNat, ?_, ?_⟩
  · exact ⟨by omega, w0, rfl⟩
  · intro x5 x6 rx5 rx6 z7
    obtain ⟨z0, z1, za⟩ := z7
    refine ⟨fun c18 => ?_, fun c18 => ?_⟩
    · rw [orM_ex (orph N nd) (n := pc N) (by omega) (fun i a b => by unfold orph; rw [dt (Set_out W.1 Si b a)]; rfl), ← show x6.toNat = pc N by omega, ← za] at k
      exact k _ t4 s4
    · obtain ⟨p, rfl⟩ : ∃ p : Nat, x6 = p := ⟨x6.toNat, by omega⟩
      rw [Int.toNat_natCast] at za
      have p12 : p < 12 := by omega
      have ol := orM_12 (orph N nd) (n := p) (by omega)
      have p2 : 2 ^ p < 2 ^ 12 := Nat.pow_lt_pow_right (by decide) p12
      have dp := (d4 p p12).2
      refine c_atH C4 W ?_
      refine ⟨(rc_k t4 hr), ?_⟩
      refine c_X8_idIn C4.1 ⟨W.1.2.2.1, W.1.2.2.2.1⟩ ?_
      rw [idF_F W.1 Si p12]
      intro _
      refine ⟨fun y => y = (orM (p + 1) (orph N nd) : Nat), ?_, ?_⟩
      · intro x11 rx11 z12
        intro x13 ex13 rx13
        rw [wr_of (by omega) (by omega)] at ex13
        exact ⟨⟨by omega, by omega, by rw [z12, show x13.toNat = p + 1 by omega]⟩, by dsimp only; omega⟩
      · refine ⟨fun c17 => ?_, fun c17 => ?_⟩
        · have fp : inst N (rh N) p = -1 := Classical.byContradiction fun y => by
            obtain ⟨v, hv, es, -⟩ := Set_v W.1 Si p12 y
            omega
          rw [za, orM_s, if_neg (by unfold orph; rw [dt fp]; simp), Nat.or_zero]
        · refine ⟨(by omega), ?_⟩
          refine ⟨fun c16 => ?_, fun c16 => ?_⟩
          · rw [za, orM_s, if_neg (by unfold orph; rw [df (fun z => c16 (dp.trans z)), Bool.and_false]; decide), Nat.or_zero]
          · intro x15 ex15 rx15
            have nf : ¬ inst N (rh N) p = -1 := fun y => c17 (slF_0 y)
            rw [ex15, za, ishl1 (by omega), Int.toNat_natCast, ior_nat (by omega) (by omega), orM_s, if_pos (by unfold orph; rw [df nf, dt (dp.symm.trans (Decidable.not_not.mp c16))]; rfl)]
set_option maxHeartbeats 1000000 in
theorem c_X14_orphans {nd : Nat → ND} {h : XH} {N : Nat → Int} {m : Nat} (T : HT h) (eN : N = nw h) (W : WF N m) (Z : NTm h nd m) (fg : fOK N (goal N (rh N))) (fi : fOK N (inst N (rh N))) {K : Int → XH → Prop} (k : ∀ h1 h2, HT h1 → h1 = sI h 437 5 0 → RSt h1 h2 nd 1 (n12) → K ((orM 12 (orph N nd) : Nat)) h2) : w_X14_orphans K h := by
  unfold w_X14_orphans
  intro h1 eh1 t1 u1
  have eN1 : N = nw h1 := eN.trans (nw_fr (by rw [eh1]; exact sameC_sV (by decide))).symm
  have Z1 := NTm_5 T eh1 Z
  have L1 := HT_len t1
  refine c_iS t1 eN1 W ?_
  intro a2 h3 f3 g3 l3 A3
  intro t3 u3
  have eN3 : N = nw h3 := eN1.trans (nw_F t1 f3).symm
  have L3 := HT_len t3
  have Z3 : NTm h3 nd m := NTm_fr t1 (fun b x _ => f3 b x id) (fun j _ => sameC_el (f3 437 (by omega) id) j) Z1
  refine c_X14_reach t3 eN3 W Z3 A3 fi (by omega) ?_
  intro h4 f4 d4
  intro t4 u4
  have r4 : RSt h1 h4 nd 1 n12 := by
    refine RSt_mono (RSt_tr t1 u3.1 (RSt_a t1 f3 g3 u3.1) (RSt_n (n := 0) (s := 0) t3 (Fr_mono f4.1 (fun b y => by omega)) (fun j _ => sameC_el (f4.1 437 (by omega) (by decide)) j) ⟨by have := f4.2.1; omega, by have := f4.2.2; omega⟩ (by have := f4.2.1; omega))) (by omega) (by omega)
  have A4 := AR_fr (f4.1 a2 (hk_lt A3.1 (by decide)) (by omega)) A3
  refine ⟨fun a x => 0 ≤ x ∧ x ≤ 12 ∧ a = (orM x.toNat (orph N nd) : Nat), fun _ x => (12 - x).toNat, ?_, ?_⟩
  · exact ⟨by omega, by omega, rfl⟩
  · intro x5 x6 rx5 rx6 z7
    obtain ⟨z0, z1, za⟩ := z7
    refine ⟨fun c18 => ?_, fun c18 => ?_⟩
    · rw [za, show x6.toNat = 12 by omega]
      exact k _ _ t1 eh1 r4
    · obtain ⟨p, rfl⟩ : ∃ p : Nat, x6 = p := ⟨x6.toNat, by omega⟩
      rw [Int.toNat_natCast] at za
      have p12 : p < 12 := by omega
      have ol := orM_12 (orph N nd) (n := p) (by omega)
      have p2 : 2 ^ p < 2 ^ 12 := Nat.pow_lt_pow_right (by decide) p12
      have dp := (d4 p p12).2
      have ap := A4.2.2 p p12
      refine ⟨A4.1, ?_⟩
      refine ⟨(by rw [A4.2.1]; omega), ?_⟩
      refine ⟨fun y => y = ((if orph N nd p = true then 2 ^ p else 0 : Nat) : Int), ?_, ?_⟩
      · intro x10 rx10 z11
        intro x12 ex12 rx12
        intro x13 ex13 rx13
        rw [wr_of (by omega) (by omega)] at ex13
        exact ⟨⟨by omega, by omega, by rw [ex12, za, z11, ior_nat (by omega) (by split <;> omega), show x13.toNat = p + 1 by omega, orM_s]⟩, by dsimp only; omega⟩
      · refine ⟨orph N nd p = false, ?_, ?_⟩
        · intro z14
          rw [z14]; rfl
        · refine ⟨fun c17 => ?_, fun c17 => ?_⟩
          · unfold orph
            rw [dt (ap.symm.trans c17)]; rfl
          · refine ⟨(by omega), ?_⟩
            refine ⟨fun c16 => ?_, fun c16 => ?_⟩
            · unfold orph
              rw [df (fun z => c16 (dp.trans z)), Bool.and_false]
            · rw [ishl1 (by omega), Int.toNat_natCast, if_pos (by unfold orph; rw [df (fun z => c17 (ap.trans z)), dt (dp.symm.trans (Decidable.not_not.mp c16))]; rfl)]
theorem d_orphans {h : XH} {nd : Nat → ND} {o u : Int} {c : Nat} (T : HT h) (R : Inv h nd o u c) {K : Int → XH → Prop} {J : XH → Prop} (k : ∀ h' o' u', HT h' → Inv h' nd o' u' (c + 1) → Gr (0 + 1) (0 + (n12)) h h' → J h') : w_X12_orphans  (LDq h (fun g Q => w_X14_orphans  Q g) K J) h := by
  have W := R.1.2.1
  have C := R.1.1
  have hr := rh_lt W
  refine dasq (x := (orM 12 (orph (nw h) nd) : Nat)) (wL := fun Q => w_X12_orphans  Q h) (wR := fun g Q => w_X14_orphans  Q g) (mkAq T R (fun Q q => ?_)) (fun g Tg Rg eg => mkBq Tg Rg (fun Q q => ?_)) k
  · exact c_X12_orphans T C W (DK_of (NTm_of R.1)) R.2.2.1  q
  · exact c_X14_orphans (m := (hI g 437 7).toNat) (nd := nd) Tg eg.symm (by rw [← eg]; exact Rg.1.2.1) (NTm_of Rg.1) (CS_g C hr).2.2.2 (CS_i C hr).2.2.2 q
