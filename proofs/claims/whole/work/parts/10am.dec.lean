/-! printed by dec.py: what each method wants, and that the machine keeps it -/ 
def w_X14_wishesLeft  (K : Int → Prop) (h : XH) : Prop :=
  ((∃ (I3 : Int → Int → Prop) (m3 : Int → Int → Nat), I3 0 0 ∧ ∀ (x1 : Int) (x2 : Int), rg x1 → rg x2 → I3 x1 x2 → (w_X14_rootAt 0 (fun x4 => rg x4 → (((x4 ≤ x2 → (K x1)) ∧ (¬ (x4 ≤ x2) → (w_X14_wishAt x2 (fun a5 => (∃ J7 : Int → Prop, (∀ (x6 : Int), rg x6 → J7 x6 → (∀ x8 : Int, x8 = wr (x1 + x6) → rg x8 → ∀ x9 : Int, x9 = wr (x2 + 1) → rg x9 → (I3 x8 x9 ∧ m3 x8 x9 < m3 x1 x2))) ∧ ((¬ a5 = 0 → (J7 1)) ∧ (¬ (¬ a5 = 0) → (J7 0))))) h))))) h)))
set_option maxHeartbeats 4000000 in
theorem a_X14_wishesLeft {sc : Nat × (Nat → Int32)} {goal : XO → XH → Prop} {fs : List XF} {h : XH}  {K : Int → Prop} (hd : fs.length + 2 ≤ 1000) (w : w_X14_wishesLeft  K h) (t0 : HT h) (k : ∀ (r : Int), rg r → K r → XFin xP sc goal fs (.inl (some (.int (J r)))) h) : RR sc goal fs 324 0 [some (rv 437), none, none] [] h := by
  unfold w_X14_wishesLeft at w
  refine r_n (pc1 := 1) [.int (J 0)] _ rfl rfl ?_
  refine r_istn (pc1 := 2) (ls1 := [some (rv 437), some (.int (J 0)), none]) rfl rfl rfl rfl ?_
  refine r_n (pc1 := 3) [.int (J 0)] _ rfl rfl ?_
  refine r_istn (pc1 := 4) (ls1 := [some (rv 437), some (.int (J 0)), some (.int (J 0))]) rfl rfl rfl rfl ?_
  obtain ⟨I3, m3, w, y3⟩ := w
  have Q3 : ∀ (n : Nat)  (x1 : Int) (x2 : Int), rg x1 → rg x2 → m3 x1 x2 < n → I3 x1 x2 → RR sc goal fs 324 4 [some (rv 437), some (.int (J x1)), some (.int (J x2))] [] h := by
    intro n
    induction n with
    | zero => intro x1 x2 rx1 rx2 q3 _; exact absurd q3 (Nat.not_lt_zero _)
    | succ n ih3 =>
      intro x1 x2 rx1 rx2 q3 z3
      have w := y3 x1 x2 rx1 rx2 z3
      refine r_n (pc1 := 5) [.int (J x2)] _ rfl rfl ?_
      refine r_aldn (pc1 := 6) rfl rfl rfl ?_
      refine r_n (pc1 := 7) [.int (J 0), rv 437, .int (J x2)] _ rfl rfl ?_
      refine r_iv rfl rfl rfl rfl rfl rfl t0 (lyk t0 rfl) rfl (xe_of (xa_r (xa_i xa_0)) rfl rfl) (r_d0 hd rfl) (a_X14_rootAt 0 (r_d1 hd rfl) (rgk rfl) w t0 (fun x4 rx4 w => ?_))
      refine r_fI (pc1 := 10) rfl ?_
      have w := w rx4
      refine r_ic (t := 35) (pc1 := 13) rfl rfl rfl rx2 rx4 (fun c11 => ?_) (fun c11 => ?_)
      · have w := w.1 c11
        refine r_n (pc1 := 36) [.int (J x1)] _ rfl rfl ?_
        exact r_retI rfl rfl rfl (k _ rx1 w)
      · have w := w.2 c11
        refine r_n (pc1 := 14) [.int (J x1)] _ rfl rfl ?_
        refine r_aldn (pc1 := 15) rfl rfl rfl ?_
        refine r_n (pc1 := 16) [.int (J x2), rv 437, .int (J x1)] _ rfl rfl ?_
        refine r_iv rfl rfl rfl rfl rfl rfl t0 (lyk t0 rfl) rfl (xe_of (xa_r (xa_i xa_0)) rfl rfl) (r_d0 hd rfl) (a_X14_wishAt x2 (r_d1 hd rfl) rx2 w t0 (fun a5 w => ?_))
        refine r_fR (pc1 := 19) rfl ?_
        obtain ⟨J7, j7, w⟩ := w
        have Q7 : ∀ (x6 : Int), rg x6 → J7 x6 → RR sc goal fs 324 27 [some (rv 437), some (.int (J x1)), some (.int (J x2))] [.int (J x6), .int (J x1)] h := by
          intro x6 rx6 z7
          have w := j7 x6 rx6 z7
          refine r_iadd (pc1 := 28) rfl rfl ?_
          refine r_vI (rgw _) (fun x8 ex8 rx8 => ?_)
          have w := w x8 ex8 rx8
          refine r_istn (pc1 := 29) (ls1 := [some (rv 437), some (.int (J x8)), some (.int (J x2))]) rfl rfl rfl rfl ?_
          refine r_inc (pc1 := 32) (g := fun zz => [some (rv 437), some (.int (J x8)), some (.int (J zz))]) rfl rfl rfl rfl (fun _ => rfl) (fun x9 ex9 rx9 => ?_)
          have w := w x9 ex9 rx9
          refine r_goto (t := 4) rfl rfl ?_
          exact ih3  x8 x9  rx8 rx9 (Nat.lt_of_lt_of_le w.2 (Nat.le_of_lt_succ q3)) w.1
        refine r_nonnull (t := 26) (pc1 := 22) rfl rfl rfl (fun c10 => ?_) (fun c10 => ?_)
        · have w := w.1 c10
          refine r_n (pc1 := 27) [.int (J 1), .int (J x1)] _ rfl rfl ?_
          exact Q7  1  (rgk rfl) w
        · have w := w.2 c10
          refine r_n (pc1 := 23) [.int (J 0), .int (J x1)] _ rfl rfl ?_
          refine r_goto (t := 27) rfl rfl ?_
          exact Q7  0  (rgk rfl) w
  exact Q3 _  0 0  (rgk rfl) (rgk rfl) (Nat.lt_succ_self _) w
def w_X14_setAt (p0 : Int) (K : Nat → XH → Prop) (h : XH) : Prop :=
  (∀ (a1 : Nat) (h2 : XH), a1 = h.length → h2 = nA h 0 12 → HT h2 → HX h h2 → hk h2 a1 = 100 → hn h2 a1 = 12 → (¬ 438 = a1 ∧ (0 : Int) ≤ p0 ∧ (0 : Int) ≤ 0 ∧ (0 : Int) ≤ 12 ∧ ((p0 + 12 : Int)) ≤ 1957 ∧ ((0 + 12 : Int)) ≤ (hn h2 a1 : Int)) ∧ ∀ h4 : XH, h4 = cA h2 438 p0.toNat a1 0 12 → HT h4 → HX h2 h4 → K a1 h4)
set_option maxHeartbeats 4000000 in
theorem a_X14_setAt {sc : Nat × (Nat → Int32)} {goal : XO → XH → Prop} {fs : List XF} {h : XH} (p0 : Int) {K : Nat → XH → Prop} (hd : fs.length + 0 ≤ 1000) (rp0 : rg p0) (w : w_X14_setAt p0 K h) (t0 : HT h) (k : ∀ (r : Nat) (h1 : XH), HT h1 → HX h h1 → K r h1 → XFin xP sc goal fs (.inl (some (rv r))) h1) : RR sc goal fs 296 0 [some (rv 437), some (.int (J p0)), none] [] h := by
  unfold w_X14_setAt at w
  refine r_n (pc1 := 2) [.int (J 12)] _ rfl rfl ?_
  refine r_na (pc1 := 4) (u := 0) (m := 2) rfl rfl rfl t0 rfl (rgk rfl) (by decide) (by decide) (fun a1 h2 ea1 eh2 t2 u2 ca1 la1 => ?_)
  have w := w a1 h2 ea1 eh2 t2 u2 ca1 la1
  have s2 := HX_trans (HX_refl h) u2
  refine r_astn (pc1 := 5) (ls1 := [some (rv 437), some (.int (J p0)), some (rv a1)]) rfl rfl rfl rfl ?_
  refine r_aldn (pc1 := 6) rfl rfl rfl ?_
  refine r_gfC (pc1 := 9) (q := 438) rfl rfl rfl t2 (lyk t2 rfl) rfl rfl (lyR t2 rfl rfl) ?_
  refine r_n (pc1 := 10) [.int (J p0), rv 438] _ rfl rfl ?_
  refine r_aldn (pc1 := 11) rfl rfl rfl ?_
  refine r_n (pc1 := 12) [.int (J 0), rv a1, .int (J p0), rv 438] _ rfl rfl ?_
  refine r_n (pc1 := 14) [.int (J 12), .int (J 0), rv a1, .int (J p0), rv 438] _ rfl rfl ?_
  obtain ⟨c3, w⟩ := w
  refine r_cp (pc1 := 17) (u := 0) rfl rfl rfl rfl t2 (lyk t2 rfl) ca1 (by decide) rp0 (rgk rfl) (rgk rfl) (lyn t2 rfl) rfl c3 (fun h4 eh4 t4 u4 => ?_)
  have w := w h4 eh4 t4 u4
  have s4 := HX_trans s2 u4
  refine r_aldn (pc1 := 18) rfl rfl rfl ?_
  exact r_retR rfl rfl rfl xok_A xokr_A (k _ _ t4 s4 w)
def w_X14_installedSet  (K : Nat → XH → Prop) (h : XH) : Prop :=
  (w_X14_setAt (wr ((wr (805 + (wr ((hI h 438 1) * 291)))) + 23)) (fun a1 h2 => HT h2 → HX h h2 → (K a1 h2)) h)
set_option maxHeartbeats 4000000 in
theorem a_X14_installedSet {sc : Nat × (Nat → Int32)} {goal : XO → XH → Prop} {fs : List XF} {h : XH}  {K : Nat → XH → Prop} (hd : fs.length + 1 ≤ 1000) (w : w_X14_installedSet  K h) (t0 : HT h) (k : ∀ (r : Nat) (h1 : XH), HT h1 → HX h h1 → K r h1 → XFin xP sc goal fs (.inl (some (rv r))) h1) : RR sc goal fs 221 0 [some (rv 437)] [] h := by
  unfold w_X14_installedSet at w
  refine r_aldn (pc1 := 1) rfl rfl rfl ?_
  refine r_n (pc1 := 4) [.int (J 805), rv 437] _ rfl rfl ?_
  refine r_aldn (pc1 := 5) rfl rfl rfl ?_
  refine r_gfC (pc1 := 8) (q := 438) rfl rfl rfl t0 (lyk t0 rfl) rfl rfl (lyR t0 rfl rfl) ?_
  refine r_n (pc1 := 9) [.int (J 1), rv 438, .int (J 805), rv 437] _ rfl rfl ?_
  refine r_ial (pc1 := 10) rfl rfl t0 (lyk t0 rfl) (rgk rfl) (by decide) (lt_len (lyn t0 rfl) (by decide)) ?_
  refine r_n (pc1 := 13) [.int (J 291), .int (J (hI h 438 1)), .int (J 805), rv 437] _ rfl rfl ?_
  refine r_imul (pc1 := 14) rfl rfl ?_
  refine r_iadd (pc1 := 15) rfl rfl ?_
  refine r_n (pc1 := 17) [.int (J 23), .int (J (wr (805 + (wr ((hI h 438 1) * 291))))), rv 437] _ rfl rfl ?_
  refine r_iadd (pc1 := 18) rfl rfl ?_
  refine r_iv rfl rfl rfl rfl rfl rfl t0 (lyk t0 rfl) rfl (xe_of (xa_r (xa_i xa_0)) rfl rfl) (r_d0 hd rfl) (a_X14_setAt (wr ((wr (805 + (wr ((hI h 438 1) * 291)))) + 23)) (r_d1 hd rfl) (rgw _) w t0 (fun a1 h2 t2 u2 w => ?_))
  refine r_fR (pc1 := 21) rfl ?_
  have s2 := HX_trans (HX_refl h) u2
  have w := w t2 u2
  exact r_retR rfl rfl rfl xok_A xokr_A (k _ _ t2 s2 w)
def w_X14_isLike (p0 : Int) (p1 : Int) (K : Int → Prop) (h : XH) : Prop :=
  (∃ J2 : Int → Prop, (∀ (x1 : Int), rg x1 → J2 x1 → ((x1 = 0 ∨ x1 = 1) ∧ K x1)) ∧ ((¬ idiv p0 100 = idiv p1 100 → (J2 0)) ∧ (¬ (¬ idiv p0 100 = idiv p1 100) → (J2 1))))
set_option maxHeartbeats 4000000 in
theorem a_X14_isLike {sc : Nat × (Nat → Int32)} {goal : XO → XH → Prop} {fs : List XF} {h : XH} (p0 : Int) (p1 : Int) {K : Int → Prop} (hd : fs.length + 0 ≤ 1000) (rp0 : rg p0) (rp1 : rg p1) (w : w_X14_isLike p0 p1 K h) (t0 : HT h) (k : ∀ (r : Int), rg r → (r = 0 ∨ r = 1) → K r → XFin xP sc goal fs (.inl (some (.int (J r)))) h) : RR sc goal fs 230 0 [some (.int (J p0)), some (.int (J p1))] [] h := by
  unfold w_X14_isLike at w
  refine r_n (pc1 := 1) [.int (J p0)] _ rfl rfl ?_
  refine r_n (pc1 := 3) [.int (J 100), .int (J p0)] _ rfl rfl ?_
  refine r_idiv (pc1 := 4) rfl rfl (rgk rfl) (by decide) ?_
  refine r_n (pc1 := 5) [.int (J p1), .int (J (idiv p0 100))] _ rfl rfl ?_
  refine r_n (pc1 := 7) [.int (J 100), .int (J p1), .int (J (idiv p0 100))] _ rfl rfl ?_
  refine r_idiv (pc1 := 8) rfl rfl (rgk rfl) (by decide) ?_
  obtain ⟨J2, j2, w⟩ := w
  have Q2 : ∀ (x1 : Int), rg x1 → J2 x1 → RR sc goal fs 230 16 [some (.int (J p0)), some (.int (J p1))] [.int (J x1)] h := by
    intro x1 rx1 z2
    have w := j2 x1 rx1 z2
    obtain ⟨c3, w⟩ := w
    exact r_retB rfl rfl rfl c3 (k _ rx1 c3 w)
  refine r_ic (t := 15) (pc1 := 11) rfl rfl rfl (rgt _) (rgt _) (fun c4 => ?_) (fun c4 => ?_)
  · have w := w.1 c4
    refine r_n (pc1 := 16) [.int (J 0)] _ rfl rfl ?_
    exact Q2  0  (rgk rfl) w
  · have w := w.2 c4
    refine r_n (pc1 := 12) [.int (J 1)] _ rfl rfl ?_
    refine r_goto (t := 16) rfl rfl ?_
    exact Q2  1  (rgk rfl) w
def w_X14_isTrial (p0 : Int) (K : Int → Prop) (h : XH) : Prop :=
  (∃ J2 : Int → Prop, (∀ (x1 : Int), rg x1 → J2 x1 → ((x1 = 0 ∨ x1 = 1) ∧ K x1)) ∧ ((irem p0 100 = 99 → (J2 0)) ∧ (¬ (irem p0 100 = 99) → (J2 1))))
set_option maxHeartbeats 4000000 in
theorem a_X14_isTrial {sc : Nat × (Nat → Int32)} {goal : XO → XH → Prop} {fs : List XF} {h : XH} (p0 : Int) {K : Int → Prop} (hd : fs.length + 0 ≤ 1000) (rp0 : rg p0) (w : w_X14_isTrial p0 K h) (t0 : HT h) (k : ∀ (r : Int), rg r → (r = 0 ∨ r = 1) → K r → XFin xP sc goal fs (.inl (some (.int (J r)))) h) : RR sc goal fs 241 0 [some (.int (J p0))] [] h := by
  unfold w_X14_isTrial at w
  refine r_n (pc1 := 1) [.int (J p0)] _ rfl rfl ?_
  refine r_n (pc1 := 3) [.int (J 100), .int (J p0)] _ rfl rfl ?_
  refine r_irem (pc1 := 4) rfl rfl (rgk rfl) (by decide) ?_
  refine r_n (pc1 := 6) [.int (J 99), .int (J (irem p0 100))] _ rfl rfl ?_
  obtain ⟨J2, j2, w⟩ := w
  have Q2 : ∀ (x1 : Int), rg x1 → J2 x1 → RR sc goal fs 241 14 [some (.int (J p0))] [.int (J x1)] h := by
    intro x1 rx1 z2
    have w := j2 x1 rx1 z2
    obtain ⟨c3, w⟩ := w
    exact r_retB rfl rfl rfl c3 (k _ rx1 c3 w)
  refine r_ic (t := 13) (pc1 := 9) rfl rfl rfl (rgt _) (rgk rfl) (fun c4 => ?_) (fun c4 => ?_)
  · have w := w.1 c4
    refine r_n (pc1 := 14) [.int (J 0)] _ rfl rfl ?_
    exact Q2  0  (rgk rfl) w
  · have w := w.2 c4
    refine r_n (pc1 := 10) [.int (J 1)] _ rfl rfl ?_
    refine r_goto (t := 14) rfl rfl ?_
    exact Q2  1  (rgk rfl) w
def w_X14_meetsSpan (p0 : Int) (p1 : Int) (p2 : Int) (p3 : Int) (K : Int → Prop) (h : XH) : Prop :=
  (∃ J2 : Int → Prop, (∀ (x1 : Int), rg x1 → J2 x1 → (∃ J3 : Prop, (J3 → ((x1 = 0 ∨ x1 = 1) ∧ K x1)) ∧ ((x1 = 0 → J3) ∧ (¬ (x1 = 0) → (w_X14_isTrial p0 (fun x5 => rg x5 → (x5 = 0 ∨ x5 = 1) → (((x5 = 0 → J3) ∧ (¬ (x5 = 0) → (((¬ p1 = 1 → (∃ J7 : Int → Prop, (∀ (x6 : Int), rg x6 → J7 x6 → ((x6 = 0 ∨ x6 = 1) ∧ K x6)) ∧ ∃ J9 : Prop, (J9 → (J7 0)) ∧ ((p1 = 0 → J9) ∧ (¬ (p1 = 0) → (w_X14_isTrial p2 (fun x10 => rg x10 → (x10 = 0 ∨ x10 = 1) → (∃ J11 : Prop, (J11 → (J7 1)) ∧ ∃ J12 : Prop, (J12 → (w_X14_isTrial p3 (fun x13 => rg x13 → (x13 = 0 ∨ x13 = 1) → (((x13 = 0 → J9) ∧ (¬ (x13 = 0) → (w_X14_isLike p0 p3 (fun x14 => rg x14 → (x14 = 0 ∨ x14 = 1) → (((x14 = 0 → J9) ∧ (¬ (x14 = 0) → J11)))) h))))) h)) ∧ ((x10 = 0 → J12) ∧ (¬ (x10 = 0) → (w_X14_isLike p0 p2 (fun x17 => rg x17 → (x17 = 0 ∨ x17 = 1) → (((¬ x17 = 0 → J11) ∧ (¬ (¬ x17 = 0) → J12)))) h))))) h))))) ∧ (¬ (¬ p1 = 1) → J3))))))) h))))) ∧ ((p1 < 0 ∨ 5 < p1 → (∃ J26 : Int → Prop, (∀ (x25 : Int), rg x25 → J26 x25 → (J2 x25)) ∧ ∃ J27 : Prop, (J27 → (J26 0)) ∧ ((p0 < p2 → J27) ∧ (¬ (p0 < p2) → (((p3 < p0 → J27) ∧ (¬ (p3 < p0) → (J26 1)))))))) ∧ (p1 = 0 → (J2 1)) ∧ (p1 = 1 → (∃ J31 : Int → Prop, (∀ (x30 : Int), rg x30 → J31 x30 → (J2 x30)) ∧ ((¬ p0 = p2 → (J31 0)) ∧ (¬ (¬ p0 = p2) → (J31 1))))) ∧ (p1 = 2 → (∃ J34 : Int → Prop, (∀ (x33 : Int), rg x33 → J34 x33 → (J2 x33)) ∧ ((p0 < p2 → (J34 0)) ∧ (¬ (p0 < p2) → (J34 1))))) ∧ (p1 = 3 → (∃ J37 : Int → Prop, (∀ (x36 : Int), rg x36 → J37 x36 → (J2 x36)) ∧ ((p2 ≤ p0 → (J37 0)) ∧ (¬ (p2 ≤ p0) → (J37 1))))) ∧ (p1 = 4 → (∃ J40 : Int → Prop, (∀ (x39 : Int), rg x39 → J40 x39 → (J2 x39)) ∧ ∃ J41 : Prop, (J41 → (J40 0)) ∧ ((p0 < p2 → J41) ∧ (¬ (p0 < p2) → (((¬ idiv p0 10000 = idiv p2 10000 → J41) ∧ (¬ (¬ idiv p0 10000 = idiv p2 10000) → (J40 1)))))))) ∧ (p1 = 5 → (∃ J45 : Int → Prop, (∀ (x44 : Int), rg x44 → J45 x44 → (J2 x44)) ∧ ∃ J46 : Prop, (J46 → (J45 0)) ∧ ((p0 < p2 → J46) ∧ (¬ (p0 < p2) → (w_X14_isLike p0 p2 (fun x47 => rg x47 → (x47 = 0 ∨ x47 = 1) → (((x47 = 0 → J46) ∧ (¬ (x47 = 0) → (J45 1))))) h)))))))
set_option maxHeartbeats 4000000 in
theorem a_X14_meetsSpan {sc : Nat × (Nat → Int32)} {goal : XO → XH → Prop} {fs : List XF} {h : XH} (p0 : Int) (p1 : Int) (p2 : Int) (p3 : Int) {K : Int → Prop} (hd : fs.length + 1 ≤ 1000) (rp0 : rg p0) (rp1 : rg p1) (rp2 : rg p2) (rp3 : rg p3) (w : w_X14_meetsSpan p0 p1 p2 p3 K h) (t0 : HT h) (k : ∀ (r : Int), rg r → (r = 0 ∨ r = 1) → K r → XFin xP sc goal fs (.inl (some (.int (J r)))) h) : RR sc goal fs 254 0 [some (.int (J p0)), some (.int (J p1)), some (.int (J p2)), some (.int (J p3)), none] [] h := by
  unfold w_X14_meetsSpan at w
  refine r_n (pc1 := 1) [.int (J p1)] _ rfl rfl ?_
  obtain ⟨J2, j2, w⟩ := w
  have Q2 : ∀ (x1 : Int), rg x1 → J2 x1 → RR sc goal fs 254 159 [some (.int (J p0)), some (.int (J p1)), some (.int (J p2)), some (.int (J p3)), some (.int (J x1))] [] h := by
    intro x1 rx1 z2
    have w := j2 x1 rx1 z2
    refine r_n (pc1 := 161) [.int (J x1)] _ rfl rfl ?_
    obtain ⟨J3, j3, w⟩ := w
    have Q3 : J3 → RR sc goal fs 254 176 [some (.int (J p0)), some (.int (J p1)), some (.int (J p2)), some (.int (J p3)), some (.int (J x1))] [] h := by
      intro z3
      have w := j3 z3
      refine r_n (pc1 := 178) [.int (J x1)] _ rfl rfl ?_
      obtain ⟨c4, w⟩ := w
      exact r_retB rfl rfl rfl c4 (k _ rx1 c4 w)
    refine r_iz (t := 176) (pc1 := 164) rfl rfl rfl rx1 (fun c23 => ?_) (fun c23 => ?_)
    · have w := w.1 c23
      exact Q3     w
    · have w := w.2 c23
      refine r_n (pc1 := 165) [.int (J p0)] _ rfl rfl ?_
      refine r_iq rfl rfl rfl rfl rfl rfl (xe_of (xa_i xa_0) rfl rfl) (r_d0 hd rfl) (a_X14_isTrial p0 (r_d1 hd rfl) rp0 w t0 (fun x5 rx5 vx5 w => ?_))
      refine r_fI (pc1 := 168) rfl ?_
      have w := w rx5 vx5
      refine r_iz (t := 176) (pc1 := 171) rfl rfl rfl rx5 (fun c22 => ?_) (fun c22 => ?_)
      · have w := w.1 c22
        exact Q3     w
      · have w := w.2 c22
        refine r_n (pc1 := 172) [.int (J p1)] _ rfl rfl ?_
        refine r_n (pc1 := 173) [.int (J 1), .int (J p1)] _ rfl rfl ?_
        refine r_ic (t := 179) (pc1 := 176) rfl rfl rfl rp1 (rgk rfl) (fun c21 => ?_) (fun c21 => ?_)
        · have w := w.1 c21
          refine r_n (pc1 := 180) [.int (J p1)] _ rfl rfl ?_
          obtain ⟨J7, j7, w⟩ := w
          have Q7 : ∀ (x6 : Int), rg x6 → J7 x6 → RR sc goal fs 254 218 [some (.int (J p0)), some (.int (J p1)), some (.int (J p2)), some (.int (J p3)), some (.int (J x1))] [.int (J x6)] h := by
            intro x6 rx6 z7
            have w := j7 x6 rx6 z7
            obtain ⟨c8, w⟩ := w
            exact r_retB rfl rfl rfl c8 (k _ rx6 c8 w)
          obtain ⟨J9, j9, w⟩ := w
          have Q9 : J9 → RR sc goal fs 254 217 [some (.int (J p0)), some (.int (J p1)), some (.int (J p2)), some (.int (J p3)), some (.int (J x1))] [] h := by
            intro z9
            have w := j9 z9
            refine r_n (pc1 := 218) [.int (J 0)] _ rfl rfl ?_
            exact Q7  0  (rgk rfl) w
          refine r_iz (t := 217) (pc1 := 183) rfl rfl rfl rp1 (fun c20 => ?_) (fun c20 => ?_)
          · have w := w.1 c20
            exact Q9     w
          · have w := w.2 c20
            refine r_n (pc1 := 184) [.int (J p2)] _ rfl rfl ?_
            refine r_iq rfl rfl rfl rfl rfl rfl (xe_of (xa_i xa_0) rfl rfl) (r_d0 hd rfl) (a_X14_isTrial p2 (r_d1 hd rfl) rp2 w t0 (fun x10 rx10 vx10 w => ?_))
            refine r_fI (pc1 := 187) rfl ?_
            have w := w rx10 vx10
            obtain ⟨J11, j11, w⟩ := w
            have Q11 : J11 → RR sc goal fs 254 213 [some (.int (J p0)), some (.int (J p1)), some (.int (J p2)), some (.int (J p3)), some (.int (J x1))] [] h := by
              intro z11
              have w := j11 z11
              refine r_n (pc1 := 214) [.int (J 1)] _ rfl rfl ?_
              refine r_goto (t := 218) rfl rfl ?_
              exact Q7  1  (rgk rfl) w
            obtain ⟨J12, j12, w⟩ := w
            have Q12 : J12 → RR sc goal fs 254 198 [some (.int (J p0)), some (.int (J p1)), some (.int (J p2)), some (.int (J p3)), some (.int (J x1))] [] h := by
              intro z12
              have w := j12 z12
              refine r_n (pc1 := 199) [.int (J p3)] _ rfl rfl ?_
              refine r_iq rfl rfl rfl rfl rfl rfl (xe_of (xa_i xa_0) rfl rfl) (r_d0 hd rfl) (a_X14_isTrial p3 (r_d1 hd rfl) rp3 w t0 (fun x13 rx13 vx13 w => ?_))
              refine r_fI (pc1 := 202) rfl ?_
              have w := w rx13 vx13
              refine r_iz (t := 217) (pc1 := 205) rfl rfl rfl rx13 (fun c16 => ?_) (fun c16 => ?_)
              · have w := w.1 c16
                exact Q9     w
              · have w := w.2 c16
                refine r_n (pc1 := 206) [.int (J p0)] _ rfl rfl ?_
                refine r_n (pc1 := 207) [.int (J p3), .int (J p0)] _ rfl rfl ?_
                refine r_iq rfl rfl rfl rfl rfl rfl (xe_of (xa_i (xa_i xa_0)) rfl rfl) (r_d0 hd rfl) (a_X14_isLike p0 p3 (r_d1 hd rfl) rp0 rp3 w t0 (fun x14 rx14 vx14 w => ?_))
                refine r_fI (pc1 := 210) rfl ?_
                have w := w rx14 vx14
                refine r_iz (t := 217) (pc1 := 213) rfl rfl rfl rx14 (fun c15 => ?_) (fun c15 => ?_)
                · have w := w.1 c15
                  exact Q9     w
                · have w := w.2 c15
                  exact Q11     w
            refine r_iz (t := 198) (pc1 := 190) rfl rfl rfl rx10 (fun c19 => ?_) (fun c19 => ?_)
            · have w := w.1 c19
              exact Q12     w
            · have w := w.2 c19
              refine r_n (pc1 := 191) [.int (J p0)] _ rfl rfl ?_
              refine r_n (pc1 := 192) [.int (J p2), .int (J p0)] _ rfl rfl ?_
              refine r_iq rfl rfl rfl rfl rfl rfl (xe_of (xa_i (xa_i xa_0)) rfl rfl) (r_d0 hd rfl) (a_X14_isLike p0 p2 (r_d1 hd rfl) rp0 rp2 w t0 (fun x17 rx17 vx17 w => ?_))
              refine r_fI (pc1 := 195) rfl ?_
              have w := w rx17 vx17
              refine r_iz (t := 213) (pc1 := 198) rfl rfl rfl rx17 (fun c18 => ?_) (fun c18 => ?_)
              · have w := w.1 c18
                exact Q11     w
              · have w := w.2 c18
                exact Q12     w
        · have w := w.2 c21
          exact Q3     w
  refine r_tsw (t0 := 142) rfl rp1 rfl rfl (fun c24 => ?_) ?_
  · have w := w.1 c24
    refine r_n (pc1 := 143) [.int (J p0)] _ rfl rfl ?_
    refine r_n (pc1 := 144) [.int (J p2), .int (J p0)] _ rfl rfl ?_
    obtain ⟨J26, j26, w⟩ := w
    have Q26 : ∀ (x25 : Int), rg x25 → J26 x25 → RR sc goal fs 254 157 [some (.int (J p0)), some (.int (J p1)), some (.int (J p2)), some (.int (J p3)), none] [.int (J x25)] h := by
      intro x25 rx25 z26
      have w := j26 x25 rx25 z26
      refine r_ist (pc1 := 159) (ls1 := [some (.int (J p0)), some (.int (J p1)), some (.int (J p2)), some (.int (J p3)), some (.int (J x25))]) rfl rfl rfl rfl ?_
      exact Q2  x25  rx25 w
    obtain ⟨J27, j27, w⟩ := w
    have Q27 : J27 → RR sc goal fs 254 156 [some (.int (J p0)), some (.int (J p1)), some (.int (J p2)), some (.int (J p3)), none] [] h := by
      intro z27
      have w := j27 z27
      refine r_n (pc1 := 157) [.int (J 0)] _ rfl rfl ?_
      exact Q26  0  (rgk rfl) w
    refine r_ic (t := 156) (pc1 := 147) rfl rfl rfl rp0 rp2 (fun c29 => ?_) (fun c29 => ?_)
    · have w := w.1 c29
      exact Q27     w
    · have w := w.2 c29
      refine r_n (pc1 := 148) [.int (J p0)] _ rfl rfl ?_
      refine r_n (pc1 := 149) [.int (J p3), .int (J p0)] _ rfl rfl ?_
      refine r_ic (t := 156) (pc1 := 152) rfl rfl rfl rp0 rp3 (fun c28 => ?_) (fun c28 => ?_)
      · have w := w.1 c28
        exact Q27     w
      · have w := w.2 c28
        refine r_n (pc1 := 153) [.int (J 1)] _ rfl rfl ?_
        refine r_goto (t := 157) rfl rfl ?_
        exact Q26  1  (rgk rfl) w
  have w := w.2
  refine ⟨fun c24 => ⟨40, rfl, ?_⟩, ⟨fun c24 => ⟨46, rfl, ?_⟩, ⟨fun c24 => ⟨61, rfl, ?_⟩, ⟨fun c24 => ⟨76, rfl, ?_⟩, ⟨fun c24 => ⟨91, rfl, ?_⟩, ⟨fun c24 => ⟨119, rfl, ?_⟩, trivial⟩⟩⟩⟩⟩⟩
  · have w := w.1 c24
    refine r_n (pc1 := 41) [.int (J 1)] _ rfl rfl ?_
    refine r_ist (pc1 := 43) (ls1 := [some (.int (J p0)), some (.int (J p1)), some (.int (J p2)), some (.int (J p3)), some (.int (J 1))]) rfl rfl rfl rfl ?_
    refine r_goto (t := 159) rfl rfl ?_
    exact Q2  1  (rgk rfl) w
  · have w := w.2.1 c24
    refine r_n (pc1 := 47) [.int (J p0)] _ rfl rfl ?_
    refine r_n (pc1 := 48) [.int (J p2), .int (J p0)] _ rfl rfl ?_
    obtain ⟨J31, j31, w⟩ := w
    have Q31 : ∀ (x30 : Int), rg x30 → J31 x30 → RR sc goal fs 254 56 [some (.int (J p0)), some (.int (J p1)), some (.int (J p2)), some (.int (J p3)), none] [.int (J x30)] h := by
      intro x30 rx30 z31
      have w := j31 x30 rx30 z31
      refine r_ist (pc1 := 58) (ls1 := [some (.int (J p0)), some (.int (J p1)), some (.int (J p2)), some (.int (J p3)), some (.int (J x30))]) rfl rfl rfl rfl ?_
      refine r_goto (t := 159) rfl rfl ?_
      exact Q2  x30  rx30 w
    refine r_ic (t := 55) (pc1 := 51) rfl rfl rfl rp0 rp2 (fun c32 => ?_) (fun c32 => ?_)
    · have w := w.1 c32
      refine r_n (pc1 := 56) [.int (J 0)] _ rfl rfl ?_
      exact Q31  0  (rgk rfl) w
    · have w := w.2 c32
      refine r_n (pc1 := 52) [.int (J 1)] _ rfl rfl ?_
      refine r_goto (t := 56) rfl rfl ?_
      exact Q31  1  (rgk rfl) w
  · have w := w.2.2.1 c24
    refine r_n (pc1 := 62) [.int (J p0)] _ rfl rfl ?_
    refine r_n (pc1 := 63) [.int (J p2), .int (J p0)] _ rfl rfl ?_
    obtain ⟨J34, j34, w⟩ := w
    have Q34 : ∀ (x33 : Int), rg x33 → J34 x33 → RR sc goal fs 254 71 [some (.int (J p0)), some (.int (J p1)), some (.int (J p2)), some (.int (J p3)), none] [.int (J x33)] h := by
      intro x33 rx33 z34
      have w := j34 x33 rx33 z34
      refine r_ist (pc1 := 73) (ls1 := [some (.int (J p0)), some (.int (J p1)), some (.int (J p2)), some (.int (J p3)), some (.int (J x33))]) rfl rfl rfl rfl ?_
      refine r_goto (t := 159) rfl rfl ?_
      exact Q2  x33  rx33 w
    refine r_ic (t := 70) (pc1 := 66) rfl rfl rfl rp0 rp2 (fun c35 => ?_) (fun c35 => ?_)
    · have w := w.1 c35
      refine r_n (pc1 := 71) [.int (J 0)] _ rfl rfl ?_
      exact Q34  0  (rgk rfl) w
    · have w := w.2 c35
      refine r_n (pc1 := 67) [.int (J 1)] _ rfl rfl ?_
      refine r_goto (t := 71) rfl rfl ?_
      exact Q34  1  (rgk rfl) w
  · have w := w.2.2.2.1 c24
    refine r_n (pc1 := 77) [.int (J p0)] _ rfl rfl ?_
    refine r_n (pc1 := 78) [.int (J p2), .int (J p0)] _ rfl rfl ?_
    obtain ⟨J37, j37, w⟩ := w
    have Q37 : ∀ (x36 : Int), rg x36 → J37 x36 → RR sc goal fs 254 86 [some (.int (J p0)), some (.int (J p1)), some (.int (J p2)), some (.int (J p3)), none] [.int (J x36)] h := by
      intro x36 rx36 z37
      have w := j37 x36 rx36 z37
      refine r_ist (pc1 := 88) (ls1 := [some (.int (J p0)), some (.int (J p1)), some (.int (J p2)), some (.int (J p3)), some (.int (J x36))]) rfl rfl rfl rfl ?_
      refine r_goto (t := 159) rfl rfl ?_
      exact Q2  x36  rx36 w
    refine r_ic (t := 85) (pc1 := 81) rfl rfl rfl rp0 rp2 (fun c38 => ?_) (fun c38 => ?_)
    · have w := w.1 c38
      refine r_n (pc1 := 86) [.int (J 0)] _ rfl rfl ?_
      exact Q37  0  (rgk rfl) w
    · have w := w.2 c38
      refine r_n (pc1 := 82) [.int (J 1)] _ rfl rfl ?_
      refine r_goto (t := 86) rfl rfl ?_
      exact Q37  1  (rgk rfl) w
  · have w := w.2.2.2.2.1 c24
    refine r_n (pc1 := 92) [.int (J p0)] _ rfl rfl ?_
    refine r_n (pc1 := 93) [.int (J p2), .int (J p0)] _ rfl rfl ?_
    obtain ⟨J40, j40, w⟩ := w
    have Q40 : ∀ (x39 : Int), rg x39 → J40 x39 → RR sc goal fs 254 114 [some (.int (J p0)), some (.int (J p1)), some (.int (J p2)), some (.int (J p3)), none] [.int (J x39)] h := by
      intro x39 rx39 z40
      have w := j40 x39 rx39 z40
      refine r_ist (pc1 := 116) (ls1 := [some (.int (J p0)), some (.int (J p1)), some (.int (J p2)), some (.int (J p3)), some (.int (J x39))]) rfl rfl rfl rfl ?_
      refine r_goto (t := 159) rfl rfl ?_
      exact Q2  x39  rx39 w
    obtain ⟨J41, j41, w⟩ := w
    have Q41 : J41 → RR sc goal fs 254 113 [some (.int (J p0)), some (.int (J p1)), some (.int (J p2)), some (.int (J p3)), none] [] h := by
      intro z41
      have w := j41 z41
      refine r_n (pc1 := 114) [.int (J 0)] _ rfl rfl ?_
      exact Q40  0  (rgk rfl) w
    refine r_ic (t := 113) (pc1 := 96) rfl rfl rfl rp0 rp2 (fun c43 => ?_) (fun c43 => ?_)
    · have w := w.1 c43
      exact Q41     w
    · have w := w.2 c43
      refine r_n (pc1 := 97) [.int (J p0)] _ rfl rfl ?_
      refine r_n (pc1 := 100) [.int (J 10000), .int (J p0)] _ rfl rfl ?_
      refine r_idiv (pc1 := 101) rfl rfl (rgk rfl) (by decide) ?_
      refine r_n (pc1 := 102) [.int (J p2), .int (J (idiv p0 10000))] _ rfl rfl ?_
      refine r_n (pc1 := 105) [.int (J 10000), .int (J p2), .int (J (idiv p0 10000))] _ rfl rfl ?_
      refine r_idiv (pc1 := 106) rfl rfl (rgk rfl) (by decide) ?_
      refine r_ic (t := 113) (pc1 := 109) rfl rfl rfl (rgt _) (rgt _) (fun c42 => ?_) (fun c42 => ?_)
      · have w := w.1 c42
        exact Q41     w
      · have w := w.2 c42
        refine r_n (pc1 := 110) [.int (J 1)] _ rfl rfl ?_
        refine r_goto (t := 114) rfl rfl ?_
        exact Q40  1  (rgk rfl) w
  · have w := w.2.2.2.2.2 c24
    refine r_n (pc1 := 120) [.int (J p0)] _ rfl rfl ?_
    refine r_n (pc1 := 121) [.int (J p2), .int (J p0)] _ rfl rfl ?_
    obtain ⟨J45, j45, w⟩ := w
    have Q45 : ∀ (x44 : Int), rg x44 → J45 x44 → RR sc goal fs 254 137 [some (.int (J p0)), some (.int (J p1)), some (.int (J p2)), some (.int (J p3)), none] [.int (J x44)] h := by
      intro x44 rx44 z45
      have w := j45 x44 rx44 z45
      refine r_ist (pc1 := 139) (ls1 := [some (.int (J p0)), some (.int (J p1)), some (.int (J p2)), some (.int (J p3)), some (.int (J x44))]) rfl rfl rfl rfl ?_
      refine r_goto (t := 159) rfl rfl ?_
      exact Q2  x44  rx44 w
    obtain ⟨J46, j46, w⟩ := w
    have Q46 : J46 → RR sc goal fs 254 136 [some (.int (J p0)), some (.int (J p1)), some (.int (J p2)), some (.int (J p3)), none] [] h := by
      intro z46
      have w := j46 z46
      refine r_n (pc1 := 137) [.int (J 0)] _ rfl rfl ?_
      exact Q45  0  (rgk rfl) w
    refine r_ic (t := 136) (pc1 := 124) rfl rfl rfl rp0 rp2 (fun c49 => ?_) (fun c49 => ?_)
    · have w := w.1 c49
      exact Q46     w
    · have w := w.2 c49
      refine r_n (pc1 := 125) [.int (J p0)] _ rfl rfl ?_
      refine r_n (pc1 := 126) [.int (J p2), .int (J p0)] _ rfl rfl ?_
      refine r_iq rfl rfl rfl rfl rfl rfl (xe_of (xa_i (xa_i xa_0)) rfl rfl) (r_d0 hd rfl) (a_X14_isLike p0 p2 (r_d1 hd rfl) rp0 rp2 w t0 (fun x47 rx47 vx47 w => ?_))
      refine r_fI (pc1 := 129) rfl ?_
      have w := w rx47 vx47
      refine r_iz (t := 136) (pc1 := 132) rfl rfl rfl rx47 (fun c48 => ?_) (fun c48 => ?_)
      · have w := w.1 c48
        exact Q46     w
      · have w := w.2 c48
        refine r_n (pc1 := 133) [.int (J 1)] _ rfl rfl ?_
        refine r_goto (t := 137) rfl rfl ?_
        exact Q45  1  (rgk rfl) w
def w_X14_meetsRange (p0 : Nat) (p1 : Int) (p2 : Int) (K : Int → Prop) (h : XH) : Prop :=
  (hk h p0 = 14 ∧ hk h (hR h p0 2) = 100 ∧ (0 ≤ p1 ∧ p1 < (hn h (hR h p0 2) : Int)) ∧ ∀ x4 : Int, x4 = wr (p1 + 1) → rg x4 → (0 ≤ x4 ∧ x4 < (hn h (hR h p0 2) : Int)) ∧ ∃ J7 : Int → Prop, (∀ (x6 : Int), rg x6 → J7 x6 → (∀ x8 : Int, x8 = hI h (hR h p0 2) p1.toNat → rg x8 → (∃ (I11 : Int → Int → Prop) (m11 : Int → Int → Nat), I11 x6 x8 ∧ ∀ (x9 : Int) (x10 : Int), rg x9 → rg x10 → I11 x9 x10 → (∀ x12 : Int, x12 = wr (p1 + 1) → rg x12 → (0 ≤ x12 ∧ x12 < (hn h (hR h p0 2) : Int)) ∧ ((hI h (hR h p0 2) x12.toNat ≤ x10 → ((x9 = 0 ∨ x9 = 1) ∧ K x9)) ∧ (¬ (hI h (hR h p0 2) x12.toNat ≤ x10) → (∃ J16 : Int → Prop, (∀ (x15 : Int), rg x15 → J16 x15 → (∀ x17 : Int, x17 = wr (x10 + 1) → rg x17 → (I11 x15 x17 ∧ m11 x15 x17 < m11 x9 x10))) ∧ ∃ J18 : Prop, (J18 → (J16 1)) ∧ ((¬ x9 = 0 → J18) ∧ (¬ (¬ x9 = 0) → (∀ x19 : Int, x19 = wr (3 * x10) → rg x19 → hk h (hR h p0 3) = 100 ∧ (0 ≤ x19 ∧ x19 < (hn h (hR h p0 3) : Int)) ∧ ∀ x22 : Int, x22 = wr ((wr (3 * x10)) + 1) → rg x22 → (0 ≤ x22 ∧ x22 < (hn h (hR h p0 3) : Int)) ∧ ∀ x24 : Int, x24 = wr ((wr (3 * x10)) + 2) → rg x24 → (0 ≤ x24 ∧ x24 < (hn h (hR h p0 3) : Int)) ∧ w_X14_meetsSpan p2 (hI h (hR h p0 3) x19.toNat) (hI h (hR h p0 3) x22.toNat) (hI h (hR h p0 3) x24.toNat) (fun x26 => rg x26 → (x26 = 0 ∨ x26 = 1) → (((x26 = 0 → (J16 0)) ∧ (¬ (x26 = 0) → J18)))) h)))))))))) ∧ ∃ J30 : Prop, (J30 → (J7 0)) ∧ ((¬ hI h (hR h p0 2) p1.toNat = hI h (hR h p0 2) x4.toNat → J30) ∧ (¬ (¬ hI h (hR h p0 2) p1.toNat = hI h (hR h p0 2) x4.toNat) → (w_X14_meetsSpan p2 0 0 0 (fun x31 => rg x31 → (x31 = 0 ∨ x31 = 1) → (((x31 = 0 → J30) ∧ (¬ (x31 = 0) → (J7 1))))) h))))
set_option maxHeartbeats 4000000 in
theorem a_X14_meetsRange {sc : Nat × (Nat → Int32)} {goal : XO → XH → Prop} {fs : List XF} {h : XH} (p0 : Nat) (p1 : Int) (p2 : Int) {K : Int → Prop} (hd : fs.length + 2 ≤ 1000) (rp1 : rg p1) (rp2 : rg p2) (w : w_X14_meetsRange p0 p1 p2 K h) (t0 : HT h) (k : ∀ (r : Int), rg r → (r = 0 ∨ r = 1) → K r → XFin xP sc goal fs (.inl (some (.int (J r)))) h) : RR sc goal fs 253 0 [some (rv p0), some (.int (J p1)), some (.int (J p2)), none, none] [] h := by
  unfold w_X14_meetsRange at w
  refine r_aldn (pc1 := 1) rfl rfl rfl ?_
  obtain ⟨c1, w⟩ := w
  refine r_gfR (pc1 := 4) rfl rfl rfl t0 c1 rfl rfl ?_
  refine r_n (pc1 := 5) [.int (J p1), rv (hR h p0 2)] _ rfl rfl ?_
  obtain ⟨c2, w⟩ := w
  obtain ⟨c3, w⟩ := w
  refine r_ial (pc1 := 6) rfl rfl t0 c2 rp1 c3.1 c3.2 ?_
  refine r_aldn (pc1 := 7) rfl rfl rfl ?_
  refine r_gfR (pc1 := 10) rfl rfl rfl t0 c1 rfl rfl ?_
  refine r_n (pc1 := 11) [.int (J p1), rv (hR h p0 2), .int (J (hI h (hR h p0 2) p1.toNat))] _ rfl rfl ?_
  refine r_n (pc1 := 12) [.int (J 1), .int (J p1), rv (hR h p0 2), .int (J (hI h (hR h p0 2) p1.toNat))] _ rfl rfl ?_
  refine r_iadd (pc1 := 13) rfl rfl ?_
  refine r_vI (rgw _) (fun x4 ex4 rx4 => ?_)
  have w := w x4 ex4 rx4
  obtain ⟨c5, w⟩ := w
  refine r_ial (pc1 := 14) rfl rfl t0 c2 rx4 c5.1 c5.2 ?_
  obtain ⟨J7, j7, w⟩ := w
  have Q7 : ∀ (x6 : Int), rg x6 → J7 x6 → RR sc goal fs 253 32 [some (rv p0), some (.int (J p1)), some (.int (J p2)), none, none] [.int (J x6)] h := by
    intro x6 rx6 z7
    have w := j7 x6 rx6 z7
    refine r_istn (pc1 := 33) (ls1 := [some (rv p0), some (.int (J p1)), some (.int (J p2)), some (.int (J x6)), none]) rfl rfl rfl rfl ?_
    refine r_aldn (pc1 := 34) rfl rfl rfl ?_
    refine r_gfR (pc1 := 37) rfl rfl rfl t0 c1 rfl rfl ?_
    refine r_n (pc1 := 38) [.int (J p1), rv (hR h p0 2)] _ rfl rfl ?_
    refine r_ial (pc1 := 39) rfl rfl t0 c2 rp1 c3.1 c3.2 ?_
    refine r_vI (rgh _ _ _) (fun x8 ex8 rx8 => ?_)
    have w := w x8 ex8 rx8
    refine r_ist (pc1 := 41) (ls1 := [some (rv p0), some (.int (J p1)), some (.int (J p2)), some (.int (J x6)), some (.int (J x8))]) rfl rfl rfl rfl ?_
    obtain ⟨I11, m11, w, y11⟩ := w
    have Q11 : ∀ (n : Nat)  (x9 : Int) (x10 : Int), rg x9 → rg x10 → m11 x9 x10 < n → I11 x9 x10 → RR sc goal fs 253 41 [some (rv p0), some (.int (J p1)), some (.int (J p2)), some (.int (J x9)), some (.int (J x10))] [] h := by
      intro n
      induction n with
      | zero => intro x9 x10 rx9 rx10 q11 _; exact absurd q11 (Nat.not_lt_zero _)
      | succ n ih11 =>
        intro x9 x10 rx9 rx10 q11 z11
        have w := y11 x9 x10 rx9 rx10 z11
        refine r_n (pc1 := 43) [.int (J x10)] _ rfl rfl ?_
        refine r_aldn (pc1 := 44) rfl rfl rfl ?_
        refine r_gfR (pc1 := 47) rfl rfl rfl t0 c1 rfl rfl ?_
        refine r_n (pc1 := 48) [.int (J p1), rv (hR h p0 2), .int (J x10)] _ rfl rfl ?_
        refine r_n (pc1 := 49) [.int (J 1), .int (J p1), rv (hR h p0 2), .int (J x10)] _ rfl rfl ?_
        refine r_iadd (pc1 := 50) rfl rfl ?_
        refine r_vI (rgw _) (fun x12 ex12 rx12 => ?_)
        have w := w x12 ex12 rx12
        obtain ⟨c13, w⟩ := w
        refine r_ial (pc1 := 51) rfl rfl t0 c2 rx12 c13.1 c13.2 ?_
        refine r_ic (t := 108) (pc1 := 54) rfl rfl rfl rx10 (rgh _ _ _) (fun c29 => ?_) (fun c29 => ?_)
        · have w := w.1 c29
          refine r_n (pc1 := 109) [.int (J x9)] _ rfl rfl ?_
          obtain ⟨c14, w⟩ := w
          exact r_retB rfl rfl rfl c14 (k _ rx9 c14 w)
        · have w := w.2 c29
          refine r_n (pc1 := 55) [.int (J x9)] _ rfl rfl ?_
          obtain ⟨J16, j16, w⟩ := w
          have Q16 : ∀ (x15 : Int), rg x15 → J16 x15 → RR sc goal fs 253 101 [some (rv p0), some (.int (J p1)), some (.int (J p2)), some (.int (J x9)), some (.int (J x10))] [.int (J x15)] h := by
            intro x15 rx15 z16
            have w := j16 x15 rx15 z16
            refine r_istn (pc1 := 102) (ls1 := [some (rv p0), some (.int (J p1)), some (.int (J p2)), some (.int (J x15)), some (.int (J x10))]) rfl rfl rfl rfl ?_
            refine r_inc (pc1 := 105) (g := fun zz => [some (rv p0), some (.int (J p1)), some (.int (J p2)), some (.int (J x15)), some (.int (J zz))]) rfl rfl rfl rfl (fun _ => rfl) (fun x17 ex17 rx17 => ?_)
            have w := w x17 ex17 rx17
            refine r_goto (t := 41) rfl rfl ?_
            exact ih11  x15 x17  rx15 rx17 (Nat.lt_of_lt_of_le w.2 (Nat.le_of_lt_succ q11)) w.1
          obtain ⟨J18, j18, w⟩ := w
          have Q18 : J18 → RR sc goal fs 253 96 [some (rv p0), some (.int (J p1)), some (.int (J p2)), some (.int (J x9)), some (.int (J x10))] [] h := by
            intro z18
            have w := j18 z18
            refine r_n (pc1 := 97) [.int (J 1)] _ rfl rfl ?_
            refine r_goto (t := 101) rfl rfl ?_
            exact Q16  1  (rgk rfl) w
          refine r_iz (t := 96) (pc1 := 58) rfl rfl rfl rx9 (fun c28 => ?_) (fun c28 => ?_)
          · have w := w.1 c28
            exact Q18     w
          · have w := w.2 c28
            refine r_n (pc1 := 59) [.int (J p2)] _ rfl rfl ?_
            refine r_aldn (pc1 := 60) rfl rfl rfl ?_
            refine r_gfR (pc1 := 63) rfl rfl rfl t0 c1 rfl rfl ?_
            refine r_n (pc1 := 64) [.int (J 3), rv (hR h p0 3), .int (J p2)] _ rfl rfl ?_
            refine r_n (pc1 := 66) [.int (J x10), .int (J 3), rv (hR h p0 3), .int (J p2)] _ rfl rfl ?_
            refine r_imul (pc1 := 67) rfl rfl ?_
            refine r_vI (rgw _) (fun x19 ex19 rx19 => ?_)
            have w := w x19 ex19 rx19
            obtain ⟨c20, w⟩ := w
            obtain ⟨c21, w⟩ := w
            refine r_ial (pc1 := 68) rfl rfl t0 c20 rx19 c21.1 c21.2 ?_
            refine r_aldn (pc1 := 69) rfl rfl rfl ?_
            refine r_gfR (pc1 := 72) rfl rfl rfl t0 c1 rfl rfl ?_
            refine r_n (pc1 := 73) [.int (J 3), rv (hR h p0 3), .int (J (hI h (hR h p0 3) x19.toNat)), .int (J p2)] _ rfl rfl ?_
            refine r_n (pc1 := 75) [.int (J x10), .int (J 3), rv (hR h p0 3), .int (J (hI h (hR h p0 3) x19.toNat)), .int (J p2)] _ rfl rfl ?_
            refine r_imul (pc1 := 76) rfl rfl ?_
            refine r_n (pc1 := 77) [.int (J 1), .int (J (wr (3 * x10))), rv (hR h p0 3), .int (J (hI h (hR h p0 3) x19.toNat)), .int (J p2)] _ rfl rfl ?_
            refine r_iadd (pc1 := 78) rfl rfl ?_
            refine r_vI (rgw _) (fun x22 ex22 rx22 => ?_)
            have w := w x22 ex22 rx22
            obtain ⟨c23, w⟩ := w
            refine r_ial (pc1 := 79) rfl rfl t0 c20 rx22 c23.1 c23.2 ?_
            refine r_aldn (pc1 := 80) rfl rfl rfl ?_
            refine r_gfR (pc1 := 83) rfl rfl rfl t0 c1 rfl rfl ?_
            refine r_n (pc1 := 84) [.int (J 3), rv (hR h p0 3), .int (J (hI h (hR h p0 3) x22.toNat)), .int (J (hI h (hR h p0 3) x19.toNat)), .int (J p2)] _ rfl rfl ?_
            refine r_n (pc1 := 86) [.int (J x10), .int (J 3), rv (hR h p0 3), .int (J (hI h (hR h p0 3) x22.toNat)), .int (J (hI h (hR h p0 3) x19.toNat)), .int (J p2)] _ rfl rfl ?_
            refine r_imul (pc1 := 87) rfl rfl ?_
            refine r_n (pc1 := 88) [.int (J 2), .int (J (wr (3 * x10))), rv (hR h p0 3), .int (J (hI h (hR h p0 3) x22.toNat)), .int (J (hI h (hR h p0 3) x19.toNat)), .int (J p2)] _ rfl rfl ?_
            refine r_iadd (pc1 := 89) rfl rfl ?_
            refine r_vI (rgw _) (fun x24 ex24 rx24 => ?_)
            have w := w x24 ex24 rx24
            obtain ⟨c25, w⟩ := w
            refine r_ial (pc1 := 90) rfl rfl t0 c20 rx24 c25.1 c25.2 ?_
            refine r_iq rfl rfl rfl rfl rfl rfl (xe_of (xa_i (xa_i (xa_i (xa_i xa_0)))) rfl rfl) (r_d0 hd rfl) (a_X14_meetsSpan p2 (hI h (hR h p0 3) x19.toNat) (hI h (hR h p0 3) x22.toNat) (hI h (hR h p0 3) x24.toNat) (r_d1 hd rfl) rp2 (rgh _ _ _) (rgh _ _ _) (rgh _ _ _) w t0 (fun x26 rx26 vx26 w => ?_))
            refine r_fI (pc1 := 93) rfl ?_
            have w := w rx26 vx26
            refine r_iz (t := 100) (pc1 := 96) rfl rfl rfl rx26 (fun c27 => ?_) (fun c27 => ?_)
            · have w := w.1 c27
              refine r_n (pc1 := 101) [.int (J 0)] _ rfl rfl ?_
              exact Q16  0  (rgk rfl) w
            · have w := w.2 c27
              exact Q18     w
    exact Q11 _  x6 x8  rx6 rx8 (Nat.lt_succ_self _) w
  obtain ⟨J30, j30, w⟩ := w
  have Q30 : J30 → RR sc goal fs 253 31 [some (rv p0), some (.int (J p1)), some (.int (J p2)), none, none] [] h := by
    intro z30
    have w := j30 z30
    refine r_n (pc1 := 32) [.int (J 0)] _ rfl rfl ?_
    exact Q7  0  (rgk rfl) w
  refine r_ic (t := 31) (pc1 := 17) rfl rfl rfl (rgh _ _ _) (rgh _ _ _) (fun c33 => ?_) (fun c33 => ?_)
  · have w := w.1 c33
    exact Q30     w
  · have w := w.2 c33
    refine r_n (pc1 := 18) [.int (J p2)] _ rfl rfl ?_
    refine r_n (pc1 := 19) [.int (J 0), .int (J p2)] _ rfl rfl ?_
    refine r_n (pc1 := 20) [.int (J 0), .int (J 0), .int (J p2)] _ rfl rfl ?_
    refine r_n (pc1 := 21) [.int (J 0), .int (J 0), .int (J 0), .int (J p2)] _ rfl rfl ?_
    refine r_iq rfl rfl rfl rfl rfl rfl (xe_of (xa_i (xa_i (xa_i (xa_i xa_0)))) rfl rfl) (r_d0 hd rfl) (a_X14_meetsSpan p2 0 0 0 (r_d1 hd rfl) rp2 (rgk rfl) (rgk rfl) (rgk rfl) w t0 (fun x31 rx31 vx31 w => ?_))
    refine r_fI (pc1 := 24) rfl ?_
    have w := w rx31 vx31
    refine r_iz (t := 31) (pc1 := 27) rfl rfl rfl rx31 (fun c32 => ?_) (fun c32 => ?_)
    · have w := w.1 c32
      exact Q30     w
    · have w := w.2 c32
      refine r_n (pc1 := 28) [.int (J 1)] _ rfl rfl ?_
      refine r_goto (t := 32) rfl rfl ?_
      exact Q7  1  (rgk rfl) w
def w_X14_meets (p0 : Nat) (p1 : Int) (K : Int → Prop) (h : XH) : Prop :=
  ((∃ (I4 : Int → Int → Prop) (m4 : Int → Int → Nat), I4 0 0 ∧ ∀ (x1 : Int) (x2 : Int), rg x1 → rg x2 → I4 x1 x2 → (hk h p0 = 14 ∧ hk h (hR h p0 1) = 100 ∧ (hn h (hR h p0 1) : Int) < 2147483648 ∧ ∃ J8 : Prop, (J8 → ((x1 = 0 ∨ x1 = 1) ∧ K x1)) ∧ (((hn h (hR h p0 1) : Int) ≤ x2 → J8) ∧ (¬ ((hn h (hR h p0 1) : Int) ≤ x2) → (((¬ x1 = 0 → J8) ∧ (¬ (¬ x1 = 0) → (w_X14_ver p1 0 (fun x10 => rg x10 → ((0 ≤ x2 ∧ x2 < (hn h (hR h p0 1) : Int)) ∧ ∃ J13 : Int → Prop, (∀ (x12 : Int), rg x12 → J13 x12 → ((∃ (I16 : Int → Int → Prop) (m16 : Int → Int → Nat), I16 x12 0 ∧ ∀ (x14 : Int) (x15 : Int), rg x14 → rg x15 → I16 x14 x15 → (w_X14_ver p1 15 (fun x17 => rg x17 → (∃ J18 : Prop, (J18 → (∀ x19 : Int, x19 = wr (x2 + 1) → rg x19 → (I4 x14 x19 ∧ m4 x14 x19 < m4 x1 x2))) ∧ ((x17 ≤ x15 → J18) ∧ (¬ (x17 ≤ x15) → (((¬ hI h p0 0 = 0 → J18) ∧ (¬ (¬ hI h p0 0 = 0) → (((¬ x14 = 0 → J18) ∧ (¬ (¬ x14 = 0) → (w_X14_ver p1 (wr (16 + (wr (2 * x15)))) (fun x20 => rg x20 → (∃ J22 : Int → Prop, (∀ (x21 : Int), rg x21 → J22 x21 → (∀ x23 : Int, x23 = wr (x15 + 1) → rg x23 → (I16 x21 x23 ∧ m16 x21 x23 < m16 x14 x15))) ∧ ∃ J24 : Prop, (J24 → (J22 0)) ∧ ((¬ x20 = hI h (hR h p0 1) x2.toNat → J24) ∧ (¬ (¬ x20 = hI h (hR h p0 1) x2.toNat) → (w_X14_ver p1 (wr ((wr (16 + (wr (2 * x15)))) + 1)) (fun x25 => rg x25 → (w_X14_meetsRange p0 x2 x25 (fun x26 => rg x26 → (x26 = 0 ∨ x26 = 1) → (((x26 = 0 → J24) ∧ (¬ (x26 = 0) → (J22 1))))) h)) h))))) h))))))))))) h)))) ∧ ∃ J32 : Prop, (J32 → (J13 0)) ∧ ((¬ x10 = hI h (hR h p0 1) x2.toNat → J32) ∧ (¬ (¬ x10 = hI h (hR h p0 1) x2.toNat) → (w_X14_ver p1 1 (fun x33 => rg x33 → (w_X14_meetsRange p0 x2 x33 (fun x34 => rg x34 → (x34 = 0 ∨ x34 = 1) → (((x34 = 0 → J32) ∧ (¬ (x34 = 0) → (J13 1))))) h)) h))))) h)))))))))
set_option maxHeartbeats 4000000 in
theorem a_X14_meets {sc : Nat × (Nat → Int32)} {goal : XO → XH → Prop} {fs : List XF} {h : XH} (p0 : Nat) (p1 : Int) {K : Int → Prop} (hd : fs.length + 3 ≤ 1000) (rp1 : rg p1) (w : w_X14_meets p0 p1 K h) (t0 : HT h) (k : ∀ (r : Int), rg r → (r = 0 ∨ r = 1) → K r → XFin xP sc goal fs (.inl (some (.int (J r)))) h) : RR sc goal fs 252 0 [some (rv 437), some (rv p0), some (.int (J p1)), none, none, none] [] h := by
  unfold w_X14_meets at w
  refine r_n (pc1 := 1) [.int (J 0)] _ rfl rfl ?_
  refine r_istn (pc1 := 2) (ls1 := [some (rv 437), some (rv p0), some (.int (J p1)), some (.int (J 0)), none, none]) rfl rfl rfl rfl ?_
  refine r_n (pc1 := 3) [.int (J 0)] _ rfl rfl ?_
  refine r_ist (pc1 := 5) (ls1 := [some (rv 437), some (rv p0), some (.int (J p1)), some (.int (J 0)), some (.int (J 0)), none]) rfl rfl rfl rfl ?_
  obtain ⟨I4, m4, w, y4⟩ := w
  have Q4 : ∀ (n : Nat) (d3 : Option Value) (x1 : Int) (x2 : Int), rg x1 → rg x2 → m4 x1 x2 < n → I4 x1 x2 → RR sc goal fs 252 5 [some (rv 437), some (rv p0), some (.int (J p1)), some (.int (J x1)), some (.int (J x2)), d3] [] h := by
    intro n
    induction n with
    | zero => intro d3 x1 x2 rx1 rx2 q4 _; exact absurd q4 (Nat.not_lt_zero _)
    | succ n ih4 =>
      intro d3 x1 x2 rx1 rx2 q4 z4
      have w := y4 x1 x2 rx1 rx2 z4
      refine r_n (pc1 := 7) [.int (J x2)] _ rfl rfl ?_
      refine r_aldn (pc1 := 8) rfl rfl rfl ?_
      obtain ⟨c5, w⟩ := w
      refine r_gfR (pc1 := 11) rfl rfl rfl t0 c5 rfl rfl ?_
      obtain ⟨c6, w⟩ := w
      obtain ⟨c7, w⟩ := w
      refine r_len (pc1 := 12) (u := 0) rfl rfl t0 c6 (by decide) (fun rc7 => ?_) c7
      obtain ⟨J8, j8, w⟩ := w
      have Q8 : J8 → RR sc goal fs 252 145 [some (rv 437), some (rv p0), some (.int (J p1)), some (.int (J x1)), some (.int (J x2)), d3] [] h := by
        intro z8
        have w := j8 z8
        refine r_n (pc1 := 146) [.int (J x1)] _ rfl rfl ?_
        obtain ⟨c9, w⟩ := w
        exact r_retB rfl rfl rfl c9 (k _ rx1 c9 w)
      refine r_ic (t := 145) (pc1 := 15) rfl rfl rfl rx2 rc7 (fun c38 => ?_) (fun c38 => ?_)
      · have w := w.1 c38
        exact Q8     w
      · have w := w.2 c38
        refine r_n (pc1 := 16) [.int (J x1)] _ rfl rfl ?_
        refine r_iz (t := 145) (pc1 := 19) rfl rfl rfl rx1 (fun c37 => ?_) (fun c37 => ?_)
        · have w := w.1 c37
          exact Q8     w
        · have w := w.2 c37
          refine r_aldn (pc1 := 20) rfl rfl rfl ?_
          refine r_n (pc1 := 21) [.int (J p1), rv 437] _ rfl rfl ?_
          refine r_n (pc1 := 22) [.int (J 0), .int (J p1), rv 437] _ rfl rfl ?_
          refine r_iv rfl rfl rfl rfl rfl rfl t0 (lyk t0 rfl) rfl (xe_of (xa_r (xa_i (xa_i xa_0))) rfl rfl) (r_d0 hd rfl) (a_X14_ver p1 0 (r_d1 hd rfl) rp1 (rgk rfl) w t0 (fun x10 rx10 w => ?_))
          refine r_fI (pc1 := 25) rfl ?_
          have w := w rx10
          refine r_aldn (pc1 := 26) rfl rfl rfl ?_
          refine r_gfR (pc1 := 29) rfl rfl rfl t0 c5 rfl rfl ?_
          refine r_n (pc1 := 31) [.int (J x2), rv (hR h p0 1), .int (J x10)] _ rfl rfl ?_
          obtain ⟨c11, w⟩ := w
          refine r_ial (pc1 := 32) rfl rfl t0 c6 rx2 c11.1 c11.2 ?_
          obtain ⟨J13, j13, w⟩ := w
          have Q13 : ∀ (x12 : Int), rg x12 → J13 x12 → RR sc goal fs 252 55 [some (rv 437), some (rv p0), some (.int (J p1)), some (.int (J x1)), some (.int (J x2)), d3] [.int (J x12)] h := by
            intro x12 rx12 z13
            have w := j13 x12 rx12 z13
            refine r_istn (pc1 := 56) (ls1 := [some (rv 437), some (rv p0), some (.int (J p1)), some (.int (J x12)), some (.int (J x2)), d3]) rfl rfl rfl rfl ?_
            refine r_n (pc1 := 57) [.int (J 0)] _ rfl rfl ?_
            refine r_ist (pc1 := 59) (ls1 := [some (rv 437), some (rv p0), some (.int (J p1)), some (.int (J x12)), some (.int (J x2)), some (.int (J 0))]) rfl rfl rfl rfl ?_
            obtain ⟨I16, m16, w, y16⟩ := w
            have Q16 : ∀ (n : Nat)  (x14 : Int) (x15 : Int), rg x14 → rg x15 → m16 x14 x15 < n → I16 x14 x15 → RR sc goal fs 252 59 [some (rv 437), some (rv p0), some (.int (J p1)), some (.int (J x14)), some (.int (J x2)), some (.int (J x15))] [] h := by
              intro n
              induction n with
              | zero => intro x14 x15 rx14 rx15 q16 _; exact absurd q16 (Nat.not_lt_zero _)
              | succ n ih16 =>
                intro x14 x15 rx14 rx15 q16 z16
                have w := y16 x14 x15 rx14 rx15 z16
                refine r_n (pc1 := 61) [.int (J x15)] _ rfl rfl ?_
                refine r_aldn (pc1 := 62) rfl rfl rfl ?_
                refine r_n (pc1 := 63) [.int (J p1), rv 437, .int (J x15)] _ rfl rfl ?_
                refine r_n (pc1 := 65) [.int (J 15), .int (J p1), rv 437, .int (J x15)] _ rfl rfl ?_
                refine r_iv rfl rfl rfl rfl rfl rfl t0 (lyk t0 rfl) rfl (xe_of (xa_r (xa_i (xa_i xa_0))) rfl rfl) (r_d0 hd rfl) (a_X14_ver p1 15 (r_d1 hd rfl) rp1 (rgk rfl) w t0 (fun x17 rx17 w => ?_))
                refine r_fI (pc1 := 68) rfl ?_
                have w := w rx17
                obtain ⟨J18, j18, w⟩ := w
                have Q18 : J18 → RR sc goal fs 252 139 [some (rv 437), some (rv p0), some (.int (J p1)), some (.int (J x14)), some (.int (J x2)), some (.int (J x15))] [] h := by
                  intro z18
                  have w := j18 z18
                  refine r_inc (pc1 := 142) (g := fun zz => [some (rv 437), some (rv p0), some (.int (J p1)), some (.int (J x14)), some (.int (J zz)), some (.int (J x15))]) rfl rfl rfl rfl (fun _ => rfl) (fun x19 ex19 rx19 => ?_)
                  have w := w x19 ex19 rx19
                  refine r_goto (t := 5) rfl rfl ?_
                  exact ih4 _ x14 x19  rx14 rx19 (Nat.lt_of_lt_of_le w.2 (Nat.le_of_lt_succ q4)) w.1
                refine r_ic (t := 139) (pc1 := 71) rfl rfl rfl rx15 rx17 (fun c31 => ?_) (fun c31 => ?_)
                · have w := w.1 c31
                  exact Q18     w
                · have w := w.2 c31
                  refine r_aldn (pc1 := 72) rfl rfl rfl ?_
                  refine r_gfI (pc1 := 75) rfl rfl rfl t0 c5 rfl rfl ?_
                  refine r_iz (t := 139) (pc1 := 78) rfl rfl rfl (rgh _ _ _) (fun c30 => ?_) (fun c30 => ?_)
                  · have w := w.1 c30
                    exact Q18     w
                  · have w := w.2 c30
                    refine r_n (pc1 := 79) [.int (J x14)] _ rfl rfl ?_
                    refine r_iz (t := 139) (pc1 := 82) rfl rfl rfl rx14 (fun c29 => ?_) (fun c29 => ?_)
                    · have w := w.1 c29
                      exact Q18     w
                    · have w := w.2 c29
                      refine r_aldn (pc1 := 83) rfl rfl rfl ?_
                      refine r_n (pc1 := 84) [.int (J p1), rv 437] _ rfl rfl ?_
                      refine r_n (pc1 := 86) [.int (J 16), .int (J p1), rv 437] _ rfl rfl ?_
                      refine r_n (pc1 := 87) [.int (J 2), .int (J 16), .int (J p1), rv 437] _ rfl rfl ?_
                      refine r_n (pc1 := 89) [.int (J x15), .int (J 2), .int (J 16), .int (J p1), rv 437] _ rfl rfl ?_
                      refine r_imul (pc1 := 90) rfl rfl ?_
                      refine r_iadd (pc1 := 91) rfl rfl ?_
                      refine r_iv rfl rfl rfl rfl rfl rfl t0 (lyk t0 rfl) rfl (xe_of (xa_r (xa_i (xa_i xa_0))) rfl rfl) (r_d0 hd rfl) (a_X14_ver p1 (wr (16 + (wr (2 * x15)))) (r_d1 hd rfl) rp1 (rgw _) w t0 (fun x20 rx20 w => ?_))
                      refine r_fI (pc1 := 94) rfl ?_
                      have w := w rx20
                      refine r_aldn (pc1 := 95) rfl rfl rfl ?_
                      refine r_gfR (pc1 := 98) rfl rfl rfl t0 c5 rfl rfl ?_
                      refine r_n (pc1 := 100) [.int (J x2), rv (hR h p0 1), .int (J x20)] _ rfl rfl ?_
                      refine r_ial (pc1 := 101) rfl rfl t0 c6 rx2 c11.1 c11.2 ?_
                      obtain ⟨J22, j22, w⟩ := w
                      have Q22 : ∀ (x21 : Int), rg x21 → J22 x21 → RR sc goal fs 252 132 [some (rv 437), some (rv p0), some (.int (J p1)), some (.int (J x14)), some (.int (J x2)), some (.int (J x15))] [.int (J x21)] h := by
                        intro x21 rx21 z22
                        have w := j22 x21 rx21 z22
                        refine r_istn (pc1 := 133) (ls1 := [some (rv 437), some (rv p0), some (.int (J p1)), some (.int (J x21)), some (.int (J x2)), some (.int (J x15))]) rfl rfl rfl rfl ?_
                        refine r_inc (pc1 := 136) (g := fun zz => [some (rv 437), some (rv p0), some (.int (J p1)), some (.int (J x21)), some (.int (J x2)), some (.int (J zz))]) rfl rfl rfl rfl (fun _ => rfl) (fun x23 ex23 rx23 => ?_)
                        have w := w x23 ex23 rx23
                        refine r_goto (t := 59) rfl rfl ?_
                        exact ih16  x21 x23  rx21 rx23 (Nat.lt_of_lt_of_le w.2 (Nat.le_of_lt_succ q16)) w.1
                      obtain ⟨J24, j24, w⟩ := w
                      have Q24 : J24 → RR sc goal fs 252 131 [some (rv 437), some (rv p0), some (.int (J p1)), some (.int (J x14)), some (.int (J x2)), some (.int (J x15))] [] h := by
                        intro z24
                        have w := j24 z24
                        refine r_n (pc1 := 132) [.int (J 0)] _ rfl rfl ?_
                        exact Q22  0  (rgk rfl) w
                      refine r_ic (t := 131) (pc1 := 104) rfl rfl rfl rx20 (rgh _ _ _) (fun c28 => ?_) (fun c28 => ?_)
                      · have w := w.1 c28
                        exact Q24     w
                      · have w := w.2 c28
                        refine r_aldn (pc1 := 105) rfl rfl rfl ?_
                        refine r_n (pc1 := 107) [.int (J x2), rv p0] _ rfl rfl ?_
                        refine r_aldn (pc1 := 108) rfl rfl rfl ?_
                        refine r_n (pc1 := 109) [.int (J p1), rv 437, .int (J x2), rv p0] _ rfl rfl ?_
                        refine r_n (pc1 := 111) [.int (J 16), .int (J p1), rv 437, .int (J x2), rv p0] _ rfl rfl ?_
                        refine r_n (pc1 := 112) [.int (J 2), .int (J 16), .int (J p1), rv 437, .int (J x2), rv p0] _ rfl rfl ?_
                        refine r_n (pc1 := 114) [.int (J x15), .int (J 2), .int (J 16), .int (J p1), rv 437, .int (J x2), rv p0] _ rfl rfl ?_
                        refine r_imul (pc1 := 115) rfl rfl ?_
                        refine r_iadd (pc1 := 116) rfl rfl ?_
                        refine r_n (pc1 := 117) [.int (J 1), .int (J (wr (16 + (wr (2 * x15))))), .int (J p1), rv 437, .int (J x2), rv p0] _ rfl rfl ?_
                        refine r_iadd (pc1 := 118) rfl rfl ?_
                        refine r_iv rfl rfl rfl rfl rfl rfl t0 (lyk t0 rfl) rfl (xe_of (xa_r (xa_i (xa_i xa_0))) rfl rfl) (r_d0 hd rfl) (a_X14_ver p1 (wr ((wr (16 + (wr (2 * x15)))) + 1)) (r_d1 hd rfl) rp1 (rgw _) w t0 (fun x25 rx25 w => ?_))
                        refine r_fI (pc1 := 121) rfl ?_
                        have w := w rx25
                        refine r_iq rfl rfl rfl rfl rfl rfl (xe_of (xa_r (xa_i (xa_i xa_0))) rfl rfl) (r_d0 hd rfl) (a_X14_meetsRange p0 x2 x25 (r_d1 hd rfl) rx2 rx25 w t0 (fun x26 rx26 vx26 w => ?_))
                        refine r_fI (pc1 := 124) rfl ?_
                        have w := w rx26 vx26
                        refine r_iz (t := 131) (pc1 := 127) rfl rfl rfl rx26 (fun c27 => ?_) (fun c27 => ?_)
                        · have w := w.1 c27
                          exact Q24     w
                        · have w := w.2 c27
                          refine r_n (pc1 := 128) [.int (J 1)] _ rfl rfl ?_
                          refine r_goto (t := 132) rfl rfl ?_
                          exact Q22  1  (rgk rfl) w
            exact Q16 _  x12 0  rx12 (rgk rfl) (Nat.lt_succ_self _) w
          obtain ⟨J32, j32, w⟩ := w
          have Q32 : J32 → RR sc goal fs 252 54 [some (rv 437), some (rv p0), some (.int (J p1)), some (.int (J x1)), some (.int (J x2)), d3] [] h := by
            intro z32
            have w := j32 z32
            refine r_n (pc1 := 55) [.int (J 0)] _ rfl rfl ?_
            exact Q13  0  (rgk rfl) w
          refine r_ic (t := 54) (pc1 := 35) rfl rfl rfl rx10 (rgh _ _ _) (fun c36 => ?_) (fun c36 => ?_)
          · have w := w.1 c36
            exact Q32     w
          · have w := w.2 c36
            refine r_aldn (pc1 := 36) rfl rfl rfl ?_
            refine r_n (pc1 := 38) [.int (J x2), rv p0] _ rfl rfl ?_
            refine r_aldn (pc1 := 39) rfl rfl rfl ?_
            refine r_n (pc1 := 40) [.int (J p1), rv 437, .int (J x2), rv p0] _ rfl rfl ?_
            refine r_n (pc1 := 41) [.int (J 1), .int (J p1), rv 437, .int (J x2), rv p0] _ rfl rfl ?_
            refine r_iv rfl rfl rfl rfl rfl rfl t0 (lyk t0 rfl) rfl (xe_of (xa_r (xa_i (xa_i xa_0))) rfl rfl) (r_d0 hd rfl) (a_X14_ver p1 1 (r_d1 hd rfl) rp1 (rgk rfl) w t0 (fun x33 rx33 w => ?_))
            refine r_fI (pc1 := 44) rfl ?_
            have w := w rx33
            refine r_iq rfl rfl rfl rfl rfl rfl (xe_of (xa_r (xa_i (xa_i xa_0))) rfl rfl) (r_d0 hd rfl) (a_X14_meetsRange p0 x2 x33 (r_d1 hd rfl) rx2 rx33 w t0 (fun x34 rx34 vx34 w => ?_))
            refine r_fI (pc1 := 47) rfl ?_
            have w := w rx34 vx34
            refine r_iz (t := 54) (pc1 := 50) rfl rfl rfl rx34 (fun c35 => ?_) (fun c35 => ?_)
            · have w := w.1 c35
              exact Q32     w
            · have w := w.2 c35
              refine r_n (pc1 := 51) [.int (J 1)] _ rfl rfl ?_
              refine r_goto (t := 55) rfl rfl ?_
              exact Q13  1  (rgk rfl) w
  exact Q4 _ _ 0 0  (rgk rfl) (rgk rfl) (Nat.lt_succ_self _) w
def w_X14_bit (p0 : Int) (K : BitVec 64 → Prop) (h : XH) : Prop :=
  (K (lshl (1#64) p0))
set_option maxHeartbeats 4000000 in
theorem a_X14_bit {sc : Nat × (Nat → Int32)} {goal : XO → XH → Prop} {fs : List XF} {h : XH} (p0 : Int) {K : BitVec 64 → Prop} (hd : fs.length + 0 ≤ 1000) (rp0 : rg p0) (w : w_X14_bit p0 K h) (t0 : HT h) (k : ∀ (r : BitVec 64), K r → XFin xP sc goal fs (.inl (some (.long (G r)))) h) : RR sc goal fs 177 0 [some (.int (J p0))] [] h := by
  unfold w_X14_bit at w
  refine r_n (pc1 := 1) [.long (G (1#64))] _ rfl rfl ?_
  refine r_n (pc1 := 2) [.int (J p0), .long (G (1#64))] _ rfl rfl ?_
  refine r_lshl (pc1 := 3) rfl rfl ?_
  exact r_retL rfl rfl rfl (k _ w)
def w_X14_add (p0 : Int) (p1 : Int) (p2 : Int) (p3 : BitVec 64) (p4 : BitVec 64) (K : XH → Prop) (h : XH) : Prop :=
  (hk h (hR h 437 24) = 101 ∧ (hn h (hR h 437 24) : Int) < 2147483648 ∧ ∃ J9 : XH → Prop, (∀ (h8 : XH), HT h8 → HX h h8 → J9 h8 → (hk h8 (hR h8 437 24) = 101 ∧ (0 ≤ hI h8 437 29 ∧ hI h8 437 29 < (hn h8 (hR h8 437 24) : Int)) ∧ ∀ h12 : XH, h12 = sL h8 (hR h8 437 24) (hI h8 437 29).toNat p3 → HT h12 → HX h8 h12 → hk h12 (hR h12 437 25) = 101 ∧ (0 ≤ hI h12 437 29 ∧ hI h12 437 29 < (hn h12 (hR h12 437 25) : Int)) ∧ ∀ h15 : XH, h15 = sL h12 (hR h12 437 25) (hI h12 437 29).toNat p4 → HT h15 → HX h12 h15 → hk h15 (hR h15 437 26) = 100 ∧ (0 ≤ hI h15 437 29 ∧ hI h15 437 29 < (hn h15 (hR h15 437 26) : Int)) ∧ ∀ h18 : XH, h18 = sI h15 (hR h15 437 26) (hI h15 437 29).toNat p0 → HT h18 → HX h15 h18 → hk h18 (hR h18 437 27) = 100 ∧ (0 ≤ hI h18 437 29 ∧ hI h18 437 29 < (hn h18 (hR h18 437 27) : Int)) ∧ ∀ h21 : XH, h21 = sI h18 (hR h18 437 27) (hI h18 437 29).toNat p1 → HT h21 → HX h18 h21 → hk h21 (hR h21 437 28) = 100 ∧ (0 ≤ hI h21 437 29 ∧ hI h21 437 29 < (hn h21 (hR h21 437 28) : Int)) ∧ ∀ h24 : XH, h24 = sI h21 (hR h21 437 28) (hI h21 437 29).toNat p2 → HT h24 → HX h21 h24 → ∀ h25 : XH, h25 = sI h24 437 29 (wr ((hI h24 437 29) + 1)) → HT h25 → HX h24 h25 → K h25)) ∧ ((¬ hI h 437 29 = (hn h (hR h 437 24) : Int) → J9 h) ∧ (¬ (¬ hI h 437 29 = (hn h (hR h 437 24) : Int)) → ((0 ≤ wr (2 * (hI h 437 29)) ∧ wr (2 * (hI h 437 29)) < 67108864) ∧ ∀ (a27 : Nat) (h28 : XH), a27 = h.length → h28 = nA h 1 (wr (2 * (hI h 437 29))).toNat → HT h28 → HX h h28 → hk h28 a27 = 101 → hn h28 a27 = (wr (2 * (hI h 437 29))).toNat → (0 ≤ wr (2 * (hI h28 437 29)) ∧ wr (2 * (hI h28 437 29)) < 67108864) ∧ ∀ (a30 : Nat) (h31 : XH), a30 = h28.length → h31 = nA h28 1 (wr (2 * (hI h28 437 29))).toNat → HT h31 → HX h28 h31 → hk h31 a30 = 101 → hn h31 a30 = (wr (2 * (hI h28 437 29))).toNat → (0 ≤ wr (2 * (hI h31 437 29)) ∧ wr (2 * (hI h31 437 29)) < 67108864) ∧ ∀ (a33 : Nat) (h34 : XH), a33 = h31.length → h34 = nA h31 0 (wr (2 * (hI h31 437 29))).toNat → HT h34 → HX h31 h34 → hk h34 a33 = 100 → hn h34 a33 = (wr (2 * (hI h31 437 29))).toNat → (0 ≤ wr (2 * (hI h34 437 29)) ∧ wr (2 * (hI h34 437 29)) < 67108864) ∧ ∀ (a36 : Nat) (h37 : XH), a36 = h34.length → h37 = nA h34 0 (wr (2 * (hI h34 437 29))).toNat → HT h37 → HX h34 h37 → hk h37 a36 = 100 → hn h37 a36 = (wr (2 * (hI h34 437 29))).toNat → (0 ≤ wr (2 * (hI h37 437 29)) ∧ wr (2 * (hI h37 437 29)) < 67108864) ∧ ∀ (a39 : Nat) (h40 : XH), a39 = h37.length → h40 = nA h37 0 (wr (2 * (hI h37 437 29))).toNat → HT h40 → HX h37 h40 → hk h40 a39 = 100 → hn h40 a39 = (wr (2 * (hI h37 437 29))).toNat → hk h40 (hR h40 437 24) = 101 ∧ (¬ hR h40 437 24 = a27 ∧ (0 : Int) ≤ 0 ∧ (0 : Int) ≤ 0 ∧ (0 : Int) ≤ hI h40 437 29 ∧ ((0 + (hI h40 437 29) : Int)) ≤ (hn h40 (hR h40 437 24) : Int) ∧ ((0 + (hI h40 437 29) : Int)) ≤ (hn h40 a27 : Int)) ∧ ∀ h43 : XH, h43 = cA h40 (hR h40 437 24) 0 a27 0 (hI h40 437 29).toNat → HT h43 → HX h40 h43 → hk h43 (hR h43 437 25) = 101 ∧ (¬ hR h43 437 25 = a30 ∧ (0 : Int) ≤ 0 ∧ (0 : Int) ≤ 0 ∧ (0 : Int) ≤ hI h43 437 29 ∧ ((0 + (hI h43 437 29) : Int)) ≤ (hn h43 (hR h43 437 25) : Int) ∧ ((0 + (hI h43 437 29) : Int)) ≤ (hn h43 a30 : Int)) ∧ ∀ h46 : XH, h46 = cA h43 (hR h43 437 25) 0 a30 0 (hI h43 437 29).toNat → HT h46 → HX h43 h46 → hk h46 (hR h46 437 26) = 100 ∧ (¬ hR h46 437 26 = a33 ∧ (0 : Int) ≤ 0 ∧ (0 : Int) ≤ 0 ∧ (0 : Int) ≤ hI h46 437 29 ∧ ((0 + (hI h46 437 29) : Int)) ≤ (hn h46 (hR h46 437 26) : Int) ∧ ((0 + (hI h46 437 29) : Int)) ≤ (hn h46 a33 : Int)) ∧ ∀ h49 : XH, h49 = cA h46 (hR h46 437 26) 0 a33 0 (hI h46 437 29).toNat → HT h49 → HX h46 h49 → hk h49 (hR h49 437 27) = 100 ∧ (¬ hR h49 437 27 = a36 ∧ (0 : Int) ≤ 0 ∧ (0 : Int) ≤ 0 ∧ (0 : Int) ≤ hI h49 437 29 ∧ ((0 + (hI h49 437 29) : Int)) ≤ (hn h49 (hR h49 437 27) : Int) ∧ ((0 + (hI h49 437 29) : Int)) ≤ (hn h49 a36 : Int)) ∧ ∀ h52 : XH, h52 = cA h49 (hR h49 437 27) 0 a36 0 (hI h49 437 29).toNat → HT h52 → HX h49 h52 → hk h52 (hR h52 437 28) = 100 ∧ (¬ hR h52 437 28 = a39 ∧ (0 : Int) ≤ 0 ∧ (0 : Int) ≤ 0 ∧ (0 : Int) ≤ hI h52 437 29 ∧ ((0 + (hI h52 437 29) : Int)) ≤ (hn h52 (hR h52 437 28) : Int) ∧ ((0 + (hI h52 437 29) : Int)) ≤ (hn h52 a39 : Int)) ∧ ∀ h55 : XH, h55 = cA h52 (hR h52 437 28) 0 a39 0 (hI h52 437 29).toNat → HT h55 → HX h52 h55 → ∀ h56 : XH, h56 = sR h55 437 24 a27 → HT h56 → HX h55 h56 → ∀ h57 : XH, h57 = sR h56 437 25 a30 → HT h57 → HX h56 h57 → ∀ h58 : XH, h58 = sR h57 437 26 a33 → HT h58 → HX h57 h58 → ∀ h59 : XH, h59 = sR h58 437 27 a36 → HT h59 → HX h58 h59 → ∀ h60 : XH, h60 = sR h59 437 28 a39 → HT h60 → HX h59 h60 → J9 h60))))
set_option maxHeartbeats 4000000 in
theorem a_X14_add {sc : Nat × (Nat → Int32)} {goal : XO → XH → Prop} {fs : List XF} {h : XH} (p0 : Int) (p1 : Int) (p2 : Int) (p3 : BitVec 64) (p4 : BitVec 64) {K : XH → Prop} (hd : fs.length + 0 ≤ 1000) (rp0 : rg p0) (rp1 : rg p1) (rp2 : rg p2) (w : w_X14_add p0 p1 p2 p3 p4 K h) (t0 : HT h) (k : ∀ (h1 : XH), HT h1 → HX h h1 → K h1 → XFin xP sc goal fs (.inl none) h1) : RR sc goal fs 167 0 [some (rv 437), some (.int (J p0)), some (.int (J p1)), some (.int (J p2)), some (.long (G p3)), none, some (.long (G p4)), none, none, none, none, none, none] [] h := by
  unfold w_X14_add at w
  refine r_aldn (pc1 := 1) rfl rfl rfl ?_
  refine r_gfI (pc1 := 4) rfl rfl rfl t0 (lyk t0 rfl) rfl rfl ?_
  refine r_aldn (pc1 := 5) rfl rfl rfl ?_
  refine r_gfR (pc1 := 8) rfl rfl rfl t0 (lyk t0 rfl) rfl rfl ?_
  obtain ⟨c1, w⟩ := w
  obtain ⟨c2, w⟩ := w
  refine r_len (pc1 := 9) (u := 1) rfl rfl t0 c1 (by decide) (fun rc2 => ?_) c2
  obtain ⟨J9, j9, w⟩ := w
  have Q9 : ∀ (d3 : Option Value) (d4 : Option Value) (d5 : Option Value) (d6 : Option Value) (d7 : Option Value) (h8 : XH), HT h8 → HX h h8 → J9 h8 → RR sc goal fs 167 167 [some (rv 437), some (.int (J p0)), some (.int (J p1)), some (.int (J p2)), some (.long (G p3)), none, some (.long (G p4)), none, d3, d4, d5, d6, d7] [] h8 := by
    intro d3 d4 d5 d6 d7 h8 t8 s8 z9
    have w := j9 h8 t8 s8 z9
    refine r_aldn (pc1 := 168) rfl rfl rfl ?_
    refine r_gfR (pc1 := 171) rfl rfl rfl t8 (lyk t8 rfl) rfl rfl ?_
    refine r_aldn (pc1 := 172) rfl rfl rfl ?_
    refine r_gfI (pc1 := 175) rfl rfl rfl t8 (lyk t8 rfl) rfl rfl ?_
    refine r_n (pc1 := 177) [.long (G p3), .int (J (hI h8 437 29)), rv (hR h8 437 24)] _ rfl rfl ?_
    obtain ⟨c10, w⟩ := w
    obtain ⟨c11, w⟩ := w
    refine r_last (pc1 := 178) rfl rfl t8 c10 (rgh _ _ _) c11.1 c11.2 (fun h12 eh12 t12 u12 => ?_)
    have w := w h12 eh12 t12 u12
    have s12 := HX_trans s8 u12
    refine r_aldn (pc1 := 179) rfl rfl rfl ?_
    refine r_gfR (pc1 := 182) rfl rfl rfl t12 (lyk t12 rfl) rfl rfl ?_
    refine r_aldn (pc1 := 183) rfl rfl rfl ?_
    refine r_gfI (pc1 := 186) rfl rfl rfl t12 (lyk t12 rfl) rfl rfl ?_
    refine r_n (pc1 := 188) [.long (G p4), .int (J (hI h12 437 29)), rv (hR h12 437 25)] _ rfl rfl ?_
    obtain ⟨c13, w⟩ := w
    obtain ⟨c14, w⟩ := w
    refine r_last (pc1 := 189) rfl rfl t12 c13 (rgh _ _ _) c14.1 c14.2 (fun h15 eh15 t15 u15 => ?_)
    have w := w h15 eh15 t15 u15
    have s15 := HX_trans s12 u15
    refine r_aldn (pc1 := 190) rfl rfl rfl ?_
    refine r_gfR (pc1 := 193) rfl rfl rfl t15 (lyk t15 rfl) rfl rfl ?_
    refine r_aldn (pc1 := 194) rfl rfl rfl ?_
    refine r_gfI (pc1 := 197) rfl rfl rfl t15 (lyk t15 rfl) rfl rfl ?_
    refine r_n (pc1 := 198) [.int (J p0), .int (J (hI h15 437 29)), rv (hR h15 437 26)] _ rfl rfl ?_
    obtain ⟨c16, w⟩ := w
    obtain ⟨c17, w⟩ := w
    refine r_iast (pc1 := 199) rfl rfl t15 c16 (rgh _ _ _) c17.1 c17.2 (fun h18 eh18 t18 u18 => ?_)
    have w := w h18 eh18 t18 u18
    have s18 := HX_trans s15 u18
    refine r_aldn (pc1 := 200) rfl rfl rfl ?_
    refine r_gfR (pc1 := 203) rfl rfl rfl t18 (lyk t18 rfl) rfl rfl ?_
    refine r_aldn (pc1 := 204) rfl rfl rfl ?_
    refine r_gfI (pc1 := 207) rfl rfl rfl t18 (lyk t18 rfl) rfl rfl ?_
    refine r_n (pc1 := 208) [.int (J p1), .int (J (hI h18 437 29)), rv (hR h18 437 27)] _ rfl rfl ?_
    obtain ⟨c19, w⟩ := w
    obtain ⟨c20, w⟩ := w
    refine r_iast (pc1 := 209) rfl rfl t18 c19 (rgh _ _ _) c20.1 c20.2 (fun h21 eh21 t21 u21 => ?_)
    have w := w h21 eh21 t21 u21
    have s21 := HX_trans s18 u21
    refine r_aldn (pc1 := 210) rfl rfl rfl ?_
    refine r_gfR (pc1 := 213) rfl rfl rfl t21 (lyk t21 rfl) rfl rfl ?_
    refine r_aldn (pc1 := 214) rfl rfl rfl ?_
    refine r_gfI (pc1 := 217) rfl rfl rfl t21 (lyk t21 rfl) rfl rfl ?_
    refine r_n (pc1 := 218) [.int (J p2), .int (J (hI h21 437 29)), rv (hR h21 437 28)] _ rfl rfl ?_
    obtain ⟨c22, w⟩ := w
    obtain ⟨c23, w⟩ := w
    refine r_iast (pc1 := 219) rfl rfl t21 c22 (rgh _ _ _) c23.1 c23.2 (fun h24 eh24 t24 u24 => ?_)
    have w := w h24 eh24 t24 u24
    have s24 := HX_trans s21 u24
    refine r_aldn (pc1 := 220) rfl rfl rfl ?_
    refine r_dupR (pc1 := 221) rfl rfl ?_
    refine r_gfI (pc1 := 224) rfl rfl rfl t24 (lyk t24 rfl) rfl rfl ?_
    refine r_n (pc1 := 225) [.int (J 1), .int (J (hI h24 437 29)), rv 437] _ rfl rfl ?_
    refine r_iadd (pc1 := 226) rfl rfl ?_
    refine r_pfI (pc1 := 229) rfl rfl rfl t24 (lyk t24 rfl) rfl rfl rfl (fun h25 eh25 t25 u25 => ?_)
    have w := w h25 eh25 t25 u25
    have s25 := HX_trans s24 u25
    exact r_retV rfl rfl rfl (k _ t25 s25 w)
  refine r_ic (t := 167) (pc1 := 12) rfl rfl rfl (rgh _ _ _) rc2 (fun c61 => ?_) (fun c61 => ?_)
  · have w := w.1 c61
    exact Q9 _ _ _ _ _  h t0 (HX_refl h)  w
  · have w := w.2 c61
    refine r_n (pc1 := 13) [.int (J 2)] _ rfl rfl ?_
    refine r_aldn (pc1 := 14) rfl rfl rfl ?_
    refine r_gfI (pc1 := 17) rfl rfl rfl t0 (lyk t0 rfl) rfl rfl ?_
    refine r_imul (pc1 := 18) rfl rfl ?_
    obtain ⟨c26, w⟩ := w
    refine r_na (pc1 := 20) (u := 1) (m := 2) rfl rfl rfl t0 rfl (rgw _) c26.1 c26.2 (fun a27 h28 ea27 eh28 t28 u28 ca27 la27 => ?_)
    have w := w a27 h28 ea27 eh28 t28 u28 ca27 la27
    have s28 := HX_trans (HX_refl h) u28
    refine r_ast (pc1 := 22) (ls1 := [some (rv 437), some (.int (J p0)), some (.int (J p1)), some (.int (J p2)), some (.long (G p3)), none, some (.long (G p4)), none, some (rv a27), none, none, none, none]) rfl rfl rfl rfl ?_
    refine r_n (pc1 := 23) [.int (J 2)] _ rfl rfl ?_
    refine r_aldn (pc1 := 24) rfl rfl rfl ?_
    refine r_gfI (pc1 := 27) rfl rfl rfl t28 (lyk t28 rfl) rfl rfl ?_
    refine r_imul (pc1 := 28) rfl rfl ?_
    obtain ⟨c29, w⟩ := w
    refine r_na (pc1 := 30) (u := 1) (m := 2) rfl rfl rfl t28 rfl (rgw _) c29.1 c29.2 (fun a30 h31 ea30 eh31 t31 u31 ca30 la30 => ?_)
    have w := w a30 h31 ea30 eh31 t31 u31 ca30 la30
    have s31 := HX_trans s28 u31
    refine r_ast (pc1 := 32) (ls1 := [some (rv 437), some (.int (J p0)), some (.int (J p1)), some (.int (J p2)), some (.long (G p3)), none, some (.long (G p4)), none, some (rv a27), some (rv a30), none, none, none]) rfl rfl rfl (xput1_rv rfl rfl) ?_
    refine r_n (pc1 := 33) [.int (J 2)] _ rfl rfl ?_
    refine r_aldn (pc1 := 34) rfl rfl rfl ?_
    refine r_gfI (pc1 := 37) rfl rfl rfl t31 (lyk t31 rfl) rfl rfl ?_
    refine r_imul (pc1 := 38) rfl rfl ?_
    obtain ⟨c32, w⟩ := w
    refine r_na (pc1 := 40) (u := 0) (m := 2) rfl rfl rfl t31 rfl (rgw _) c32.1 c32.2 (fun a33 h34 ea33 eh34 t34 u34 ca33 la33 => ?_)
    have w := w a33 h34 ea33 eh34 t34 u34 ca33 la33
    have s34 := HX_trans s31 u34
    refine r_ast (pc1 := 42) (ls1 := [some (rv 437), some (.int (J p0)), some (.int (J p1)), some (.int (J p2)), some (.long (G p3)), none, some (.long (G p4)), none, some (rv a27), some (rv a30), some (rv a33), none, none]) rfl rfl rfl (xput1_rv rfl rfl) ?_
    refine r_n (pc1 := 43) [.int (J 2)] _ rfl rfl ?_
    refine r_aldn (pc1 := 44) rfl rfl rfl ?_
    refine r_gfI (pc1 := 47) rfl rfl rfl t34 (lyk t34 rfl) rfl rfl ?_
    refine r_imul (pc1 := 48) rfl rfl ?_
    obtain ⟨c35, w⟩ := w
    refine r_na (pc1 := 50) (u := 0) (m := 2) rfl rfl rfl t34 rfl (rgw _) c35.1 c35.2 (fun a36 h37 ea36 eh37 t37 u37 ca36 la36 => ?_)
    have w := w a36 h37 ea36 eh37 t37 u37 ca36 la36
    have s37 := HX_trans s34 u37
    refine r_ast (pc1 := 52) (ls1 := [some (rv 437), some (.int (J p0)), some (.int (J p1)), some (.int (J p2)), some (.long (G p3)), none, some (.long (G p4)), none, some (rv a27), some (rv a30), some (rv a33), some (rv a36), none]) rfl rfl rfl (xput1_rv rfl rfl) ?_
    refine r_n (pc1 := 53) [.int (J 2)] _ rfl rfl ?_
    refine r_aldn (pc1 := 54) rfl rfl rfl ?_
    refine r_gfI (pc1 := 57) rfl rfl rfl t37 (lyk t37 rfl) rfl rfl ?_
    refine r_imul (pc1 := 58) rfl rfl ?_
    obtain ⟨c38, w⟩ := w
    refine r_na (pc1 := 60) (u := 0) (m := 2) rfl rfl rfl t37 rfl (rgw _) c38.1 c38.2 (fun a39 h40 ea39 eh40 t40 u40 ca39 la39 => ?_)
    have w := w a39 h40 ea39 eh40 t40 u40 ca39 la39
    have s40 := HX_trans s37 u40
    refine r_ast (pc1 := 62) (ls1 := [some (rv 437), some (.int (J p0)), some (.int (J p1)), some (.int (J p2)), some (.long (G p3)), none, some (.long (G p4)), none, some (rv a27), some (rv a30), some (rv a33), some (rv a36), some (rv a39)]) rfl rfl rfl (xput1_rv rfl rfl) ?_
    refine r_aldn (pc1 := 63) rfl rfl rfl ?_
    refine r_gfR (pc1 := 66) rfl rfl rfl t40 (lyk t40 rfl) rfl rfl ?_
    refine r_n (pc1 := 67) [.int (J 0), rv (hR h40 437 24)] _ rfl rfl ?_
    refine r_ald (pc1 := 69) rfl rfl rfl ?_
    refine r_n (pc1 := 70) [.int (J 0), rv a27, .int (J 0), rv (hR h40 437 24)] _ rfl rfl ?_
    refine r_aldn (pc1 := 71) rfl rfl rfl ?_
    refine r_gfI (pc1 := 74) rfl rfl rfl t40 (lyk t40 rfl) rfl rfl ?_
    obtain ⟨c41, w⟩ := w
    obtain ⟨c42, w⟩ := w
    refine r_cp (pc1 := 77) (u := 1) rfl rfl rfl rfl t40 c41 (HXk u40 (HXk u37 (HXk u34 (HXk u31 ca27 rfl) rfl) rfl) rfl) (by decide) (rgk rfl) (rgk rfl) (rgh _ _ _) rfl rfl c42 (fun h43 eh43 t43 u43 => ?_)
    have w := w h43 eh43 t43 u43
    have s43 := HX_trans s40 u43
    refine r_aldn (pc1 := 78) rfl rfl rfl ?_
    refine r_gfR (pc1 := 81) rfl rfl rfl t43 (lyk t43 rfl) rfl rfl ?_
    refine r_n (pc1 := 82) [.int (J 0), rv (hR h43 437 25)] _ rfl rfl ?_
    refine r_ald (pc1 := 84) rfl rfl rfl ?_
    refine r_n (pc1 := 85) [.int (J 0), rv a30, .int (J 0), rv (hR h43 437 25)] _ rfl rfl ?_
    refine r_aldn (pc1 := 86) rfl rfl rfl ?_
    refine r_gfI (pc1 := 89) rfl rfl rfl t43 (lyk t43 rfl) rfl rfl ?_
    obtain ⟨c44, w⟩ := w
    obtain ⟨c45, w⟩ := w
    refine r_cp (pc1 := 92) (u := 1) rfl rfl rfl rfl t43 c44 (HXk u43 (HXk u40 (HXk u37 (HXk u34 ca30 rfl) rfl) rfl) rfl) (by decide) (rgk rfl) (rgk rfl) (rgh _ _ _) rfl rfl c45 (fun h46 eh46 t46 u46 => ?_)
    have w := w h46 eh46 t46 u46
    have s46 := HX_trans s43 u46
    refine r_aldn (pc1 := 93) rfl rfl rfl ?_
    refine r_gfR (pc1 := 96) rfl rfl rfl t46 (lyk t46 rfl) rfl rfl ?_
    refine r_n (pc1 := 97) [.int (J 0), rv (hR h46 437 26)] _ rfl rfl ?_
    refine r_ald (pc1 := 99) rfl rfl rfl ?_
    refine r_n (pc1 := 100) [.int (J 0), rv a33, .int (J 0), rv (hR h46 437 26)] _ rfl rfl ?_
    refine r_aldn (pc1 := 101) rfl rfl rfl ?_
    refine r_gfI (pc1 := 104) rfl rfl rfl t46 (lyk t46 rfl) rfl rfl ?_
    obtain ⟨c47, w⟩ := w
    obtain ⟨c48, w⟩ := w
    refine r_cp (pc1 := 107) (u := 0) rfl rfl rfl rfl t46 c47 (HXk u46 (HXk u43 (HXk u40 (HXk u37 ca33 rfl) rfl) rfl) rfl) (by decide) (rgk rfl) (rgk rfl) (rgh _ _ _) rfl rfl c48 (fun h49 eh49 t49 u49 => ?_)
    have w := w h49 eh49 t49 u49
    have s49 := HX_trans s46 u49
    refine r_aldn (pc1 := 108) rfl rfl rfl ?_
    refine r_gfR (pc1 := 111) rfl rfl rfl t49 (lyk t49 rfl) rfl rfl ?_
    refine r_n (pc1 := 112) [.int (J 0), rv (hR h49 437 27)] _ rfl rfl ?_
    refine r_ald (pc1 := 114) rfl rfl rfl ?_
    refine r_n (pc1 := 115) [.int (J 0), rv a36, .int (J 0), rv (hR h49 437 27)] _ rfl rfl ?_
    refine r_aldn (pc1 := 116) rfl rfl rfl ?_
    refine r_gfI (pc1 := 119) rfl rfl rfl t49 (lyk t49 rfl) rfl rfl ?_
    obtain ⟨c50, w⟩ := w
    obtain ⟨c51, w⟩ := w
    refine r_cp (pc1 := 122) (u := 0) rfl rfl rfl rfl t49 c50 (HXk u49 (HXk u46 (HXk u43 (HXk u40 ca36 rfl) rfl) rfl) rfl) (by decide) (rgk rfl) (rgk rfl) (rgh _ _ _) rfl rfl c51 (fun h52 eh52 t52 u52 => ?_)
    have w := w h52 eh52 t52 u52
    have s52 := HX_trans s49 u52
    refine r_aldn (pc1 := 123) rfl rfl rfl ?_
    refine r_gfR (pc1 := 126) rfl rfl rfl t52 (lyk t52 rfl) rfl rfl ?_
    refine r_n (pc1 := 127) [.int (J 0), rv (hR h52 437 28)] _ rfl rfl ?_
    refine r_ald (pc1 := 129) rfl rfl rfl ?_
    refine r_n (pc1 := 130) [.int (J 0), rv a39, .int (J 0), rv (hR h52 437 28)] _ rfl rfl ?_
    refine r_aldn (pc1 := 131) rfl rfl rfl ?_
    refine r_gfI (pc1 := 134) rfl rfl rfl t52 (lyk t52 rfl) rfl rfl ?_
    obtain ⟨c53, w⟩ := w
    obtain ⟨c54, w⟩ := w
    refine r_cp (pc1 := 137) (u := 0) rfl rfl rfl rfl t52 c53 (HXk u52 (HXk u49 (HXk u46 (HXk u43 ca39 rfl) rfl) rfl) rfl) (by decide) (rgk rfl) (rgk rfl) (rgh _ _ _) rfl rfl c54 (fun h55 eh55 t55 u55 => ?_)
    have w := w h55 eh55 t55 u55
    have s55 := HX_trans s52 u55
    refine r_aldn (pc1 := 138) rfl rfl rfl ?_
    refine r_ald (pc1 := 140) rfl rfl rfl ?_
    refine r_pfA (pc1 := 143) rfl rfl rfl t55 (lyk t55 rfl) rfl rfl rfl (fun h56 eh56 t56 u56 => ?_)
    have w := w h56 eh56 t56 u56
    have s56 := HX_trans s55 u56
    refine r_aldn (pc1 := 144) rfl rfl rfl ?_
    refine r_ald (pc1 := 146) rfl rfl rfl ?_
    refine r_pfA (pc1 := 149) rfl rfl rfl t56 (lyk t56 rfl) rfl rfl rfl (fun h57 eh57 t57 u57 => ?_)
    have w := w h57 eh57 t57 u57
    have s57 := HX_trans s56 u57
    refine r_aldn (pc1 := 150) rfl rfl rfl ?_
    refine r_ald (pc1 := 152) rfl rfl rfl ?_
    refine r_pfA (pc1 := 155) rfl rfl rfl t57 (lyk t57 rfl) rfl rfl rfl (fun h58 eh58 t58 u58 => ?_)
    have w := w h58 eh58 t58 u58
    have s58 := HX_trans s57 u58
    refine r_aldn (pc1 := 156) rfl rfl rfl ?_
    refine r_ald (pc1 := 158) rfl rfl rfl ?_
    refine r_pfA (pc1 := 161) rfl rfl rfl t58 (lyk t58 rfl) rfl rfl rfl (fun h59 eh59 t59 u59 => ?_)
    have w := w h59 eh59 t59 u59
    have s59 := HX_trans s58 u59
    refine r_aldn (pc1 := 162) rfl rfl rfl ?_
    refine r_ald (pc1 := 164) rfl rfl rfl ?_
    refine r_pfA (pc1 := 167) rfl rfl rfl t59 (lyk t59 rfl) rfl rfl rfl (fun h60 eh60 t60 u60 => ?_)
    have w := w h60 eh60 t60 u60
    have s60 := HX_trans s59 u60
    exact Q9 _ _ _ _ _  h60 t60 s60  w
def w_X14_optionBit (p0 : Int) (K : BitVec 64 → Prop) (h : XH) : Prop :=
  (K (lshl (1#64) (wr (40 + p0))))
set_option maxHeartbeats 4000000 in
theorem a_X14_optionBit {sc : Nat × (Nat → Int32)} {goal : XO → XH → Prop} {fs : List XF} {h : XH} (p0 : Int) {K : BitVec 64 → Prop} (hd : fs.length + 0 ≤ 1000) (rp0 : rg p0) (w : w_X14_optionBit p0 K h) (t0 : HT h) (k : ∀ (r : BitVec 64), K r → XFin xP sc goal fs (.inl (some (.long (G r)))) h) : RR sc goal fs 264 0 [some (.int (J p0))] [] h := by
  unfold w_X14_optionBit at w
  refine r_n (pc1 := 1) [.long (G (1#64))] _ rfl rfl ?_
  refine r_n (pc1 := 3) [.int (J 40), .long (G (1#64))] _ rfl rfl ?_
  refine r_n (pc1 := 4) [.int (J p0), .int (J 40), .long (G (1#64))] _ rfl rfl ?_
  refine r_iadd (pc1 := 5) rfl rfl ?_
  refine r_lshl (pc1 := 6) rfl rfl ?_
  exact r_retL rfl rfl rfl (k _ w)
def w_X14_addNeed (p0 : Int) (p1 : Int) (p2 : Int) (p3 : Nat) (p4 : BitVec 64) (K : XH → Prop) (h : XH) : Prop :=
  ((∃ (I3 : BitVec 64 → Int → Prop) (m3 : BitVec 64 → Int → Nat), I3 (0#64) 0 ∧ ∀ (b1 : BitVec 64) (x2 : Int), rg x2 → I3 b1 x2 → (((hI h 438 4 ≤ x2 → (w_X14_add p0 p1 p2 b1 p4 (fun h4 => HT h4 → HX h h4 → (hk h4 p3 = 14 ∧ ∃ J7 : XH → Prop, (∀ (h6 : XH), HT h6 → HX h h6 → J7 h6 → (K h6)) ∧ ((hI h4 p3 0 = 0 → J7 h4) ∧ (¬ (hI h4 p3 0 = 0) → (hk h4 (hR h4 p3 1) = 100 ∧ (0 ≤ (0 : Int) ∧ (0 : Int) < (hn h4 (hR h4 p3 1) : Int)) ∧ w_X14_optionBit (hI h4 (hR h4 p3 1) 0) (fun b10 => (w_X14_add p0 p1 p2 b10 p4 (fun h11 => HT h11 → HX h4 h11 → J7 h11) h4)) h4))))) h)) ∧ (¬ (hI h 438 4 ≤ x2) → (w_X14_meets p3 x2 (fun x13 => rg x13 → (x13 = 0 ∨ x13 = 1) → (∃ J15 : BitVec 64 → Prop, (∀ (b14 : BitVec 64), J15 b14 → (∀ b16 : BitVec 64, b16 = b1 ||| b14 → ∀ x17 : Int, x17 = wr (x2 + 1) → rg x17 → (I3 b16 x17 ∧ m3 b16 x17 < m3 b1 x2))) ∧ ((x13 = 0 → (J15 (0#64))) ∧ (¬ (x13 = 0) → (w_X14_bit x2 (fun b18 => (J15 b18)) h))))) h))))))
set_option maxHeartbeats 4000000 in
theorem a_X14_addNeed {sc : Nat × (Nat → Int32)} {goal : XO → XH → Prop} {fs : List XF} {h : XH} (p0 : Int) (p1 : Int) (p2 : Int) (p3 : Nat) (p4 : BitVec 64) {K : XH → Prop} (hd : fs.length + 4 ≤ 1000) (rp0 : rg p0) (rp1 : rg p1) (rp2 : rg p2) (w : w_X14_addNeed p0 p1 p2 p3 p4 K h) (t0 : HT h) (k : ∀ (h1 : XH), HT h1 → HX h h1 → K h1 → XFin xP sc goal fs (.inl none) h1) : RR sc goal fs 168 0 [some (rv 437), some (.int (J p0)), some (.int (J p1)), some (.int (J p2)), some (rv p3), some (.long (G p4)), none, none, none, none] [] h := by
  unfold w_X14_addNeed at w
  refine r_n (pc1 := 1) [.long (G (0#64))] _ rfl rfl ?_
  refine r_lst (pc1 := 3) (ls1 := [some (rv 437), some (.int (J p0)), some (.int (J p1)), some (.int (J p2)), some (rv p3), some (.long (G p4)), none, some (.long (G (0#64))), none, none]) rfl rfl rfl rfl ?_
  refine r_n (pc1 := 4) [.int (J 0)] _ rfl rfl ?_
  refine r_ist (pc1 := 6) (ls1 := [some (rv 437), some (.int (J p0)), some (.int (J p1)), some (.int (J p2)), some (rv p3), some (.long (G p4)), none, some (.long (G (0#64))), none, some (.int (J 0))]) rfl rfl rfl rfl ?_
  obtain ⟨I3, m3, w, y3⟩ := w
  have Q3 : ∀ (n : Nat)  (b1 : BitVec 64) (x2 : Int), rg x2 → m3 b1 x2 < n → I3 b1 x2 → RR sc goal fs 168 6 [some (rv 437), some (.int (J p0)), some (.int (J p1)), some (.int (J p2)), some (rv p3), some (.long (G p4)), none, some (.long (G b1)), none, some (.int (J x2))] [] h := by
    intro n
    induction n with
    | zero => intro b1 x2 rx2 q3 _; exact absurd q3 (Nat.not_lt_zero _)
    | succ n ih3 =>
      intro b1 x2 rx2 q3 z3
      have w := y3 b1 x2 rx2 z3
      refine r_n (pc1 := 8) [.int (J x2)] _ rfl rfl ?_
      refine r_aldn (pc1 := 9) rfl rfl rfl ?_
      refine r_gfC (pc1 := 12) (q := 438) rfl rfl rfl t0 (lyk t0 rfl) rfl rfl (lyR t0 rfl rfl) ?_
      refine r_n (pc1 := 13) [.int (J 4), rv 438, .int (J x2)] _ rfl rfl ?_
      refine r_ial (pc1 := 14) rfl rfl t0 (lyk t0 rfl) (rgk rfl) (by decide) (lt_len (lyn t0 rfl) (by decide)) ?_
      refine r_ic (t := 48) (pc1 := 17) rfl rfl rfl rx2 (rgh _ _ _) (fun c20 => ?_) (fun c20 => ?_)
      · have w := w.1 c20
        refine r_aldn (pc1 := 49) rfl rfl rfl ?_
        refine r_n (pc1 := 50) [.int (J p0), rv 437] _ rfl rfl ?_
        refine r_n (pc1 := 51) [.int (J p1), .int (J p0), rv 437] _ rfl rfl ?_
        refine r_n (pc1 := 52) [.int (J p2), .int (J p1), .int (J p0), rv 437] _ rfl rfl ?_
        refine r_n (pc1 := 54) [.long (G b1), .int (J p2), .int (J p1), .int (J p0), rv 437] _ rfl rfl ?_
        refine r_n (pc1 := 56) [.long (G p4), .long (G b1), .int (J p2), .int (J p1), .int (J p0), rv 437] _ rfl rfl ?_
        refine r_iv rfl rfl rfl rfl rfl rfl t0 (lyk t0 rfl) rfl (xe_of (xa_r (xa_i (xa_i (xa_i (xa_l (xa_l xa_0)))))) rfl rfl) (r_d0 hd rfl) (a_X14_add p0 p1 p2 b1 p4 (r_d1 hd rfl) rp0 rp1 rp2 w t0 (fun h4 t4 u4 w => ?_))
        refine r_fV (pc1 := 59) rfl ?_
        have s4 := HX_trans (HX_refl h) u4
        have w := w t4 u4
        refine r_ald (pc1 := 61) rfl rfl rfl ?_
        obtain ⟨c5, w⟩ := w
        refine r_gfI (pc1 := 64) rfl rfl rfl t4 c5 rfl rfl ?_
        obtain ⟨J7, j7, w⟩ := w
        have Q7 : ∀ (h6 : XH), HT h6 → HX h h6 → J7 h6 → RR sc goal fs 168 86 [some (rv 437), some (.int (J p0)), some (.int (J p1)), some (.int (J p2)), some (rv p3), some (.long (G p4)), none, some (.long (G b1)), none, some (.int (J x2))] [] h6 := by
          intro h6 t6 s6 z7
          have w := j7 h6 t6 s6 z7
          exact r_retV rfl rfl rfl (k _ t6 s6 w)
        refine r_iz (t := 86) (pc1 := 67) rfl rfl rfl (rgh _ _ _) (fun c12 => ?_) (fun c12 => ?_)
        · have w := w.1 c12
          exact Q7   h4 t4 s4  w
        · have w := w.2 c12
          refine r_aldn (pc1 := 68) rfl rfl rfl ?_
          refine r_n (pc1 := 69) [.int (J p0), rv 437] _ rfl rfl ?_
          refine r_n (pc1 := 70) [.int (J p1), .int (J p0), rv 437] _ rfl rfl ?_
          refine r_n (pc1 := 71) [.int (J p2), .int (J p1), .int (J p0), rv 437] _ rfl rfl ?_
          refine r_ald (pc1 := 73) rfl rfl rfl ?_
          refine r_gfR (pc1 := 76) rfl rfl rfl t4 c5 rfl rfl ?_
          refine r_n (pc1 := 77) [.int (J 0), rv (hR h4 p3 1), .int (J p2), .int (J p1), .int (J p0), rv 437] _ rfl rfl ?_
          obtain ⟨c8, w⟩ := w
          obtain ⟨c9, w⟩ := w
          refine r_ial (pc1 := 78) rfl rfl t4 c8 (rgk rfl) c9.1 c9.2 ?_
          refine r_iq rfl rfl rfl rfl rfl rfl (xe_of (xa_i xa_0) rfl rfl) (r_d0 hd rfl) (a_X14_optionBit (hI h4 (hR h4 p3 1) 0) (r_d1 hd rfl) (rgh _ _ _) w t4 (fun b10 w => ?_))
          refine r_fL (pc1 := 81) rfl ?_
          refine r_n (pc1 := 83) [.long (G p4), .long (G b10), .int (J p2), .int (J p1), .int (J p0), rv 437] _ rfl rfl ?_
          refine r_iv rfl rfl rfl rfl rfl rfl t4 (lyk t4 rfl) rfl (xe_of (xa_r (xa_i (xa_i (xa_i (xa_l (xa_l xa_0)))))) rfl rfl) (r_d0 hd rfl) (a_X14_add p0 p1 p2 b10 p4 (r_d1 hd rfl) rp0 rp1 rp2 w t4 (fun h11 t11 u11 w => ?_))
          refine r_fV (pc1 := 86) rfl ?_
          have s11 := HX_trans s4 u11
          have w := w t11 u11
          exact Q7   h11 t11 s11  w
      · have w := w.2 c20
        refine r_n (pc1 := 19) [.long (G b1)] _ rfl rfl ?_
        refine r_aldn (pc1 := 20) rfl rfl rfl ?_
        refine r_ald (pc1 := 22) rfl rfl rfl ?_
        refine r_n (pc1 := 24) [.int (J x2), rv p3, rv 437, .long (G b1)] _ rfl rfl ?_
        refine r_iv rfl rfl rfl rfl rfl rfl t0 (lyk t0 rfl) rfl (xe_of (xa_r (xa_r (xa_i xa_0))) rfl rfl) (r_d0 hd rfl) (a_X14_meets p3 x2 (r_d1 hd rfl) rx2 w t0 (fun x13 rx13 vx13 w => ?_))
        refine r_fI (pc1 := 27) rfl ?_
        have w := w rx13 vx13
        obtain ⟨J15, j15, w⟩ := w
        have Q15 : ∀ (b14 : BitVec 64), J15 b14 → RR sc goal fs 168 39 [some (rv 437), some (.int (J p0)), some (.int (J p1)), some (.int (J p2)), some (rv p3), some (.long (G p4)), none, some (.long (G b1)), none, some (.int (J x2))] [.long (G b14), .long (G b1)] h := by
          intro b14 z15
          have w := j15 b14 z15
          refine r_lor (pc1 := 40) rfl rfl ?_
          refine r_vL (fun b16 eb16 => ?_)
          have w := w b16 eb16
          refine r_lst (pc1 := 42) (ls1 := [some (rv 437), some (.int (J p0)), some (.int (J p1)), some (.int (J p2)), some (rv p3), some (.long (G p4)), none, some (.long (G b16)), none, some (.int (J x2))]) rfl rfl rfl rfl ?_
          refine r_inc (pc1 := 45) (g := fun zz => [some (rv 437), some (.int (J p0)), some (.int (J p1)), some (.int (J p2)), some (rv p3), some (.long (G p4)), none, some (.long (G b16)), none, some (.int (J zz))]) rfl rfl rfl rfl (fun _ => rfl) (fun x17 ex17 rx17 => ?_)
          have w := w x17 ex17 rx17
          refine r_goto (t := 6) rfl rfl ?_
          exact ih3  b16 x17  rx17 (Nat.lt_of_lt_of_le w.2 (Nat.le_of_lt_succ q3)) w.1
        refine r_iz (t := 38) (pc1 := 30) rfl rfl rfl rx13 (fun c19 => ?_) (fun c19 => ?_)
        · have w := w.1 c19
          refine r_n (pc1 := 39) [.long (G (0#64)), .long (G b1)] _ rfl rfl ?_
          exact Q15  (0#64)   w
        · have w := w.2 c19
          refine r_n (pc1 := 32) [.int (J x2), .long (G b1)] _ rfl rfl ?_
          refine r_iq rfl rfl rfl rfl rfl rfl (xe_of (xa_i xa_0) rfl rfl) (r_d0 hd rfl) (a_X14_bit x2 (r_d1 hd rfl) rx2 w t0 (fun b18 w => ?_))
          refine r_fL (pc1 := 35) rfl ?_
          refine r_goto (t := 39) rfl rfl ?_
          exact Q15  b18   w
  exact Q3 _  (0#64) 0  (rgk rfl) (Nat.lt_succ_self _) w
def w_X14_isHeld (p0 : Int) (K : Int → Prop) (h : XH) : Prop :=
  (w_X14_rootAt 9 (fun x1 => rg x1 → (∃ J3 : Int → Prop, (∀ (x2 : Int), rg x2 → J3 x2 → ((x2 = 0 ∨ x2 = 1) ∧ K x2)) ∧ ((¬ iand (ishr x1 p0) 1 = 1 → (J3 0)) ∧ (¬ (¬ iand (ishr x1 p0) 1 = 1) → (J3 1))))) h)
set_option maxHeartbeats 4000000 in
theorem a_X14_isHeld {sc : Nat × (Nat → Int32)} {goal : XO → XH → Prop} {fs : List XF} {h : XH} (p0 : Int) {K : Int → Prop} (hd : fs.length + 1 ≤ 1000) (rp0 : rg p0) (w : w_X14_isHeld p0 K h) (t0 : HT h) (k : ∀ (r : Int), rg r → (r = 0 ∨ r = 1) → K r → XFin xP sc goal fs (.inl (some (.int (J r)))) h) : RR sc goal fs 227 0 [some (rv 437), some (.int (J p0))] [] h := by
  unfold w_X14_isHeld at w
  refine r_aldn (pc1 := 1) rfl rfl rfl ?_
  refine r_n (pc1 := 3) [.int (J 9), rv 437] _ rfl rfl ?_
  refine r_iv rfl rfl rfl rfl rfl rfl t0 (lyk t0 rfl) rfl (xe_of (xa_r (xa_i xa_0)) rfl rfl) (r_d0 hd rfl) (a_X14_rootAt 9 (r_d1 hd rfl) (rgk rfl) w t0 (fun x1 rx1 w => ?_))
  refine r_fI (pc1 := 6) rfl ?_
  have w := w rx1
  refine r_n (pc1 := 7) [.int (J p0), .int (J x1)] _ rfl rfl ?_
  refine r_ishr (pc1 := 8) rfl rfl ?_
  refine r_n (pc1 := 9) [.int (J 1), .int (J (ishr x1 p0))] _ rfl rfl ?_
  refine r_iand (pc1 := 10) rfl rfl ?_
  refine r_n (pc1 := 11) [.int (J 1), .int (J (iand (ishr x1 p0) 1))] _ rfl rfl ?_
  obtain ⟨J3, j3, w⟩ := w
  have Q3 : ∀ (x2 : Int), rg x2 → J3 x2 → RR sc goal fs 227 19 [some (rv 437), some (.int (J p0))] [.int (J x2)] h := by
    intro x2 rx2 z3
    have w := j3 x2 rx2 z3
    obtain ⟨c4, w⟩ := w
    exact r_retB rfl rfl rfl c4 (k _ rx2 c4 w)
  refine r_ic (t := 18) (pc1 := 14) rfl rfl rfl (rgt _) (rgk rfl) (fun c5 => ?_) (fun c5 => ?_)
  · have w := w.1 c5
    refine r_n (pc1 := 19) [.int (J 0)] _ rfl rfl ?_
    exact Q3  0  (rgk rfl) w
  · have w := w.2 c5
    refine r_n (pc1 := 15) [.int (J 1)] _ rfl rfl ?_
    refine r_goto (t := 19) rfl rfl ?_
    exact Q3  1  (rgk rfl) w
def w_X14_slotIn (p0 : Nat) (p1 : Int) (K : Int → Prop) (h : XH) : Prop :=
  (hk h p0 = 100 ∧ (0 ≤ p1 ∧ p1 < (hn h p0 : Int)) ∧ ∃ J4 : Int → Prop, (∀ (x3 : Int), rg x3 → J4 x3 → (K x3)) ∧ ((¬ hI h p0 p1.toNat = (-1) → (w_X14_slotOf p1 (irem (hI h p0 p1.toNat) 1000000) (fun x5 => rg x5 → J4 x5) h)) ∧ (¬ (¬ hI h p0 p1.toNat = (-1)) → (J4 (-1)))))
set_option maxHeartbeats 4000000 in
theorem a_X14_slotIn {sc : Nat × (Nat → Int32)} {goal : XO → XH → Prop} {fs : List XF} {h : XH} (p0 : Nat) (p1 : Int) {K : Int → Prop} (hd : fs.length + 2 ≤ 1000) (rp1 : rg p1) (w : w_X14_slotIn p0 p1 K h) (t0 : HT h) (k : ∀ (r : Int), rg r → K r → XFin xP sc goal fs (.inl (some (.int (J r)))) h) : RR sc goal fs 301 0 [some (rv 437), some (rv p0), some (.int (J p1))] [] h := by
  unfold w_X14_slotIn at w
  refine r_aldn (pc1 := 1) rfl rfl rfl ?_
  refine r_n (pc1 := 2) [.int (J p1), rv p0] _ rfl rfl ?_
  obtain ⟨c1, w⟩ := w
  obtain ⟨c2, w⟩ := w
  refine r_ial (pc1 := 3) rfl rfl t0 c1 rp1 c2.1 c2.2 ?_
  refine r_n (pc1 := 4) [.int (J (-1)), .int (J (hI h p0 p1.toNat))] _ rfl rfl ?_
  obtain ⟨J4, j4, w⟩ := w
  have Q4 : ∀ (x3 : Int), rg x3 → J4 x3 → RR sc goal fs 301 23 [some (rv 437), some (rv p0), some (.int (J p1))] [.int (J x3)] h := by
    intro x3 rx3 z4
    have w := j4 x3 rx3 z4
    exact r_retI rfl rfl rfl (k _ rx3 w)
  refine r_ic (t := 11) (pc1 := 7) rfl rfl rfl (rgh _ _ _) (rgk rfl) (fun c6 => ?_) (fun c6 => ?_)
  · have w := w.1 c6
    refine r_aldn (pc1 := 12) rfl rfl rfl ?_
    refine r_n (pc1 := 13) [.int (J p1), rv 437] _ rfl rfl ?_
    refine r_aldn (pc1 := 14) rfl rfl rfl ?_
    refine r_n (pc1 := 15) [.int (J p1), rv p0, .int (J p1), rv 437] _ rfl rfl ?_
    refine r_ial (pc1 := 16) rfl rfl t0 c1 rp1 c2.1 c2.2 ?_
    refine r_n (pc1 := 19) [.int (J 1000000), .int (J (hI h p0 p1.toNat)), .int (J p1), rv 437] _ rfl rfl ?_
    refine r_irem (pc1 := 20) rfl rfl (rgk rfl) (by decide) ?_
    refine r_iv rfl rfl rfl rfl rfl rfl t0 (lyk t0 rfl) rfl (xe_of (xa_r (xa_i (xa_i xa_0))) rfl rfl) (r_d0 hd rfl) (a_X14_slotOf p1 (irem (hI h p0 p1.toNat) 1000000) (r_d1 hd rfl) rp1 (rgt _) w t0 (fun x5 rx5 w => ?_))
    refine r_fI (pc1 := 23) rfl ?_
    have w := w rx5
    exact Q4  x5  rx5 w
  · have w := w.2 c6
    refine r_n (pc1 := 8) [.int (J (-1))] _ rfl rfl ?_
    refine r_goto (t := 23) rfl rfl ?_
    exact Q4  (-1)  (rgk rfl) w
def w_X14_isOnIn (p0 : Nat) (p1 : Int) (K : Int → Prop) (h : XH) : Prop :=
  (hk h p0 = 100 ∧ (0 ≤ p1 ∧ p1 < (hn h p0 : Int)) ∧ ∃ J4 : Int → Prop, (∀ (x3 : Int), rg x3 → J4 x3 → ((x3 = 0 ∨ x3 = 1) ∧ K x3)) ∧ ((hI h p0 p1.toNat < 1000000 → (J4 0)) ∧ (¬ (hI h p0 p1.toNat < 1000000) → (J4 1))))
set_option maxHeartbeats 4000000 in
theorem a_X14_isOnIn {sc : Nat × (Nat → Int32)} {goal : XO → XH → Prop} {fs : List XF} {h : XH} (p0 : Nat) (p1 : Int) {K : Int → Prop} (hd : fs.length + 0 ≤ 1000) (rp1 : rg p1) (w : w_X14_isOnIn p0 p1 K h) (t0 : HT h) (k : ∀ (r : Int), rg r → (r = 0 ∨ r = 1) → K r → XFin xP sc goal fs (.inl (some (.int (J r)))) h) : RR sc goal fs 235 0 [some (rv p0), some (.int (J p1))] [] h := by
  unfold w_X14_isOnIn at w
  refine r_aldn (pc1 := 1) rfl rfl rfl ?_
  refine r_n (pc1 := 2) [.int (J p1), rv p0] _ rfl rfl ?_
  obtain ⟨c1, w⟩ := w
  obtain ⟨c2, w⟩ := w
  refine r_ial (pc1 := 3) rfl rfl t0 c1 rp1 c2.1 c2.2 ?_
  refine r_n (pc1 := 6) [.int (J 1000000), .int (J (hI h p0 p1.toNat))] _ rfl rfl ?_
  obtain ⟨J4, j4, w⟩ := w
  have Q4 : ∀ (x3 : Int), rg x3 → J4 x3 → RR sc goal fs 235 14 [some (rv p0), some (.int (J p1))] [.int (J x3)] h := by
    intro x3 rx3 z4
    have w := j4 x3 rx3 z4
    obtain ⟨c5, w⟩ := w
    exact r_retB rfl rfl rfl c5 (k _ rx3 c5 w)
  refine r_ic (t := 13) (pc1 := 9) rfl rfl rfl (rgh _ _ _) (rgk rfl) (fun c6 => ?_) (fun c6 => ?_)
  · have w := w.1 c6
    refine r_n (pc1 := 14) [.int (J 0)] _ rfl rfl ?_
    exact Q4  0  (rgk rfl) w
  · have w := w.2 c6
    refine r_n (pc1 := 10) [.int (J 1)] _ rfl rfl ?_
    refine r_goto (t := 14) rfl rfl ?_
    exact Q4  1  (rgk rfl) w
