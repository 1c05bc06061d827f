/-! INSTALL: what is known of the row behind it -/
theorem dj_u0 {N : Nat → Int} {m : Nat} (W : WF N m) {a : Nat} {t g : Nat → Int} (Sg : fOK N g) (D : DJf N t) : DJf N (u0F a t g) := by
  have one : ∀ p, p < 12 → filesP N (u0F a t g) p = filesP N t p ∨ filesP N (u0F a t g) p = 0 := fun p hp => by
    by_cases b : a.testBit p = true
    · by_cases c : cIn t p = cIn g p
      · have e : u0F a t g p = g p := by unfold u0F; rw [if_pos b, if_pos c]
        by_cases z : g p = -1
        · exact .inr (fP_0 (e.trans z))
        · left
          rw [fP_cg e]
          refine (fP_c ?_ z c).symm
          intro y
          obtain ⟨v, hv, -, e2⟩ := (Sg p hp).resolve_left z
          have wv := W.1.2.2.2.2.1 v hv
          have := (cIn_code ⟨wv.2.2.1, wv.2.2.2.1⟩ e2).1
          rw [this] at c
          unfold cIn at c
          rw [if_pos y] at c
          have := wv.2.2.1
          omega
      · exact .inr (fP_0 (by unfold u0F; rw [if_pos b, if_neg c]))
    · exact .inl (fP_cg (by unfold u0F; rw [if_neg b]))
  intro p q hp hq n
  rcases one p hp with e1 | e1
  · rcases one q hq with e2 | e2
    · rw [e1, e2]; exact D p q hp hq n
    · rw [e2, Nat.and_zero]
  · rw [e1, Nat.zero_and]
theorem goS_DJ {N : Nat → Int} {m : Nat} (W : WF N m) {f0 g : Nat → Int} {L : List Nat} {mo : Int} (Sg : fOK N g) (lp : ∀ x, x ∈ L → x < 12) (al : ∀ q, q < 12 → comC g f0 q = true → q ∈ L) : ∀ (l : List Nat) (k : Nat) (t : Nat → Int), StOK f0 g l t → DJf N t → (goS N g (comC g f0) L mo l k t).1 = -1 → DJf N g := by
  intro l
  induction l with
  | nil =>
    intro k t S D _ p q hp hq n
    have e : ∀ p, p < 12 → filesP N g p = filesP N t p := fun p hp => (fP_cg (S p hp)).symm
    rw [e p hp, e q hq]
    exact D p q hp hq n
  | cons a l ih =>
    intro k t S D z
    obtain ⟨-, hm, -, S'⟩ := S
    rw [goS_s] at z
    by_cases c : (stp N g t (fun x => comC g f0 x && a.testBit x) a L mo).1 = -1
    · rw [if_pos c] at z
      refine ih _ _ S' ?_ z
      have cf : cfl N g (fun x => comC g f0 x && a.testBit x) (u0F a t g) L = -1 := Classical.byContradiction fun y => by
        unfold stp at c
        rw [if_pos y] at c
        dsimp only at c
        omega
      obtain ⟨w, dw, ew⟩ := cfl_DJ L (u0F a t g) lp (fun x hx cx => by
        have b := (Bool.and_eq_true _ _ ▸ cx : _ ∧ _).2
        unfold u0F
        rw [if_pos b]
        split
        · exact .inr rfl
        · exact .inl rfl) (dj_u0 W Sg D) cf
      have e : ∀ p, p < 12 → w p = mvF a t g p := u_mv (M := L.filter (comC g f0)) hm (fun q hq y => List.mem_filter.mpr ⟨al q hq y, y⟩) (fun q hq => by
        rw [ew q]
        by_cases y : q ∈ L ∧ (comC g f0 q && a.testBit q) = true
        · rw [if_pos y, if_pos]
          have := y.2
          rw [Bool.and_eq_true] at this
          exact ⟨List.mem_filter.mpr ⟨y.1, this.1⟩, this.2⟩
        · rw [if_neg y, if_neg]
          rintro ⟨y1, y2⟩
          obtain ⟨y3, y4⟩ := List.mem_filter.mp y1
          exact y ⟨y3, by rw [y4, y2]; rfl⟩)
      intro p q hp hq n
      rw [← fP_cg (e p hp), ← fP_cg (e q hq)]
      exact dw p q hp hq n
    · rw [if_neg c] at z
      exact absurd z c
theorem BdN_why {N : Nat → Int} {r c : Nat} {x y z : Int} (r3 : r < 3) (W : N 4 ≤ 40) (b : BdN N c) : BdN (whyN N r x y z) c := by
  obtain ⟨a1, a2, a3, a4⟩ := b
  refine ⟨fun q hq => by rw [show nR (whyN N r x y z) q 47 = nR N q 47 from why_at _ (by omega)]; exact a1 q hq, by rw [why_at 2 (by omega)]; exact a2, fun j hj => by rw [why_at _ (by omega)]; exact a3 j hj, ?_⟩
  exact DJ_cg (fun i h1 h2 => why_at i (by omega)) W (fun q hq p hp => why_at _ (by omega)) a4
theorem BdN_ent {N : Nat → Int} {r c : Nat} (r3 : r < 3) (W : N 4 ≤ 40) (l : nR N r 47 < c) (d : DJf N (goal N r)) (b : BdN N c) : BdN (entN N r) c := by
  obtain ⟨a1, a2, a3, a4⟩ := b
  have v : ∀ i, 4 ≤ i → i < 805 → entN N r i = N i := fun i h1 h2 => ent_at i (by omega) (by omega)
  refine ⟨fun q hq => ?_, by rw [ent_at 2 (by omega) (by omega)]; exact a2, fun j hj => by rw [ent_at _ (by omega) (by omega)]; exact a3 j hj, fun q hq p p' hp hp' n => ?_⟩
  · by_cases e : q = r
    · rw [e, ent_47]; omega
    · rw [show nR (entN N r) q 47 = nR N q 47 from ent_at _ (by omega) (by omega)]; exact a1 q hq
  · by_cases e : q = r
    · rw [e, filesP_cg v W (ent_i hp), filesP_cg v W (ent_i hp')]
      exact d p p' hp hp' n
    · have s : ∀ p, p < 12 → inst (entN N r) q p = inst N q p := fun p hp => ent_at _ (by omega) (by omega)
      rw [filesP_cg v W (s p hp), filesP_cg v W (s p' hp')]
      exact a4 q hq p p' hp hp' n
theorem ins_ok {N : Nat → Int} {nd : Nat → ND} {m c : Nat} {b : Bool} {L : List Nat} (W : WF N m) (hc : c < 512) (B : BdN N c) (fg : fOK N (goal N (rh N))) (A : Arr N nd (goal N (rh N)) b L) (l12 : L.length ≤ 12) : WF (insP N nd b L).2 m ∧ BdN (insP N nd b L).2 (c + 1) := by
  obtain ⟨a1, a2, a3, a4⟩ := id B
  have r3 := rh_lt W
  have w40 : N 4 ≤ 40 := (WF_b W).2.2.2
  obtain ⟨fW, f2, f2', f3, f4⟩ := feI_W (L := L) W (by omega) (fun k hk => by have := a3 k hk; omega) l12
  have fB : BdN (feI N L).1 (c + 1) := ⟨fun q hq => by rw [show nR (feI N L).1 q 47 = nR N q 47 from f4 _ (by omega) (fun j hj => by omega)]; have := a1 q hq; omega, by omega, fun j hj => by have := a3 j hj; have := (f3 j hj).2; omega, DJ_cg (fun i h1 h2 => f4 i (by omega) (fun j hj => by omega)) w40 (fun q hq p hp => f4 _ (by omega) (fun j hj => by omega)) a4⟩
  have f40 : (feI N L).1 4 ≤ 40 := (WF_b fW).2.2.2
  have f47 : nR (feI N L).1 (rh N) 47 = nR N (rh N) 47 := f4 _ (by omega) (fun j hj => by omega)
  have g47 := a1 _ r3
  unfold insP
  by_cases c1 : b = true
  · rw [if_pos c1]
    exact ⟨WF_why W r3, BdN_why r3 w40 (BdN_mono (Nat.le_succ c) B)⟩
  · rw [if_neg c1]
    by_cases c2 : (feI N L).2 = -1
    · rw [if_neg (c := ¬ (feI N L).2 = -1) (fun y => y c2)]
      by_cases c3 : (goI N nd L).1 = -1
      · rw [if_neg (c := ¬ (goI N nd L).1 = -1) (fun y => y c3)]
        have A' : Arr N nd (goal N (rh N)) false L := by rw [← Bool.eq_false_iff.mpr c1]; exact A
        have D : DJf N (goal N (rh N)) := goS_DJ W fg (fun x hx => by
          obtain ⟨i, hi, e⟩ := List.getElem_of_mem hx
          have := (Arr_mem A' i hi).1
          rw [List.getD_eq_getElem?_getD, List.getElem?_eq_getElem hi] at this
          rw [← e]; exact this) (fun q hq y => Arr_all A' hq (fun z => by
            unfold comC comF at y
            rw [if_pos (.inl z)] at y
            exact absurd y (by decide))) _ _ _ StOK_of (a4 _ r3) c3
        have D' : DJf (feI N L).1 (goal (feI N L).1 (rh N)) := by
          have v : ∀ i, 4 ≤ i → i < 805 → (feI N L).1 i = N i := fun i h1 h2 => f4 i (by omega) (fun j hj => by omega)
          have s : ∀ p, p < 12 → goal (feI N L).1 (rh N) p = goal N (rh N) p := fun p hp => f4 _ (by omega) (fun j hj => by omega)
          intro p q hp hq n
          rw [filesP_cg v w40 (s p hp), filesP_cg v w40 (s q hq)]
          exact D p q hp hq n
        have eB := BdN_ent r3 f40 (by omega) D' fB
        exact ⟨WF_why (WF_ent fW r3 (by omega)) r3, BdN_why r3 (by rw [ent_at 4 (by omega) (by omega)]; exact f40) eB⟩
      · rw [if_pos c3]
        exact ⟨WF_why fW r3, BdN_why r3 f40 fB⟩
    · rw [if_pos c2]
      exact ⟨WF_why fW r3, BdN_why r3 f40 fB⟩
set_option maxHeartbeats 4000000 in
theorem d_install {h : XH} {nd : Nat → ND} {o u : Int} {c : Nat} (T : HT h) (R : Inv h nd o u c) (hc : c < 512) {K : Int → XH → Prop} {J : XH → Prop} (k : ∀ h' o' u', HT h' → Inv h' nd o' u' (c + 1) → Gr (1 + 1 + 5) (xcs none + n12 + 5 * n12) h h' → J h') : w_L_install (LDw h (fun g Q => w_X14_install Q g) K J) h := by
  have W := R.1.2.1
  have C := R.1.1
  have hr := rh_lt W
  obtain ⟨b0, p1', p2', p3', p4', p5'⟩ := id R.1.2.2.2.1
  obtain ⟨a1, a2, a3, a4⟩ := id R.2.1.2.2.2.1
  have g47 := a1 _ hr
  have fg : fOK (nw h) (goal (nw h) (rh (nw h))) := fOK_of (CS_g C hr)
  have fi : fOK (nw h) (inst (nw h) (rh (nw h))) := fOK_of (CS_i C hr)
  have dk : DK nd (hI h 437 7).toNat := DK_of (NTm_of R.1)
  have rb := rc_lt hr
  by_cases sn : sndP (nw h) nd (goal (nw h) (rh (nw h)))
  · by_cases EX : ∃ b L, Arr (nw h) nd (goal (nw h) (rh (nw h))) b L ∧ L.length ≤ 12
    · obtain ⟨b, L, A, l12⟩ := EX
      obtain ⟨W', B'⟩ := ins_ok W hc R.2.1.2.2.2.1 fg A l12
      refine dset3 (S := fun b => b = 2 ∨ b = 8 ∨ b = 40 ∨ (rc (rh (nw h)) ≤ b ∧ b < rc (rh (nw h)) + 4) ∨ (44 ≤ b ∧ b < 86)) (N' := (insP (nw h) nd b L).2) (e := 0) (x := (insP (nw h) nd b L).1) (n0 := 1) (s0 := n12) (n1 := 5) (s1 := 5 * n12) (wL := fun Q => w_L_install Q h) (wR := fun g Q => w_X14_install Q g) T R (by omega) (rgk rfl) (fun b y => by omega) (fun _ => W') (fun _ _ => B') (fun Q q0 q1 => ?_) (fun g Tg Z gF g3 g2 eg Q q0 q1 => ?_) k
      · refine c_L_install T C W b0 p1' p2' R.1.2.2.2.2.1 dk R.2.2.1 (by omega) (fun k hk => by have := a3 k hk; omega) (by omega) (fun y => absurd sn y) (fun _ h1 h2 g b' L' t1 s1 r2 t2 A' _ F gl gx e9 tg Cg CCg h5 e5 => ?_)
        obtain ⟨eb, eL⟩ := Arr_u A' A
        subst eb
        subst eL
        exact q1 rfl h1 h2 g h5 t1 s1 r2 t2 F gl gx e9 tg Cg CCg e5
      · refine c_X14_install Tg eg.symm W (by omega) g3 g2 Z fg fi (by omega) (fun k hk => by have := a3 k hk; omega) (by omega) (fun y => absurd sn y) (fun _ b' L' h1 h2 h5 h7 A' _ t1 e1 r t2 r3 t5 F7 e7 G7 en => ?_)
        obtain ⟨eb, eL⟩ := Arr_u A' A
        subst eb
        subst eL
        exact q1 rfl h1 h2 h5 h7 t1 e1 r t2 r3 t5 F7 e7 G7 en
    · refine dset3 (S := fun b => b = 2) (N' := nw h) (e := 0) (x := 0) (n0 := 1) (s0 := n12) (n1 := 5) (s1 := 5 * n12) (wL := fun Q => w_L_install Q h) (wR := fun g Q => w_X14_install Q g) T R (by omega) (rgk rfl) (fun b y => by omega) (fun _ => W) (fun _ b => BdN_mono (Nat.le_succ c) b) (fun Q q0 q1 => ?_) (fun g Tg Z gF g3 g2 eg Q q0 q1 => ?_) k
      · exact c_L_install T C W b0 p1' p2' R.1.2.2.2.2.1 dk R.2.2.1 (by omega) (fun k hk => by have := a3 k hk; omega) (by omega) (fun y => absurd sn y) (fun _ _ _ _ b' L' _ _ _ _ A' l' _ _ _ _ _ _ _ _ _ => absurd ⟨b', L', A', l'⟩ EX)
      · exact c_X14_install Tg eg.symm W (by omega) g3 g2 Z fg fi (by omega) (fun k hk => by have := a3 k hk; omega) (by omega) (fun y => absurd sn y) (fun _ b' L' _ _ _ _ A' l' _ _ _ _ _ _ _ _ _ _ => absurd ⟨b', L', A', l'⟩ EX)
  · refine dset3 (S := fun b => b = 2) (N' := nw h) (e := 1) (x := 0) (n0 := 1) (s0 := n12) (n1 := 5) (s1 := 5 * n12) (wL := fun Q => w_L_install Q h) (wR := fun g Q => w_X14_install Q g) T R (by omega) (rgk rfl) (fun b y => by omega) (fun _ => W) (fun _ b => BdN_mono (Nat.le_succ c) b) (fun Q q0 q1 => ?_) (fun g Tg Z gF g3 g2 eg Q q0 q1 => ?_) k
    · exact c_L_install T C W b0 p1' p2' R.1.2.2.2.2.1 dk R.2.2.1 (by omega) (fun k hk => by have := a3 k hk; omega) (by omega) (fun _ g tg s => q0 (by decide) g tg s) (fun y => absurd y sn)
    · exact c_X14_install Tg eg.symm W (by omega) g3 g2 Z fg fi (by omega) (fun k hk => by have := a3 k hk; omega) (by omega) (fun _ h1 h2 h3 t1 e1 r t2 e3 => q0 (by decide) h1 h2 h3 t1 e1 r t2 e3) (fun y => absurd y sn)
