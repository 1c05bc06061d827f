/-! CALLS THAT ASK, both sides -/
/-- what holds on behind one side of a call that asks -/
def Ask (h g : XH) (nd : Nat → ND) (o u : Int) (c n s : Nat) : Prop := Inv g nd o u c ∧ nw g = nw h ∧ Gr n s h g
theorem Ask_nT {h : XH} {nd : Nat → ND} {o u : Int} {c : Nat} (T : HT h) (R : Inv h nd o u c) : Ask h (nT h) nd o u c 1 (xcs none) :=
  ⟨Inv_nT T R, nw_fr (nT_s h (by have := HT_len T; omega)), Gr_nT h⟩
theorem Ask_6 {h h6 : XH} {nd : Nat → ND} {o u : Int} {c : Nat} {y : BitVec 64} (T : HT h) (R : Inv h nd o u c) (e6 : h6 = sL h 467 0 y) : Ask h h6 nd o u c 0 0 ∧ hL h6 467 0 = y := by
  have L := HT_len T
  have F : Fr (fun b => b = 467) h h6 := by rw [e6]; exact Fr_sV rfl
  have s : ∀ b, ¬ b = 467 → sameC h h6 b := fun b n => by rw [e6]; exact sameC_sV (fun z => n z.symm)
  refine ⟨⟨Inv_fr T R F (fun b y => by omega) (fun j _ => sameC_el (s 2 (by decide)) j) (fun j _ => sameC_el (s 437 (by decide)) j) (TP_fr (s 3 (by decide)) (s 4 (by decide)) (s 441 (by decide)) (sameC_I (s 437 (by decide)) 9) (sameC_I (s 437 (by decide)) 10) R.1.2.2.2.2.2), nw_fr (s 438 (by decide)), by rw [e6]; exact Gr_sV _ _ _ _⟩, ?_⟩
  rw [e6]
  exact hL_eq (by rw [lyn (c := 101) (n := 1) T rfl]; decide)
theorem Ask_5 {h g1 g2 : XH} {nd : Nat → ND} {o u n : Int} {c : Nat} (T : HT h) (R : Inv h nd o u c) (T1 : HT g1) (rn : rg n) (e1 : g1 = sI h 437 5 0) (e2 : g2 = sI g1 437 5 n) : Ask h g2 nd o u c 0 0 ∧ hI g2 437 5 = n := by
  refine ⟨⟨?_, ?_, ?_⟩, h5_0 T1 rn e2⟩
  · rw [e2]
    exact Inv_5 T1 (by rw [e1]; exact Inv_5 T R)
  · rw [e2, e1]
    exact nw_fr (sameC_tr (sameC_sV (by decide)) (sameC_sV (by decide)))
  · rw [e2, e1]
    exact ⟨by rw [len_sV, len_sV]; omega, by rw [xhs_sV, xhs_sV]; omega⟩
theorem Ask_a {h g1 g2 : XH} {nd : Nat → ND} {o u : Int} {c n s : Nat} (T : HT h) (R : Inv h nd o u c) (T1 : HT g1) (e1 : g1 = sI h 437 5 0) (f : Fr (fun _ => False) g1 g2) (g : Gr n s g1 g2) : Ask h g2 nd o u c n s ∧ hI g2 437 5 = 0 ∧ hL g2 467 0 = hL h 467 0 := by
  have L := HT_len T
  have l1 : g1.length = h.length := by rw [e1, len_sV]
  have x1 : xhs g1 = xhs h := by rw [e1, xhs_sV]
  have F : Fr (fun b => b = 437) h g2 := fun b hb n => sameC_tr (by rw [e1]; exact sameC_sV (fun z => n z.symm)) (f b (by omega) id)
  have s37 : sameC g1 g2 437 := f 437 (by omega) id
  have g37 : ∀ j, ¬ j = 5 → el g2 437 j = el h 437 j := fun j n => by rw [sameC_el s37, e1, el_ni (fun z => n z.symm)]
  refine ⟨⟨Inv_fr T R F (fun b y => by omega) (fun j _ => sameC_el (F 2 (by omega) (by decide)) j) (fun j hj => g37 j (by omega)) (TP_fr (F 3 (by omega) (by decide)) (F 4 (by omega) (by decide)) (F 441 (by omega) (by decide)) (congrArg gvI (g37 9 (by decide))) (congrArg gvI (g37 10 (by decide))) R.1.2.2.2.2.2), nw_fr (F 438 (by omega) (by decide)), ⟨by have := g.1; omega, by have := g.2; omega⟩⟩, ?_, sameC_L (F 467 (by omega) (by decide)) 0⟩
  rw [sameC_I s37]
  exact h5_0 T (rgk rfl) e1
/-- a call that asks and may refuse: e says which, x is the answer -/
theorem dask {h : XH} {nd : Nat → ND} {o u e x : Int} {c n1 s1 n2 s2 : Nat} {wL : (Int → XH → Prop) → Prop} {wR : XH → (Int → XH → Prop) → Prop}
    (A : ∀ Q : Int → XH → Prop, (∀ g, Ask h g nd o u c n1 s1 → (e = 0 → hL g 467 0 = i2l x) → Q e g) → wL Q)
    (B : ∀ g, HT g → Inv g nd o u c → nw g = nw h → ∀ Q : Int → XH → Prop, (∀ g2 y, Ask g g2 nd o u c n2 s2 → hI g2 437 5 = e → (e = 0 → y = x ∧ hL g2 467 0 = hL g 467 0) → Q y g2) → wR g Q)
    {K : Int → XH → Prop} {J : XH → Prop} (k : ∀ h' o' u', HT h' → Inv h' nd o' u' (c + 1) → Gr (n1 + n2) (s1 + s2) h h' → J h') : wL (fun x h2 => HT h2 → HX h h2 → rg x → (wR h2 (fun y h3 => HT h3 → HX h2 h3 → rg y → (w_X14_thrown (fun z => rg z → (((z = x → (∃ J' : Prop, (J' → (J h3)) ∧ ((¬ x = 0 → J') ∧ (¬ (¬ x = 0) → (((hL h3 467 0 = i2l y → J') ∧ (¬ (hL h3 467 0 = i2l y) → (K 0 h3)))))))) ∧ (¬ (z = x) → (K 0 h3))))) h3)))) := by
  refine A _ (fun g a ex => ?_)
  intro t1 u1 rx
  refine B g t1 a.1 a.2.1 _ (fun g2 y b h5 ey => ?_)
  intro t2 u2 ry
  exact fin_ h5 (fun z => by rw [(ey z).2, ex z, (ey z).1]) (k g2 o u t2 (Inv_mono (Nat.le_succ c) b.1) (Gr_tr a.2.2 b.2.2))
/-- the same, of an answer yes or no -/
theorem daskB {h : XH} {nd : Nat → ND} {o u e x : Int} {c n1 s1 n2 s2 : Nat} {wL : (Int → XH → Prop) → Prop} {wR : XH → (Int → XH → Prop) → Prop}
    (A : ∀ Q : Int → XH → Prop, (∀ g, Ask h g nd o u c n1 s1 → (e = 0 → hL g 467 0 = i2l x) → Q e g) → wL Q)
    (B : ∀ g, HT g → Inv g nd o u c → nw g = nw h → ∀ Q : Int → XH → Prop, (∀ g2 y, Ask g g2 nd o u c n2 s2 → hI g2 437 5 = e → (e = 0 → y = x ∧ hL g2 467 0 = hL g 467 0) → Q y g2) → wR g Q)
    {K : Int → XH → Prop} {J : XH → Prop} (k : ∀ h' o' u', HT h' → Inv h' nd o' u' (c + 1) → Gr (n1 + n2) (s1 + s2) h h' → J h') : wL (fun x h2 => HT h2 → HX h h2 → rg x → (wR h2 (fun y h3 => HT h3 → HX h2 h3 → rg y → (y = 0 ∨ y = 1) → (w_X14_thrown (fun z => rg z → (((z = x → (∃ J' : Prop, (J' → (J h3)) ∧ ((¬ x = 0 → J') ∧ (¬ (¬ x = 0) → (∃ JB : BitVec 64 → Prop, (∀ (b : BitVec 64), JB b → (((hL h3 467 0 = b → J') ∧ (¬ (hL h3 467 0 = b) → (K 0 h3))))) ∧ ((y = 0 → (JB (0#64))) ∧ (¬ (y = 0) → (JB (1#64))))))))) ∧ (¬ (z = x) → (K 0 h3))))) h3)))) := by
  refine A _ (fun g a ex => ?_)
  intro t1 u1 rx
  refine B g t1 a.1 a.2.1 _ (fun g2 y b h5 ey => ?_)
  intro t2 u2 ry vy
  exact finB_ h5 (fun z => by rw [(ey z).2, ex z, (ey z).1]) vy (k g2 o u t2 (Inv_mono (Nat.le_succ c) b.1) (Gr_tr a.2.2 b.2.2))
/-- a call that asks and never refuses; the class changes nothing -/
theorem dasp {h : XH} {nd : Nat → ND} {o u x : Int} {c n2 s2 : Nat} {wL : (Int → Prop) → Prop} {wR : XH → (Int → XH → Prop) → Prop} (T : HT h) (R : Inv h nd o u c)
    (A : ∀ Q : Int → Prop, Q x → wL Q)
    (B : ∀ g, HT g → Inv g nd o u c → nw g = nw h → ∀ Q : Int → XH → Prop, (∀ g2 y, Ask g g2 nd o u c n2 s2 → y = x → Q y g2) → wR g Q)
    {K : Int → XH → Prop} {J : XH → Prop} (k : ∀ h' o' u', HT h' → Inv h' nd o' u' (c + 1) → Gr n2 s2 h h' → J h') : wL (fun x => rg x → (wR h (fun y h2 => HT h2 → HX h h2 → rg y → ((x = y → J h2) ∧ (¬ (x = y) → K 0 h2))))) := by
  refine A _ ?_
  intro rx
  refine B h T R rfl _ (fun g2 y b ey => ?_)
  intro t2 u2 ry
  exact ⟨fun _ => k g2 o u t2 (Inv_mono (Nat.le_succ c) b.1) b.2.2, fun n => (n ey.symm).elim⟩
/-- the same; the class works something out -/
theorem dasq {h : XH} {nd : Nat → ND} {o u x : Int} {c n1 s1 n2 s2 : Nat} {wL : (Int → XH → Prop) → Prop} {wR : XH → (Int → XH → Prop) → Prop}
    (A : ∀ Q : Int → XH → Prop, (∀ g, Ask h g nd o u c n1 s1 → Q x g) → wL Q)
    (B : ∀ g, HT g → Inv g nd o u c → nw g = nw h → ∀ Q : Int → XH → Prop, (∀ g2 y, Ask g g2 nd o u c n2 s2 → y = x → Q y g2) → wR g Q)
    {K : Int → XH → Prop} {J : XH → Prop} (k : ∀ h' o' u', HT h' → Inv h' nd o' u' (c + 1) → Gr (n1 + n2) (s1 + s2) h h' → J h') : wL (fun x h1 => HT h1 → HX h h1 → rg x → (wR h1 (fun y h2 => HT h2 → HX h1 h2 → rg y → ((x = y → J h2) ∧ (¬ (x = y) → K 0 h2))))) := by
  refine A _ (fun g a => ?_)
  intro t1 u1 rx
  refine B g t1 a.1 a.2.1 _ (fun g2 y b ey => ?_)
  intro t2 u2 ry
  exact ⟨fun _ => k g2 o u t2 (Inv_mono (Nat.le_succ c) b.1) (Gr_tr a.2.2 b.2.2), fun n => (n ey.symm).elim⟩
/-! the root at hand; sets of a row -/
def rh (N : Nat → Int) : Nat := (N 1).toNat
theorem rh_lt {N : Nat → Int} {m : Nat} (W : WF N m) : rh N < 3 := by
  have := W.2.2.1
  have := W.2.2.2.1
  unfold rh
  omega
theorem c_atH {h : XH} {N : Nat → Int} {nd : Nat → ND} {m : Nat} {K : Nat → Prop} (C : CS h 8 N nd) (W : WF N m) (k : K (rc (rh N))) : w_X11_atHand K h := by
  have a := C.2.2.2.1
  have := W.2.2.1
  have := W.2.2.2.1
  refine c_X11_atHand (by omega) ?_
  rw [a]
  exact k
theorem CS_g {h : XH} {N : Nat → Int} {nd : Nat → ND} (C : CS h 8 N nd) {r : Nat} (hr : r < 3) : SetR N (hL h (rc r) 5) (goal N r) := (R8 (C.2.2.1 r hr)).2.2.2.2.2.1
theorem CS_i {h : XH} {N : Nat → Int} {nd : Nat → ND} (C : CS h 8 N nd) {r : Nat} (hr : r < 3) : SetR N (hL h (rc r) 6) (inst N r) := (R8 (C.2.2.1 r hr)).2.2.2.2.2.2.1
def lockF (N : Nat → Int) (l p : Nat) : Int := N (1678 + 12 * l + p)
def keptF (N : Nat → Int) (r i p : Nat) : Int := nR N r (48 + 12 * i + p)
theorem CS_l {h : XH} {N : Nat → Int} {nd : Nat → ND} (C : CS h 8 N nd) {l : Nat} (hl : l < 3) : SetR N (hL h 39 l) (lockF N l) := C.2.2.2.2.2.2.1 l hl
theorem CS_e {h : XH} {N : Nat → Int} {nd : Nat → ND} (C : CS h 8 N nd) {r i : Nat} (hr : r < 3) (hi : i < 20) (hk : (i : Int) < nR N r 47) : SetR N (hL h (rc r + 3) i) (keptF N r i) := (R8 (C.2.2.1 r hr)).2.2.2.2.2.2.2.2.1 i hi hk
theorem AR_SA {h h1 : XH} {a p : Nat} (s : SA h h1 a p) : AR h1 a (fun i => hI h 438 (p + i)) := ⟨s.2.2.2.1, s.2.2.2.2.1, s.2.2.2.2.2⟩
theorem AR_fr {h h1 : XH} {a : Nat} {f : Nat → Int} (s : sameC h h1 a) (A : AR h a f) : AR h1 a f := ⟨(sameC_k s).trans A.1, (sameC_n s).trans A.2.1, fun i hi => (sameC_I s i).trans (A.2.2 i hi)⟩
theorem hr_ {h : XH} {N : Nat → Int} {m : Nat} (eN : N = nw h) (W : WF N m) : hI h 438 1 = (rh N : Nat) := by
  have := W.2.2.1
  have e : hI h 438 1 = N 1 := by rw [eN]; rfl
  unfold rh
  omega
theorem c_gS {h : XH} {N : Nat → Int} {m : Nat} {K : Nat → XH → Prop} (T : HT h) (eN : N = nw h) (W : WF N m) (k : ∀ a h1, Fr (fun _ => False) h h1 → Gr 1 n12 h h1 → h.length ≤ a → AR h1 a (goal N (rh N)) → K a h1) : w_X14_goalSet K h := by
  refine c_X14_goalSet T (hr_ eN W) (rh_lt W) (fun a h1 s => k a h1 s.1 s.2.1 s.2.2.1 ?_)
  obtain ⟨a1, a2, a3⟩ := AR_SA s
  refine ⟨a1, a2, fun i hi => (a3 i hi).trans ?_⟩
  unfold goal nR
  rw [eN, show 805 + 291 * rh (nw h) + (35 + i) = 805 + 291 * rh (nw h) + 35 + i by omega]
  rfl
theorem c_setA {h : XH} {N : Nat → Int} {f : Nat → Int} {p0 : Int} {K : Nat → XH → Prop} (T : HT h) (eN : N = nw h) (hp : 0 ≤ p0 ∧ p0 + 12 ≤ 1957) (e : ∀ i : Nat, i < 12 → N (p0.toNat + i) = f i) (k : ∀ a h1, Fr (fun _ => False) h h1 → Gr 1 n12 h h1 → h.length ≤ a → AR h1 a f → K a h1) : w_X14_setAt p0 K h := by
  refine c_X14_setAt T hp (fun a h1 s => k a h1 s.1 s.2.1 s.2.2.1 ?_)
  obtain ⟨a1, a2, a3⟩ := AR_SA s
  refine ⟨a1, a2, fun i hi => (a3 i hi).trans ?_⟩
  rw [← e i hi, eN]
  rfl
theorem nw_F {h h1 : XH} (T : HT h) (f : Fr (fun _ => False) h h1) : nw h1 = nw h := nw_fr (f 438 (by have := HT_len T; omega) id)
theorem fOK_of {N : Nat → Int} {s : BitVec 64} {f : Nat → Int} (S : SetR N s f) : fOK N f := S.2.2.2
theorem mkA {P : Prop} [Decidable P] {h : XH} {nd : Nat → ND} {o u n x : Int} {c : Nat} {wL : (Int → XH → Prop) → Prop} (T : HT h) (R : Inv h nd o u c) (hn : ¬ n = 0) (a : ∀ Q : Int → XH → Prop, (¬ P → Q n (nT h)) → (P → ∀ h6, h6 = sL h 467 0 (i2l x) → Q 0 h6) → wL Q) :
    ∀ Q : Int → XH → Prop, (∀ g, Ask h g nd o u c 1 (xcs none) → ((if P then (0 : Int) else n) = 0 → hL g 467 0 = i2l x) → Q (if P then (0 : Int) else n) g) → wL Q := by
  intro Q q
  refine a Q (fun y => ?_) (fun y h6 e6 => ?_)
  · have := q (nT h) (Ask_nT T R)
    rw [if_neg y] at this
    exact this (fun z => (hn z).elim)
  · obtain ⟨z1, z2⟩ := Ask_6 T R e6
    have := q h6 ⟨z1.1, z1.2.1, Gr_mono z1.2.2 (by omega) (by omega)⟩
    rw [if_pos y] at this
    exact this (fun _ => z2)
theorem mkB {P : Prop} [Decidable P] {g : XH} {nd : Nat → ND} {o u n x : Int} {c n2 s2 : Nat} {wR : (Int → XH → Prop) → Prop} (T : HT g) (R : Inv g nd o u c) (rn : rg n) (hn : ¬ n = 0) (b : ∀ Q : Int → XH → Prop, (¬ P → ∀ h1 h2, HT h1 → h1 = sI g 437 5 0 → h2 = sI h1 437 5 n → Q 0 h2) → (P → ∀ h1 h2, HT h1 → h1 = sI g 437 5 0 → Fr (fun _ => False) h1 h2 → Gr n2 s2 h1 h2 → Q x h2) → wR Q) :
    ∀ Q : Int → XH → Prop, (∀ g2 y, Ask g g2 nd o u c n2 s2 → hI g2 437 5 = (if P then (0 : Int) else n) → ((if P then (0 : Int) else n) = 0 → y = x ∧ hL g2 467 0 = hL g 467 0) → Q y g2) → wR Q := by
  intro Q q
  refine b Q (fun y h1 h2 t1 e1 e2 => ?_) (fun y h1 h2 t1 e1 f g => ?_)
  · obtain ⟨z1, z2⟩ := Ask_5 T R t1 rn e1 e2
    have := q h2 0 ⟨z1.1, z1.2.1, Gr_mono z1.2.2 (by omega) (by omega)⟩
    rw [if_neg y] at this
    exact this z2 (fun z => (hn z).elim)
  · obtain ⟨z1, z2, z3⟩ := Ask_a T R t1 e1 f g
    have := q h2 x z1
    rw [if_pos y] at this
    exact this z2 (fun _ => ⟨rfl, z3⟩)
theorem mkP {g : XH} {nd : Nat → ND} {o u x : Int} {c n2 s2 : Nat} {wR : (Int → XH → Prop) → Prop} (T : HT g) (R : Inv g nd o u c) (b : ∀ Q : Int → XH → Prop, (∀ h1 h2, HT h1 → h1 = sI g 437 5 0 → Fr (fun _ => False) h1 h2 → Gr n2 s2 h1 h2 → Q x h2) → wR Q) :
    ∀ Q : Int → XH → Prop, (∀ g2 y, Ask g g2 nd o u c n2 s2 → y = x → Q y g2) → wR Q := by
  intro Q q
  exact b Q (fun h1 h2 t1 e1 f g => q h2 x (Ask_a T R t1 e1 f g).1 rfl)
/-- what the law goes on with -/
abbrev LDw (h : XH) (wR : XH → (Int → XH → Prop) → Prop) (K : Int → XH → Prop) (J : XH → Prop) : Int → XH → Prop := fun x h2 => HT h2 → HX h h2 → rg x → (wR h2 (fun y h3 => HT h3 → HX h2 h3 → rg y → (w_X14_thrown (fun z => rg z → (((z = x → (∃ J' : Prop, (J' → (J h3)) ∧ ((¬ x = 0 → J') ∧ (¬ (¬ x = 0) → (((hL h3 467 0 = i2l y → J') ∧ (¬ (hL h3 467 0 = i2l y) → (K 0 h3)))))))) ∧ (¬ (z = x) → (K 0 h3))))) h3)))
abbrev LDp (h : XH) (wR : XH → (Int → XH → Prop) → Prop) (K : Int → XH → Prop) (J : XH → Prop) : Int → Prop := fun x => rg x → (wR h (fun y h2 => HT h2 → HX h h2 → rg y → ((x = y → J h2) ∧ (¬ (x = y) → K 0 h2))))
abbrev LDq (h : XH) (wR : XH → (Int → XH → Prop) → Prop) (K : Int → XH → Prop) (J : XH → Prop) : Int → XH → Prop := fun x h1 => HT h1 → HX h h1 → rg x → (wR h1 (fun y h2 => HT h2 → HX h1 h2 → rg y → ((x = y → J h2) ∧ (¬ (x = y) → K 0 h2))))
