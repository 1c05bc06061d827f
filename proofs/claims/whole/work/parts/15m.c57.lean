/-! ATOMS, the class -/
def AtK (g : XH) (w : Int) (s : Nat) (a : At1) : Prop := hk g s = 1 ∧ hI g s 0 = a.1 ∧ hI g s 1 = w ∧ SpanL g (hR g s 2) (nrm a.2)
theorem AtK_fr {g k : XH} {w : Int} {s : Nat} {a : At1} (z : AtK g w s a) (e : ∀ j, j < 3 → el k s j = el g s j) (c : hk k s = hk g s) (f : ∀ c, hk g c = 11 → sameC g k c) : AtK k w s a := by
  refine ⟨c.trans z.1, (congrArg gvI (e 0 (by decide))).trans z.2.1, (congrArg gvI (e 1 (by decide))).trans z.2.2.1, ?_⟩
  have e2 : hR k s 2 = hR g s 2 := congrArg gvR (e 2 (by decide))
  rw [e2]
  exact SpanL_fr f _ _ z.2.2.2
theorem AtK_s {g k : XH} {w : Int} {s : Nat} {a : At1} (z : AtK g w s a) (e : sameC g k s) (f : ∀ c, hk g c = 11 → sameC g k c) : AtK k w s a := AtK_fr z (fun j _ => sameC_el e j) (sameC_k e) f
/-- a chain of atoms, from s to the cell a, which holds q -/
def ChA (g : XH) (w : Int) : Nat → List At1 → Nat → At1 → Prop
  | s, [], a, q => s = a ∧ AtK g w s q
  | s, p :: l, a, q => AtK g w s p ∧ s < hR g s 3 ∧ ChA g w (hR g s 3) l a q
theorem ChA_le {g : XH} {w : Int} {a : Nat} {q : At1} : ∀ (l : List At1) (s : Nat), ChA g w s l a q → s ≤ a := by
  intro l
  induction l with
  | nil => intro s z; exact Nat.le_of_eq z.1
  | cons p l ih => intro s z; have := ih _ z.2.2; have := z.2.1; omega
theorem ChA_k {g : XH} {w : Int} {a : Nat} {q : At1} : ∀ (l : List At1) (s : Nat), ChA g w s l a q → AtK g w a q := by
  intro l
  induction l with
  | nil => intro s z; exact z.1 ▸ z.2
  | cons p l ih => intro s z; exact ih _ z.2.2
theorem ChA_fr {g k : XH} {w : Int} {a : Nat} {q : At1} (f : ∀ c, hk g c = 1 ∨ hk g c = 11 → sameC g k c) : ∀ (l : List At1) (s : Nat), ChA g w s l a q → ChA k w s l a q := by
  intro l
  induction l with
  | nil => intro s z; exact ⟨z.1, AtK_s z.2 (f s (.inl z.2.1)) (fun c hc => f c (.inr hc))⟩
  | cons p l ih =>
    intro s z
    have e := f s (.inl z.1.1)
    have e5 := sameC_R e 3
    refine ⟨AtK_s z.1 e (fun c hc => f c (.inr hc)), ?_, ?_⟩
    · rw [e5]; exact z.2.1
    · rw [e5]; exact ih _ z.2.2
theorem ChA_app {g k : XH} {w : Int} {a b : Nat} {q r : At1} (lt : a < b) (qa : AtK k w a q) (e : hR k a 3 = b) (rb : AtK k w b r) (f : ∀ c, ¬ c = a → hk g c = 1 ∨ hk g c = 11 → sameC g k c) (na : hk g a = 1) : ∀ (l : List At1) (s : Nat), ChA g w s l a q → ChA k w s (l ++ [q]) b r := by
  intro l
  induction l with
  | nil => intro s z; obtain ⟨z1, -⟩ := z; rw [z1]; exact ⟨qa, by rw [e]; exact lt, by rw [e]; exact ⟨rfl, rb⟩⟩
  | cons p l ih =>
    intro s z
    have le := ChA_le _ _ z.2.2
    have e1 := f s (by have := z.2.1; omega) (.inl z.1.1)
    have e5 := sameC_R e1 3
    refine ⟨AtK_s z.1 e1 (fun c hc => f c (fun y => by rw [y, na] at hc; omega) (.inr hc)), ?_, ?_⟩
    · rw [e5]; exact z.2.1
    · rw [e5]; exact ih _ z.2.2
theorem ChA_L {g : XH} {w : Int} {a : Nat} {q : At1} (e : hR g a 3 = 0) : ∀ (l : List At1) (s : Nat), ChA g w s l a q → AtomL g w s (l ++ [q]) := by
  intro l
  induction l with
  | nil =>
    intro s z
    obtain ⟨z1, z2⟩ := z
    rw [z1] at z2 ⊢
    exact ⟨z2.1, z2.2.1, z2.2.2.1, z2.2.2.2, e⟩
  | cons p l ih =>
    intro s z
    exact ⟨z.1.1, z.1.2.1, z.1.2.2.1, z.1.2.2.2, ih _ z.2.2⟩
/-- an atom whose range stands at the token b -/
def raS (T : Nat → Tok) (i b : Nat) : Int ⊕ (At1 × Nat) :=
  if ¬ (T i).1 = 2 then .inl (T i).2.1 else
  if isR (T b).1 = true then (match rG T b 200 with | .inl e => .inl e | .inr (l, j) => .inr (((T i).2.2, l), j)) else .inr (((T i).2.2, []), b)
theorem raS_1 (T : Nat → Tok) (i : Nat) : raS T i (i + 1) = rA T i := by
  unfold raS rA
  by_cases a : (T i).1 = 2
  · rw [if_neg (c := ¬ (T i).1 = 2) (fun y => y a), if_neg (c := ¬ (T i).1 = 2) (fun y => y a)]
    by_cases b : isR (T (i + 1)).1 = true
    · rw [if_pos b, if_pos b]
      cases rG T (i + 1) 200 with
      | inl e => rfl
      | inr z => rfl
    · rw [if_neg b, if_neg b]
  · rw [if_pos a, if_pos a]
/-- what an atom is read as -/
def AtmP (h : XH) (L : List Int) (np : Int) (n i b : Nat) (w : Int) (a : Nat) (g : XH) : Prop := (a = 0 ∧ (∃ e, raS (tT L np) i b = .inl e ∧ CE g e) ∧ Gc (2 * (200 - i)) h g) ∨ (∃ t j, raS (tT L np) i b = .inr (t, j) ∧ CB g L np n j ∧ i < j ∧ h.length ≤ a ∧ AtK g w a t ∧ hR g a 3 = 0 ∧ a < g.length ∧ Gc (2 * (j - i)) h g)
/-- a new atom -/
def NewA (h g : XH) (a : Nat) (t : At1) (w : Int) : Prop := a = h.length ∧ Fr (fun _ => False) h g ∧ g.length = h.length + 1 ∧ xhs g ≤ xhs h + n6 ∧ AtK g w a t ∧ hR g a 3 = 0
theorem NewA_mk {h h2 g : XH} {a r : Nat} {t : At1} {w : Int} (ea : a = h.length) (e2 : h2 = nO h 1) (hk2 : hk h2 a = 1) (F : Fr (fun b => b = a) h2 g) (gl : g.length = h2.length) (gx : xhs g = xhs h2) (ek : hk g a = hk h2 a) (f0 : hI g a 0 = t.1) (f1 : hI g a 1 = w) (f2 : hR g a 2 = r) (f3 : el g a 3 = el h2 a 3) (S : SpanL h r (nrm t.2)) : NewA h g a t w := by
  have l2 : h2.length = h.length + 1 := by rw [e2]; unfold nO; rw [len_app]
  have F0 : ∀ b, b < h.length → sameC h g b := fun b hb => sameC_tr (by rw [e2]; exact sameC_app hb) (F b (by omega) (by omega))
  refine ⟨ea, fun b hb _ => F0 b hb, by omega, ?_, ⟨by rw [ek]; exact hk2, f0, f1, ?_⟩, ?_⟩
  · rw [gx, e2, xhs_nO]; unfold n6; omega
  · rw [f2]; exact SpanL_fr (fun c hc => F0 c (hk_lt hc (by decide))) _ _ S
  · unfold hR
    rw [f3, e2, ea]
    unfold el nO
    rw [xcell_app, if_pos rfl]
    rfl
set_option maxHeartbeats 1000000 in
theorem c_X0_init {t : Nat} {p0 p1 : Int} {p2 : Nat} {h : XH} (T : HT h) (e : hk h t = 1) (r0 : rg p0) (w01 : p1 = 0 ∨ p1 = 1) {K : XH → Prop} (k : ∀ g, Fr (fun b => b = t) h g → g.length = h.length → xhs g = xhs h → hk g t = hk h t → hI g t 0 = p0 → hI g t 1 = p1 → hR g t 2 = p2 → el g t 3 = el h t 3 → K g) : w_X0_init t p0 p1 p2 K h := by
  unfold w_X0_init
  intro h1 eh1 t1 u1
  refine ⟨w01, ?_⟩
  intro h3 eh3 t3 u3
  intro h4 eh4 t4 u4
  have k1 : hk h1 t = 1 := by rw [eh1, hk_sV]; exact e
  have k3 : hk h3 t = 1 := by rw [eh3, hk_sV]; exact k1
  refine k h4 (by rw [eh4, eh3, eh1]; exact fun b _ n => sameC_tr (sameC_sV (fun z => n z.symm)) (sameC_tr (sameC_sV (fun z => n z.symm)) (sameC_sV (fun z => n z.symm)))) (by rw [eh4, eh3, eh1]; simp only [len_sV]) (by rw [eh4, eh3, eh1]; simp only [xhs_sV]) (by rw [eh4, hk_sV, k3, e]) ?_ ?_ ?_ (by rw [eh4, el_ni (by decide), eh3, el_ni (by decide), eh1, el_ni (by decide)])
  · rw [eh4, hI_ni (by decide), eh3, hI_ni (by decide), eh1]; exact hI_eq (hn_obj T e rfl rfl) r0
  · rw [eh4, hI_ni (by decide), eh3]; exact hI_eq (hn_obj t1 k1 rfl rfl) (by unfold rg; omega)
  · rw [eh4]; exact hR_eq (hn_obj t3 k3 rfl rfl)
set_option maxHeartbeats 4000000 in
theorem c_X5_readAtom {p0 : Int} {L : List Int} {h : XH} {np : Int} {n i : Nat} (T : HT h) (ok : LOK L) (B : CB h L np n i) {K : Nat → XH → Prop} (k : ∀ a b w g, RFr h g → (((¬ p0 = 0 ∧ (tT L np (i + 1)).1 = 35) ∧ b = i + 2 ∧ w = 1) ∨ (¬ (¬ p0 = 0 ∧ (tT L np (i + 1)).1 = 35) ∧ b = i + 1 ∧ w = 0)) → AtmP h L np n i b w a g → K a g) : w_X5_readAtom p0 K h := by
  unfold w_X5_readAtom
  have l0 := HT_len T
  have i200 : i ≤ 200 := Nat.le_trans B.2.2.1 B.1.1
  have tk_ := tT_k (np := np) ok i
  have n200 := B.1.1
  refine c_X5_pass T ok B ?_
  intro x1 h2 F2 q2
  intro t2 u2
  intro rx1
  refine ⟨fun c39 => ?_, fun c39 => ?_⟩
  · obtain ⟨k2, ex1, B2_⟩ := q2.resolve_right (fun y => c39 y.2.1)
    have B2 : CB h2 L np n (i + 1) := B2_
    have b7 := B2.2.1
    have bi := B2.2.2.1
    have w2 := tk_.2.2.1 k2
    refine ⟨fun x => (x = 0 ∧ ¬ (¬ p0 = 0 ∧ (tT L np (i + 1)).1 = 35)) ∨ (x = 1 ∧ ¬ p0 = 0 ∧ (tT L np (i + 1)).1 = 35), ?_, ?_⟩
    · intro x3 rx3 z4
      refine ⟨fun y => y = x3, ?_, ?_⟩
      · intro x5 rx5 z6
        intro h7 eh7 t7 u7
        have F7 : RF0 h2 h7 := RFr_s (.inr rfl) eh7
        obtain ⟨b, eb, Bb⟩ : ∃ b, ((x3 = 0 ∧ ¬ (¬ p0 = 0 ∧ (tT L np (i + 1)).1 = 35) ∧ b = i + 1) ∨ (x3 = 1 ∧ (¬ p0 = 0 ∧ (tT L np (i + 1)).1 = 35) ∧ b = i + 2)) ∧ CB h7 L np n b := by
          rcases z4 with ⟨y1, y2⟩ | ⟨y1, y2⟩
          · exact ⟨i + 1, .inl ⟨y1, y2, rfl⟩, CB_s t2 B2 (by rw [b7, wr_of (by omega) (by omega)]; omega) bi eh7⟩
          · exact ⟨i + 2, .inr ⟨y1, y2, rfl⟩, CB_s t2 B2 (by rw [b7, wr_of (by omega) (by omega)]; omega) (CB_n B2 (by omega)) eh7⟩
        have F07 := RF0_tr F2 F7
        have ib : i + 1 ≤ b := by rcases eb with y | y <;> omega
        have bb7 := Bb.2.1
        have bbn := Bb.2.2.1
        have e5b := (Bb.1.2.2.2 b Bb.2.2.1).1
        have ri : isR (tT L np b).1 = true ↔ ((tT L np b).1 = 3 ∨ (tT L np b).1 = 42 ∨ ¬ skK (tT L np b).1 = 0) := by unfold isR; rw [decide_eq_true_eq]
        refine c_X5_isNext Bb ?_
        intro x8 q8
        intro rx8 vx8
        refine ⟨fun x => bq x (isR (tT L np b).1 = true), ?_, ?_⟩
        · intro x9 rx9 z10
          refine ⟨fun a g => RFr h g ∧ ((a = 0 ∧ (∃ e, raS (tT L np) i b = .inl e ∧ CE g e) ∧ Gc (2 * (200 - i)) h g) ∨ (¬ a = 0 ∧ ∃ l j, raS (tT L np) i b = .inr (((tT L np i).2.2, l), j) ∧ CB g L np n j ∧ b ≤ j ∧ SpanL g a (nrm l) ∧ Gc (j - i) h g)), ?_, ?_⟩
          · intro a11 h12 t12 s12 z13
            refine ⟨fun a g => RFr h g ∧ AtmP h L np n i b x3 a g, ?_, ?_⟩
            · intro a14 h15 t15 s15 z16
              refine k a14 b x3 h15 z16.1 ?_ z16.2
              rcases eb with y | y
              · exact .inr ⟨y.2.1, y.2.2, y.1⟩
              · exact .inl ⟨y.2.1, y.2.2, y.1⟩
            · refine ⟨fun c20 => ?_, fun c20 => ?_⟩
              · intro a17 h18 ea17 eh18 t18 u18 ca17
                obtain ⟨F12, z13⟩ := z13
                obtain ⟨-, l, j, y1, y2, y3, y4, y5⟩ := z13.resolve_left (fun y => c20 y.1)
                refine c_X0_init t18 ca17 (by unfold rg; omega) (by rcases z4 with y | y; exact .inl y.1; exact .inr y.1) ?_
                intro h19 G gl gx ek f0 f1 f2 f3
                intro t19 u19
                obtain ⟨m1, m2, m3, m4, m5, m6⟩ := NewA_mk (t := ((tT L np i).2.2, l)) ea17 eh18 ca17 G gl gx ek (f0.trans ex1) f1 f2 f3 y4
                have l12 := HT_len t12
                have s : ∀ c, c < h12.length → sameC h12 h19 c := fun c hc => m2 c hc (fun z => z)
                have := F12.2.1
                exact ⟨RFr_tr F12 ⟨fun c hc _ => s c hc, by omega, fun j _ _ => sameC_el (s 3 (by omega)) j⟩, .inr ⟨_, j, y1, CB_fr y2 (s 3 (by omega)) (s 5 (by omega)) (s 6 (by omega)) (s 7 (by omega)), by omega, by omega, m5, m6, by omega, Gc_tr y5 (Gc_1 m3 m4) (by omega)⟩⟩
              · exact ⟨z13.1, .inl ⟨rfl, (z13.2.resolve_right (fun y => c20 y.1)).2⟩⟩
          · refine ⟨fun c25 => ?_, fun c25 => ?_⟩
            · refine c_X10_any ?_
              intro a21 h22 N22
              intro t22 u22
              obtain ⟨m1, m2, m3, m4, m5, m6⟩ := N22
              have l7 := HT_len t7
              have s : ∀ c, c < h7.length → sameC h7 h22 c := fun c hc => m2 c hc (fun z => z)
              have nr : ¬ isR (tT L np b).1 = true := by rcases z10 with ⟨y1, y2⟩ | ⟨y1, y2⟩; omega; exact y2
              refine ⟨RFr_tr F07.1 ⟨fun c hc _ => s c hc, by omega, fun j _ _ => sameC_el (s 3 (by omega)) j⟩, .inr ⟨by omega, [], b, ?_, CB_fr Bb (s 3 (by omega)) (s 5 (by omega)) (s 6 (by omega)) (s 7 (by omega)), Nat.le_refl _, Ch_L (l := []) m6 a21 ⟨rfl, m5⟩, Gc_tr (Gc_0 F07.2.1 F07.2.2 0) (Gc_1 m3 m4) (by omega)⟩⟩
              unfold raS
              rw [if_neg (fun y => y k2), if_neg nr]
            · refine c_X5_readRange t7 ok Bb ?_
              intro a23 h24 F24 q24
              intro t24 u24
              have yr : isR (tT L np b).1 = true := by rcases z10 with ⟨y1, y2⟩ | ⟨y1, y2⟩; exact y2; exact absurd y1 c25
              have l7 := HT_len t7
              have r : raS (tT L np) i b = match rG (tT L np) b 200 with | .inl e => .inl e | .inr (l, j) => .inr (((tT L np i).2.2, l), j) := by unfold raS; rw [if_neg (fun y => y k2), if_pos yr]
              refine ⟨RFr_tr F07.1 F24, ?_⟩
              rcases q24 with ⟨y1, ⟨e, y2, y3⟩, y4⟩ | ⟨l, j, y1, y2, y3, y4, y5, y6, y7⟩
              · exact .inl ⟨y1, ⟨e, by rw [r, y2], y3⟩, Gc_tr (Gc_0 F07.2.1 F07.2.2 0) y4 (by omega)⟩
              · refine .inr ⟨by omega, l, j, by rw [r, y1], y2, Nat.le_of_lt y3, ?_, Gc_tr (Gc_0 F07.2.1 F07.2.2 0) y7 (by omega)⟩
                have : nrm l = l := by cases l with | nil => exact absurd rfl y6 | cons _ _ => rfl
                rw [this]; exact y5
        · refine ⟨isR (tT L np b).1 = true, ?_, ?_⟩
          · intro z26
            exact bqT z26
          · refine ⟨fun c33 => ?_, fun c33 => ?_⟩
            · rcases q8 with ⟨y1, y2⟩ | ⟨y1, y2⟩
              · exact ri.mpr (.inr (.inl y2))
              · exact absurd y1 c33
            · refine c_X5_isNext Bb ?_
              intro x27 q27
              intro rx27 vx27
              refine ⟨fun c32 => ?_, fun c32 => ?_⟩
              · rcases q27 with ⟨y1, y2⟩ | ⟨y1, y2⟩
                · exact ri.mpr (.inl y2)
                · exact absurd y1 c32
              · intro x28 ex28 rx28
                refine ⟨(by rw [ex28, bb7]; omega), ?_⟩
                rw [ex28, bb7, Int.toNat_natCast, e5b]
                refine c_X5_isSpanSign ?_
                intro x30 q30
                intro rx30 vx30
                refine ⟨fun c31 => ?_, fun c31 => ?_⟩
                · refine bqF fun y => ?_
                  rcases ri.mp y with y | y | y
                  · rcases q27 with ⟨y1, y2⟩ | ⟨y1, y2⟩
                    · exact c32 (by omega)
                    · exact y2 y
                  · rcases q8 with ⟨y1, y2⟩ | ⟨y1, y2⟩
                    · exact c33 (by omega)
                    · exact y2 y
                  · rcases q30 with ⟨y1, y2⟩ | ⟨y1, y2⟩
                    · omega
                    · exact y2 y
                · rcases q30 with ⟨y1, y2⟩ | ⟨y1, y2⟩
                  · exact ri.mpr (.inr (.inr y2))
                  · exact absurd y1 c31
      · refine ⟨fun c34 => ?_, fun c34 => ?_⟩
        · exact c34.symm
        · rcases z4 with y | y
          · exact absurd y.1 c34
          · exact y.1.symm
    · refine ⟨¬ (¬ p0 = 0 ∧ (tT L np (i + 1)).1 = 35), ?_, ?_⟩
      · intro z35
        exact .inl ⟨rfl, z35⟩
      · refine ⟨fun c38 => ?_, fun c38 => ?_⟩
        · exact fun y => y.1 c38
        · refine c_X5_isNext B2 ?_
          intro x36 q36
          intro rx36 vx36
          refine ⟨fun c37 => ?_, fun c37 => ?_⟩
          · intro y
            rcases q36 with ⟨y1, y2⟩ | ⟨y1, y2⟩
            · omega
            · exact y2 y.2
          · rcases q36 with ⟨y1, y2⟩ | ⟨y1, y2⟩
            · exact .inr ⟨rfl, c38, y2⟩
            · omega
  · rcases q2 with ⟨y1, y2, -⟩ | ⟨y1, -, y3⟩
    · have := (tk_.2.2.1 y1).1; omega
    · have r : ∀ b, raS (tT L np) i b = .inl (tT L np i).2.1 := fun b => by unfold raS; rw [if_pos y1]
      by_cases c : ¬ p0 = 0 ∧ (tT L np (i + 1)).1 = 35
      · exact k 0 (i + 2) 1 h2 F2.1 (.inl ⟨c, rfl, rfl⟩) (.inl ⟨rfl, ⟨_, r _, y3⟩, Gc_0 F2.2.1 F2.2.2 _⟩)
      · exact k 0 (i + 1) 0 h2 F2.1 (.inr ⟨c, rfl, rfl⟩) (.inl ⟨rfl, ⟨_, r _, y3⟩, Gc_0 F2.2.1 F2.2.2 _⟩)
/-! a whole need -/
/-- of the class's own cells, what reading may change -/
def ClF (h g : XH) : Prop := Fr (fun b => b = 3 ∨ (5 ≤ b ∧ b < 8)) h g ∧ (∀ j, ¬ j = 1 → ¬ j = 2 → ¬ j = 6 → ¬ j = 7 → el g 3 j = el h 3 j) ∧ hI g 3 1 = 0 ∧ Gc 402 h g
/-- what was read -/
def ClP (g : XH) (Q : Nat → ND → Prop) (a : Nat) (r : Int ⊕ ND) : Prop := (∃ e, r = .inl e ∧ a = 0 ∧ hI g 3 2 = e ∧ ¬ e = -1) ∨ ∃ d, r = .inr d ∧ hI g 3 2 = -1 ∧ Q a d ∧ ¬ a = 0
set_option maxHeartbeats 1000000 in
theorem c_passE {h : XH} {e : Int} (T : HT h) (E : CE h e) {K : Int → XH → Prop} (k : ∀ x g, RF0 h g → CE g e → K x g) : w_X5_pass 0 K h := by
  unfold w_X5_pass
  obtain ⟨E1, E2, E3, E4⟩ := E
  intro x1 ex1 rx1
  refine ⟨(by omega), ?_⟩
  refine ⟨fun c16 => ?_, fun c16 => ?_⟩
  · intro x3 ex3 rx3
    refine ⟨(by omega), ?_⟩
    intro x5 ex5 rx5
    refine ⟨fun y => y = 0, ?_, ?_⟩
    · intro x6 rx6 z7
      intro h8 eh8 t8 u8
      rw [z7, Int.add_zero, wr_of (by omega) (by omega)] at eh8
      refine k _ _ (RFr_s (.inr rfl) eh8) ⟨?_, E2, ?_, ?_⟩
      · rw [eh8, hI_ni (by decide)]; exact E1
      · rw [eh8, hI_eq (n3_ T rfl) (by unfold rg; omega)]; exact E3
      · rw [eh8, hI_eq (n3_ T rfl) (by unfold rg; omega)]; exact E4
    · refine ⟨fun c9 => ?_, fun c9 => ?_⟩
      · exact absurd rfl c9
      · rfl
  · refine ⟨fun y => y = e, ?_, ?_⟩
    · intro x10 rx10 z11
      intro h12 eh12 t12 u12
      refine k _ _ (RFr_s (.inl rfl) eh12) ⟨?_, E2, ?_, ?_⟩
      · rw [eh12, z11]; exact hI_eq (n3_ T rfl) (by rw [← E1]; exact rg16 h 3 2)
      · rw [eh12, hI_ni (by decide)]; exact E3
      · rw [eh12, hI_ni (by decide)]; exact E4
    · refine ⟨fun c15 => ?_, fun c15 => ?_⟩
      · exact E1
      · intro x13 ex13 rx13
        refine ⟨(by omega), ?_⟩
        exact absurd (E1.symm.trans (Decidable.not_not.mp c15)) E2
/-- the end of a text is due -/
theorem c_end {L : List Int} {g : XH} {np : Int} {n : Nat} {r : Int ⊕ ND} {Q : Int → List At1 → Nat → Prop} (T : HT g) (ok : LOK L) (z : (∃ e, r = .inl e ∧ CE g e) ∨ (∃ w l j, Q w l j ∧ r = rE (tT L np) w (.inr (l, j)) ∧ CB g L np n j)) {K : Int → XH → Prop} (k : ∀ x g', RF0 g g' → ((∃ e, r = .inl e ∧ hI g' 3 2 = e ∧ ¬ e = -1) ∨ (∃ w l j, Q w l j ∧ r = .inr (w, l) ∧ hI g' 3 2 = -1)) → K x g') : w_X5_pass 0 K g := by
  rcases z with ⟨e, y1, y2⟩ | ⟨w, l, j, y1, y2, y3⟩
  · exact c_passE T y2 (fun x g' F E => k x g' F (.inl ⟨e, y1, E.1, E.2.1⟩))
  · refine c_X5_pass T ok y3 (fun x g' F q => k x g' F ?_)
    rcases q with ⟨q1, -, q3⟩ | ⟨q1, -, q3⟩
    · exact .inr ⟨w, l, j, y1, by rw [y2]; unfold rE; dsimp only; rw [if_pos q1], q3.2.2.2⟩
    · exact .inl ⟨_, by rw [y2]; unfold rE; dsimp only; rw [if_neg q1], q3.1, q3.2.1⟩
def one (x : Int ⊕ (At1 × Nat)) : Int ⊕ (List At1 × Nat) := match x with
  | .inl e => .inl e
  | .inr (a, j) => .inr ([a], j)
theorem rM_one (T : Nat → Tok) : rM T 0 = one (raS T 0 1) := by
  have e : raS T 0 1 = rA T 0 := raS_1 T 0
  rw [rM_0, e]
  cases rA T 0 with
  | inl e => rfl
  | inr z => rfl
theorem raS_no {T : Nat → Tok} {i b : Nat} (h : ¬ (T i).1 = 2) : raS T i b = .inl (T i).2.1 := by unfold raS; rw [if_pos h]
theorem rN_sw {T : Nat → Tok} (h : (T 0).1 = 2) (h1 : (T 1).1 = 35) : rN T = rE T 1 (one (raS T 0 2)) := by
  unfold rN rN1 raS
  rw [if_pos ⟨h, h1⟩, if_neg (c := ¬ (T 0).1 = 2) (fun y => y h)]
  by_cases c : isR (T 2).1 = true
  · have n0 : ¬ (T 2).1 = 0 := fun y => by rw [y] at c; exact absurd c (by decide)
    rw [if_neg n0, if_pos c]
    cases rG T 2 200 with
    | inl e => rfl
    | inr z => rfl
  · rw [if_neg c]
    by_cases c0 : (T 2).1 = 0
    · rw [if_pos c0]; rfl
    · rw [if_neg c0]
      have nn : ¬ ((T 2).1 = 3 ∨ (T 2).1 = 42 ∨ ¬ skK (T 2).1 = 0) := fun y => c (by unfold isR; rw [decide_eq_true_eq]; exact y)
      have r0 : rG T 2 0 = .inl (T 2).2.1 := by
        show (match rS T 2 with | .inl e => .inl e | .inr (q, j) => .inr ([q], j) : Int ⊕ (List (Int × Int × Int) × Nat)) = _
        unfold rS rV
        rw [if_neg (fun y => nn (.inr (.inl y))), if_neg (fun y => nn (.inr (.inr y))), if_pos (fun y => nn (.inl y))]
      rw [rG_200 (Nat.zero_le _) (.inl ⟨_, r0⟩), r0]
      unfold one rE
      dsimp only
      rw [if_neg c0]
theorem rN_ns {T : Nat → Tok} (h : ¬ ((T 0).1 = 2 ∧ (T 1).1 = 35)) : rN T = rE T 0 (rM T 200) := by unfold rN; rw [if_neg h]
theorem ClF_mk {h h1 h10 h14 h15 : XH} (T : HT h) (F1 : FTF h h1) (F10 : RFr h1 h10) (G : Gc 402 h1 h10) (F14 : RF0 h10 h14) (T14 : HT h14) (e : h15 = sI h14 3 1 0) : ClF h h15 := by
  have l := HT_len T
  obtain ⟨a1, a2, a3, a4⟩ := F1
  obtain ⟨b1, b2, b3⟩ := RFr_tr F10 F14.1
  refine ⟨fun b hb n => sameC_tr (a1 b hb n) (sameC_tr (b1 b (by omega) (by omega)) (by rw [e]; exact sameC_sV (by omega))), fun j n1 n2 n6 n7 => ?_, ?_, ?_⟩
  · rw [e, el_ni (by omega)]
    exact (b3 j n2 n7).trans (a4 j n2 n6 n7)
  · rw [e]; exact hI_eq (n3_ T14 rfl) (rgk rfl)
  · refine Gc_tr (Gc_0 a2 a3 0) (Gc_tr G (Gc_tr (Gc_0 F14.2.1 F14.2.2 0) (Gc_0 (by rw [e, len_sV]) (by rw [e, xhs_sV]) 0) (Nat.le_refl _)) (Nat.le_refl _)) (by omega)
theorem RF0_k {g k : XH} (T : HT g) (F : RFr g k) {c : Nat} (hc : hk g c = 1 ∨ hk g c = 11) : sameC g k c := by
  have k3 : hk g 3 = 6 := lyk (n := 8) T rfl
  have k5 : hk g 5 = 100 := lyk (n := 201) T rfl
  have l : c < g.length := by rcases hc with y | y <;> exact hk_lt y (by decide)
  have n3 : ¬ c = 3 := fun y => by rw [y, k3] at hc; omega
  have n5 : ¬ c = 5 := fun y => by rw [y, k5] at hc; omega
  exact F.1 c l (by omega)
set_option maxHeartbeats 8000000 in
theorem c_X5_readNeed {p1 : Int} {L : List Int} {h : XH} {np : Int} (T : HT h) (Z : Tape h 3 1 4 L) (ok : LOK L) (hnp : 0 ≤ np ∧ np ≤ 12) {K : Nat → XH → Prop} (k : ∀ a g, ClF h g → ClP g (AtomR g) a (if p1 = 0 then rN (tT L np) else rB (tT L np)) → K a g) : w_X5_readNeed np p1 K h := by
  unfold w_X5_readNeed
  obtain ⟨r, er⟩ : ∃ r, r = if p1 = 0 then rN (tT L np) else rB (tT L np) := ⟨_, rfl⟩
  rw [← er] at k
  have l0 := HT_len T
  refine c_X5_findTokens T Z ok hnp ?_
  intro h1 n F1 B1
  intro t1 u1
  refine ⟨fun x => (x = 0 ∧ ¬ p1 = 0) ∨ (x = 1 ∧ p1 = 0), ?_, ?_⟩
  · intro x2 rx2 z3
    have n200 := B1.1.1
    have l1 := HT_len t1
    refine c_X5_readAtom t1 ok B1 ?_
    intro a4 b w h5 F5 hb q5
    intro t5 u5
    refine ⟨fun x => (x = 0 ∧ (¬ p1 = 0 ∨ a4 = 0 ∨ w = 1)) ∨ (x = 1 ∧ ¬ (¬ p1 = 0 ∨ a4 = 0 ∨ w = 1)), ?_, ?_⟩
    · intro x6 rx6 z7
      refine ⟨fun x y g => RFr h1 g ∧ ((x = 0 ∧ (∃ e, r = .inl e ∧ CE g e) ∧ Gc 400 h1 g) ∨ (¬ x = 0 ∧ ∃ l q j, ((x6 = 0 ∧ r = rE (tT L np) w (.inr (l ++ [q], j))) ∨ (¬ x6 = 0 ∧ w = 0 ∧ r = rE (tT L np) 0 (rM (tT L np) 200) ∧ ∃ k : Nat, y = (k : Int) ∧ k ≤ 200 ∧ rM (tT L np) k = .inr (l ++ [q], j))) ∧ CB g L np n j ∧ h1.length ≤ a4 ∧ ChA g w a4 l x q ∧ hR g x 3 = 0 ∧ Gc (2 * j) h1 g)), fun _ y _ => (200 - y).toNat, ?_, ?_⟩
      · refine ⟨F5, ?_⟩
        rcases q5 with ⟨y1, ⟨e, y2, y3⟩, y4⟩ | ⟨t, j, y1, y2, y3, y4, y5, y6, y7, y8⟩
        · refine .inl ⟨y1, ⟨e, ?_, y3⟩, Gc_m y4 (by omega)⟩
          have rb : ∀ m, raS (tT L np) 0 m = .inl e → (m = 1 ∨ ¬ (tT L np 0).1 = 2) → rM (tT L np) 0 = .inl e := fun m z1 z2 => by
            rw [rM_one]
            rcases z2 with z2 | z2
            · rw [← z2, z1]; rfl
            · rw [raS_no z2] at z1 ⊢; rw [z1]; rfl
          rw [er]
          by_cases c : p1 = 0
          · rw [if_pos c]
            by_cases d : (tT L np 0).1 = 2 ∧ (tT L np 1).1 = 35
            · have b2 : b = 2 := by rcases hb with z | z; exact z.2.1; exact absurd ⟨by rcases z3 with v | v; exact fun _ => v.2 c; exact fun v2 => by omega, d.2⟩ z.1
              rw [b2] at y2
              rw [rN_sw d.1 d.2, y2]; rfl
            · rw [rN_ns d]
              have m0 : rM (tT L np) 0 = .inl e := by
                refine rb b y2 ?_
                rcases hb with z | z
                · exact .inr (fun v => d ⟨v, z.1.2⟩)
                · exact .inl z.2.1
              rw [rM_200 (Nat.zero_le _) (.inl ⟨e, m0⟩), m0]; rfl
          · rw [if_neg c]
            have b1 : b = 1 := by rcases hb with z | z; exact absurd (by rcases z3 with v | v; exact v.1; exact absurd v.2 c) z.1.1; exact z.2.1
            unfold rB
            rw [rb b y2 (.inl b1)]; rfl
        · have k2 : (tT L np 0).1 = 2 := Classical.byContradiction fun v => by rw [raS_no v] at y1; cases y1
          refine .inr ⟨by omega, [], t, j, ?_, y2, y4, ⟨rfl, y5⟩, y6, Gc_m y8 (by omega)⟩
          rcases hb with ⟨⟨z1, z2⟩, z3_, z4⟩ | ⟨z1, z3_, z4⟩
          · have p0 : p1 = 0 := by rcases z3 with v | v; exact absurd v.1 z1; exact v.2
            refine .inl ⟨by rcases z7 with v | v; exact v.1; exact absurd (.inr (.inr z4)) v.2, ?_⟩
            have b2 : b = 2 := by omega
            rw [b2] at y1
            rw [er, if_pos p0, rN_sw k2 z2, z4, y1]; rfl
          · have b1 : b = 1 := by omega
            rw [b1] at y1
            have m0 : rM (tT L np) 0 = .inr ([t], j) := by rw [rM_one, y1]; rfl
            rcases z7 with ⟨v1, v2⟩ | ⟨v1, v2⟩
            · refine .inl ⟨v1, ?_⟩
              have c : ¬ p1 = 0 := by rcases v2 with v | v | v; exact v; omega; omega
              rw [er, if_neg c, z4]
              unfold rB
              rw [m0]; rfl
            · have p0 : p1 = 0 := Classical.byContradiction fun v => v2 (.inl v)
              have x1 : ¬ x2 = 0 := by rcases z3 with v | v; exact absurd p0 v.2; omega
              refine .inr ⟨by omega, z4, ?_, 0, rfl, by omega, m0⟩
              rw [er, if_pos p0, rN_ns (fun v => z1 ⟨x1, v.2⟩)]
      · intro a8 x9 h10 t10 s10 rx9 z11
        obtain ⟨F10, z11⟩ := z11
        refine ⟨(a8 = 0 ∧ (∃ e, r = .inl e ∧ CE h10 e) ∧ Gc 400 h1 h10) ∨ (¬ a8 = 0 ∧ ∃ l q j, r = rE (tT L np) w (.inr (l ++ [q], j)) ∧ CB h10 L np n j ∧ h1.length ≤ a4 ∧ ChA h10 w a4 l a8 q ∧ hR h10 a8 3 = 0 ∧ Gc (2 * j) h1 h10), ?_, ?_⟩
        · intro z12
          have G10 : Gc 402 h1 h10 := by
            rcases z12 with ⟨-, -, y⟩ | ⟨-, l, q, j, -, y2, -, -, -, y⟩
            · exact Gc_m y (by omega)
            · exact Gc_m y (by have := y2.2.2.1; omega)
          refine c_end (n := n) (np := np) (r := r) (Q := fun w' l' j' => w' = w ∧ ¬ a8 = 0 ∧ h1.length ≤ a4 ∧ AtomL h10 w a4 l') t10 ok ?_ ?_
          · rcases z12 with ⟨-, y, -⟩ | ⟨y0, l, q, j, y1, y2, y3, y4, y5, -⟩
            · exact .inl y
            · exact .inr ⟨w, l ++ [q], j, ⟨rfl, y0, y3, ChA_L y5 _ _ y4⟩, y1, y2⟩
          intro x13 h14 F14 q14
          intro t14 u14
          intro rx13
          intro h15 eh15 t15 u15
          have C15 : ClF h h15 := ClF_mk T F1 F10 G10 F14 t14 eh15
          have w2 : hI h15 3 2 = hI h14 3 2 := by rw [eh15, hI_ni (by decide)]
          have ne15 : ∀ c, hk h10 c = 1 ∨ hk h10 c = 11 → sameC h10 h15 c := fun c hc => by
            have k3 : hk h10 3 = 6 := lyk (n := 8) t10 rfl
            exact sameC_tr (RF0_k t10 F14.1 hc) (by rw [eh15]; exact sameC_sV (fun y => by rw [← y, k3] at hc; omega))
          refine ⟨fun a => ClP h15 (AtomR h15) a r, ?_, ?_⟩
          · intro a16 z17
            exact k _ _ C15 z17
          · refine ⟨fun c18 => ?_, fun c18 => ?_⟩
            · rcases q14 with ⟨e, y1, y2, y3⟩ | ⟨_, _, _, -, -, y3⟩
              · exact .inl ⟨e, y1, rfl, w2.trans y2, y3⟩
              · exact absurd (w2.trans y3) c18
            · rcases q14 with ⟨e, y1, y2, y3⟩ | ⟨w', l', j', ⟨y1, y2, y3, y4⟩, y5, y6⟩
              · exact absurd ((w2.trans y2).symm.trans (Decidable.not_not.mp c18)) y3
              · exact .inr ⟨_, y5, w2.trans y6, by rw [y1]; exact AtomL_fr ne15 _ _ _ y4, by omega⟩
        · refine ⟨fun c30 => ?_, fun c30 => ?_⟩
          · rcases z11 with z11 | ⟨z11, l, q, j, y1, y2, y3, y4, y5, y6⟩
            · exact .inl z11
            · refine .inr ⟨z11, l, q, j, ?_, y2, y3, y4, y5, y6⟩
              rcases y1 with ⟨-, y1⟩ | ⟨-, v1, v2, k0, v3, v4, v5⟩
              · exact y1
              · have : k0 = 200 := by omega
                rw [this] at v5
                rw [v2, v5, v1]
          · refine ⟨fun c29 => ?_, fun c29 => ?_⟩
            · rcases z11 with z11 | ⟨z11, l, q, j, y1, y2, y3, y4, y5, y6⟩
              · exact .inl z11
              · exact .inr ⟨z11, l, q, j, (y1.resolve_right (fun v => v.1 c29)).2, y2, y3, y4, y5, y6⟩
            · refine ⟨fun c28 => ?_, fun c28 => ?_⟩
              · exact .inl (z11.resolve_right (fun y => y.1 c28))
              · obtain ⟨-, l, q, j, y1, y2, y3, y4, y5, y6⟩ := z11.resolve_left (fun y => c28 y.1)
                obtain ⟨-, v1, v2, k0, v3, v4, v5⟩ := y1.resolve_left (fun y => c29 y.1)
                refine c_X5_isNext y2 ?_
                intro x19 q19
                intro rx19 vx19
                refine ⟨fun c27 => ?_, fun c27 => ?_⟩
                · have n124 : ¬ (tT L np j).1 = 124 := by rcases q19 with ⟨y1, y2⟩ | ⟨y1, y2⟩; omega; exact y2
                  exact .inr ⟨c28, l, q, j, by rw [v2, rM_200 v4 (.inr ⟨_, j, v5, n124⟩), v5, v1], y2, y3, y4, y5, y6⟩
                · intro h20 eh20 t20 u20
                  have k124 : (tT L np j).1 = 124 := by rcases q19 with ⟨y1, y2⟩ | ⟨y1, y2⟩; exact y2; omega
                  have by7 := y2.2.1
                  have bn := CB_n y2 (by omega)
                  have F20 : RF0 h10 h20 := RFr_s (.inr rfl) eh20
                  have B20 : CB h20 L np n (j + 1) := CB_s t10 y2 (by rw [by7]; exact wr_of (by omega) (by omega)) bn eh20
                  refine c_X5_readAtom t20 ok B20 ?_
                  intro a21 b2 w2 h22 F22 hb2 q22
                  intro t22 u22
                  have ka := (ChA_k _ _ y4)
                  have a8lt : a8 < h10.length := hk_lt ka.1 (by decide)
                  have a8ge : h1.length ≤ a8 := Nat.le_trans y3 (ChA_le _ _ y4)
                  have ne : ∀ c, hk h10 c = 1 ∨ hk h10 c = 11 → sameC h10 h22 c := fun c hc => RF0_k t10 (RFr_tr F20.1 F22) hc
                  have ka22 := AtK_s ka (ne a8 (.inl ka.1)) (fun c hc => ne c (.inr hc))
                  refine ⟨ka22.1, ?_⟩
                  intro h24 eh24 t24 u24
                  intro a25 ea25
                  intro x26 ex26 rx26
                  have ne24 : ∀ c, ¬ c = a8 → sameC h22 h24 c := fun c n => by rw [eh24]; exact sameC_sV (fun z => n z.symm)
                  have F24 : RFr h1 h24 := by
                    have F := RFr_tr F10 (RFr_tr F20.1 F22)
                    refine ⟨fun b hb n => sameC_tr (F.1 b hb n) (ne24 b (by omega)), by rw [eh24, len_sV]; exact F.2.1, fun m n1 n2 => (sameC_el (ne24 3 (by omega)) m).trans (F.2.2 m n1 n2)⟩
                  have r3 : hR h24 a8 3 = a21 := by rw [eh24]; exact hR_eq (hn_obj t22 ka22.1 rfl rfl)
                  have e25 : a25 = a21 := ea25.trans r3
                  have e26 : x26 = ((k0 + 1 : Nat) : Int) := by rw [ex26, wr_of (by omega) (by omega)]; omega
                  have g24 : h24.length = h22.length ∧ xhs h24 = xhs h22 := ⟨by rw [eh24, len_sV], by rw [eh24, xhs_sV]⟩
                  have jb := (rM_c ok _ _ _ v5).2.1
                  have hb3 : b2 = j + 2 ∧ w2 = 0 := (hb2.resolve_left (fun y => y.1.1 rfl)).2
                  obtain ⟨eb2, ew2⟩ := hb3
                  rw [eb2, ew2] at q22
                  refine ⟨⟨F24, ?_⟩, by dsimp only; omega⟩
                  rcases q22 with ⟨u1, ⟨e, u2, u3⟩, u4⟩ | ⟨t_, j2, u1, u2, u3, u4, u5, u6, u7, u8⟩
                  · have r1 : rM (tT L np) (k0 + 1) = .inl e := by rw [rM_s, v5]; dsimp only; rw [if_pos k124, ← raS_1, u2]
                    refine .inl ⟨e25.trans u1, ⟨e, ?_, ?_⟩, Gc_tr y6 (Gc_tr (Gc_0 F20.2.1 F20.2.2 0) (Gc_tr u4 (Gc_0 g24.1 g24.2 0) (Nat.le_refl _)) (Nat.le_refl _)) (by omega)⟩
                    · rw [v2, rM_200 (by omega) (.inl ⟨e, r1⟩), r1]; rfl
                    · have s3 := ne24 3 (by omega)
                      unfold CE
                      rw [sameC_I s3, sameC_I s3]
                      exact u3
                  · have r1 : rM (tT L np) (k0 + 1) = .inr ((l ++ [q]) ++ [t_], j2) := by rw [rM_s, v5]; dsimp only; rw [if_pos k124, ← raS_1, u1]
                    have gl20 := F20.2.1
                    have n21 : ¬ a21 = a8 := by omega
                    refine .inr ⟨by omega, l ++ [q], t_, j2, .inr ⟨c29, v1, v2, k0 + 1, e26, by omega, r1⟩, CB_fr u2 (ne24 _ (by omega)) (ne24 _ (by omega)) (ne24 _ (by omega)) (ne24 _ (by omega)), y3, ?_, ?_, Gc_tr y6 (Gc_tr (Gc_0 F20.2.1 F20.2.2 0) (Gc_tr u8 (Gc_0 g24.1 g24.2 0) (Nat.le_refl _)) (Nat.le_refl _)) (by omega)⟩
                    · rw [e25]
                      have k8 : ∀ c, hk h22 c = 11 → ¬ c = a8 := fun c hc y => by rw [y, ka22.1] at hc; omega
                      refine ChA_app (by omega) (AtK_fr ka22 (fun m hm => by rw [eh24, el_ni (by omega)]) (by rw [eh24, hk_sV]) (fun c hc => ne24 c (k8 c hc))) r3 ?_ (fun c n hc => sameC_tr (ne c hc) (ne24 c n)) ka.1 l a4 y4
                      rw [v1]
                      exact AtK_s u5 (ne24 _ n21) (fun c hc => ne24 c (k8 c hc))
                    · rw [e25, sameC_R (ne24 _ n21)]; exact u6
    · refine ⟨¬ p1 = 0 ∨ a4 = 0 ∨ w = 1, ?_, ?_⟩
      · intro z31
        exact .inl ⟨rfl, z31⟩
      · refine ⟨fun c35 => ?_, fun c35 => ?_⟩
        · exact .inl c35
        · refine ⟨fun c34 => ?_, fun c34 => ?_⟩
          · exact .inr (.inl c34)
          · obtain ⟨t, j0, y1, y2, y3, y4, y5, y6, y7, y8⟩ := q5.resolve_left (fun y => c34 y.1)
            refine ⟨y5.1, ?_⟩
            refine ⟨fun c33 => ?_, fun c33 => ?_⟩
            · rcases hb with y | y
              · exact .inr (.inr y.2.2)
              · rw [y5.2.2.1] at c33; exact absurd y.2.2 c33
            · refine .inr ⟨rfl, fun y => ?_⟩
              rcases y with y | y | y
              · exact c35 y
              · exact c34 y
              · rw [y5.2.2.1] at c33; exact c33 (fun z => by omega)
  · refine ⟨fun c36 => ?_, fun c36 => ?_⟩
    · exact .inl ⟨rfl, c36⟩
    · exact .inr ⟨rfl, Decidable.not_not.mp c36⟩
set_option maxHeartbeats 4000000 in
theorem c_X5_readWholeRange {p : Int} {L : List Int} {h : XH} {np : Int} (T : HT h) (Z : Tape h 3 1 4 L) (ok : LOK L) (hnp : 0 ≤ np ∧ np ≤ 12) {K : Nat → XH → Prop} (k : ∀ a g, ClF h g → ClP g (SpanR g) a (rW (tT L np) p) → K a g) : w_X5_readWholeRange np K h := by
  unfold w_X5_readWholeRange
  obtain ⟨r, er⟩ : ∃ r, r = rW (tT L np) p := ⟨_, rfl⟩
  rw [← er] at k
  have l0 := HT_len T
  refine c_X5_findTokens T Z ok hnp ?_
  intro h1 n F1 B1
  intro t1 u1
  have n200 := B1.1.1
  have l1 := HT_len t1
  refine c_X5_readRange t1 ok B1 ?_
  intro a2 h3 F3 q3
  intro t3 u3
  have G3 : Gc 402 h1 h3 := by
    rcases q3 with ⟨-, -, y⟩ | ⟨l, j, -, y2, -, -, -, -, y⟩
    · exact Gc_m y (by omega)
    · exact Gc_m y (by have := y2.2.2.1; omega)
  refine c_end (n := n) (np := np) (r := r) (Q := fun w' l' j' => w' = 0 ∧ h1.length ≤ a2 ∧ ∃ l, l' = [(p, l)] ∧ SpanL h3 a2 (nrm l)) t3 ok ?_ ?_
  · rcases q3 with ⟨-, ⟨e, y1, y2⟩, -⟩ | ⟨l, j, y1, y2, y3, y4, y5, y6, -⟩
    · exact .inl ⟨e, by rw [er]; unfold rW; rw [y1]; rfl, y2⟩
    · have : nrm l = l := by cases l with | nil => exact absurd rfl y6 | cons _ _ => rfl
      exact .inr ⟨0, [(p, l)], j, ⟨rfl, y4, l, rfl, by rw [this]; exact y5⟩, by rw [er]; unfold rW; rw [y1], y2⟩
  intro x4 h5 F5 q5
  intro t5 u5
  intro rx4
  intro h6 eh6 t6 u6
  have C6 : ClF h h6 := ClF_mk T F1 F3 G3 F5 t5 eh6
  have w2 : hI h6 3 2 = hI h5 3 2 := by rw [eh6, hI_ni (by decide)]
  have ne6 : ∀ c, hk h3 c = 1 ∨ hk h3 c = 11 → sameC h3 h6 c := fun c hc => by
    have k3 : hk h3 3 = 6 := lyk (n := 8) t3 rfl
    exact sameC_tr (RF0_k t3 F5.1 hc) (by rw [eh6]; exact sameC_sV (fun y => by rw [← y, k3] at hc; omega))
  refine ⟨fun a => ClP h6 (SpanR h6) a r, ?_, ?_⟩
  · intro a7 z8
    exact k _ _ C6 z8
  · refine ⟨fun c9 => ?_, fun c9 => ?_⟩
    · rcases q5 with ⟨e, y1, y2, y3⟩ | ⟨_, _, _, -, -, y3⟩
      · exact .inl ⟨e, y1, rfl, w2.trans y2, y3⟩
      · exact absurd (w2.trans y3) c9
    · rcases q5 with ⟨e, y1, y2, y3⟩ | ⟨w', l', j', ⟨y1, y2, l, y3, y4⟩, y5, y6⟩
      · exact absurd ((w2.trans y2).symm.trans (Decidable.not_not.mp c9)) y3
      · refine .inr ⟨_, y5, w2.trans y6, ?_, by omega⟩
        unfold SpanR
        rw [y3]
        exact SpanL_fr (fun c hc => ne6 c (.inr hc)) _ _ y4
