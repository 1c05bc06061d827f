/-! SPANS, the class -/
abbrev Sq : Type := Int × Int × Int
def SpK (g : XH) (s : Nat) (q : Sq) : Prop := hk g s = 11 ∧ hI g s 0 = sgn q.1 ∧ hI g s 1 = (if q.1 = 0 then 99 else q.2.1) ∧ hI g s 2 = (if q.1 = 0 then 99 else q.2.2) ∧ hI g s 3 = trl (if q.1 = 0 then 99 else q.2.1) ∧ hI g s 4 = trl (if q.1 = 0 then 99 else q.2.2)
theorem SpK_fr {g k : XH} {s : Nat} {q : Sq} (z : SpK g s q) (e : ∀ j, j < 5 → el k s j = el g s j) (c : hk k s = hk g s) : SpK k s q :=
  ⟨c.trans z.1, (congrArg gvI (e 0 (by decide))).trans z.2.1, (congrArg gvI (e 1 (by decide))).trans z.2.2.1, (congrArg gvI (e 2 (by decide))).trans z.2.2.2.1, (congrArg gvI (e 3 (by decide))).trans z.2.2.2.2.1, (congrArg gvI (e 4 (by decide))).trans z.2.2.2.2.2⟩
theorem SpK_s {g k : XH} {s : Nat} {q : Sq} (z : SpK g s q) (e : sameC g k s) : SpK k s q := SpK_fr z (fun j _ => sameC_el e j) (sameC_k e)
/-- a chain of spans, from s to the cell a, which holds q -/
def Ch (g : XH) : Nat → List Sq → Nat → Sq → Prop
  | s, [], a, q => s = a ∧ SpK g a q
  | s, p :: l, a, q => SpK g s p ∧ s < hR g s 5 ∧ Ch g (hR g s 5) l a q
theorem Ch_le {g : XH} {a : Nat} {q : Sq} : ∀ (l : List Sq) (s : Nat), Ch g s l a q → s ≤ a := by
  intro l
  induction l with
  | nil => intro s z; exact Nat.le_of_eq z.1
  | cons p l ih => intro s z; have := ih _ z.2.2; have := z.2.1; omega
theorem Ch_k {g : XH} {a : Nat} {q : Sq} : ∀ (l : List Sq) (s : Nat), Ch g s l a q → SpK g a q := by
  intro l
  induction l with
  | nil => intro s z; exact z.2
  | cons p l ih => intro s z; exact ih _ z.2.2
theorem Ch_fr {g k : XH} {a : Nat} {q : Sq} : ∀ (l : List Sq) (s : Nat), (∀ c, s ≤ c → c ≤ a → hk g c = 11 → sameC g k c) → Ch g s l a q → Ch k s l a q := by
  intro l
  induction l with
  | nil => intro s f z; exact ⟨z.1, SpK_s z.2 (f a (by have := z.1; omega) (Nat.le_refl _) z.2.1)⟩
  | cons p l ih =>
    intro s f z
    have le := Ch_le _ _ z.2.2
    have e := f s (Nat.le_refl _) (by have := z.2.1; omega) z.1.1
    have e5 := sameC_R e 5
    refine ⟨SpK_s z.1 e, ?_, ?_⟩
    · rw [e5]; exact z.2.1
    · rw [e5]; exact ih _ (fun c h1 h2 h3 => f c (by have := z.2.1; omega) h2 h3) z.2.2
theorem Ch_app {g k : XH} {a b : Nat} {q r : Sq} (lt : a < b) (qa : SpK k a q) (e : hR k a 5 = b) (rb : SpK k b r) : ∀ (l : List Sq) (s : Nat), (∀ c, s ≤ c → c < a → hk g c = 11 → sameC g k c) → Ch g s l a q → Ch k s (l ++ [q]) b r := by
  intro l
  induction l with
  | nil => intro s f z; obtain ⟨z1, -⟩ := z; rw [z1]; exact ⟨qa, by rw [e]; exact lt, by rw [e]; exact ⟨rfl, rb⟩⟩
  | cons p l ih =>
    intro s f z
    have le := Ch_le _ _ z.2.2
    have e1 := f s (Nat.le_refl _) (by have := z.2.1; omega) z.1.1
    have e5 := sameC_R e1 5
    refine ⟨SpK_s z.1 e1, ?_, ?_⟩
    · rw [e5]; exact z.2.1
    · rw [e5]; exact ih _ (fun c h1 h2 h3 => f c (by have := z.2.1; omega) h2 h3) z.2.2
theorem Ch_L {g : XH} {a : Nat} {q : Sq} (e : hR g a 5 = 0) : ∀ (l : List Sq) (s : Nat), Ch g s l a q → SpanL g s (l ++ [q]) := by
  intro l
  induction l with
  | nil =>
    intro s z
    obtain ⟨z1, z2⟩ := z
    rw [z1]
    obtain ⟨y0, y1, y2, y3, y4, y5⟩ := z2
    exact ⟨y0, y1, y2, y3, y4, y5, e⟩
  | cons p l ih =>
    intro s z
    obtain ⟨⟨y0, y1, y2, y3, y4, y5⟩, -, z2⟩ := z
    exact ⟨y0, y1, y2, y3, y4, y5, ih _ z2⟩
def n6 : Nat := xcs (some (.inl (11, kO 11))) + xcs (some (.inl (1, kO 1)))
/-- a new span -/
def NewS (h g : XH) (a : Nat) (q : Sq) : Prop := a = h.length ∧ Fr (fun _ => False) h g ∧ g.length = h.length + 1 ∧ xhs g ≤ xhs h + n6 ∧ SpK g a q ∧ hR g a 5 = 0
theorem NewS_mk {h h2 g : XH} {a : Nat} {q : Sq} (ea : a = h.length) (e2 : h2 = nO h 11) (hk2 : hk h2 a = 11) (F : Fr (fun b => b = a) h2 g) (gl : g.length = h2.length) (gx : xhs g = xhs h2) (ek : hk g a = hk h2 a) (f0 : hI g a 0 = sgn q.1) (f1 : hI g a 1 = (if q.1 = 0 then 99 else q.2.1)) (f2 : hI g a 2 = (if q.1 = 0 then 99 else q.2.2)) (f3 : hI g a 3 = trl (if q.1 = 0 then 99 else q.2.1)) (f4 : hI g a 4 = trl (if q.1 = 0 then 99 else q.2.2)) (f5 : el g a 5 = el h2 a 5) : NewS h g a q := by
  have l2 : h2.length = h.length + 1 := by rw [e2]; unfold nO; rw [len_app]
  refine ⟨ea, fun b hb _ => sameC_tr (by rw [e2]; exact sameC_app hb) (F b (by omega) (by omega)), by omega, ?_, ⟨by rw [ek]; exact hk2, f0, f1, f2, f3, f4⟩, ?_⟩
  · rw [gx, e2, xhs_nO]; unfold n6; omega
  · unfold hR
    rw [f5, e2, ea]
    unfold el nO
    rw [xcell_app, if_pos rfl]
    rfl
set_option maxHeartbeats 1000000 in
theorem c_X10_init {t : Nat} {p0 p1 p2 : Int} {h : XH} (T : HT h) (e : hk h t = 11) (r0 : rg p0) (hp1 : 0 ≤ p1 ∧ p1 < 1000000) (hp2 : 0 ≤ p2 ∧ p2 < 1000000) {K : XH → Prop} (k : ∀ g, Fr (fun b => b = t) h g → g.length = h.length → xhs g = xhs h → hk g t = hk h t → hI g t 0 = p0 → hI g t 1 = p1 → hI g t 2 = p2 → hI g t 3 = trl p1 → hI g t 4 = trl p2 → el g t 5 = el h t 5 → K g) : w_X10_init t p0 p1 p2 K h := by
  unfold w_X10_init
  have i1 : irem p1 100 = p1 % 100 := irem_pos (by unfold rg; omega) (rgk rfl) hp1.1 (by decide)
  have i2 : irem p2 100 = p2 % 100 := irem_pos (by unfold rg; omega) (rgk rfl) hp2.1 (by decide)
  have d1 : idiv p1 100 = p1 / 100 := idiv_pos (by unfold rg; omega) (rgk rfl) hp1.1 (by decide)
  have d2 : idiv p2 100 = p2 / 100 := idiv_pos (by unfold rg; omega) (rgk rfl) hp2.1 (by decide)
  have tk1 : ∀ p : Int, 0 ≤ p → p < 1000000 → rg (trl p) := fun p y1 y2 => by unfold trl; split <;> (unfold rg; omega)
  intro h1 eh1 t1 u1
  intro h2 eh2 t2 u2
  intro h3 eh3 t3 u3
  refine ⟨fun y => y = trl p1, ?_, ?_⟩
  · intro x4 rx4 z5
    intro h6 eh6 t6 u6
    refine ⟨fun y => y = trl p2, ?_, ?_⟩
    · intro x7 rx7 z8
      intro h9 eh9 t9 u9
      have k1 : hk h1 t = 11 := by rw [eh1, hk_sV]; exact e
      have k2 : hk h2 t = 11 := by rw [eh2, hk_sV]; exact k1
      have k3 : hk h3 t = 11 := by rw [eh3, hk_sV]; exact k2
      have k6 : hk h6 t = 11 := by rw [eh6, hk_sV]; exact k3
      refine k h9 (by rw [eh9, eh6, eh3, eh2, eh1]; exact fun b _ n => sameC_tr (sameC_sV (fun z => n z.symm)) (sameC_tr (sameC_sV (fun z => n z.symm)) (sameC_tr (sameC_sV (fun z => n z.symm)) (sameC_tr (sameC_sV (fun z => n z.symm)) (sameC_sV (fun z => n z.symm)))))) (by rw [eh9, eh6, eh3, eh2, eh1]; simp only [len_sV]) (by rw [eh9, eh6, eh3, eh2, eh1]; simp only [xhs_sV]) (by rw [eh9, hk_sV, k6, e]) ?_ ?_ ?_ ?_ ?_ (by rw [eh9, el_ni (by decide), eh6, el_ni (by decide), eh3, el_ni (by decide), eh2, el_ni (by decide), eh1, el_ni (by decide)])
      · rw [eh9, hI_ni (by decide), eh6, hI_ni (by decide), eh3, hI_ni (by decide), eh2, hI_ni (by decide), eh1]; exact hI_eq (hn_obj T e rfl rfl) r0
      · rw [eh9, hI_ni (by decide), eh6, hI_ni (by decide), eh3, hI_ni (by decide), eh2]; exact hI_eq (hn_obj t1 k1 rfl rfl) (by unfold rg; omega)
      · rw [eh9, hI_ni (by decide), eh6, hI_ni (by decide), eh3]; exact hI_eq (hn_obj t2 k2 rfl rfl) (by unfold rg; omega)
      · rw [eh9, hI_ni (by decide), eh6, z5]; exact hI_eq (hn_obj t3 k3 rfl rfl) (tk1 _ hp1.1 hp1.2)
      · rw [eh9, z8]; exact hI_eq (hn_obj t6 k6 rfl rfl) (tk1 _ hp2.1 hp2.2)
    · refine ⟨fun c10 => ?_, fun c10 => ?_⟩
      · rw [i2] at c10
        rw [d2]; unfold trl; rw [if_neg c10]
      · rw [i2] at c10
        unfold trl; rw [if_pos (Decidable.not_not.mp c10)]
  · refine ⟨fun c11 => ?_, fun c11 => ?_⟩
    · rw [i1] at c11
      rw [d1]; unfold trl; rw [if_neg c11]
    · rw [i1] at c11
      unfold trl; rw [if_pos (Decidable.not_not.mp c11)]
set_option maxHeartbeats 1000000 in
theorem c_X10_any {h : XH} {K : Nat → XH → Prop} (k : ∀ a g, NewS h g a (0, 0, 0) → K a g) : w_X10_any K h := by
  unfold w_X10_any
  intro a1 h2 ea1 eh2 t2 u2 ca1
  refine c_X10_init t2 ca1 (rgk rfl) (by decide) (by decide) ?_
  intro h3 F gl gx ek f0 f1 f2 f3 f4 f5
  intro t3 u3
  exact k _ _ (NewS_mk ea1 eh2 ca1 F gl gx ek f0 f1 f2 f3 f4 f5)
theorem CB_fr {h g : XH} {L : List Int} {np : Int} {n i : Nat} (z : CB h L np n i) (s3 : sameC h g 3) (s5 : sameC h g 5) (s6 : sameC h g 6) (s7 : sameC h g 7) : CB g L np n i := ⟨CTab_fr z.1 s5 s6 s7, (sameC_I s3 7).trans z.2.1, z.2.2.1, (sameC_I s3 2).trans z.2.2.2⟩
/-- what a span is read as -/
def SpnP (h : XH) (L : List Int) (np : Int) (n i : Nat) (a : Nat) (g : XH) : Prop := (a = 0 ∧ (∃ e, rS (tT L np) i = .inl e ∧ CE g e) ∧ g.length = h.length ∧ xhs g = xhs h) ∨ (∃ q j, rS (tT L np) i = .inr (q, j) ∧ CB g L np n j ∧ i < j ∧ h.length ≤ a ∧ SpK g a q ∧ hR g a 5 = 0 ∧ g.length = h.length + 1 ∧ a < g.length ∧ xhs g ≤ xhs h + n6)
theorem SpnP_new {h g k : XH} {L : List Int} {np : Int} {n i j a : Nat} {q : Sq} (T : HT g) (F : RF0 h g) (B : CB g L np n j) (e : rS (tT L np) i = .inr (q, j)) (lt : i < j) (N : NewS g k a q) : RFr h k ∧ SpnP h L np n i a k := by
  have l := HT_len T
  obtain ⟨n1, n2, n3, n4, n5, n6_⟩ := N
  have s : ∀ b, b < g.length → sameC g k b := fun b hb => n2 b hb (fun z => z)
  have := F.2.1
  have := F.2.2
  refine ⟨RFr_tr F.1 ⟨fun b hb _ => s b hb, by omega, fun j _ _ => sameC_el (s 3 (by omega)) j⟩, .inr ⟨q, j, e, CB_fr B (s 3 (by omega)) (s 5 (by omega)) (s 6 (by omega)) (s 7 (by omega)), lt, by omega, n5, n6_, by omega, by omega, by omega⟩⟩
theorem rg_sgn (q : Int) : rg (sgn q) := by
  unfold sgn
  repeat' split
  all_goals exact rgk rfl
theorem sgn_skK {k : Int} (h : ¬ skK k = 0) : sgn (skK k) = k := by
  unfold skK at h ⊢
  by_cases a : k = 61
  · rw [if_pos a]; exact a.symm
  · rw [if_neg a] at h ⊢
    by_cases b : k = 62
    · rw [if_pos b]; exact b.symm
    · rw [if_neg b] at h ⊢
      by_cases c : k = 60
      · rw [if_pos c]; exact c.symm
      · rw [if_neg c] at h ⊢
        by_cases d : k = 94
        · rw [if_pos d]; exact d.symm
        · rw [if_neg d] at h ⊢
          by_cases e : k = 126
          · rw [if_pos e]; exact e.symm
          · rw [if_neg e] at h; exact absurd rfl h
set_option maxHeartbeats 4000000 in
theorem c_X5_readSpan {L : List Int} {h : XH} {np : Int} {n i : Nat} (T : HT h) (ok : LOK L) (B : CB h L np n i) {K : Nat → XH → Prop} (k : ∀ a g, RFr h g → SpnP h L np n i a g → K a g) : w_X5_readSpan K h := by
  unfold w_X5_readSpan
  obtain ⟨e5, e6, e7⟩ := B.1.2.2.2 i B.2.2.1
  have n200 := B.1.1
  have b7 := B.2.1
  have bi := B.2.2.1
  have kb := skK_b (tT L np i).1
  refine c_X5_isNext B ?_
  intro x1 q1
  intro rx1 vx1
  refine ⟨fun c49 => ?_, fun c49 => ?_⟩
  · intro x2 ex2 rx2
    refine ⟨(by rw [ex2, b7]; omega), ?_⟩
    rw [ex2, b7, Int.toNat_natCast, e5]
    refine c_X5_isSpanSign ?_
    intro x4 q4
    intro rx4 vx4
    refine ⟨fun x => x = sgn (if skK (tT L np i).1 = 0 then 1 else skK (tT L np i).1), ?_, ?_⟩
    · intro x5 rx5 z6
      refine ⟨fun x => x = if skK (tT L np i).1 = 0 then 0 else 1, ?_, ?_⟩
      · intro x7 rx7 z8
        intro h9 eh9 t9 u9
        have n42 : ¬ (tT L np i).1 = 42 := by rcases q1 with ⟨y1, y2⟩ | ⟨y1, y2⟩ <;> omega
        have p01 : (x7 = 0 ∧ skK (tT L np i).1 = 0) ∨ (x7 = 1 ∧ ¬ skK (tT L np i).1 = 0) := by
          rw [z8]
          by_cases c : skK (tT L np i).1 = 0
          · rw [if_pos c]; exact .inl ⟨rfl, c⟩
          · rw [if_neg c]; exact .inr ⟨rfl, c⟩
        have F9 : RF0 h h9 := RFr_s (.inr rfl) eh9
        obtain ⟨i9, ei9, lt9, B9⟩ : ∃ m : Nat, (m = if skK (tT L np i).1 = 0 then i else i + 1) ∧ i ≤ m ∧ CB h9 L np n m := by
          try rw [b7] at eh9
          rw [wr_of (by omega) (by omega)] at eh9
          rcases p01 with ⟨y1, y2⟩ | ⟨y1, y2⟩
          · exact ⟨i, by rw [if_pos y2], Nat.le_refl _, CB_s T B (by omega) bi eh9⟩
          · exact ⟨i + 1, by rw [if_neg y2], Nat.le_succ _, CB_s T B (by omega) (CB_n B (by omega)) eh9⟩
        refine c_X5_readVersion t9 ok B9 ?_
        intro x10 h11 F11 q11
        intro t11 u11
        intro rx10
        have F0 := RF0_tr F9 F11
        refine ⟨(x10 = -1 ∧ ∃ e, rS (tT L np) i = .inl e ∧ CE h11 e) ∨ ((0 ≤ x10 ∧ x10 < 1000000) ∧ ∃ j, rS (tT L np) i = .inr ((if skK (tT L np i).1 = 0 then 1 else skK (tT L np i).1, x10, x10), j) ∧ CB h11 L np n j ∧ i < j), ?_, ?_⟩
        · intro z12
          refine ⟨fun a g => RFr h g ∧ SpnP h L np n i a g, ?_, ?_⟩
          · intro a13 h14 t14 s14 z15
            exact k _ _ z15.1 z15.2
          · refine ⟨fun c19 => ?_, fun c19 => ?_⟩
            · intro a16 h17 ea16 eh17 t17 u17 ca16
              obtain ⟨b1, j, ej, Bj, ltj⟩ := z12.resolve_left (fun y => c19 y.1)
              refine c_X10_init t17 ca16 (by rw [z6]; exact rg_sgn _) b1 b1 ?_
              intro h18 G gl gx ek f0 f1 f2 f3 f4 f5
              intro t18 u18
              have qk : ¬ (if skK (tT L np i).1 = 0 then 1 else skK (tT L np i).1) = 0 := by split <;> omega
              refine SpnP_new t11 F0 Bj ej ltj (NewS_mk ea16 eh17 ca16 G gl gx ek ?_ ?_ ?_ ?_ ?_ f5)
              · rw [f0, z6]
              · rw [f1, if_neg qk]
              · rw [f2, if_neg qk]
              · rw [f3, if_neg qk]
              · rw [f4, if_neg qk]
            · rcases z12 with ⟨y1, y2⟩ | ⟨y1, -⟩
              · exact ⟨F0.1, .inl ⟨rfl, y2, F0.2⟩⟩
              · omega
        · refine ⟨fun c41 => ?_, fun c41 => ?_⟩
          · rcases q11 with ⟨y1, e, y2, y3⟩ | ⟨j, y1, y2⟩
            · refine .inl ⟨y1, e, ?_, y3⟩
              rw [ei9] at y2
              unfold rS
              rw [if_neg n42]
              by_cases c : skK (tT L np i).1 = 0
              · rw [if_pos c] at y2
                rw [if_neg (fun y => y c), y2]
              · rw [if_neg c] at y2
                rw [if_pos c, y2]
            · have := (rV_c ok y1).1
              omega
          · obtain ⟨j, ej, Bj⟩ := q11.resolve_left (fun y => c41 y.1)
            obtain ⟨v1, v2, v3, v4⟩ := rV_c ok ej
            refine ⟨fun c40 => ?_, fun c40 => ?_⟩
            · obtain ⟨j, y1, y2⟩ := q11.resolve_left (fun y => c41 y.1)
              obtain ⟨v1, v2, v3, v4⟩ := rV_c ok y1
              have c : ¬ skK (tT L np i).1 = 0 := by rcases q4 with ⟨y1, y2⟩ | ⟨y1, y2⟩; exact y2; omega
              refine .inr ⟨⟨v1, v2⟩, j, ?_, y2, by omega⟩
              rw [ei9, if_neg c] at y1
              unfold rS
              rw [if_neg n42, if_pos c, if_neg c, y1]
            · have c0 : skK (tT L np i).1 = 0 := by rcases q4 with ⟨y1, y2⟩ | ⟨y1, y2⟩; omega; exact Decidable.not_not.mp y2
              rw [ei9, if_pos c0] at ej
              have rs : rS (tT L np) i = if ¬ (tT L np j).1 = 4 then .inr ((1, x10, x10), j) else match rV (tT L np) (j + 1) with | .inl e => .inl e | .inr (d, l) => if d < x10 then .inl (tT L np j).2.1 else .inr ((6, x10, d), l) := by unfold rS; rw [if_neg n42, if_neg (fun y => y c0), ej]; rfl
              refine c_X5_isNext Bj ?_
              intro x20 q20
              intro rx20 vx20
              refine ⟨fun c39 => ?_, fun c39 => ?_⟩
              · intro x21 ex21 rx21
                refine ⟨(by have := Bj.2.1; have := Bj.2.2.1; have := Bj.1.1; omega), ?_⟩
                intro x23 ex23 rx23
                intro h24 eh24 t24 u24
                have j4 : (tT L np j).1 = 4 := by rcases q20 with ⟨y1, y2⟩ | ⟨y1, y2⟩; exact y2; omega
                have bj7 := Bj.2.1
                have bj6 := (Bj.1.2.2.2 j Bj.2.2.1).2.1
                rw [ex21, bj7, Int.toNat_natCast, bj6] at ex23
                have F24 : RF0 h11 h24 := RFr_s (.inr rfl) eh24
                have B24 : CB h24 L np n (j + 1) := CB_s t11 Bj (by rw [bj7]; exact wr_of (by omega) (by omega)) (CB_n Bj (by omega)) eh24
                refine c_X5_readVersion t24 ok B24 ?_
                intro x25 h26 F26 q26
                intro t26 u26
                intro rx25
                have F1 := RF0_tr (RF0_tr F0 F24) F26
                rw [if_neg (fun y => y j4)] at rs
                refine ⟨fun g => RF0 h g ∧ ((x25 < x10 ∧ ∃ e, rS (tT L np) i = .inl e ∧ CE g e) ∨ ((x10 ≤ x25 ∧ x25 < 1000000) ∧ ∃ l, rS (tT L np) i = .inr ((6, x10, x25), l) ∧ CB g L np n l ∧ i < l)), ?_, ?_⟩
                · intro h27 t27 s27 z28
                  refine ⟨fun a g => RFr h g ∧ SpnP h L np n i a g, ?_, ?_⟩
                  · intro a29 h30 t30 s30 z31
                    exact k _ _ z31.1 z31.2
                  · refine ⟨fun c35 => ?_, fun c35 => ?_⟩
                    · intro a32 h33 ea32 eh33 t33 u33 ca32
                      obtain ⟨F27, z28⟩ := z28
                      obtain ⟨b1, l, el_, Bl, ltl⟩ := z28.resolve_left (fun y => by obtain ⟨y, -⟩ := y; omega)
                      refine c_X10_init t33 ca32 (rgk rfl) ⟨v1, v2⟩ ⟨by omega, b1.2⟩ ?_
                      intro h34 G gl gx ek f0 f1 f2 f3 f4 f5
                      intro t34 u34
                      exact SpnP_new t27 F27 Bl el_ ltl (NewS_mk ea32 eh33 ca32 G gl gx ek f0 (by rw [f1, if_neg (by dsimp only; omega)]) (by rw [f2, if_neg (by dsimp only; omega)]) (by rw [f3, if_neg (by dsimp only; omega)]) (by rw [f4, if_neg (by dsimp only; omega)]) f5)
                    · obtain ⟨F27, z28⟩ := z28
                      rcases z28 with ⟨y1, y2⟩ | ⟨y1, -⟩
                      · exact ⟨F27.1, .inl ⟨rfl, y2, F27.2⟩⟩
                      · omega
                · refine ⟨fun c38 => ?_, fun c38 => ?_⟩
                  · rcases q26 with ⟨y1, e, y2, y3⟩ | ⟨l, y1, -⟩
                    · exact ⟨F1, .inl ⟨by omega, e, by rw [rs, y2], y3⟩⟩
                    · have := (rV_c ok y1).1; omega
                  · obtain ⟨l, el_, Bl⟩ := q26.resolve_left (fun y => c38 y.1)
                    obtain ⟨w1, w2, w3, w4⟩ := rV_c ok el_
                    refine ⟨fun c37 => ?_, fun c37 => ?_⟩
                    · refine ⟨F1, .inr ⟨⟨by omega, w2⟩, l, ?_, Bl, by omega⟩⟩
                      rw [rs, el_]; dsimp only; rw [if_neg (by omega)]
                    · intro h36 eh36 t36 u36
                      have F36 : RF0 h26 h36 := RFr_s (.inl rfl) eh36
                      refine ⟨RF0_tr F1 F36, .inl ⟨by omega, (tT L np j).2.1, ?_, ?_, ?_, ?_, ?_⟩⟩
                      · rw [rs, el_]; dsimp only; rw [if_pos (by omega)]
                      · rw [eh36, ex23]; exact hI_eq (n3_ t26 rfl) (by have := tT_b0 (np := np) ok j; unfold rg; omega)
                      · have := tT_b0 (np := np) ok j; omega
                      · rw [eh36, hI_ni (by decide), Bl.2.1]; omega
                      · rw [eh36, hI_ni (by decide), Bl.2.1]; have := Bl.2.2.1; have := Bl.1.1; omega
              · have n4 : ¬ (tT L np j).1 = 4 := by rcases q20 with ⟨y1, y2⟩ | ⟨y1, y2⟩; omega; exact y2
                refine .inr ⟨⟨v1, v2⟩, j, ?_, Bj, by omega⟩
                rw [rs, if_pos n4, if_pos c0]
      · refine ⟨fun c42 => ?_, fun c42 => ?_⟩
        · rcases q4 with ⟨y1, y2⟩ | ⟨y1, y2⟩
          · omega
          · rw [if_pos (Decidable.not_not.mp y2)]
        · rcases q4 with ⟨y1, y2⟩ | ⟨y1, y2⟩
          · rw [if_neg y2]
          · omega
    · refine ⟨fun c45 => ?_, fun c45 => ?_⟩
      · rcases q4 with ⟨y1, y2⟩ | ⟨y1, y2⟩
        · omega
        · rw [if_pos (Decidable.not_not.mp y2)]; rfl
      · intro x43 ex43 rx43
        refine ⟨(by rw [ex43]; omega), ?_⟩
        rcases q4 with ⟨y1, y2⟩ | ⟨y1, y2⟩
        · rw [if_neg y2, ex43]
          try rw [b7]
          rw [Int.toNat_natCast, e5, sgn_skK y2]
        · omega
  · intro h46 eh46 t46 u46
    have k42 : (tT L np i).1 = 42 := by rcases q1 with ⟨y1, y2⟩ | ⟨y1, y2⟩; exact y2; omega
    have F46 : RF0 h h46 := RFr_s (.inr rfl) eh46
    have B46 : CB h46 L np n (i + 1) := CB_s T B (by rw [b7]; exact wr_of (by omega) (by omega)) (CB_n B (by omega)) eh46
    refine c_X10_any ?_
    intro a47 h48 N48
    intro t48 u48
    obtain ⟨p1, p2⟩ := SpnP_new (i := i) t46 F46 B46 (by unfold rS; rw [if_pos k42]) (by omega) N48
    exact k _ _ p1 p2
/-- room: each new cell takes at most n6 places -/
def Gc (c : Nat) (h g : XH) : Prop := g.length ≤ h.length + c ∧ h.length ≤ g.length ∧ xhs g + h.length * n6 ≤ xhs h + g.length * n6
theorem Gc_0 {h g : XH} (e1 : g.length = h.length) (e2 : xhs g = xhs h) (c : Nat) : Gc c h g := by
  unfold Gc; rw [e1, e2]; exact ⟨Nat.le_add_right _ _, Nat.le_refl _, Nat.le_refl _⟩
theorem Gc_1 {h g : XH} (e1 : g.length = h.length + 1) (e2 : xhs g ≤ xhs h + n6) : Gc 1 h g := by
  unfold Gc; rw [e1, Nat.succ_mul]; exact ⟨Nat.le_refl _, Nat.le_succ _, by omega⟩
theorem Gc_tr {c d m : Nat} {h g k : XH} (a : Gc c h g) (b : Gc d g k) (l : c + d ≤ m) : Gc m h k := ⟨by have := a.1; have := b.1; omega, by have := a.2.1; have := b.2.1; omega, by have := a.2.2; have := b.2.2; omega⟩
theorem Gc_m {c m : Nat} {h g : XH} (a : Gc c h g) (l : c ≤ m) : Gc m h g := ⟨by have := a.1; omega, a.2⟩
theorem Gc_Gr {c : Nat} {h g : XH} (a : Gc c h g) : Gr c (c * n6) h g := by
  refine ⟨a.1, ?_⟩
  have h1 := a.2.2
  have h2 : g.length * n6 ≤ (h.length + c) * n6 := Nat.mul_le_mul_right _ a.1
  rw [Nat.add_mul] at h2
  omega
/-- what a range is read as -/
def RngP (h : XH) (L : List Int) (np : Int) (n i : Nat) (a : Nat) (g : XH) : Prop := (a = 0 ∧ (∃ e, rG (tT L np) i 200 = .inl e ∧ CE g e) ∧ Gc (200 - i) h g) ∨ (∃ l j, rG (tT L np) i 200 = .inr (l, j) ∧ CB g L np n j ∧ i < j ∧ h.length ≤ a ∧ SpanL g a l ∧ ¬ l = [] ∧ Gc (j - i) h g)
/-- spans read so far -/
def RngS (h : XH) (L : List Int) (np : Int) (n i k : Nat) (b a : Nat) (g : XH) : Prop := ∃ l q j, rG (tT L np) i k = .inr (l ++ [q], j) ∧ CB g L np n j ∧ i < j ∧ h.length ≤ b ∧ Ch g b l a q ∧ hR g a 5 = 0 ∧ Gc (j - i) h g
set_option maxHeartbeats 4000000 in
theorem c_X5_readRange {L : List Int} {h : XH} {np : Int} {n i : Nat} (T : HT h) (ok : LOK L) (B : CB h L np n i) {K : Nat → XH → Prop} (k : ∀ a g, RFr h g → RngP h L np n i a g → K a g) : w_X5_readRange K h := by
  unfold w_X5_readRange
  have l0 := HT_len T
  have i200 : i ≤ 200 := Nat.le_trans B.2.2.1 B.1.1
  refine c_X5_readSpan T ok B ?_
  intro a1 h2 F2 q2
  intro t2 u2
  refine ⟨fun x y g => RFr h g ∧ ((x = 0 ∧ (∃ e, rG (tT L np) i 200 = .inl e ∧ CE g e) ∧ Gc (200 - i) h g) ∨ (¬ x = 0 ∧ ∃ k : Nat, y = (k : Int) ∧ k ≤ 200 ∧ RngS h L np n i k a1 x g)), fun _ y _ => (200 - y).toNat, ?_, ?_⟩
  · refine ⟨F2, ?_⟩
    rcases q2 with ⟨y1, ⟨e, y2, y3⟩, y4, y5⟩ | ⟨q, j, y1, y2, y3, y4, y5, y6, y7, y8, y9⟩
    · have r0 : rG (tT L np) i 0 = .inl e := by show (match rS (tT L np) i with | .inl e => .inl e | .inr (q, j) => .inr ([q], j) : Int ⊕ (List (Int × Int × Int) × Nat)) = _; rw [y2]
      exact .inl ⟨y1, ⟨e, (rG_200 (Nat.zero_le _) (.inl ⟨e, r0⟩)).trans r0, y3⟩, Gc_0 y4 y5 _⟩
    · have r0 : rG (tT L np) i 0 = .inr ([q], j) := by show (match rS (tT L np) i with | .inl e => .inl e | .inr (q, j) => .inr ([q], j) : Int ⊕ (List (Int × Int × Int) × Nat)) = _; rw [y1]
      exact .inr ⟨by omega, 0, rfl, by omega, [], q, j, r0, y2, y3, y4, ⟨rfl, y5⟩, y6, Gc_m (Gc_1 y7 y9) (by omega)⟩
  · intro a3 x4 h5 t5 s5 rx4 z6
    obtain ⟨F5, z6⟩ := z6
    refine ⟨(a3 = 0 ∧ (∃ e, rG (tT L np) i 200 = .inl e ∧ CE h5 e) ∧ Gc (200 - i) h h5) ∨ (¬ a3 = 0 ∧ RngS h L np n i 200 a1 a3 h5), ?_, ?_⟩
    · intro z7
      refine ⟨fun a => RngP h L np n i a h5, ?_, ?_⟩
      · intro a8 z9
        exact k _ _ F5 z9
      · refine ⟨fun c10 => ?_, fun c10 => ?_⟩
        · obtain ⟨-, l, q, j, y1, y2, y3, y4, y5, y6, y7⟩ := z7.resolve_left (fun y => c10 y.1)
          exact .inr ⟨l ++ [q], j, y1, y2, y3, y4, Ch_L y6 _ _ y5, by simp, y7⟩
        · exact .inl ⟨rfl, (z7.resolve_right (fun y => c10 y.1)).2⟩
    · refine ⟨fun c21 => ?_, fun c21 => ?_⟩
      · rcases z6 with z6 | ⟨z6, k0, ek, lk, z6b⟩
        · exact .inl z6
        · have : k0 = 200 := by omega
          rw [this] at z6b
          exact .inr ⟨z6, z6b⟩
      · refine ⟨fun c20 => ?_, fun c20 => ?_⟩
        · exact .inl (z6.resolve_right (fun y => y.1 c20))
        · obtain ⟨-, k0, ek, lk, l, q, j, y1, y2, y3, y4, y5, y6, y7⟩ := z6.resolve_left (fun y => c20 y.1)
          refine c_X5_isNext y2 ?_
          intro x11 q11
          intro rx11 vx11
          refine ⟨fun c19 => ?_, fun c19 => ?_⟩
          · have n44 : ¬ (tT L np j).1 = 44 := by rcases q11 with ⟨y1, y2⟩ | ⟨y1, y2⟩; omega; exact y2
            exact .inr ⟨c20, l, q, j, (rG_200 lk (.inr ⟨_, j, y1, n44⟩)).trans y1, y2, y3, y4, y5, y6, y7⟩
          · intro h12 eh12 t12 u12
            have k44 : (tT L np j).1 = 44 := by rcases q11 with ⟨y1, y2⟩ | ⟨y1, y2⟩; exact y2; omega
            have by7 := y2.2.1
            have bn := CB_n y2 (by omega)
            have n200 := y2.1.1
            obtain ⟨F12, gl12, gx12⟩ : RF0 h5 h12 := RFr_s (.inr rfl) eh12
            have B12 : CB h12 L np n (j + 1) := CB_s t5 y2 (by rw [by7]; exact wr_of (by omega) (by omega)) bn eh12
            refine c_X5_readSpan t12 ok B12 ?_
            intro a13 h14 F14 q14
            intro t14 u14
            have ka := (Ch_k _ _ y5)
            have a3lt : a3 < h5.length := hk_lt ka.1 (by decide)
            have a3ge : h.length ≤ a3 := Nat.le_trans y4 (Ch_le _ _ y5)
            have ne : ∀ c, hk h5 c = 11 → sameC h5 h14 c := fun c hc => by
              have c1 : c < h5.length := hk_lt hc (by decide)
              have k3 : hk h5 3 = 6 := lyk (n := 8) t5 rfl
              have k5 : hk h5 5 = 100 := lyk (n := 201) t5 rfl
              have n3 : ¬ c = 3 := fun y => by rw [y, k3] at hc; omega
              have n5 : ¬ c = 5 := fun y => by rw [y, k5] at hc; omega
              exact sameC_tr (F12.1 c c1 (by omega)) (F14.1 c (by omega) (by omega))
            have ka14 := SpK_s ka (ne a3 ka.1)
            refine ⟨ka14.1, ?_⟩
            intro h16 eh16 t16 u16
            intro a17 ea17
            intro x18 ex18 rx18
            have ne16 : ∀ c, ¬ c = a3 → sameC h14 h16 c := fun c n => by rw [eh16]; exact sameC_sV (fun z => n z.symm)
            have F16 : RFr h h16 := by
              have F := RFr_tr F5 (RFr_tr F12 F14)
              refine ⟨fun b hb n => sameC_tr (F.1 b hb n) (ne16 b (by omega)), by rw [eh16, len_sV]; exact F.2.1, fun m n1 n2 => (sameC_el (ne16 3 (by omega)) m).trans (F.2.2 m n1 n2)⟩
            have r5 : hR h16 a3 5 = a13 := by rw [eh16]; exact hR_eq (hn_obj t14 ka14.1 rfl rfl)
            have e17 : a17 = a13 := ea17.trans r5
            have e18 : x18 = ((k0 + 1 : Nat) : Int) := by rw [ex18, wr_of (by omega) (by omega)]; omega
            have g16 : h16.length = h14.length ∧ xhs h16 = xhs h14 := ⟨by rw [eh16, len_sV], by rw [eh16, xhs_sV]⟩
            have jb := (rG_c ok _ _ _ y1).2.2.1
            refine ⟨⟨F16, ?_⟩, by dsimp only; omega⟩
            rcases q14 with ⟨w1, ⟨e, w2, w3⟩, w4, w5⟩ | ⟨q2_, j2, w1, w2, w3, w4, w5, w6, w7, w8, w9⟩
            · have r1 : rG (tT L np) i (k0 + 1) = .inl e := by rw [rG_s, y1]; dsimp only; rw [if_pos k44, w2]
              refine .inl ⟨e17.trans w1, ⟨e, (rG_200 (by omega) (.inl ⟨e, r1⟩)).trans r1, ?_⟩, Gc_tr y7 (Gc_0 (by omega) (by omega) 0) (by omega)⟩
              have s3 := ne16 3 (by omega)
              unfold CE
              rw [sameC_I s3, sameC_I s3]
              exact w3
            · have r1 : rG (tT L np) i (k0 + 1) = .inr ((l ++ [q]) ++ [q2_], j2) := by rw [rG_s, y1]; dsimp only; rw [if_pos k44, w1]
              have n13 : ¬ a13 = a3 := by omega
              refine .inr ⟨by omega, k0 + 1, e18, by omega, l ++ [q], q2_, j2, r1, CB_fr w2 (ne16 _ (by omega)) (ne16 _ (by omega)) (ne16 _ (by omega)) (ne16 _ (by omega)), by omega, y4, ?_, ?_, Gc_tr y7 (Gc_tr (Gc_0 gl12 gx12 0) (Gc_tr (Gc_1 w7 w9) (Gc_0 g16.1 g16.2 0) (Nat.le_refl _)) (Nat.le_refl _)) (by omega)⟩
              · rw [e17]
                refine Ch_app (by omega) (SpK_fr ka14 (fun m hm => by rw [eh16, el_ni (by omega)]) (by rw [eh16, hk_sV])) r5 (SpK_s w5 (ne16 _ n13)) l a1 (fun c _ lt hc => sameC_tr (ne c hc) (ne16 c (by omega))) y5
              · rw [e17, sameC_R (ne16 _ n13)]; exact w6
