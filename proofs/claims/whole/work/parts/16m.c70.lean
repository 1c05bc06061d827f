/-! VERSION: the class's state with one more -/
theorem clr_at {s : BitVec 64} {v w : Nat} (hv : v < 64) (hw : w < 64) : (s &&& ((lshl (1#64) (v : Int)) ^^^ (18446744073709551615#64))).getLsbD w = (s.getLsbD w && !decide (w = v)) := by
  rw [lshl1 hv, BitVec.getLsbD_and, BitVec.getLsbD_xor, bit1_at hv]
  have : (18446744073709551615#64).getLsbD w = true := by
    have e : (18446744073709551615#64) = BitVec.allOnes 64 := by decide
    rw [e, BitVec.getLsbD_allOnes, decide_eq_true hw]
  rw [this]
  cases decide (w = v) <;> rfl
theorem CS_newV {h g : XH} {N : Nat → Int} {nd : Nat → ND} {m j n p : Nat} {a b c d e : Int} (C : CS h 8 N nd) (W : WF N m) (l : N 4 < 40) (ap : a = (p : Int)) (pa : (p : Int) < N 0) (hb : 0 ≤ b ∧ b < 1000000 ∧ ¬ b % 100 = 0) (hc : 0 ≤ c) (hd : 0 ≤ d ∧ d ≤ 1000) (new : slotF N a b = -1)
    (cnt : hI h 10 p = (n : Int)) (n8 : n < 8) (jn : j ≤ n) (G : ∀ c, 8 ≤ c → c < 43 → c = 8 ∨ c = 19 ∨ c = 20 ∨ c = 22 ∨ c = 24 ∨ c = 25 ∨ 27 ≤ c → sameC h g c) (X : ∀ a, hk h a = 1 ∨ hk h a = 11 → sameC h g a)
    (g9 : hI g 9 0 = hI h 9 0 ∧ hI g 9 1 = N 4 + 1) (g9f : ∀ w, w < 40 → (hL g 9 10).getLsbD w = ((hL h 9 10).getLsbD w && !decide (w = vc N)))
    (g13 : ∀ w, hI g 13 w = if w = vc N then a else hI h 13 w) (g14 : ∀ w, hI g 14 w = if w = vc N then b else hI h 14 w) (g15 : ∀ w, hI g 15 w = if w = vc N then c else hI h 15 w) (g16 : ∀ w, hI g 16 w = if w = vc N then d else hI h 16 w) (g17 : ∀ w, hI g 17 w = if w = vc N then e else hI h 17 w)
    (g18 : ∀ w, hI g 18 w = if w = vc N then 0 else hI h 18 w) (g21 : ∀ w, hI g 21 w = if w = vc N then 0 else hI h 21 w) (g23 : ∀ w, hI g 23 w = if w = vc N then 0 else hI h 23 w) (g26 : ∀ w, hR g 26 w = if w = vc N then 0 else hR h 26 w)
    (g11 : ∀ q, hL g 11 q = if q = p then hL h 11 q ||| bit1 (vc N) else hL h 11 q) (g10 : ∀ q, hI g 10 q = if q = p then (n : Int) + 1 else hI h 10 q)
    (g12 : ∀ i, hI g 12 i = if i = 8 * p + j then (vc N : Int) else if 8 * p + j < i ∧ i ≤ 8 * p + n then hI h 12 (i - 1) else hI h 12 i)
    (hgt : ∀ i, j ≤ i → i < n → b < nV N (hI h 12 (8 * p + i)).toNat 1) (hlt : 0 < j → nV N (hI h 12 (8 * p + (j - 1))).toNat 1 ≤ b) : CS g 8 (verN N a b c d e) nd := by
  have w3 := W.1.2.2.1
  have vl : vc N < 40 := by unfold vc; omega
  have n12 := W.1.2.1
  have z0 := fun k hk => W.1.2.2.2.2.2.1 (vc N) (Nat.le_refl _) vl k hk
  have nn := (slotF_r (N := N) (p := a) (c := b) w3).2.2.2 new
  obtain ⟨v0, v1, v2, v3, v4⟩ := ver_v (N := N) (a := a) (b := b) (c := c) (d := d) (e := e)
  have e0 : verN N a b c d e 0 = N 0 := ver_at 0 (by decide) (by omega)
  have evc := ver_vc (a := a) (b := b) (c := c) (d := d) (e := e) w3
  have SV := fun {s : BitVec 64} {f : Nat → Int} (z : SetR N s f) => SetR_verN (a := a) (b := b) (c := c) (d := d) (e := e) W l ⟨hb.1, hb.2.1⟩ new z ⟨by omega, by omega⟩
  refine ⟨⟨by rw [e0]; exact g9.1.trans C.1.1, by rw [ver_4]; exact g9.2, fun w hw => ?_⟩, fun q hq => ?_, fun r hr => ?_, ?_⟩
  · rw [evc] at hw
    show hI g 13 w = _ ∧ hI g 14 w = _ ∧ hI g 15 w = _ ∧ hI g 16 w = _ ∧ hI g 17 w = _ ∧ ((hL g 9 10).getLsbD w = true ↔ _) ∧ (_ ∧ hR g 26 w = 0 ∨ _ ∧ AtomR g (hR g 26 w) _) ∧ hI g 18 w = _ ∧ (∀ k : Nat, k < 3 → (k : Int) < _ → AtomR g (hR g 19 (3 * w + k)) _ ∧ hI g 20 (3 * w + k) = _) ∧ hI g 21 w = _ ∧ (∀ k : Nat, k < 2 → (k : Int) < _ → AtomR g (hR g 22 (2 * w + k)) _) ∧ hI g 23 w = _ ∧ (∀ k : Nat, k < 2 → (k : Int) < _ → hI g 24 (2 * w + k) = _ ∧ hI g 25 (2 * w + k) = _)
    by_cases q : w = vc N
    · rw [q, v0, v1, v2, v3, v4, ver_5 (by decide) (by decide) (z0 5 (by decide)), ver_5 (by decide) (by decide) (z0 6 (by decide)), ver_5 (by decide) (by decide) (z0 7 (by decide)), ver_5 (by decide) (by decide) (z0 11 (by decide)), ver_5 (by decide) (by decide) (z0 12 (by decide)), ver_5 (by decide) (by decide) (z0 15 (by decide)), g13, g14, g15, g16, g17, g18, g21, g23, g26, if_pos rfl, if_pos rfl, if_pos rfl, if_pos rfl, if_pos rfl, if_pos rfl, if_pos rfl, if_pos rfl, if_pos rfl, g9f _ vl, decide_eq_true rfl]
      refine ⟨rfl, rfl, rfl, rfl, rfl, ?_, .inl ⟨rfl, rfl⟩, rfl, fun k _ y => by omega, rfl, fun k _ y => by omega, rfl, fun k _ y => by omega⟩
      constructor
      · intro y; rw [Bool.not_true, Bool.and_false] at y; cases y
      · intro y; omega
    · obtain ⟨a1, a2, a3, a4, a5, a6, a7, a8, a9, a10, a11, a12, a13⟩ := CSV_1 C.1 (show w < vc N by omega)
      rw [ver_o (by decide) q, ver_o (by decide) q, ver_o (by decide) q, ver_o (by decide) q, ver_o (by decide) q, ver_o (by decide) q, ver_o (by decide) q, ver_o (by decide) q, ver_o (by decide) q, ver_o (by decide) q, ver_o (by decide) q, g13, g14, g15, g16, g17, g18, g21, g23, g26, if_neg q, if_neg q, if_neg q, if_neg q, if_neg q, if_neg q, if_neg q, if_neg q, if_neg q, g9f _ (by omega), decide_eq_false q, Bool.not_false, Bool.and_true]
      have s19 := G 19 (by decide) (by decide) (by decide)
      have s20 := G 20 (by decide) (by decide) (by decide)
      have s22 := G 22 (by decide) (by decide) (by decide)
      have s24 := G 24 (by decide) (by decide) (by decide)
      have s25 := G 25 (by decide) (by decide) (by decide)
      refine ⟨a1, a2, a3, a4, a5, a6, a7.imp_right fun y => ⟨y.1, AtomR_fr X y.2⟩, a8, fun k h3 hk => ?_, a10, fun k h2 hk => ?_, a12, fun k h2 hk => ?_⟩
      · rw [ver_o (by omega) q, sameC_R s19, sameC_I s20]
        exact ⟨AtomR_fr X (a9 k h3 hk).1, (a9 k h3 hk).2⟩
      · rw [ver_o (by omega) q, sameC_R s22]
        exact AtomR_fr X (a11 k h2 hk)
      · rw [ver_o (by omega) q, ver_o (by omega) q, sameC_I s24, sameC_I s25]
        exact a13 k h2 hk
  · have hq' : q < pc N := by unfold pc at hq ⊢; rw [e0] at hq; exact hq
    have q12 : q < 12 := by unfold pc at hq'; omega
    obtain ⟨y1, y2, y3, y4, y5, y6⟩ := C.2.1 q hq'
    show 0 ≤ hI g 10 q ∧ hI g 10 q ≤ 8 ∧ (∀ t : Nat, (hL g 11 q).getLsbD t = true ↔ _) ∧ (∀ i : Nat, (i : Int) < hI g 10 q → ∃ v : Nat, v < vc (verN N a b c d e) ∧ hI g 12 (8 * q + i) = v ∧ nV (verN N a b c d e) v 0 = q) ∧ (∀ v : Nat, v < vc (verN N a b c d e) → nV (verN N a b c d e) v 0 = q → ∃ i : Nat, (i : Int) < hI g 10 q ∧ hI g 12 (8 * q + i) = v) ∧ (∀ i j : Nat, i < j → (j : Int) < hI g 10 q → nV (verN N a b c d e) (hI g 12 (8 * q + i)).toNat 1 < nV (verN N a b c d e) (hI g 12 (8 * q + j)).toNat 1)
    rw [evc]
    by_cases qp : q = p
    · rw [qp] at y1 y2 y3 y4 y5 y6 ⊢
      replace y3 : ∀ t : Nat, (hL h 11 p).getLsbD t = true ↔ t < vc N ∧ nV N t 0 = p ∨ t = 40 + p := y3
      replace y4 : ∀ i : Nat, (i : Int) < hI h 10 p → ∃ v : Nat, v < vc N ∧ hI h 12 (8 * p + i) = v ∧ nV N v 0 = p := y4
      replace y5 : ∀ v : Nat, v < vc N → nV N v 0 = p → ∃ i : Nat, (i : Int) < hI h 10 p ∧ hI h 12 (8 * p + i) = v := y5
      replace y6 : ∀ i j : Nat, i < j → (j : Int) < hI h 10 p → nV N (hI h 12 (8 * p + i)).toNat 1 < nV N (hI h 12 (8 * p + j)).toNat 1 := y6
      rw [cnt] at y4 y5 y6
      rw [g10, if_pos rfl, g11, if_pos rfl]
      -- what stands at a place of the new row
      have row : ∀ i, i ≤ n → hI g 12 (8 * p + i) = if i = j then (vc N : Int) else if j < i then hI h 12 (8 * p + (i - 1)) else hI h 12 (8 * p + i) := fun i hi => by
        rw [g12]
        by_cases c1 : i = j
        · rw [if_pos (by omega), if_pos c1]
        · rw [if_neg (by omega), if_neg c1]
          by_cases c2 : j < i
          · rw [if_pos (by omega), if_pos c2, show 8 * p + i - 1 = 8 * p + (i - 1) by omega]
          · rw [if_neg (by omega), if_neg c2]
      have cd : ∀ i, i ≤ n → nV (verN N a b c d e) (hI g 12 (8 * p + i)).toNat 1 = if i = j then b else if j < i then nV N (hI h 12 (8 * p + (i - 1))).toNat 1 else nV N (hI h 12 (8 * p + i)).toNat 1 := fun i hi => by
        rw [row i hi]
        by_cases c1 : i = j
        · rw [if_pos c1, if_pos c1, Int.toNat_natCast, v1]
        · rw [if_neg c1, if_neg c1]
          by_cases c2 : j < i
          · rw [if_pos c2, if_pos c2]
            obtain ⟨v, hv, ev, -⟩ := y4 (i - 1) (by omega)
            rw [ev, Int.toNat_natCast, ver_o (by decide) (by omega)]
          · rw [if_neg c2, if_neg c2]
            obtain ⟨v, hv, ev, -⟩ := y4 i (by omega)
            rw [ev, Int.toNat_natCast, ver_o (by decide) (by omega)]
      have low : ∀ i, i < j → nV N (hI h 12 (8 * p + i)).toNat 1 < b := fun i hi => by
        obtain ⟨v, hv, ev, e0v⟩ := y4 i (by omega)
        have ne : ¬ nV N v 1 = b := fun z => nn v hv ⟨by omega, z⟩
        by_cases z : i = j - 1
        · have := hlt (by omega)
          rw [← z, ev, Int.toNat_natCast] at this
          rw [ev, Int.toNat_natCast]; omega
        · have := y6 i (j - 1) (by omega) (by omega)
          have := hlt (by omega)
          omega
      refine ⟨by omega, by omega, fun t => ?_, fun i hi => ?_, fun v hv e0v => ?_, fun i k hik hk => ?_⟩
      · rw [BitVec.getLsbD_or, bit1_at (by omega), Bool.or_eq_true, y3 t, decide_eq_true_eq]
        by_cases tq : t = vc N
        · rw [tq, v0]
          constructor
          · intro _; exact .inl ⟨by omega, ap⟩
          · intro _; exact .inr rfl
        · rw [ver_o (by decide) tq]
          constructor
          · rintro ((z | z) | z)
            · exact .inl ⟨by omega, z.2⟩
            · exact .inr z
            · exact (tq z).elim
          · rintro (z | z)
            · exact .inl (.inl ⟨by omega, z.2⟩)
            · exact .inl (.inr z)
      · rw [row i (by omega)]
        by_cases c1 : i = j
        · rw [if_pos c1]; exact ⟨vc N, by omega, rfl, by rw [v0]; exact ap⟩
        · rw [if_neg c1]
          by_cases c2 : j < i
          · rw [if_pos c2]
            obtain ⟨v, hv, ev, e0v⟩ := y4 (i - 1) (by omega)
            exact ⟨v, by omega, ev, by rw [ver_o (by decide) (by omega)]; exact e0v⟩
          · rw [if_neg c2]
            obtain ⟨v, hv, ev, e0v⟩ := y4 i (by omega)
            exact ⟨v, by omega, ev, by rw [ver_o (by decide) (by omega)]; exact e0v⟩
      · by_cases vq : v = vc N
        · exact ⟨j, by omega, by rw [row j jn, if_pos rfl, vq]⟩
        · rw [ver_o (by decide) vq] at e0v
          obtain ⟨i, hi, ei⟩ := y5 v (by omega) e0v
          by_cases c2 : j ≤ i
          · exact ⟨i + 1, by omega, by rw [row (i + 1) (by omega), if_neg (by omega), if_pos (by omega), Nat.add_sub_cancel]; exact ei⟩
          · exact ⟨i, by omega, by rw [row i (by omega), if_neg (by omega), if_neg (by omega)]; exact ei⟩
      · rw [cd i (by omega), cd k (by omega)]
        by_cases c1 : i = j
        · rw [if_pos c1, if_neg (by omega), if_pos (by omega)]
          exact hgt (k - 1) (by omega) (by omega)
        · rw [if_neg c1]
          by_cases c2 : j < i
          · rw [if_pos c2, if_neg (by omega), if_pos (by omega)]
            exact y6 (i - 1) (k - 1) (by omega) (by omega)
          · rw [if_neg c2]
            by_cases d1 : k = j
            · rw [if_pos d1]; exact low i (by omega)
            · rw [if_neg d1]
              by_cases d2 : j < k
              · rw [if_pos d2]
                have := low i (by omega)
                have := hgt (k - 1) (by omega) (by omega)
                omega
              · rw [if_neg d2]; exact y6 i k hik (by omega)
    · have apq : ¬ a = (q : Int) := by omega
      replace y4 : ∀ i : Nat, (i : Int) < hI h 10 q → ∃ v : Nat, v < vc N ∧ hI h 12 (8 * q + i) = v ∧ nV N v 0 = q := y4
      replace y5 : ∀ v : Nat, v < vc N → nV N v 0 = q → ∃ i : Nat, (i : Int) < hI h 10 q ∧ hI h 12 (8 * q + i) = v := y5
      replace y6 : ∀ i j : Nat, i < j → (j : Int) < hI h 10 q → nV N (hI h 12 (8 * q + i)).toNat 1 < nV N (hI h 12 (8 * q + j)).toNat 1 := y6
      rw [g10, if_neg qp, g11, if_neg qp]
      have row : ∀ i : Nat, (i : Int) < hI h 10 q → hI g 12 (8 * q + i) = hI h 12 (8 * q + i) := fun i hi => by
        have : hI h 10 q ≤ 8 := y2
        rw [g12, if_neg (by omega), if_neg (by omega)]
      refine ⟨y1, y2, fun t => ?_, fun i hi => ?_, fun v hv e0v => ?_, fun i k hik hk => ?_⟩
      · have y3' : (hL h 11 q).getLsbD t = true ↔ t < vc N ∧ nV N t 0 = q ∨ t = 40 + q := y3 t
        rw [y3']
        by_cases tq : t = vc N
        · rw [tq, v0]
          constructor
          · rintro (z | z)
            · omega
            · exact .inr z
          · rintro (z | z)
            · exact (apq z.2).elim
            · exact .inr z
        · rw [ver_o (by decide) tq]
          constructor
          · rintro (z | z)
            · exact .inl ⟨by omega, z.2⟩
            · exact .inr z
          · rintro (z | z)
            · exact .inl ⟨by omega, z.2⟩
            · exact .inr z
      · obtain ⟨v, hv, ev, e0v⟩ := y4 i hi
        exact ⟨v, by omega, by rw [row i hi]; exact ev, by rw [ver_o (by decide) (by omega)]; exact e0v⟩
      · by_cases vq : v = vc N
        · rw [vq, v0] at e0v; exact (apq e0v).elim
        · rw [ver_o (by decide) vq] at e0v
          obtain ⟨i, hi, ei⟩ := y5 v (by omega) e0v
          exact ⟨i, hi, by rw [row i hi]; exact ei⟩
      · obtain ⟨v, hv, ev, -⟩ := y4 i (by omega)
        obtain ⟨w, hw, ew, -⟩ := y4 k hk
        have := y6 i k hik hk
        have ev' : hI h 12 (8 * q + i) = v := ev
        have ew' : hI h 12 (8 * q + k) = w := ew
        have this' : nV N (hI h 12 (8 * q + i)).toNat 1 < nV N (hI h 12 (8 * q + k)).toNat 1 := this
        rw [ev', ew'] at this'
        rw [row i (by omega), row k hk, ev', ew', Int.toNat_natCast, Int.toNat_natCast, ver_o (by decide) (by omega), ver_o (by decide) (by omega)]
        rw [Int.toNat_natCast, Int.toNat_natCast] at this'
        exact this'
  · have z : CSR g 8 N nd r := CSR_cp (fun j i w _ => sameC_el (G _ (by omega) (by omega) (by omega)) i) X (C.2.2.1 r hr)
    unfold CSR at z ⊢
    simp only [ver_R vl]
    obtain ⟨y1, y2, y3, y4, y5, y6, y7, y8, y9, y10⟩ := z
    exact ⟨y1, y2, y3, y4, y5, SV y6, SV y7, y8, fun i hi hk => SV (y9 i hi hk), y10⟩
  · obtain ⟨y1, y2, y3, y4, y5⟩ := CST_cp (fun j i w _ => sameC_el (G (8 + j) (by omega) (by omega) (by omega)) i) C.2.2.2
    have gN : ∀ i, (i = 1 ∨ i = 2 ∨ i = 3 ∨ 805 ≤ i) → verN N a b c d e i = N i := fun i hi => ver_at i (by omega) (by omega)
    refine ⟨by rw [gN 1 (by omega)]; exact y1, by rw [gN 3 (by omega)]; exact y2, by rw [gN 2 (by omega)]; exact y3, fun l hl => ?_, fun k hk => ?_⟩
    · have := SV (y4 l hl)
      have e : (fun q => verN N a b c d e (1678 + 12 * l + q)) = fun q => N (1678 + 12 * l + q) := funext fun q => gN _ (by omega)
      rw [e]; exact this
    · obtain ⟨t1, t2, t3⟩ := y5 k hk
      rw [gN _ (by omega)]
      refine ⟨t1, fun v hv => ?_, fun v hv y => ?_⟩
      · rw [gN _ (by omega)]; exact t2 v hv
      · rw [gN _ (by omega)] at y ⊢; exact t3 v hv y
