/-! NEEDS: which versions meet them, both sides -/
theorem c_isMetBy {t : Nat} {p0 : Int} {q : Int × Int × Int} {K : Int → Prop} {h : XH} (hc : 0 ≤ p0 ∧ p0 < 1000000) (ok : sOK q) (b : hI h t 0 = sgn q.1 ∧ hI h t 1 = (if q.1 = 0 then 99 else q.2.1) ∧ hI h t 2 = (if q.1 = 0 then 99 else q.2.2) ∧ hI h t 3 = trl (if q.1 = 0 then 99 else q.2.1) ∧ hI h t 4 = trl (if q.1 = 0 then 99 else q.2.2)) (k : ∀ x, bq x (smet p0 q = true) → K x) : w_X10_isMetBy t p0 K h := by
  obtain ⟨kk, f, e⟩ := q
  obtain ⟨o1, o2, o3, o4, o5, o6⟩ := ok
  obtain ⟨b0, b1, b2, b3, b4⟩ := b
  dsimp only at *
  have : kk = 0 ∨ kk = 1 ∨ kk = 2 ∨ kk = 3 ∨ kk = 4 ∨ kk = 5 ∨ kk = 6 := by omega
  rcases this with rfl | rfl | rfl | rfl | rfl | rfl | rfl
  · exact c_isMetBy_0 hc ⟨o3, o4⟩ ⟨o5, o6⟩ b0 b1 b2 b3 b4 k
  · exact c_isMetBy_1 hc ⟨o3, o4⟩ ⟨o5, o6⟩ b0 b1 b2 b3 b4 k
  · exact c_isMetBy_2 hc ⟨o3, o4⟩ ⟨o5, o6⟩ b0 b1 b2 b3 b4 k
  · exact c_isMetBy_3 hc ⟨o3, o4⟩ ⟨o5, o6⟩ b0 b1 b2 b3 b4 k
  · exact c_isMetBy_4 hc ⟨o3, o4⟩ ⟨o5, o6⟩ b0 b1 b2 b3 b4 k
  · exact c_isMetBy_5 hc ⟨o3, o4⟩ ⟨o5, o6⟩ b0 b1 b2 b3 b4 k
  · exact c_isMetBy_6 hc ⟨o3, o4⟩ ⟨o5, o6⟩ b0 b1 b2 b3 b4 k
theorem c_meetsSpan {p0 p1 p2 p3 : Int} {K : Int → Prop} {h : XH} (hc : 0 ≤ p0 ∧ p0 < 1000000) (ok : sOK (p1, p2, p3)) (k : ∀ x, bq x (smet p0 (p1, p2, p3) = true) → K x) : w_X14_meetsSpan p0 p1 p2 p3 K h := by
  obtain ⟨o1, o2, o3, o4, o5, o6⟩ := ok
  dsimp only at *
  have : p1 = 0 ∨ p1 = 1 ∨ p1 = 2 ∨ p1 = 3 ∨ p1 = 4 ∨ p1 = 5 ∨ p1 = 6 := by omega
  rcases this with rfl | rfl | rfl | rfl | rfl | rfl | rfl
  · exact c_meetsSpan_0 hc ⟨o3, o4⟩ ⟨o5, o6⟩ k
  · exact c_meetsSpan_1 hc ⟨o3, o4⟩ ⟨o5, o6⟩ k
  · exact c_meetsSpan_2 hc ⟨o3, o4⟩ ⟨o5, o6⟩ k
  · exact c_meetsSpan_3 hc ⟨o3, o4⟩ ⟨o5, o6⟩ k
  · exact c_meetsSpan_4 hc ⟨o3, o4⟩ ⟨o5, o6⟩ k
  · exact c_meetsSpan_5 hc ⟨o3, o4⟩ ⟨o5, o6⟩ k
  · exact c_meetsSpan_6 hc ⟨o3, o4⟩ ⟨o5, o6⟩ k
/-- how long a chain of spans is -/
def spl (h : XH) : Nat → Nat → Nat
  | 0, _ => 0
  | n + 1, a => if a = 0 then 0 else 1 + spl h n (hR h a 5)
theorem spl_eq {h : XH} (T : HT h) : ∀ (n a : Nat) (l : List (Int × Int × Int)), SpanL h a l → l.length ≤ n → spl h n a = l.length := by
  intro n
  induction n with
  | zero => intro a l _ hl; unfold spl; omega
  | succ n ih =>
    intro a l z hl
    unfold spl
    cases l with
    | nil =>
      have z : a = 0 := z
      rw [if_pos z]; rfl
    | cons q l =>
      rw [if_neg (fun e => noTxt T (b := a) (by omega) (.inr z.1)), ih _ l z.2.2.2.2.2.2 (by simp at hl; omega)]
      simp; omega
theorem SpanL_0 {h : XH} (T : HT h) {l : List (Int × Int × Int)} (z : SpanL h 0 l) : l = [] := by
  cases l with
  | nil => rfl
  | cons q l => exact absurd (.inr z.1) (noTxt T (by decide))
theorem SpanL_c {h : XH} {a : Nat} (n : ¬ a = 0) {l : List (Int × Int × Int)} (z : SpanL h a l) : ∃ q k, l = q :: k := by
  cases l with
  | nil => exact absurd z n
  | cons q l => exact ⟨q, l, rfl⟩
set_option maxHeartbeats 1000000 in
theorem c_X10_isAnyMet {p0 : Nat} {p1 : Int} {l : List (Int × Int × Int)} {K : Int → Prop} {h : XH} (T : HT h) (hc : 0 ≤ p1 ∧ p1 < 1000000) (S : SpanL h p0 l) (ok : ∀ q ∈ l, sOK q) (k : ∀ x, bq x (l.any (smet p1) = true) → K x) : w_X10_isAnyMet p0 p1 K h := by
  unfold w_X10_isAnyMet
  refine ⟨fun a => ∃ r, SpanL h a r ∧ r.length ≤ l.length ∧ (∀ q ∈ r, sOK q) ∧ l.any (smet p1) = r.any (smet p1), fun a => spl h l.length a, ?_, ?_⟩
  · exact ⟨l, S, Nat.le_refl _, ok, rfl⟩
  · intro a1 z2
    obtain ⟨r, z0, z1, zo, ze⟩ := z2
    refine ⟨fun c7 => ?_, fun c7 => ?_⟩
    · rw [c7] at z0
      have e := SpanL_0 T z0
      subst e
      exact k _ (bqF (by rw [ze]; simp))
    · obtain ⟨q, r2, er⟩ := SpanL_c c7 z0
      subst er
      have z00 := z0
      obtain ⟨y0, y1, y2, y3, y4, y5, y6⟩ := z0
      refine ⟨y0, ?_⟩
      refine c_isMetBy hc (zo q (List.mem_cons_self ..)) ⟨y1, y2, y3, y4, y5⟩ ?_
      intro x4 qx4
      intro rx4 vx4
      refine ⟨fun c6 => ?_, fun c6 => ?_⟩
      · intro a5 ea5
        have nq : smet p1 q = false := bt ((bq1 qx4).2.1.mp c6)
        refine ⟨⟨r2, by rw [ea5]; exact y6, by simp at z1; omega, fun w hw => zo w (List.mem_cons_of_mem _ hw), by rw [ze, List.any_cons, nq, Bool.false_or]⟩, ?_⟩
        dsimp only
        rw [ea5, spl_eq T _ _ _ y6 (by simp at z1; omega), spl_eq T _ _ _ z00 z1]
        simp
      · exact k _ (bqT (by rw [ze, List.any_cons, (bq1 qx4).2.2.1.mp c6, Bool.true_or]))
theorem nrm_ok {l : List (Int × Int × Int)} (ok : ∀ q ∈ l, sOK q) : ∀ q ∈ nrm l, sOK q := by
  cases l with
  | nil =>
    intro q hq
    have : q = (0, 0, 0) := by simpa [nrm] using hq
    rw [this]
    exact ⟨by decide, by decide, by decide, by decide, by decide, by decide⟩
  | cons a l => exact ok
theorem take_any {α : Type} (l : List α) (f : α → Bool) (n : Nat) (hn : n < l.length) : (l.take (n + 1)).any f = ((l.take n).any f || f l[n]) := by
  rw [List.take_add_one, List.getElem?_eq_getElem hn, List.any_append]
  simp
theorem needs_at {h : XH} {q : Nat} {d : ND} (z : NeedR h q d) {i : Nat} (hi : i < d.2.length) : ∃ b : Nat, hI h (hR h q 2) i = b ∧ hI h (hR h q 2) (i + 1) = ((b + (d.2[i]).2.length : Nat) : Int) ∧ 3 * (b + (d.2[i]).2.length) ≤ hn h (hR h q 3) ∧ hn h (hR h q 3) ≤ 600 ∧ hI h (hR h q 1) i = (d.2[i]).1 ∧ ∀ j (hj : j < (d.2[i]).2.length), hI h (hR h q 3) (3 * (b + j)) = ((d.2[i]).2[j]).1 ∧ hI h (hR h q 3) (3 * (b + j) + 1) = ((d.2[i]).2[j]).2.1 ∧ hI h (hR h q 3) (3 * (b + j) + 2) = ((d.2[i]).2[j]).2.2 := by
  obtain ⟨z1, z2, z3, z4, z5, z6, z7, bg, a1, a2, a3, a4, a5, a6, a7, a8, a9, a10⟩ := z
  obtain ⟨b1, b2, b3⟩ := a10 i hi
  have mono : ∀ k, i < k → k ≤ d.2.length → bg (i + 1) ≤ bg k := by
    intro k
    induction k with
    | zero => intro h0; omega
    | succ k ih =>
      intro h0 h1
      by_cases e : k = i
      · rw [e]; exact Nat.le_refl _
      · have := ih (by omega) (by omega)
        have := (a10 k (by omega)).2.1
        omega
  have := mono d.2.length hi (Nat.le_refl _)
  exact ⟨bg i, a9 i (by omega), by rw [a9 (i + 1) (by omega), b2], by omega, a7, b1, b3⟩
theorem needs_k {h : XH} {q : Nat} {d : ND} (z : NeedR h q d) : hk h q = 14 ∧ hk h (hR h q 1) = 100 ∧ hn h (hR h q 1) = d.2.length ∧ hk h (hR h q 2) = 100 ∧ hn h (hR h q 2) = d.2.length + 1 ∧ hk h (hR h q 3) = 100 ∧ hI h q 0 = d.1 ∧ ndOK d ∧ d.2.length < 2147483648 := by
  obtain ⟨z1, z2, z3, z4, z5, z6, z7, bg, a1, a2, a3, a4, a5, a6, a7, a8, a9, a10⟩ := z
  exact ⟨z1, a1, a2, a3, a4, a5, z2, z3, by have := z3.2.2.2.2; omega⟩
theorem any_get {α : Type} (l : List α) (f : α → Bool) : l.any f = true ↔ ∃ i, ∃ hi : i < l.length, f l[i] = true := by
  rw [List.any_eq_true]
  constructor
  · rintro ⟨x, hx, y⟩
    obtain ⟨i, hi, e⟩ := List.getElem_of_mem hx
    exact ⟨i, hi, by rw [e]; exact y⟩
  · rintro ⟨i, hi, y⟩
    exact ⟨l[i], List.getElem_mem hi, y⟩
set_option maxHeartbeats 1000000 in
theorem c_X14_meetsRange {p0 : Nat} {p1 p2 : Int} {d : ND} {h : XH} (Z : NeedR h p0 d) (h1 : 0 ≤ p1 ∧ p1 < (d.2.length : Int)) (hc : 0 ≤ p2 ∧ p2 < 1000000) {K : Int → Prop} (k : ∀ x, bq x (rmet (d.2[p1.toNat]'(by omega)).2 p2 = true) → K x) : w_X14_meetsRange p0 p1 p2 K h := by
  unfold w_X14_meetsRange
  obtain ⟨k0, k1, k2, k3, k4, k5, k6, ok, k8⟩ := needs_k Z
  obtain ⟨b, y1, y2, y3, y4, y5, y6⟩ := needs_at Z (i := p1.toNat) (by omega)
  have okl := (ok.2.2.2.1 _ (List.getElem_mem (show p1.toNat < d.2.length by omega))).2.2
  generalize el : (d.2[p1.toNat]'(by omega)).2 = l at *
  refine ⟨k0, ?_⟩
  refine ⟨k3, ?_⟩
  refine ⟨(by omega), ?_⟩
  intro x4 ex4 rx4
  rw [wr_of (by omega) (by omega)] at ex4
  have e4 : x4.toNat = p1.toNat + 1 := by omega
  rw [e4, y1, y2]
  refine ⟨(by omega), ?_⟩
  refine ⟨fun x => bq x (l = [] ∧ smet p2 (0, 0, 0) = true), ?_, ?_⟩
  · intro x6 rx6 z7
    intro x8 ex8 rx8
    refine ⟨fun a k => (b : Int) ≤ k ∧ k ≤ ((b + l.length : Nat) : Int) ∧ bq a ((l = [] ∧ smet p2 (0, 0, 0) = true) ∨ (l.take (k - b).toNat).any (smet p2) = true), fun _ k => (b + l.length - k : Int).toNat, ?_, ?_⟩
    · exact ⟨by omega, by omega, bq_iff z7 ⟨fun y => .inl y, fun y => y.elim id (fun w => by rw [ex8, Int.sub_self] at w; simp at w)⟩⟩
    · intro x9 x10 rx9 rx10 z11
      intro x12 ex12 rx12
      rw [wr_of (by omega) (by omega)] at ex12
      have e12 : x12.toNat = p1.toNat + 1 := by omega
      rw [e12, y2]
      refine ⟨(by omega), ?_⟩
      refine ⟨fun c29 => ?_, fun c29 => ?_⟩
      · refine ⟨vOr z11.2.2, ?_⟩
        refine k _ (bq_iff z11.2.2 ?_)
        rw [show (x10 - b).toNat = l.length by omega, List.take_length]
        unfold rmet nrm
        cases l with
        | nil => simp
        | cons q l => simp
      · obtain ⟨z0, z1, zb⟩ := z11
        have bd : (x10 - b).toNat < l.length := by omega
        have yj := y6 (x10 - b).toNat bd
        rw [show b + (x10 - b).toNat = x10.toNat by omega] at yj
        refine ⟨fun x => bq x ((l = [] ∧ smet p2 (0, 0, 0) = true) ∨ (l.take ((x10 - b).toNat + 1)).any (smet p2) = true), ?_, ?_⟩
        · intro x15 rx15 z16
          intro x17 ex17 rx17
          rw [wr_of (by omega) (by omega)] at ex17
          exact ⟨⟨by omega, by omega, by rw [show (x17 - b).toNat = (x10 - b).toNat + 1 by omega]; exact z16⟩, by dsimp only; omega⟩
        · refine ⟨(l = [] ∧ smet p2 (0, 0, 0) = true) ∨ (l.take ((x10 - b).toNat + 1)).any (smet p2) = true, ?_, ?_⟩
          · intro z18
            exact bqT z18
          · refine ⟨fun c28 => ?_, fun c28 => ?_⟩
            · have := (bq1 zb).2.2.1.mp c28
              rw [take_any _ _ _ bd, Bool.or_eq_true]
              exact this.elim .inl (fun y => .inr (.inl y))
            · intro x19 ex19 rx19
              rw [wr_of (by omega) (by omega)] at ex19
              have e19 : x19.toNat = 3 * x10.toNat := by omega
              refine ⟨k5, ?_⟩
              refine ⟨(by omega), ?_⟩
              intro x22 ex22 rx22
              rw [wr_of (x := 3 * x10) (by omega) (by omega), wr_of (by omega) (by omega)] at ex22
              have e22 : x22.toNat = 3 * x10.toNat + 1 := by omega
              refine ⟨(by omega), ?_⟩
              intro x24 ex24 rx24
              rw [wr_of (x := 3 * x10) (by omega) (by omega), wr_of (by omega) (by omega)] at ex24
              have e24 : x24.toNat = 3 * x10.toNat + 2 := by omega
              rw [e19, e22, e24, yj.1, yj.2.1, yj.2.2]
              refine ⟨(by omega), ?_⟩
              refine c_meetsSpan hc (okl _ (List.getElem_mem bd)) ?_
              intro x26 qx26
              intro rx26 vx26
              refine ⟨fun c27 => ?_, fun c27 => ?_⟩
              · refine bqF (fun y => ?_)
                rw [take_any _ _ _ bd, Bool.or_eq_true] at y
                have n := (bq1 zb).2.1.mp (by omega)
                rcases y with y | y | y
                · exact n (.inl y)
                · exact n (.inr y)
                · exact (bq1 qx26).2.1.mp c27 y
              · rw [take_any _ _ _ bd, Bool.or_eq_true]
                exact .inr (.inr ((bq1 qx26).2.2.1.mp c27))
  · refine ⟨¬ (l = [] ∧ smet p2 (0, 0, 0) = true), ?_, ?_⟩
    · intro z30
      exact bqF z30
    · refine ⟨fun c33 => ?_, fun c33 => ?_⟩
      · exact fun y => by
          have : l.length = 0 := by rw [y.1]; rfl
          omega
      · refine c_meetsSpan hc ⟨by decide, by decide, by decide, by decide, by decide, by decide⟩ ?_
        intro x31 qx31
        intro rx31 vx31
        refine ⟨fun c32 => ?_, fun c32 => ?_⟩
        · exact fun y => (bq1 qx31).2.1.mp c32 y.2
        · exact bqT ⟨List.length_eq_zero_iff.mp (by omega), (bq1 qx31).2.2.1.mp c32⟩
