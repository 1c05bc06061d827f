/-! SMALL METHODS -/
theorem wr_of {x : Int} (h1 : -2147483648 ≤ x) (h2 : x < 2147483648) : wr x = x := wr_rg ⟨h1, h2⟩
/-- a boolean answer x says whether Q -/
def bq (x : Int) (Q : Prop) : Prop := (x = 1 ∧ Q) ∨ (x = 0 ∧ ¬ Q)
theorem bq1 {x : Int} {Q : Prop} (h : bq x Q) : (x = 1 ↔ Q) ∧ (x = 0 ↔ ¬ Q) ∧ (¬ x = 0 ↔ Q) ∧ (¬ x = 1 ↔ ¬ Q) := by
  rcases h with ⟨rfl, q⟩ | ⟨rfl, q⟩ <;> simp [q]
theorem bqT {Q : Prop} (q : Q) : bq 1 Q := .inl ⟨rfl, q⟩
theorem bqF {Q : Prop} (q : ¬ Q) : bq 0 Q := .inr ⟨rfl, q⟩
theorem bq_iff {x : Int} {Q R : Prop} (h : bq x Q) (e : Q ↔ R) : bq x R := by
  rcases h with ⟨a, b⟩ | ⟨a, b⟩
  · exact .inl ⟨a, e.mp b⟩
  · exact .inr ⟨a, fun z => b (e.mpr z)⟩
set_option maxHeartbeats 1000000 in
theorem c_J9_min_7cf53 {p0 p1 : Int} {K : Int → Prop} {h : XH} (k : ∀ x, (x = p0 ∧ p0 ≤ p1 ∨ x = p1 ∧ p1 ≤ p0) → K x) : w_J9_min_7cf53 p0 p1 K h := by
  unfold w_J9_min_7cf53
  refine ⟨_, fun x1 rx1 z2 => z2, ?_⟩
  refine ⟨fun c3 => ?_, fun c3 => ?_⟩
  · exact k _ (by omega)
  · exact k _ (by omega)
set_option maxHeartbeats 1000000 in
theorem c_J9_max_7cf53 {p0 p1 : Int} {K : Int → Prop} {h : XH} (k : ∀ x, (x = p0 ∧ p1 ≤ p0 ∨ x = p1 ∧ p0 ≤ p1) → K x) : w_J9_max_7cf53 p0 p1 K h := by
  unfold w_J9_max_7cf53
  refine ⟨_, fun x1 rx1 z2 => z2, ?_⟩
  refine ⟨fun c3 => ?_, fun c3 => ?_⟩
  · exact k _ (by omega)
  · exact k _ (by omega)
set_option maxHeartbeats 1000000 in
theorem c_X14_within {p0 p1 p2 : Int} {K : Int → Prop} {h : XH} (k : ∀ x, bq x (p1 ≤ p0 ∧ p0 ≤ p2) → K x) : w_X14_within p0 p1 p2 K h := by
  unfold w_X14_within
  refine ⟨_, fun x1 rx1 z2 => z2, ?_⟩
  refine ⟨_, fun z4 => z4, ?_⟩
  refine ⟨fun c6 => ?_, fun c6 => ?_⟩
  · refine ⟨(by first | decide | omega | ((try simp (disch := omega) only [wr_of] at *); omega)), ?_⟩
    first
      | exact k _ (bqT (by omega))
      | exact k _ (bqF (by omega))
  · refine ⟨fun c5 => ?_, fun c5 => ?_⟩
    · refine ⟨(by first | decide | omega | ((try simp (disch := omega) only [wr_of] at *); omega)), ?_⟩
      first
        | exact k _ (bqT (by omega))
        | exact k _ (bqF (by omega))
    · refine ⟨(by first | decide | omega | ((try simp (disch := omega) only [wr_of] at *); omega)), ?_⟩
      first
        | exact k _ (bqT (by omega))
        | exact k _ (bqF (by omega))
set_option maxHeartbeats 1000000 in
theorem c_X14_isPack {p0 : Int} {K : Int → Prop} {h : XH} (k : ∀ x, bq x (0 ≤ p0 ∧ p0 < hI h 438 0) → K x) (w : 0 ≤ hI h 438 0) : w_X14_isPack p0 K h := by
  unfold w_X14_isPack
  refine c_X14_within ?_
  intro x1 qx1
  intro rx1 vx1
  exact k _ (bq_iff qx1 (by have := rgh h 438 0; unfold rg at this; rw [wr_of (by omega) (by omega)]; omega))
set_option maxHeartbeats 1000000 in
theorem c_X14_isCode {p0 : Int} (rp : rg p0) {K : Int → Prop} {h : XH} (k : ∀ x, bq x (0 ≤ p0 ∧ p0 < 1000000 ∧ ¬ p0 % 100 = 0) → K x) : w_X14_isCode p0 K h := by
  unfold w_X14_isCode
  refine c_X14_within ?_
  intro x1 qx1
  intro rx1 vx1
  refine ⟨_, fun x2 rx2 z3 => z3, ?_⟩
  refine ⟨_, fun z5 => z5, ?_⟩
  refine ⟨fun c7 => ?_, fun c7 => ?_⟩
  · refine ⟨(by first | decide | omega | ((try simp (disch := omega) only [wr_of] at *); omega)), ?_⟩
    first
      | exact k _ (bqF (by have := bq1 qx1; omega))
      | (have hp : 0 ≤ p0 ∧ p0 ≤ 999999 := (by have := bq1 qx1; omega)
         have e := irem_pos (x := p0) (y := 100) rp (rgk rfl) hp.1 (by decide)
         first
           | exact k _ (bqF (by omega))
           | exact k _ (bqT (by omega)))
  · refine ⟨fun c6 => ?_, fun c6 => ?_⟩
    · refine ⟨(by first | decide | omega | ((try simp (disch := omega) only [wr_of] at *); omega)), ?_⟩
      first
        | exact k _ (bqF (by have := bq1 qx1; omega))
        | (have hp : 0 ≤ p0 ∧ p0 ≤ 999999 := (by have := bq1 qx1; omega)
           have e := irem_pos (x := p0) (y := 100) rp (rgk rfl) hp.1 (by decide)
           first
             | exact k _ (bqF (by omega))
             | exact k _ (bqT (by omega)))
    · refine ⟨(by first | decide | omega | ((try simp (disch := omega) only [wr_of] at *); omega)), ?_⟩
      first
        | exact k _ (bqF (by have := bq1 qx1; omega))
        | (have hp : 0 ≤ p0 ∧ p0 ≤ 999999 := (by have := bq1 qx1; omega)
           have e := irem_pos (x := p0) (y := 100) rp (rgk rfl) hp.1 (by decide)
           first
             | exact k _ (bqF (by omega))
             | exact k _ (bqT (by omega)))
set_option maxHeartbeats 1000000 in
theorem c_X12_isCode {p0 : Int} (rp : rg p0) {K : Int → Prop} {h : XH} (k : ∀ x, bq x (0 ≤ p0 ∧ p0 < 1000000 ∧ ¬ p0 % 100 = 0) → K x) : w_X12_isCode p0 K h := by
  unfold w_X12_isCode
  refine ⟨_, fun x1 rx1 z2 => z2, ?_⟩
  refine ⟨_, fun z4 => z4, ?_⟩
  refine ⟨fun c7 => ?_, fun c7 => ?_⟩
  · refine ⟨(by first | decide | omega | ((try simp (disch := omega) only [wr_of] at *); omega)), ?_⟩
    first
      | exact k _ (bqF (by omega))
      | (have e := irem_pos (x := p0) (y := 100) rp (rgk rfl) (by omega) (by decide)
         first
           | exact k _ (bqF (by omega))
           | exact k _ (bqT (by omega)))
  · refine ⟨fun c6 => ?_, fun c6 => ?_⟩
    · refine ⟨(by first | decide | omega | ((try simp (disch := omega) only [wr_of] at *); omega)), ?_⟩
      first
        | exact k _ (bqF (by omega))
        | (have e := irem_pos (x := p0) (y := 100) rp (rgk rfl) (by omega) (by decide)
           first
             | exact k _ (bqF (by omega))
             | exact k _ (bqT (by omega)))
    · refine ⟨fun c5 => ?_, fun c5 => ?_⟩
      · refine ⟨(by first | decide | omega | ((try simp (disch := omega) only [wr_of] at *); omega)), ?_⟩
        first
          | exact k _ (bqF (by omega))
          | (have e := irem_pos (x := p0) (y := 100) rp (rgk rfl) (by omega) (by decide)
             first
               | exact k _ (bqF (by omega))
               | exact k _ (bqT (by omega)))
      · refine ⟨(by first | decide | omega | ((try simp (disch := omega) only [wr_of] at *); omega)), ?_⟩
        first
          | exact k _ (bqF (by omega))
          | (have e := irem_pos (x := p0) (y := 100) rp (rgk rfl) (by omega) (by decide)
             first
               | exact k _ (bqF (by omega))
               | exact k _ (bqT (by omega)))
set_option maxHeartbeats 1000000 in
theorem c_X12_has {s : BitVec 64} {p1 : Int} (hp : 0 ≤ p1 ∧ p1 < 64) {K : Int → Prop} {h : XH} (k : ∀ x, bq x (s.getLsbD p1.toNat = true) → K x) : w_X12_has s p1 K h := by
  unfold w_X12_has
  obtain ⟨n, rfl⟩ : ∃ n : Nat, p1 = n := ⟨p1.toNat, by omega⟩
  refine ⟨_, fun x1 rx1 z2 => z2, ?_⟩
  refine ⟨fun c4 => ?_, fun c4 => ?_⟩
  · refine ⟨(by first | decide | omega | ((try simp (disch := omega) only [wr_of] at *); omega)), ?_⟩
    have c := (hasb (by omega)).mp c4
    exact k _ (bqF (by rw [Int.toNat_natCast, c]; decide))
  · refine ⟨(by first | decide | omega | ((try simp (disch := omega) only [wr_of] at *); omega)), ?_⟩
    refine k _ (bqT ?_)
    rw [Int.toNat_natCast]
    cases e : s.getLsbD n with
    | true => rfl
    | false => exact absurd ((hasb (by omega)).mpr e) c4
set_option maxHeartbeats 1000000 in
theorem c_X12_switchOf {p0 : Int} (hp : 0 ≤ p0 ∧ p0 < 12) {K : BitVec 64 → Prop} {h : XH} (k : K (bit1 (40 + p0.toNat))) : w_X12_switchOf p0 K h := by
  unfold w_X12_switchOf
  obtain ⟨n, rfl⟩ : ∃ n : Nat, p0 = n := ⟨p0.toNat, by omega⟩
  rw [show wr (40 + (n : Int)) = ((40 + n : Nat) : Int) by rw [wr_of (by omega) (by omega)]; omega, lshl1 (by omega)]
  exact k
set_option maxHeartbeats 1000000 in
theorem c_X14_ver {p0 p1 : Int} (hp : 0 ≤ p0 ∧ p0 < 40 ∧ 0 ≤ p1 ∧ p1 < 20) {K : Int → Prop} {h : XH} (k : ∀ x, x = hI h 438 (5 + 20 * p0.toNat + p1.toNat) → K x) : w_X14_ver p0 p1 K h := by
  unfold w_X14_ver
  intro x1 ex1 rx1
  refine ⟨(by simp (disch := omega) only [wr_of] at ex1; omega), ?_⟩
  have e : x1.toNat = 5 + 20 * p0.toNat + p1.toNat := by simp (disch := omega) only [wr_of] at ex1; omega
  exact k _ (by rw [e])
