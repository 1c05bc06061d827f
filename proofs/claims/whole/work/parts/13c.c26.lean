/-! RANGES: what meets them, both sides -/
def smB (c k f t : Int) : Prop := k = 0 ∨ k = 1 ∧ c = f ∨ k = 2 ∧ f ≤ c ∨ k = 3 ∧ c < f ∨ k = 4 ∧ f ≤ c ∧ c / 10000 = f / 10000 ∨ k = 5 ∧ f ≤ c ∧ c / 100 = f / 100 ∨ k = 6 ∧ f ≤ c ∧ c ≤ t
def smT (c k f t : Int) : Prop := c % 100 = 99 ∨ k = 1 ∨ ¬ k = 0 ∧ (¬ f % 100 = 99 ∧ c / 100 = f / 100 ∨ ¬ t % 100 = 99 ∧ c / 100 = t / 100)
theorem smet_P {c k f t : Int} (hk : 0 ≤ k ∧ k ≤ 6) : smet c (k, f, t) = true ↔ smB c k f t ∧ smT c k f t := by
  have : k = 0 ∨ k = 1 ∨ k = 2 ∨ k = 3 ∨ k = 4 ∨ k = 5 ∨ k = 6 := by omega
  rcases this with rfl | rfl | rfl | rfl | rfl | rfl | rfl <;> simp [smet, smB, smT]
theorem vOr {x : Int} {P : Prop} (a : bq x P) : x = 0 ∨ x = 1 := a.elim (fun y => .inr y.1) (fun y => .inl y.1)
theorem bqN {x : Int} {P Q : Prop} (a : ¬ P) (b : x = 0) : bq x (P ∧ Q) := .inr ⟨b, fun z => a z.1⟩
set_option maxHeartbeats 1000000 in
theorem c_isMetBy_0 {t : Nat} {p0 f e : Int} {K : Int → Prop} {h : XH} (hc : 0 ≤ p0 ∧ p0 < 1000000) (of : 0 ≤ f ∧ f < 1000000) (oe : 0 ≤ e ∧ e < 1000000) (b0 : hI h t 0 = 42) (b1 : hI h t 1 = (99 : Int)) (b2 : hI h t 2 = (99 : Int)) (b3 : hI h t 3 = trl (99 : Int)) (b4 : hI h t 4 = trl (99 : Int)) (k : ∀ x, bq x (smet p0 (0, f, e) = true) → K x) : w_X10_isMetBy t p0 K h := by
  unfold w_X10_isMetBy
  have i0 : irem p0 100 = p0 % 100 := irem_pos ⟨by omega, by omega⟩ (rgk rfl) (by omega) (by decide)
  have i1 : idiv p0 100 = p0 / 100 := idiv_pos ⟨by omega, by omega⟩ (rgk rfl) (by omega) (by decide)
  have i3 : idiv (hI h t 1) 10000 = hI h t 1 / 10000 := idiv_pos ⟨by omega, by omega⟩ (rgk rfl) (by omega) (by decide)
  have i4 : idiv (hI h t 1) 100 = hI h t 1 / 100 := idiv_pos ⟨by omega, by omega⟩ (rgk rfl) (by omega) (by decide)
  have t3 : ((99 : Int) % 100 = 99 ∧ hI h t 3 = -1) ∨ (¬ (99 : Int) % 100 = 99 ∧ hI h t 3 = (99 : Int) / 100) := by
    rw [b3]; unfold trl
    by_cases c : ((99 : Int) : Int) % 100 = 99
    · exact .inl ⟨c, if_pos c⟩
    · exact .inr ⟨c, if_neg c⟩
  have t4 : ((99 : Int) % 100 = 99 ∧ hI h t 4 = -1) ∨ (¬ (99 : Int) % 100 = 99 ∧ hI h t 4 = (99 : Int) / 100) := by
    rw [b4]; unfold trl
    by_cases c : ((99 : Int) : Int) % 100 = 99
    · exact .inl ⟨c, if_pos c⟩
    · exact .inr ⟨c, if_neg c⟩
  intro x1 ex1 rx1
  have i2 : idiv x1 100 = x1 / 100 := idiv_pos rx1 (rgk rfl) (by omega) (by decide)
  rw [i1] at ex1
  rw [i2, i3, i4]
  refine ⟨fun x => bq x (¬ p0 % 100 = 99), ?_, ?_⟩
  · intro x2 rx2 z3
    have z3 := bq1 z3
    refine ⟨p0 % 100 = 99 ∨ hI h t 0 = 61 ∨ x1 = hI h t 3 ∨ x1 = hI h t 4, ?_, ?_⟩
    · intro z4
      refine ⟨fun c5 => ?_, fun c5 => ?_, fun c5 => ?_, fun c5 => ?_, fun c5 => ?_, fun c5 => ?_, fun c5 => ?_⟩
      · refine ⟨_, fun x6 rx6 z7 => z7, ?_⟩
        refine ⟨_, fun z9 => z9, ?_⟩
        refine ⟨fun c11 => ?_, fun c11 => ?_⟩
        · refine ⟨(by first | decide | omega | ((try simp (disch := omega) only [wr_of] at *); omega)), ?_⟩
          first
            | exact k _ (bqT ((smet_P (by omega)).mpr (by unfold smB smT; omega)))
            | exact k _ (bqF (fun z => by
                have z := (smet_P (by omega)).mp z
                unfold smB smT at z
                omega))
        · refine ⟨fun c10 => ?_, fun c10 => ?_⟩
          · refine ⟨(by first | decide | omega | ((try simp (disch := omega) only [wr_of] at *); omega)), ?_⟩
            first
              | exact k _ (bqT ((smet_P (by omega)).mpr (by unfold smB smT; omega)))
              | exact k _ (bqF (fun z => by
                  have z := (smet_P (by omega)).mp z
                  unfold smB smT at z
                  omega))
          · refine ⟨(by first | decide | omega | ((try simp (disch := omega) only [wr_of] at *); omega)), ?_⟩
            first
              | exact k _ (bqT ((smet_P (by omega)).mpr (by unfold smB smT; omega)))
              | exact k _ (bqF (fun z => by
                  have z := (smet_P (by omega)).mp z
                  unfold smB smT at z
                  omega))
      · first
          | exact k _ (bqT ((smet_P (by omega)).mpr (by unfold smB smT; omega)))
          | exact k _ (bqF (fun z => by
              have z := (smet_P (by omega)).mp z
              unfold smB smT at z
              omega))
      · refine ⟨_, fun x12 rx12 z13 => z13, ?_⟩
        refine ⟨fun c15 => ?_, fun c15 => ?_⟩
        · refine ⟨(by first | decide | omega | ((try simp (disch := omega) only [wr_of] at *); omega)), ?_⟩
          first
            | exact k _ (bqT ((smet_P (by omega)).mpr (by unfold smB smT; omega)))
            | exact k _ (bqF (fun z => by
                have z := (smet_P (by omega)).mp z
                unfold smB smT at z
                omega))
        · refine ⟨(by first | decide | omega | ((try simp (disch := omega) only [wr_of] at *); omega)), ?_⟩
          first
            | exact k _ (bqT ((smet_P (by omega)).mpr (by unfold smB smT; omega)))
            | exact k _ (bqF (fun z => by
                have z := (smet_P (by omega)).mp z
                unfold smB smT at z
                omega))
      · refine ⟨_, fun x16 rx16 z17 => z17, ?_⟩
        refine ⟨fun c19 => ?_, fun c19 => ?_⟩
        · refine ⟨(by first | decide | omega | ((try simp (disch := omega) only [wr_of] at *); omega)), ?_⟩
          first
            | exact k _ (bqT ((smet_P (by omega)).mpr (by unfold smB smT; omega)))
            | exact k _ (bqF (fun z => by
                have z := (smet_P (by omega)).mp z
                unfold smB smT at z
                omega))
        · refine ⟨(by first | decide | omega | ((try simp (disch := omega) only [wr_of] at *); omega)), ?_⟩
          first
            | exact k _ (bqT ((smet_P (by omega)).mpr (by unfold smB smT; omega)))
            | exact k _ (bqF (fun z => by
                have z := (smet_P (by omega)).mp z
                unfold smB smT at z
                omega))
      · refine ⟨_, fun x20 rx20 z21 => z21, ?_⟩
        refine ⟨fun c23 => ?_, fun c23 => ?_⟩
        · refine ⟨(by first | decide | omega | ((try simp (disch := omega) only [wr_of] at *); omega)), ?_⟩
          first
            | exact k _ (bqT ((smet_P (by omega)).mpr (by unfold smB smT; omega)))
            | exact k _ (bqF (fun z => by
                have z := (smet_P (by omega)).mp z
                unfold smB smT at z
                omega))
        · refine ⟨(by first | decide | omega | ((try simp (disch := omega) only [wr_of] at *); omega)), ?_⟩
          first
            | exact k _ (bqT ((smet_P (by omega)).mpr (by unfold smB smT; omega)))
            | exact k _ (bqF (fun z => by
                have z := (smet_P (by omega)).mp z
                unfold smB smT at z
                omega))
      · refine ⟨_, fun x24 rx24 z25 => z25, ?_⟩
        refine ⟨_, fun z27 => z27, ?_⟩
        refine ⟨fun c29 => ?_, fun c29 => ?_⟩
        · refine ⟨(by first | decide | omega | ((try simp (disch := omega) only [wr_of] at *); omega)), ?_⟩
          first
            | exact k _ (bqT ((smet_P (by omega)).mpr (by unfold smB smT; omega)))
            | exact k _ (bqF (fun z => by
                have z := (smet_P (by omega)).mp z
                unfold smB smT at z
                omega))
        · refine ⟨fun c28 => ?_, fun c28 => ?_⟩
          · refine ⟨(by first | decide | omega | ((try simp (disch := omega) only [wr_of] at *); omega)), ?_⟩
            first
              | exact k _ (bqT ((smet_P (by omega)).mpr (by unfold smB smT; omega)))
              | exact k _ (bqF (fun z => by
                  have z := (smet_P (by omega)).mp z
                  unfold smB smT at z
                  omega))
          · refine ⟨(by first | decide | omega | ((try simp (disch := omega) only [wr_of] at *); omega)), ?_⟩
            first
              | exact k _ (bqT ((smet_P (by omega)).mpr (by unfold smB smT; omega)))
              | exact k _ (bqF (fun z => by
                  have z := (smet_P (by omega)).mp z
                  unfold smB smT at z
                  omega))
      · refine ⟨_, fun x30 rx30 z31 => z31, ?_⟩
        refine ⟨_, fun z33 => z33, ?_⟩
        refine ⟨fun c35 => ?_, fun c35 => ?_⟩
        · refine ⟨(by first | decide | omega | ((try simp (disch := omega) only [wr_of] at *); omega)), ?_⟩
          first
            | exact k _ (bqT ((smet_P (by omega)).mpr (by unfold smB smT; omega)))
            | exact k _ (bqF (fun z => by
                have z := (smet_P (by omega)).mp z
                unfold smB smT at z
                omega))
        · refine ⟨fun c34 => ?_, fun c34 => ?_⟩
          · refine ⟨(by first | decide | omega | ((try simp (disch := omega) only [wr_of] at *); omega)), ?_⟩
            first
              | exact k _ (bqT ((smet_P (by omega)).mpr (by unfold smB smT; omega)))
              | exact k _ (bqF (fun z => by
                  have z := (smet_P (by omega)).mp z
                  unfold smB smT at z
                  omega))
          · refine ⟨(by first | decide | omega | ((try simp (disch := omega) only [wr_of] at *); omega)), ?_⟩
            first
              | exact k _ (bqT ((smet_P (by omega)).mpr (by unfold smB smT; omega)))
              | exact k _ (bqF (fun z => by
                  have z := (smet_P (by omega)).mp z
                  unfold smB smT at z
                  omega))
    · refine ⟨fun c39 => ?_, fun c39 => ?_⟩
      · first
          | exact bqT (by omega)
          | exact bqF (by omega)
          | omega
      · refine ⟨fun c38 => ?_, fun c38 => ?_⟩
        · first
            | exact bqT (by omega)
            | exact bqF (by omega)
            | omega
        · refine ⟨fun c37 => ?_, fun c37 => ?_⟩
          · first
              | exact bqT (by omega)
              | exact bqF (by omega)
              | omega
          · refine ⟨fun c36 => ?_, fun c36 => ?_⟩
            · first
                | exact bqT (by omega)
                | exact bqF (by omega)
                | omega
            · first
                | exact k _ (bqT ((smet_P (by omega)).mpr (by unfold smB smT; omega)))
                | exact k _ (bqF (fun z => by
                    have z := (smet_P (by omega)).mp z
                    unfold smB smT at z
                    omega))
  · refine ⟨fun c40 => ?_, fun c40 => ?_⟩
    · first
        | exact bqT (by omega)
        | exact bqF (by omega)
        | omega
    · first
        | exact bqT (by omega)
        | exact bqF (by omega)
        | omega
set_option maxHeartbeats 1000000 in
theorem c_X14_isTrial {p0 : Int} (hc : 0 ≤ p0 ∧ p0 < 1000000) {K : Int → Prop} {h : XH} (k : ∀ x, bq x (¬ p0 % 100 = 99) → K x) : w_X14_isTrial p0 K h := by
  unfold w_X14_isTrial
  rw [irem_pos ⟨by omega, by omega⟩ (rgk rfl) (by omega) (by decide)]
  refine ⟨_, fun x1 rx1 z2 => z2, ?_⟩
  refine ⟨fun c4 => ?_, fun c4 => ?_⟩
  · refine ⟨(by first | decide | omega | ((try simp (disch := omega) only [wr_of] at *); omega)), ?_⟩
    first
      | exact k _ (bqT (by omega))
      | exact k _ (bqF (by omega))
  · refine ⟨(by first | decide | omega | ((try simp (disch := omega) only [wr_of] at *); omega)), ?_⟩
    first
      | exact k _ (bqT (by omega))
      | exact k _ (bqF (by omega))
set_option maxHeartbeats 1000000 in
theorem c_X14_isLike {p0 p1 : Int} (hc : 0 ≤ p0 ∧ p0 < 1000000) (hd : 0 ≤ p1 ∧ p1 < 1000000) {K : Int → Prop} {h : XH} (k : ∀ x, bq x (p0 / 100 = p1 / 100) → K x) : w_X14_isLike p0 p1 K h := by
  unfold w_X14_isLike
  rw [idiv_pos ⟨by omega, by omega⟩ (rgk rfl) (by omega) (by decide), idiv_pos ⟨by omega, by omega⟩ (rgk rfl) (by omega) (by decide)]
  refine ⟨_, fun x1 rx1 z2 => z2, ?_⟩
  refine ⟨fun c4 => ?_, fun c4 => ?_⟩
  · refine ⟨(by first | decide | omega | ((try simp (disch := omega) only [wr_of] at *); omega)), ?_⟩
    first
      | exact k _ (bqT (by omega))
      | exact k _ (bqF (by omega))
  · refine ⟨(by first | decide | omega | ((try simp (disch := omega) only [wr_of] at *); omega)), ?_⟩
    first
      | exact k _ (bqT (by omega))
      | exact k _ (bqF (by omega))
set_option maxHeartbeats 1000000 in
theorem c_meetsSpan_0 {p0 p2 p3 : Int} {K : Int → Prop} {h : XH} (hc : 0 ≤ p0 ∧ p0 < 1000000) (of : 0 ≤ p2 ∧ p2 < 1000000) (oe : 0 ≤ p3 ∧ p3 < 1000000) (k : ∀ x, bq x (smet p0 (0, p2, p3) = true) → K x) : w_X14_meetsSpan p0 0 p2 p3 K h := by
  unfold w_X14_meetsSpan
  have i1 : idiv p0 10000 = p0 / 10000 := idiv_pos ⟨by omega, by omega⟩ (rgk rfl) (by omega) (by decide)
  have i2 : idiv p2 10000 = p2 / 10000 := idiv_pos ⟨by omega, by omega⟩ (rgk rfl) (by omega) (by decide)
  rw [i1, i2]
  refine ⟨fun x => bq x (smB p0 0 p2 p3), ?_, ?_⟩
  · intro x1 rx1 z2
    have y2 := bq1 z2
    refine ⟨bq x1 (smB p0 0 p2 p3 ∧ smT p0 0 p2 p3), ?_, ?_⟩
    · intro z3
      refine ⟨vOr z3, ?_⟩
      exact k _ (bq_iff z3 (smet_P (by omega)).symm)
    · refine ⟨fun c23 => ?_, fun c23 => ?_⟩
      · exact bqN (y2.2.1.mp c23) c23
      · refine c_X14_isTrial hc ?_
        intro x5 qx5
        have y5 := bq1 qx5
        intro rx5 vx5
        refine ⟨fun c22 => ?_, fun c22 => ?_⟩
        · exact bq_iff z2 ⟨fun a => ⟨a, .inl (by have := y5.2.1.mp c22; omega)⟩, fun a => a.1⟩
        · refine ⟨fun c21 => ?_, fun c21 => ?_⟩
          · refine ⟨fun x => bq x (smB p0 0 p2 p3 ∧ smT p0 0 p2 p3), ?_, ?_⟩
            · intro x6 rx6 z7
              refine ⟨vOr z7, ?_⟩
              exact k _ (bq_iff z7 (smet_P (by omega)).symm)
            · refine ⟨¬ smT p0 0 p2 p3, ?_, ?_⟩
              · intro z9
                exact bqF (fun a => z9 a.2)
              · refine ⟨fun c20 => ?_, fun c20 => ?_⟩
                · first
                    | exact bqT (by unfold smB; omega)
                    | exact bqF (by unfold smB; omega)
                    | (unfold smT; omega)
                    | omega
                    | (have := z2; assumption)
                · refine c_X14_isTrial of ?_
                  intro x10 qx10
                  have y10 := bq1 qx10
                  intro rx10 vx10
                  refine ⟨smT p0 0 p2 p3, ?_, ?_⟩
                  · intro z11
                    exact bqT ⟨y2.2.2.1.mp c23, z11⟩
                  · refine ⟨¬ (¬ p2 % 100 = 99 ∧ p0 / 100 = p2 / 100), ?_, ?_⟩
                    · intro z12
                      refine c_X14_isTrial oe ?_
                      intro x13 qx13
                      have y13 := bq1 qx13
                      intro rx13 vx13
                      refine ⟨fun c16 => ?_, fun c16 => ?_⟩
                      · first
                          | exact bqT (by unfold smB; omega)
                          | exact bqF (by unfold smB; omega)
                          | (unfold smT; omega)
                          | omega
                          | (have := z2; assumption)
                      · refine c_X14_isLike hc oe ?_
                        intro x14 qx14
                        have y14 := bq1 qx14
                        intro rx14 vx14
                        refine ⟨fun c15 => ?_, fun c15 => ?_⟩
                        · first
                            | exact bqT (by unfold smB; omega)
                            | exact bqF (by unfold smB; omega)
                            | (unfold smT; omega)
                            | omega
                            | (have := z2; assumption)
                        · first
                            | exact bqT (by unfold smB; omega)
                            | exact bqF (by unfold smB; omega)
                            | (unfold smT; omega)
                            | omega
                            | (have := z2; assumption)
                    · refine ⟨fun c19 => ?_, fun c19 => ?_⟩
                      · first
                          | exact bqT (by unfold smB; omega)
                          | exact bqF (by unfold smB; omega)
                          | (unfold smT; omega)
                          | omega
                          | (have := z2; assumption)
                      · refine c_X14_isLike hc of ?_
                        intro x17 qx17
                        have y17 := bq1 qx17
                        intro rx17 vx17
                        refine ⟨fun c18 => ?_, fun c18 => ?_⟩
                        · first
                            | exact bqT (by unfold smB; omega)
                            | exact bqF (by unfold smB; omega)
                            | (unfold smT; omega)
                            | omega
                            | (have := z2; assumption)
                        · first
                            | exact bqT (by unfold smB; omega)
                            | exact bqF (by unfold smB; omega)
                            | (unfold smT; omega)
                            | omega
                            | (have := z2; assumption)
          · exact bq_iff z2 ⟨fun a => ⟨a, .inr (.inl (by omega))⟩, fun a => a.1⟩
  · refine ⟨fun c24 => ?_, fun c24 => ?_, fun c24 => ?_, fun c24 => ?_, fun c24 => ?_, fun c24 => ?_, fun c24 => ?_⟩
    · refine ⟨_, fun x25 rx25 z26 => z26, ?_⟩
      refine ⟨_, fun z27 => z27, ?_⟩
      refine ⟨fun c29 => ?_, fun c29 => ?_⟩
      · first
          | exact bqT (by unfold smB; omega)
          | exact bqF (by unfold smB; omega)
          | (unfold smT; omega)
          | omega
          | (have := z2; assumption)
      · refine ⟨fun c28 => ?_, fun c28 => ?_⟩
        · first
            | exact bqT (by unfold smB; omega)
            | exact bqF (by unfold smB; omega)
            | (unfold smT; omega)
            | omega
            | (have := z2; assumption)
        · first
            | exact bqT (by unfold smB; omega)
            | exact bqF (by unfold smB; omega)
            | (unfold smT; omega)
            | omega
            | (have := z2; assumption)
    · first
        | exact bqT (by unfold smB; omega)
        | exact bqF (by unfold smB; omega)
        | (unfold smT; omega)
        | omega
        | (have := z2; assumption)
    · refine ⟨_, fun x30 rx30 z31 => z31, ?_⟩
      refine ⟨fun c32 => ?_, fun c32 => ?_⟩
      · first
          | exact bqT (by unfold smB; omega)
          | exact bqF (by unfold smB; omega)
          | (unfold smT; omega)
          | omega
          | (have := z2; assumption)
      · first
          | exact bqT (by unfold smB; omega)
          | exact bqF (by unfold smB; omega)
          | (unfold smT; omega)
          | omega
          | (have := z2; assumption)
    · refine ⟨_, fun x33 rx33 z34 => z34, ?_⟩
      refine ⟨fun c35 => ?_, fun c35 => ?_⟩
      · first
          | exact bqT (by unfold smB; omega)
          | exact bqF (by unfold smB; omega)
          | (unfold smT; omega)
          | omega
          | (have := z2; assumption)
      · first
          | exact bqT (by unfold smB; omega)
          | exact bqF (by unfold smB; omega)
          | (unfold smT; omega)
          | omega
          | (have := z2; assumption)
    · refine ⟨_, fun x36 rx36 z37 => z37, ?_⟩
      refine ⟨fun c38 => ?_, fun c38 => ?_⟩
      · first
          | exact bqT (by unfold smB; omega)
          | exact bqF (by unfold smB; omega)
          | (unfold smT; omega)
          | omega
          | (have := z2; assumption)
      · first
          | exact bqT (by unfold smB; omega)
          | exact bqF (by unfold smB; omega)
          | (unfold smT; omega)
          | omega
          | (have := z2; assumption)
    · refine ⟨_, fun x39 rx39 z40 => z40, ?_⟩
      refine ⟨_, fun z41 => z41, ?_⟩
      refine ⟨fun c43 => ?_, fun c43 => ?_⟩
      · first
          | exact bqT (by unfold smB; omega)
          | exact bqF (by unfold smB; omega)
          | (unfold smT; omega)
          | omega
          | (have := z2; assumption)
      · refine ⟨fun c42 => ?_, fun c42 => ?_⟩
        · first
            | exact bqT (by unfold smB; omega)
            | exact bqF (by unfold smB; omega)
            | (unfold smT; omega)
            | omega
            | (have := z2; assumption)
        · first
            | exact bqT (by unfold smB; omega)
            | exact bqF (by unfold smB; omega)
            | (unfold smT; omega)
            | omega
            | (have := z2; assumption)
    · refine ⟨_, fun x44 rx44 z45 => z45, ?_⟩
      refine ⟨_, fun z46 => z46, ?_⟩
      refine ⟨fun c49 => ?_, fun c49 => ?_⟩
      · first
          | exact bqT (by unfold smB; omega)
          | exact bqF (by unfold smB; omega)
          | (unfold smT; omega)
          | omega
          | (have := z2; assumption)
      · refine c_X14_isLike hc of ?_
        intro x47 qx47
        have y47 := bq1 qx47
        intro rx47 vx47
        refine ⟨fun c48 => ?_, fun c48 => ?_⟩
        · first
            | exact bqT (by unfold smB; omega)
            | exact bqF (by unfold smB; omega)
            | (unfold smT; omega)
            | omega
            | (have := z2; assumption)
        · first
            | exact bqT (by unfold smB; omega)
            | exact bqF (by unfold smB; omega)
            | (unfold smT; omega)
            | omega
            | (have := z2; assumption)
set_option maxHeartbeats 1000000 in
theorem c_isMetBy_1 {t : Nat} {p0 f e : Int} {K : Int → Prop} {h : XH} (hc : 0 ≤ p0 ∧ p0 < 1000000) (of : 0 ≤ f ∧ f < 1000000) (oe : 0 ≤ e ∧ e < 1000000) (b0 : hI h t 0 = 61) (b1 : hI h t 1 = f) (b2 : hI h t 2 = e) (b3 : hI h t 3 = trl f) (b4 : hI h t 4 = trl e) (k : ∀ x, bq x (smet p0 (1, f, e) = true) → K x) : w_X10_isMetBy t p0 K h := by
  unfold w_X10_isMetBy
  have i0 : irem p0 100 = p0 % 100 := irem_pos ⟨by omega, by omega⟩ (rgk rfl) (by omega) (by decide)
  have i1 : idiv p0 100 = p0 / 100 := idiv_pos ⟨by omega, by omega⟩ (rgk rfl) (by omega) (by decide)
  have i3 : idiv (hI h t 1) 10000 = hI h t 1 / 10000 := idiv_pos ⟨by omega, by omega⟩ (rgk rfl) (by omega) (by decide)
  have i4 : idiv (hI h t 1) 100 = hI h t 1 / 100 := idiv_pos ⟨by omega, by omega⟩ (rgk rfl) (by omega) (by decide)
  have t3 : (f % 100 = 99 ∧ hI h t 3 = -1) ∨ (¬ f % 100 = 99 ∧ hI h t 3 = f / 100) := by
    rw [b3]; unfold trl
    by_cases c : (f : Int) % 100 = 99
    · exact .inl ⟨c, if_pos c⟩
    · exact .inr ⟨c, if_neg c⟩
  have t4 : (e % 100 = 99 ∧ hI h t 4 = -1) ∨ (¬ e % 100 = 99 ∧ hI h t 4 = e / 100) := by
    rw [b4]; unfold trl
    by_cases c : (e : Int) % 100 = 99
    · exact .inl ⟨c, if_pos c⟩
    · exact .inr ⟨c, if_neg c⟩
  intro x1 ex1 rx1
  have i2 : idiv x1 100 = x1 / 100 := idiv_pos rx1 (rgk rfl) (by omega) (by decide)
  rw [i1] at ex1
  rw [i2, i3, i4]
  refine ⟨fun x => bq x (¬ p0 % 100 = 99), ?_, ?_⟩
  · intro x2 rx2 z3
    have z3 := bq1 z3
    refine ⟨p0 % 100 = 99 ∨ hI h t 0 = 61 ∨ x1 = hI h t 3 ∨ x1 = hI h t 4, ?_, ?_⟩
    · intro z4
      refine ⟨fun c5 => ?_, fun c5 => ?_, fun c5 => ?_, fun c5 => ?_, fun c5 => ?_, fun c5 => ?_, fun c5 => ?_⟩
      · refine ⟨_, fun x6 rx6 z7 => z7, ?_⟩
        refine ⟨_, fun z9 => z9, ?_⟩
        refine ⟨fun c11 => ?_, fun c11 => ?_⟩
        · refine ⟨(by first | decide | omega | ((try simp (disch := omega) only [wr_of] at *); omega)), ?_⟩
          first
            | exact k _ (bqT ((smet_P (by omega)).mpr (by unfold smB smT; omega)))
            | exact k _ (bqF (fun z => by
                have z := (smet_P (by omega)).mp z
                unfold smB smT at z
                omega))
        · refine ⟨fun c10 => ?_, fun c10 => ?_⟩
          · refine ⟨(by first | decide | omega | ((try simp (disch := omega) only [wr_of] at *); omega)), ?_⟩
            first
              | exact k _ (bqT ((smet_P (by omega)).mpr (by unfold smB smT; omega)))
              | exact k _ (bqF (fun z => by
                  have z := (smet_P (by omega)).mp z
                  unfold smB smT at z
                  omega))
          · refine ⟨(by first | decide | omega | ((try simp (disch := omega) only [wr_of] at *); omega)), ?_⟩
            first
              | exact k _ (bqT ((smet_P (by omega)).mpr (by unfold smB smT; omega)))
              | exact k _ (bqF (fun z => by
                  have z := (smet_P (by omega)).mp z
                  unfold smB smT at z
                  omega))
      · first
          | exact k _ (bqT ((smet_P (by omega)).mpr (by unfold smB smT; omega)))
          | exact k _ (bqF (fun z => by
              have z := (smet_P (by omega)).mp z
              unfold smB smT at z
              omega))
      · refine ⟨_, fun x12 rx12 z13 => z13, ?_⟩
        refine ⟨fun c15 => ?_, fun c15 => ?_⟩
        · refine ⟨(by first | decide | omega | ((try simp (disch := omega) only [wr_of] at *); omega)), ?_⟩
          first
            | exact k _ (bqT ((smet_P (by omega)).mpr (by unfold smB smT; omega)))
            | exact k _ (bqF (fun z => by
                have z := (smet_P (by omega)).mp z
                unfold smB smT at z
                omega))
        · refine ⟨(by first | decide | omega | ((try simp (disch := omega) only [wr_of] at *); omega)), ?_⟩
          first
            | exact k _ (bqT ((smet_P (by omega)).mpr (by unfold smB smT; omega)))
            | exact k _ (bqF (fun z => by
                have z := (smet_P (by omega)).mp z
                unfold smB smT at z
                omega))
      · refine ⟨_, fun x16 rx16 z17 => z17, ?_⟩
        refine ⟨fun c19 => ?_, fun c19 => ?_⟩
        · refine ⟨(by first | decide | omega | ((try simp (disch := omega) only [wr_of] at *); omega)), ?_⟩
          first
            | exact k _ (bqT ((smet_P (by omega)).mpr (by unfold smB smT; omega)))
            | exact k _ (bqF (fun z => by
                have z := (smet_P (by omega)).mp z
                unfold smB smT at z
                omega))
        · refine ⟨(by first | decide | omega | ((try simp (disch := omega) only [wr_of] at *); omega)), ?_⟩
          first
            | exact k _ (bqT ((smet_P (by omega)).mpr (by unfold smB smT; omega)))
            | exact k _ (bqF (fun z => by
                have z := (smet_P (by omega)).mp z
                unfold smB smT at z
                omega))
      · refine ⟨_, fun x20 rx20 z21 => z21, ?_⟩
        refine ⟨fun c23 => ?_, fun c23 => ?_⟩
        · refine ⟨(by first | decide | omega | ((try simp (disch := omega) only [wr_of] at *); omega)), ?_⟩
          first
            | exact k _ (bqT ((smet_P (by omega)).mpr (by unfold smB smT; omega)))
            | exact k _ (bqF (fun z => by
                have z := (smet_P (by omega)).mp z
                unfold smB smT at z
                omega))
        · refine ⟨(by first | decide | omega | ((try simp (disch := omega) only [wr_of] at *); omega)), ?_⟩
          first
            | exact k _ (bqT ((smet_P (by omega)).mpr (by unfold smB smT; omega)))
            | exact k _ (bqF (fun z => by
                have z := (smet_P (by omega)).mp z
                unfold smB smT at z
                omega))
      · refine ⟨_, fun x24 rx24 z25 => z25, ?_⟩
        refine ⟨_, fun z27 => z27, ?_⟩
        refine ⟨fun c29 => ?_, fun c29 => ?_⟩
        · refine ⟨(by first | decide | omega | ((try simp (disch := omega) only [wr_of] at *); omega)), ?_⟩
          first
            | exact k _ (bqT ((smet_P (by omega)).mpr (by unfold smB smT; omega)))
            | exact k _ (bqF (fun z => by
                have z := (smet_P (by omega)).mp z
                unfold smB smT at z
                omega))
        · refine ⟨fun c28 => ?_, fun c28 => ?_⟩
          · refine ⟨(by first | decide | omega | ((try simp (disch := omega) only [wr_of] at *); omega)), ?_⟩
            first
              | exact k _ (bqT ((smet_P (by omega)).mpr (by unfold smB smT; omega)))
              | exact k _ (bqF (fun z => by
                  have z := (smet_P (by omega)).mp z
                  unfold smB smT at z
                  omega))
          · refine ⟨(by first | decide | omega | ((try simp (disch := omega) only [wr_of] at *); omega)), ?_⟩
            first
              | exact k _ (bqT ((smet_P (by omega)).mpr (by unfold smB smT; omega)))
              | exact k _ (bqF (fun z => by
                  have z := (smet_P (by omega)).mp z
                  unfold smB smT at z
                  omega))
      · refine ⟨_, fun x30 rx30 z31 => z31, ?_⟩
        refine ⟨_, fun z33 => z33, ?_⟩
        refine ⟨fun c35 => ?_, fun c35 => ?_⟩
        · refine ⟨(by first | decide | omega | ((try simp (disch := omega) only [wr_of] at *); omega)), ?_⟩
          first
            | exact k _ (bqT ((smet_P (by omega)).mpr (by unfold smB smT; omega)))
            | exact k _ (bqF (fun z => by
                have z := (smet_P (by omega)).mp z
                unfold smB smT at z
                omega))
        · refine ⟨fun c34 => ?_, fun c34 => ?_⟩
          · refine ⟨(by first | decide | omega | ((try simp (disch := omega) only [wr_of] at *); omega)), ?_⟩
            first
              | exact k _ (bqT ((smet_P (by omega)).mpr (by unfold smB smT; omega)))
              | exact k _ (bqF (fun z => by
                  have z := (smet_P (by omega)).mp z
                  unfold smB smT at z
                  omega))
          · refine ⟨(by first | decide | omega | ((try simp (disch := omega) only [wr_of] at *); omega)), ?_⟩
            first
              | exact k _ (bqT ((smet_P (by omega)).mpr (by unfold smB smT; omega)))
              | exact k _ (bqF (fun z => by
                  have z := (smet_P (by omega)).mp z
                  unfold smB smT at z
                  omega))
    · refine ⟨fun c39 => ?_, fun c39 => ?_⟩
      · first
          | exact bqT (by omega)
          | exact bqF (by omega)
          | omega
      · refine ⟨fun c38 => ?_, fun c38 => ?_⟩
        · first
            | exact bqT (by omega)
            | exact bqF (by omega)
            | omega
        · refine ⟨fun c37 => ?_, fun c37 => ?_⟩
          · first
              | exact bqT (by omega)
              | exact bqF (by omega)
              | omega
          · refine ⟨fun c36 => ?_, fun c36 => ?_⟩
            · first
                | exact bqT (by omega)
                | exact bqF (by omega)
                | omega
            · first
                | exact k _ (bqT ((smet_P (by omega)).mpr (by unfold smB smT; omega)))
                | exact k _ (bqF (fun z => by
                    have z := (smet_P (by omega)).mp z
                    unfold smB smT at z
                    omega))
  · refine ⟨fun c40 => ?_, fun c40 => ?_⟩
    · first
        | exact bqT (by omega)
        | exact bqF (by omega)
        | omega
    · first
        | exact bqT (by omega)
        | exact bqF (by omega)
        | omega
set_option maxHeartbeats 1000000 in
theorem c_meetsSpan_1 {p0 p2 p3 : Int} {K : Int → Prop} {h : XH} (hc : 0 ≤ p0 ∧ p0 < 1000000) (of : 0 ≤ p2 ∧ p2 < 1000000) (oe : 0 ≤ p3 ∧ p3 < 1000000) (k : ∀ x, bq x (smet p0 (1, p2, p3) = true) → K x) : w_X14_meetsSpan p0 1 p2 p3 K h := by
  unfold w_X14_meetsSpan
  have i1 : idiv p0 10000 = p0 / 10000 := idiv_pos ⟨by omega, by omega⟩ (rgk rfl) (by omega) (by decide)
  have i2 : idiv p2 10000 = p2 / 10000 := idiv_pos ⟨by omega, by omega⟩ (rgk rfl) (by omega) (by decide)
  rw [i1, i2]
  refine ⟨fun x => bq x (smB p0 1 p2 p3), ?_, ?_⟩
  · intro x1 rx1 z2
    have y2 := bq1 z2
    refine ⟨bq x1 (smB p0 1 p2 p3 ∧ smT p0 1 p2 p3), ?_, ?_⟩
    · intro z3
      refine ⟨vOr z3, ?_⟩
      exact k _ (bq_iff z3 (smet_P (by omega)).symm)
    · refine ⟨fun c23 => ?_, fun c23 => ?_⟩
      · exact bqN (y2.2.1.mp c23) c23
      · refine c_X14_isTrial hc ?_
        intro x5 qx5
        have y5 := bq1 qx5
        intro rx5 vx5
        refine ⟨fun c22 => ?_, fun c22 => ?_⟩
        · exact bq_iff z2 ⟨fun a => ⟨a, .inl (by have := y5.2.1.mp c22; omega)⟩, fun a => a.1⟩
        · refine ⟨fun c21 => ?_, fun c21 => ?_⟩
          · refine ⟨fun x => bq x (smB p0 1 p2 p3 ∧ smT p0 1 p2 p3), ?_, ?_⟩
            · intro x6 rx6 z7
              refine ⟨vOr z7, ?_⟩
              exact k _ (bq_iff z7 (smet_P (by omega)).symm)
            · refine ⟨¬ smT p0 1 p2 p3, ?_, ?_⟩
              · intro z9
                exact bqF (fun a => z9 a.2)
              · refine ⟨fun c20 => ?_, fun c20 => ?_⟩
                · first
                    | exact bqT (by unfold smB; omega)
                    | exact bqF (by unfold smB; omega)
                    | (unfold smT; omega)
                    | omega
                    | (have := z2; assumption)
                · refine c_X14_isTrial of ?_
                  intro x10 qx10
                  have y10 := bq1 qx10
                  intro rx10 vx10
                  refine ⟨smT p0 1 p2 p3, ?_, ?_⟩
                  · intro z11
                    exact bqT ⟨y2.2.2.1.mp c23, z11⟩
                  · refine ⟨¬ (¬ p2 % 100 = 99 ∧ p0 / 100 = p2 / 100), ?_, ?_⟩
                    · intro z12
                      refine c_X14_isTrial oe ?_
                      intro x13 qx13
                      have y13 := bq1 qx13
                      intro rx13 vx13
                      refine ⟨fun c16 => ?_, fun c16 => ?_⟩
                      · first
                          | exact bqT (by unfold smB; omega)
                          | exact bqF (by unfold smB; omega)
                          | (unfold smT; omega)
                          | omega
                          | (have := z2; assumption)
                      · refine c_X14_isLike hc oe ?_
                        intro x14 qx14
                        have y14 := bq1 qx14
                        intro rx14 vx14
                        refine ⟨fun c15 => ?_, fun c15 => ?_⟩
                        · first
                            | exact bqT (by unfold smB; omega)
                            | exact bqF (by unfold smB; omega)
                            | (unfold smT; omega)
                            | omega
                            | (have := z2; assumption)
                        · first
                            | exact bqT (by unfold smB; omega)
                            | exact bqF (by unfold smB; omega)
                            | (unfold smT; omega)
                            | omega
                            | (have := z2; assumption)
                    · refine ⟨fun c19 => ?_, fun c19 => ?_⟩
                      · first
                          | exact bqT (by unfold smB; omega)
                          | exact bqF (by unfold smB; omega)
                          | (unfold smT; omega)
                          | omega
                          | (have := z2; assumption)
                      · refine c_X14_isLike hc of ?_
                        intro x17 qx17
                        have y17 := bq1 qx17
                        intro rx17 vx17
                        refine ⟨fun c18 => ?_, fun c18 => ?_⟩
                        · first
                            | exact bqT (by unfold smB; omega)
                            | exact bqF (by unfold smB; omega)
                            | (unfold smT; omega)
                            | omega
                            | (have := z2; assumption)
                        · first
                            | exact bqT (by unfold smB; omega)
                            | exact bqF (by unfold smB; omega)
                            | (unfold smT; omega)
                            | omega
                            | (have := z2; assumption)
          · exact bq_iff z2 ⟨fun a => ⟨a, .inr (.inl (by omega))⟩, fun a => a.1⟩
  · refine ⟨fun c24 => ?_, fun c24 => ?_, fun c24 => ?_, fun c24 => ?_, fun c24 => ?_, fun c24 => ?_, fun c24 => ?_⟩
    · refine ⟨_, fun x25 rx25 z26 => z26, ?_⟩
      refine ⟨_, fun z27 => z27, ?_⟩
      refine ⟨fun c29 => ?_, fun c29 => ?_⟩
      · first
          | exact bqT (by unfold smB; omega)
          | exact bqF (by unfold smB; omega)
          | (unfold smT; omega)
          | omega
          | (have := z2; assumption)
      · refine ⟨fun c28 => ?_, fun c28 => ?_⟩
        · first
            | exact bqT (by unfold smB; omega)
            | exact bqF (by unfold smB; omega)
            | (unfold smT; omega)
            | omega
            | (have := z2; assumption)
        · first
            | exact bqT (by unfold smB; omega)
            | exact bqF (by unfold smB; omega)
            | (unfold smT; omega)
            | omega
            | (have := z2; assumption)
    · first
        | exact bqT (by unfold smB; omega)
        | exact bqF (by unfold smB; omega)
        | (unfold smT; omega)
        | omega
        | (have := z2; assumption)
    · refine ⟨_, fun x30 rx30 z31 => z31, ?_⟩
      refine ⟨fun c32 => ?_, fun c32 => ?_⟩
      · first
          | exact bqT (by unfold smB; omega)
          | exact bqF (by unfold smB; omega)
          | (unfold smT; omega)
          | omega
          | (have := z2; assumption)
      · first
          | exact bqT (by unfold smB; omega)
          | exact bqF (by unfold smB; omega)
          | (unfold smT; omega)
          | omega
          | (have := z2; assumption)
    · refine ⟨_, fun x33 rx33 z34 => z34, ?_⟩
      refine ⟨fun c35 => ?_, fun c35 => ?_⟩
      · first
          | exact bqT (by unfold smB; omega)
          | exact bqF (by unfold smB; omega)
          | (unfold smT; omega)
          | omega
          | (have := z2; assumption)
      · first
          | exact bqT (by unfold smB; omega)
          | exact bqF (by unfold smB; omega)
          | (unfold smT; omega)
          | omega
          | (have := z2; assumption)
    · refine ⟨_, fun x36 rx36 z37 => z37, ?_⟩
      refine ⟨fun c38 => ?_, fun c38 => ?_⟩
      · first
          | exact bqT (by unfold smB; omega)
          | exact bqF (by unfold smB; omega)
          | (unfold smT; omega)
          | omega
          | (have := z2; assumption)
      · first
          | exact bqT (by unfold smB; omega)
          | exact bqF (by unfold smB; omega)
          | (unfold smT; omega)
          | omega
          | (have := z2; assumption)
    · refine ⟨_, fun x39 rx39 z40 => z40, ?_⟩
      refine ⟨_, fun z41 => z41, ?_⟩
      refine ⟨fun c43 => ?_, fun c43 => ?_⟩
      · first
          | exact bqT (by unfold smB; omega)
          | exact bqF (by unfold smB; omega)
          | (unfold smT; omega)
          | omega
          | (have := z2; assumption)
      · refine ⟨fun c42 => ?_, fun c42 => ?_⟩
        · first
            | exact bqT (by unfold smB; omega)
            | exact bqF (by unfold smB; omega)
            | (unfold smT; omega)
            | omega
            | (have := z2; assumption)
        · first
            | exact bqT (by unfold smB; omega)
            | exact bqF (by unfold smB; omega)
            | (unfold smT; omega)
            | omega
            | (have := z2; assumption)
    · refine ⟨_, fun x44 rx44 z45 => z45, ?_⟩
      refine ⟨_, fun z46 => z46, ?_⟩
      refine ⟨fun c49 => ?_, fun c49 => ?_⟩
      · first
          | exact bqT (by unfold smB; omega)
          | exact bqF (by unfold smB; omega)
          | (unfold smT; omega)
          | omega
          | (have := z2; assumption)
      · refine c_X14_isLike hc of ?_
        intro x47 qx47
        have y47 := bq1 qx47
        intro rx47 vx47
        refine ⟨fun c48 => ?_, fun c48 => ?_⟩
        · first
            | exact bqT (by unfold smB; omega)
            | exact bqF (by unfold smB; omega)
            | (unfold smT; omega)
            | omega
            | (have := z2; assumption)
        · first
            | exact bqT (by unfold smB; omega)
            | exact bqF (by unfold smB; omega)
            | (unfold smT; omega)
            | omega
            | (have := z2; assumption)
set_option maxHeartbeats 1000000 in
theorem c_isMetBy_2 {t : Nat} {p0 f e : Int} {K : Int → Prop} {h : XH} (hc : 0 ≤ p0 ∧ p0 < 1000000) (of : 0 ≤ f ∧ f < 1000000) (oe : 0 ≤ e ∧ e < 1000000) (b0 : hI h t 0 = 62) (b1 : hI h t 1 = f) (b2 : hI h t 2 = e) (b3 : hI h t 3 = trl f) (b4 : hI h t 4 = trl e) (k : ∀ x, bq x (smet p0 (2, f, e) = true) → K x) : w_X10_isMetBy t p0 K h := by
  unfold w_X10_isMetBy
  have i0 : irem p0 100 = p0 % 100 := irem_pos ⟨by omega, by omega⟩ (rgk rfl) (by omega) (by decide)
  have i1 : idiv p0 100 = p0 / 100 := idiv_pos ⟨by omega, by omega⟩ (rgk rfl) (by omega) (by decide)
  have i3 : idiv (hI h t 1) 10000 = hI h t 1 / 10000 := idiv_pos ⟨by omega, by omega⟩ (rgk rfl) (by omega) (by decide)
  have i4 : idiv (hI h t 1) 100 = hI h t 1 / 100 := idiv_pos ⟨by omega, by omega⟩ (rgk rfl) (by omega) (by decide)
  have t3 : (f % 100 = 99 ∧ hI h t 3 = -1) ∨ (¬ f % 100 = 99 ∧ hI h t 3 = f / 100) := by
    rw [b3]; unfold trl
    by_cases c : (f : Int) % 100 = 99
    · exact .inl ⟨c, if_pos c⟩
    · exact .inr ⟨c, if_neg c⟩
  have t4 : (e % 100 = 99 ∧ hI h t 4 = -1) ∨ (¬ e % 100 = 99 ∧ hI h t 4 = e / 100) := by
    rw [b4]; unfold trl
    by_cases c : (e : Int) % 100 = 99
    · exact .inl ⟨c, if_pos c⟩
    · exact .inr ⟨c, if_neg c⟩
  intro x1 ex1 rx1
  have i2 : idiv x1 100 = x1 / 100 := idiv_pos rx1 (rgk rfl) (by omega) (by decide)
  rw [i1] at ex1
  rw [i2, i3, i4]
  refine ⟨fun x => bq x (¬ p0 % 100 = 99), ?_, ?_⟩
  · intro x2 rx2 z3
    have z3 := bq1 z3
    refine ⟨p0 % 100 = 99 ∨ hI h t 0 = 61 ∨ x1 = hI h t 3 ∨ x1 = hI h t 4, ?_, ?_⟩
    · intro z4
      refine ⟨fun c5 => ?_, fun c5 => ?_, fun c5 => ?_, fun c5 => ?_, fun c5 => ?_, fun c5 => ?_, fun c5 => ?_⟩
      · refine ⟨_, fun x6 rx6 z7 => z7, ?_⟩
        refine ⟨_, fun z9 => z9, ?_⟩
        refine ⟨fun c11 => ?_, fun c11 => ?_⟩
        · refine ⟨(by first | decide | omega | ((try simp (disch := omega) only [wr_of] at *); omega)), ?_⟩
          first
            | exact k _ (bqT ((smet_P (by omega)).mpr (by unfold smB smT; omega)))
            | exact k _ (bqF (fun z => by
                have z := (smet_P (by omega)).mp z
                unfold smB smT at z
                omega))
        · refine ⟨fun c10 => ?_, fun c10 => ?_⟩
          · refine ⟨(by first | decide | omega | ((try simp (disch := omega) only [wr_of] at *); omega)), ?_⟩
            first
              | exact k _ (bqT ((smet_P (by omega)).mpr (by unfold smB smT; omega)))
              | exact k _ (bqF (fun z => by
                  have z := (smet_P (by omega)).mp z
                  unfold smB smT at z
                  omega))
          · refine ⟨(by first | decide | omega | ((try simp (disch := omega) only [wr_of] at *); omega)), ?_⟩
            first
              | exact k _ (bqT ((smet_P (by omega)).mpr (by unfold smB smT; omega)))
              | exact k _ (bqF (fun z => by
                  have z := (smet_P (by omega)).mp z
                  unfold smB smT at z
                  omega))
      · first
          | exact k _ (bqT ((smet_P (by omega)).mpr (by unfold smB smT; omega)))
          | exact k _ (bqF (fun z => by
              have z := (smet_P (by omega)).mp z
              unfold smB smT at z
              omega))
      · refine ⟨_, fun x12 rx12 z13 => z13, ?_⟩
        refine ⟨fun c15 => ?_, fun c15 => ?_⟩
        · refine ⟨(by first | decide | omega | ((try simp (disch := omega) only [wr_of] at *); omega)), ?_⟩
          first
            | exact k _ (bqT ((smet_P (by omega)).mpr (by unfold smB smT; omega)))
            | exact k _ (bqF (fun z => by
                have z := (smet_P (by omega)).mp z
                unfold smB smT at z
                omega))
        · refine ⟨(by first | decide | omega | ((try simp (disch := omega) only [wr_of] at *); omega)), ?_⟩
          first
            | exact k _ (bqT ((smet_P (by omega)).mpr (by unfold smB smT; omega)))
            | exact k _ (bqF (fun z => by
                have z := (smet_P (by omega)).mp z
                unfold smB smT at z
                omega))
      · refine ⟨_, fun x16 rx16 z17 => z17, ?_⟩
        refine ⟨fun c19 => ?_, fun c19 => ?_⟩
        · refine ⟨(by first | decide | omega | ((try simp (disch := omega) only [wr_of] at *); omega)), ?_⟩
          first
            | exact k _ (bqT ((smet_P (by omega)).mpr (by unfold smB smT; omega)))
            | exact k _ (bqF (fun z => by
                have z := (smet_P (by omega)).mp z
                unfold smB smT at z
                omega))
        · refine ⟨(by first | decide | omega | ((try simp (disch := omega) only [wr_of] at *); omega)), ?_⟩
          first
            | exact k _ (bqT ((smet_P (by omega)).mpr (by unfold smB smT; omega)))
            | exact k _ (bqF (fun z => by
                have z := (smet_P (by omega)).mp z
                unfold smB smT at z
                omega))
      · refine ⟨_, fun x20 rx20 z21 => z21, ?_⟩
        refine ⟨fun c23 => ?_, fun c23 => ?_⟩
        · refine ⟨(by first | decide | omega | ((try simp (disch := omega) only [wr_of] at *); omega)), ?_⟩
          first
            | exact k _ (bqT ((smet_P (by omega)).mpr (by unfold smB smT; omega)))
            | exact k _ (bqF (fun z => by
                have z := (smet_P (by omega)).mp z
                unfold smB smT at z
                omega))
        · refine ⟨(by first | decide | omega | ((try simp (disch := omega) only [wr_of] at *); omega)), ?_⟩
          first
            | exact k _ (bqT ((smet_P (by omega)).mpr (by unfold smB smT; omega)))
            | exact k _ (bqF (fun z => by
                have z := (smet_P (by omega)).mp z
                unfold smB smT at z
                omega))
      · refine ⟨_, fun x24 rx24 z25 => z25, ?_⟩
        refine ⟨_, fun z27 => z27, ?_⟩
        refine ⟨fun c29 => ?_, fun c29 => ?_⟩
        · refine ⟨(by first | decide | omega | ((try simp (disch := omega) only [wr_of] at *); omega)), ?_⟩
          first
            | exact k _ (bqT ((smet_P (by omega)).mpr (by unfold smB smT; omega)))
            | exact k _ (bqF (fun z => by
                have z := (smet_P (by omega)).mp z
                unfold smB smT at z
                omega))
        · refine ⟨fun c28 => ?_, fun c28 => ?_⟩
          · refine ⟨(by first | decide | omega | ((try simp (disch := omega) only [wr_of] at *); omega)), ?_⟩
            first
              | exact k _ (bqT ((smet_P (by omega)).mpr (by unfold smB smT; omega)))
              | exact k _ (bqF (fun z => by
                  have z := (smet_P (by omega)).mp z
                  unfold smB smT at z
                  omega))
          · refine ⟨(by first | decide | omega | ((try simp (disch := omega) only [wr_of] at *); omega)), ?_⟩
            first
              | exact k _ (bqT ((smet_P (by omega)).mpr (by unfold smB smT; omega)))
              | exact k _ (bqF (fun z => by
                  have z := (smet_P (by omega)).mp z
                  unfold smB smT at z
                  omega))
      · refine ⟨_, fun x30 rx30 z31 => z31, ?_⟩
        refine ⟨_, fun z33 => z33, ?_⟩
        refine ⟨fun c35 => ?_, fun c35 => ?_⟩
        · refine ⟨(by first | decide | omega | ((try simp (disch := omega) only [wr_of] at *); omega)), ?_⟩
          first
            | exact k _ (bqT ((smet_P (by omega)).mpr (by unfold smB smT; omega)))
            | exact k _ (bqF (fun z => by
                have z := (smet_P (by omega)).mp z
                unfold smB smT at z
                omega))
        · refine ⟨fun c34 => ?_, fun c34 => ?_⟩
          · refine ⟨(by first | decide | omega | ((try simp (disch := omega) only [wr_of] at *); omega)), ?_⟩
            first
              | exact k _ (bqT ((smet_P (by omega)).mpr (by unfold smB smT; omega)))
              | exact k _ (bqF (fun z => by
                  have z := (smet_P (by omega)).mp z
                  unfold smB smT at z
                  omega))
          · refine ⟨(by first | decide | omega | ((try simp (disch := omega) only [wr_of] at *); omega)), ?_⟩
            first
              | exact k _ (bqT ((smet_P (by omega)).mpr (by unfold smB smT; omega)))
              | exact k _ (bqF (fun z => by
                  have z := (smet_P (by omega)).mp z
                  unfold smB smT at z
                  omega))
    · refine ⟨fun c39 => ?_, fun c39 => ?_⟩
      · first
          | exact bqT (by omega)
          | exact bqF (by omega)
          | omega
      · refine ⟨fun c38 => ?_, fun c38 => ?_⟩
        · first
            | exact bqT (by omega)
            | exact bqF (by omega)
            | omega
        · refine ⟨fun c37 => ?_, fun c37 => ?_⟩
          · first
              | exact bqT (by omega)
              | exact bqF (by omega)
              | omega
          · refine ⟨fun c36 => ?_, fun c36 => ?_⟩
            · first
                | exact bqT (by omega)
                | exact bqF (by omega)
                | omega
            · first
                | exact k _ (bqT ((smet_P (by omega)).mpr (by unfold smB smT; omega)))
                | exact k _ (bqF (fun z => by
                    have z := (smet_P (by omega)).mp z
                    unfold smB smT at z
                    omega))
  · refine ⟨fun c40 => ?_, fun c40 => ?_⟩
    · first
        | exact bqT (by omega)
        | exact bqF (by omega)
        | omega
    · first
        | exact bqT (by omega)
        | exact bqF (by omega)
        | omega
set_option maxHeartbeats 1000000 in
theorem c_meetsSpan_2 {p0 p2 p3 : Int} {K : Int → Prop} {h : XH} (hc : 0 ≤ p0 ∧ p0 < 1000000) (of : 0 ≤ p2 ∧ p2 < 1000000) (oe : 0 ≤ p3 ∧ p3 < 1000000) (k : ∀ x, bq x (smet p0 (2, p2, p3) = true) → K x) : w_X14_meetsSpan p0 2 p2 p3 K h := by
  unfold w_X14_meetsSpan
  have i1 : idiv p0 10000 = p0 / 10000 := idiv_pos ⟨by omega, by omega⟩ (rgk rfl) (by omega) (by decide)
  have i2 : idiv p2 10000 = p2 / 10000 := idiv_pos ⟨by omega, by omega⟩ (rgk rfl) (by omega) (by decide)
  rw [i1, i2]
  refine ⟨fun x => bq x (smB p0 2 p2 p3), ?_, ?_⟩
  · intro x1 rx1 z2
    have y2 := bq1 z2
    refine ⟨bq x1 (smB p0 2 p2 p3 ∧ smT p0 2 p2 p3), ?_, ?_⟩
    · intro z3
      refine ⟨vOr z3, ?_⟩
      exact k _ (bq_iff z3 (smet_P (by omega)).symm)
    · refine ⟨fun c23 => ?_, fun c23 => ?_⟩
      · exact bqN (y2.2.1.mp c23) c23
      · refine c_X14_isTrial hc ?_
        intro x5 qx5
        have y5 := bq1 qx5
        intro rx5 vx5
        refine ⟨fun c22 => ?_, fun c22 => ?_⟩
        · exact bq_iff z2 ⟨fun a => ⟨a, .inl (by have := y5.2.1.mp c22; omega)⟩, fun a => a.1⟩
        · refine ⟨fun c21 => ?_, fun c21 => ?_⟩
          · refine ⟨fun x => bq x (smB p0 2 p2 p3 ∧ smT p0 2 p2 p3), ?_, ?_⟩
            · intro x6 rx6 z7
              refine ⟨vOr z7, ?_⟩
              exact k _ (bq_iff z7 (smet_P (by omega)).symm)
            · refine ⟨¬ smT p0 2 p2 p3, ?_, ?_⟩
              · intro z9
                exact bqF (fun a => z9 a.2)
              · refine ⟨fun c20 => ?_, fun c20 => ?_⟩
                · first
                    | exact bqT (by unfold smB; omega)
                    | exact bqF (by unfold smB; omega)
                    | (unfold smT; omega)
                    | omega
                    | (have := z2; assumption)
                · refine c_X14_isTrial of ?_
                  intro x10 qx10
                  have y10 := bq1 qx10
                  intro rx10 vx10
                  refine ⟨smT p0 2 p2 p3, ?_, ?_⟩
                  · intro z11
                    exact bqT ⟨y2.2.2.1.mp c23, z11⟩
                  · refine ⟨¬ (¬ p2 % 100 = 99 ∧ p0 / 100 = p2 / 100), ?_, ?_⟩
                    · intro z12
                      refine c_X14_isTrial oe ?_
                      intro x13 qx13
                      have y13 := bq1 qx13
                      intro rx13 vx13
                      refine ⟨fun c16 => ?_, fun c16 => ?_⟩
                      · first
                          | exact bqT (by unfold smB; omega)
                          | exact bqF (by unfold smB; omega)
                          | (unfold smT; omega)
                          | omega
                          | (have := z2; assumption)
                      · refine c_X14_isLike hc oe ?_
                        intro x14 qx14
                        have y14 := bq1 qx14
                        intro rx14 vx14
                        refine ⟨fun c15 => ?_, fun c15 => ?_⟩
                        · first
                            | exact bqT (by unfold smB; omega)
                            | exact bqF (by unfold smB; omega)
                            | (unfold smT; omega)
                            | omega
                            | (have := z2; assumption)
                        · first
                            | exact bqT (by unfold smB; omega)
                            | exact bqF (by unfold smB; omega)
                            | (unfold smT; omega)
                            | omega
                            | (have := z2; assumption)
                    · refine ⟨fun c19 => ?_, fun c19 => ?_⟩
                      · first
                          | exact bqT (by unfold smB; omega)
                          | exact bqF (by unfold smB; omega)
                          | (unfold smT; omega)
                          | omega
                          | (have := z2; assumption)
                      · refine c_X14_isLike hc of ?_
                        intro x17 qx17
                        have y17 := bq1 qx17
                        intro rx17 vx17
                        refine ⟨fun c18 => ?_, fun c18 => ?_⟩
                        · first
                            | exact bqT (by unfold smB; omega)
                            | exact bqF (by unfold smB; omega)
                            | (unfold smT; omega)
                            | omega
                            | (have := z2; assumption)
                        · first
                            | exact bqT (by unfold smB; omega)
                            | exact bqF (by unfold smB; omega)
                            | (unfold smT; omega)
                            | omega
                            | (have := z2; assumption)
          · exact bq_iff z2 ⟨fun a => ⟨a, .inr (.inl (by omega))⟩, fun a => a.1⟩
  · refine ⟨fun c24 => ?_, fun c24 => ?_, fun c24 => ?_, fun c24 => ?_, fun c24 => ?_, fun c24 => ?_, fun c24 => ?_⟩
    · refine ⟨_, fun x25 rx25 z26 => z26, ?_⟩
      refine ⟨_, fun z27 => z27, ?_⟩
      refine ⟨fun c29 => ?_, fun c29 => ?_⟩
      · first
          | exact bqT (by unfold smB; omega)
          | exact bqF (by unfold smB; omega)
          | (unfold smT; omega)
          | omega
          | (have := z2; assumption)
      · refine ⟨fun c28 => ?_, fun c28 => ?_⟩
        · first
            | exact bqT (by unfold smB; omega)
            | exact bqF (by unfold smB; omega)
            | (unfold smT; omega)
            | omega
            | (have := z2; assumption)
        · first
            | exact bqT (by unfold smB; omega)
            | exact bqF (by unfold smB; omega)
            | (unfold smT; omega)
            | omega
            | (have := z2; assumption)
    · first
        | exact bqT (by unfold smB; omega)
        | exact bqF (by unfold smB; omega)
        | (unfold smT; omega)
        | omega
        | (have := z2; assumption)
    · refine ⟨_, fun x30 rx30 z31 => z31, ?_⟩
      refine ⟨fun c32 => ?_, fun c32 => ?_⟩
      · first
          | exact bqT (by unfold smB; omega)
          | exact bqF (by unfold smB; omega)
          | (unfold smT; omega)
          | omega
          | (have := z2; assumption)
      · first
          | exact bqT (by unfold smB; omega)
          | exact bqF (by unfold smB; omega)
          | (unfold smT; omega)
          | omega
          | (have := z2; assumption)
    · refine ⟨_, fun x33 rx33 z34 => z34, ?_⟩
      refine ⟨fun c35 => ?_, fun c35 => ?_⟩
      · first
          | exact bqT (by unfold smB; omega)
          | exact bqF (by unfold smB; omega)
          | (unfold smT; omega)
          | omega
          | (have := z2; assumption)
      · first
          | exact bqT (by unfold smB; omega)
          | exact bqF (by unfold smB; omega)
          | (unfold smT; omega)
          | omega
          | (have := z2; assumption)
    · refine ⟨_, fun x36 rx36 z37 => z37, ?_⟩
      refine ⟨fun c38 => ?_, fun c38 => ?_⟩
      · first
          | exact bqT (by unfold smB; omega)
          | exact bqF (by unfold smB; omega)
          | (unfold smT; omega)
          | omega
          | (have := z2; assumption)
      · first
          | exact bqT (by unfold smB; omega)
          | exact bqF (by unfold smB; omega)
          | (unfold smT; omega)
          | omega
          | (have := z2; assumption)
    · refine ⟨_, fun x39 rx39 z40 => z40, ?_⟩
      refine ⟨_, fun z41 => z41, ?_⟩
      refine ⟨fun c43 => ?_, fun c43 => ?_⟩
      · first
          | exact bqT (by unfold smB; omega)
          | exact bqF (by unfold smB; omega)
          | (unfold smT; omega)
          | omega
          | (have := z2; assumption)
      · refine ⟨fun c42 => ?_, fun c42 => ?_⟩
        · first
            | exact bqT (by unfold smB; omega)
            | exact bqF (by unfold smB; omega)
            | (unfold smT; omega)
            | omega
            | (have := z2; assumption)
        · first
            | exact bqT (by unfold smB; omega)
            | exact bqF (by unfold smB; omega)
            | (unfold smT; omega)
            | omega
            | (have := z2; assumption)
    · refine ⟨_, fun x44 rx44 z45 => z45, ?_⟩
      refine ⟨_, fun z46 => z46, ?_⟩
      refine ⟨fun c49 => ?_, fun c49 => ?_⟩
      · first
          | exact bqT (by unfold smB; omega)
          | exact bqF (by unfold smB; omega)
          | (unfold smT; omega)
          | omega
          | (have := z2; assumption)
      · refine c_X14_isLike hc of ?_
        intro x47 qx47
        have y47 := bq1 qx47
        intro rx47 vx47
        refine ⟨fun c48 => ?_, fun c48 => ?_⟩
        · first
            | exact bqT (by unfold smB; omega)
            | exact bqF (by unfold smB; omega)
            | (unfold smT; omega)
            | omega
            | (have := z2; assumption)
        · first
            | exact bqT (by unfold smB; omega)
            | exact bqF (by unfold smB; omega)
            | (unfold smT; omega)
            | omega
            | (have := z2; assumption)
set_option maxHeartbeats 1000000 in
theorem c_isMetBy_3 {t : Nat} {p0 f e : Int} {K : Int → Prop} {h : XH} (hc : 0 ≤ p0 ∧ p0 < 1000000) (of : 0 ≤ f ∧ f < 1000000) (oe : 0 ≤ e ∧ e < 1000000) (b0 : hI h t 0 = 60) (b1 : hI h t 1 = f) (b2 : hI h t 2 = e) (b3 : hI h t 3 = trl f) (b4 : hI h t 4 = trl e) (k : ∀ x, bq x (smet p0 (3, f, e) = true) → K x) : w_X10_isMetBy t p0 K h := by
  unfold w_X10_isMetBy
  have i0 : irem p0 100 = p0 % 100 := irem_pos ⟨by omega, by omega⟩ (rgk rfl) (by omega) (by decide)
  have i1 : idiv p0 100 = p0 / 100 := idiv_pos ⟨by omega, by omega⟩ (rgk rfl) (by omega) (by decide)
  have i3 : idiv (hI h t 1) 10000 = hI h t 1 / 10000 := idiv_pos ⟨by omega, by omega⟩ (rgk rfl) (by omega) (by decide)
  have i4 : idiv (hI h t 1) 100 = hI h t 1 / 100 := idiv_pos ⟨by omega, by omega⟩ (rgk rfl) (by omega) (by decide)
  have t3 : (f % 100 = 99 ∧ hI h t 3 = -1) ∨ (¬ f % 100 = 99 ∧ hI h t 3 = f / 100) := by
    rw [b3]; unfold trl
    by_cases c : (f : Int) % 100 = 99
    · exact .inl ⟨c, if_pos c⟩
    · exact .inr ⟨c, if_neg c⟩
  have t4 : (e % 100 = 99 ∧ hI h t 4 = -1) ∨ (¬ e % 100 = 99 ∧ hI h t 4 = e / 100) := by
    rw [b4]; unfold trl
    by_cases c : (e : Int) % 100 = 99
    · exact .inl ⟨c, if_pos c⟩
    · exact .inr ⟨c, if_neg c⟩
  intro x1 ex1 rx1
  have i2 : idiv x1 100 = x1 / 100 := idiv_pos rx1 (rgk rfl) (by omega) (by decide)
  rw [i1] at ex1
  rw [i2, i3, i4]
  refine ⟨fun x => bq x (¬ p0 % 100 = 99), ?_, ?_⟩
  · intro x2 rx2 z3
    have z3 := bq1 z3
    refine ⟨p0 % 100 = 99 ∨ hI h t 0 = 61 ∨ x1 = hI h t 3 ∨ x1 = hI h t 4, ?_, ?_⟩
    · intro z4
      refine ⟨fun c5 => ?_, fun c5 => ?_, fun c5 => ?_, fun c5 => ?_, fun c5 => ?_, fun c5 => ?_, fun c5 => ?_⟩
      · refine ⟨_, fun x6 rx6 z7 => z7, ?_⟩
        refine ⟨_, fun z9 => z9, ?_⟩
        refine ⟨fun c11 => ?_, fun c11 => ?_⟩
        · refine ⟨(by first | decide | omega | ((try simp (disch := omega) only [wr_of] at *); omega)), ?_⟩
          first
            | exact k _ (bqT ((smet_P (by omega)).mpr (by unfold smB smT; omega)))
            | exact k _ (bqF (fun z => by
                have z := (smet_P (by omega)).mp z
                unfold smB smT at z
                omega))
        · refine ⟨fun c10 => ?_, fun c10 => ?_⟩
          · refine ⟨(by first | decide | omega | ((try simp (disch := omega) only [wr_of] at *); omega)), ?_⟩
            first
              | exact k _ (bqT ((smet_P (by omega)).mpr (by unfold smB smT; omega)))
              | exact k _ (bqF (fun z => by
                  have z := (smet_P (by omega)).mp z
                  unfold smB smT at z
                  omega))
          · refine ⟨(by first | decide | omega | ((try simp (disch := omega) only [wr_of] at *); omega)), ?_⟩
            first
              | exact k _ (bqT ((smet_P (by omega)).mpr (by unfold smB smT; omega)))
              | exact k _ (bqF (fun z => by
                  have z := (smet_P (by omega)).mp z
                  unfold smB smT at z
                  omega))
      · first
          | exact k _ (bqT ((smet_P (by omega)).mpr (by unfold smB smT; omega)))
          | exact k _ (bqF (fun z => by
              have z := (smet_P (by omega)).mp z
              unfold smB smT at z
              omega))
      · refine ⟨_, fun x12 rx12 z13 => z13, ?_⟩
        refine ⟨fun c15 => ?_, fun c15 => ?_⟩
        · refine ⟨(by first | decide | omega | ((try simp (disch := omega) only [wr_of] at *); omega)), ?_⟩
          first
            | exact k _ (bqT ((smet_P (by omega)).mpr (by unfold smB smT; omega)))
            | exact k _ (bqF (fun z => by
                have z := (smet_P (by omega)).mp z
                unfold smB smT at z
                omega))
        · refine ⟨(by first | decide | omega | ((try simp (disch := omega) only [wr_of] at *); omega)), ?_⟩
          first
            | exact k _ (bqT ((smet_P (by omega)).mpr (by unfold smB smT; omega)))
            | exact k _ (bqF (fun z => by
                have z := (smet_P (by omega)).mp z
                unfold smB smT at z
                omega))
      · refine ⟨_, fun x16 rx16 z17 => z17, ?_⟩
        refine ⟨fun c19 => ?_, fun c19 => ?_⟩
        · refine ⟨(by first | decide | omega | ((try simp (disch := omega) only [wr_of] at *); omega)), ?_⟩
          first
            | exact k _ (bqT ((smet_P (by omega)).mpr (by unfold smB smT; omega)))
            | exact k _ (bqF (fun z => by
                have z := (smet_P (by omega)).mp z
                unfold smB smT at z
                omega))
        · refine ⟨(by first | decide | omega | ((try simp (disch := omega) only [wr_of] at *); omega)), ?_⟩
          first
            | exact k _ (bqT ((smet_P (by omega)).mpr (by unfold smB smT; omega)))
            | exact k _ (bqF (fun z => by
                have z := (smet_P (by omega)).mp z
                unfold smB smT at z
                omega))
      · refine ⟨_, fun x20 rx20 z21 => z21, ?_⟩
        refine ⟨fun c23 => ?_, fun c23 => ?_⟩
        · refine ⟨(by first | decide | omega | ((try simp (disch := omega) only [wr_of] at *); omega)), ?_⟩
          first
            | exact k _ (bqT ((smet_P (by omega)).mpr (by unfold smB smT; omega)))
            | exact k _ (bqF (fun z => by
                have z := (smet_P (by omega)).mp z
                unfold smB smT at z
                omega))
        · refine ⟨(by first | decide | omega | ((try simp (disch := omega) only [wr_of] at *); omega)), ?_⟩
          first
            | exact k _ (bqT ((smet_P (by omega)).mpr (by unfold smB smT; omega)))
            | exact k _ (bqF (fun z => by
                have z := (smet_P (by omega)).mp z
                unfold smB smT at z
                omega))
      · refine ⟨_, fun x24 rx24 z25 => z25, ?_⟩
        refine ⟨_, fun z27 => z27, ?_⟩
        refine ⟨fun c29 => ?_, fun c29 => ?_⟩
        · refine ⟨(by first | decide | omega | ((try simp (disch := omega) only [wr_of] at *); omega)), ?_⟩
          first
            | exact k _ (bqT ((smet_P (by omega)).mpr (by unfold smB smT; omega)))
            | exact k _ (bqF (fun z => by
                have z := (smet_P (by omega)).mp z
                unfold smB smT at z
                omega))
        · refine ⟨fun c28 => ?_, fun c28 => ?_⟩
          · refine ⟨(by first | decide | omega | ((try simp (disch := omega) only [wr_of] at *); omega)), ?_⟩
            first
              | exact k _ (bqT ((smet_P (by omega)).mpr (by unfold smB smT; omega)))
              | exact k _ (bqF (fun z => by
                  have z := (smet_P (by omega)).mp z
                  unfold smB smT at z
                  omega))
          · refine ⟨(by first | decide | omega | ((try simp (disch := omega) only [wr_of] at *); omega)), ?_⟩
            first
              | exact k _ (bqT ((smet_P (by omega)).mpr (by unfold smB smT; omega)))
              | exact k _ (bqF (fun z => by
                  have z := (smet_P (by omega)).mp z
                  unfold smB smT at z
                  omega))
      · refine ⟨_, fun x30 rx30 z31 => z31, ?_⟩
        refine ⟨_, fun z33 => z33, ?_⟩
        refine ⟨fun c35 => ?_, fun c35 => ?_⟩
        · refine ⟨(by first | decide | omega | ((try simp (disch := omega) only [wr_of] at *); omega)), ?_⟩
          first
            | exact k _ (bqT ((smet_P (by omega)).mpr (by unfold smB smT; omega)))
            | exact k _ (bqF (fun z => by
                have z := (smet_P (by omega)).mp z
                unfold smB smT at z
                omega))
        · refine ⟨fun c34 => ?_, fun c34 => ?_⟩
          · refine ⟨(by first | decide | omega | ((try simp (disch := omega) only [wr_of] at *); omega)), ?_⟩
            first
              | exact k _ (bqT ((smet_P (by omega)).mpr (by unfold smB smT; omega)))
              | exact k _ (bqF (fun z => by
                  have z := (smet_P (by omega)).mp z
                  unfold smB smT at z
                  omega))
          · refine ⟨(by first | decide | omega | ((try simp (disch := omega) only [wr_of] at *); omega)), ?_⟩
            first
              | exact k _ (bqT ((smet_P (by omega)).mpr (by unfold smB smT; omega)))
              | exact k _ (bqF (fun z => by
                  have z := (smet_P (by omega)).mp z
                  unfold smB smT at z
                  omega))
    · refine ⟨fun c39 => ?_, fun c39 => ?_⟩
      · first
          | exact bqT (by omega)
          | exact bqF (by omega)
          | omega
      · refine ⟨fun c38 => ?_, fun c38 => ?_⟩
        · first
            | exact bqT (by omega)
            | exact bqF (by omega)
            | omega
        · refine ⟨fun c37 => ?_, fun c37 => ?_⟩
          · first
              | exact bqT (by omega)
              | exact bqF (by omega)
              | omega
          · refine ⟨fun c36 => ?_, fun c36 => ?_⟩
            · first
                | exact bqT (by omega)
                | exact bqF (by omega)
                | omega
            · first
                | exact k _ (bqT ((smet_P (by omega)).mpr (by unfold smB smT; omega)))
                | exact k _ (bqF (fun z => by
                    have z := (smet_P (by omega)).mp z
                    unfold smB smT at z
                    omega))
  · refine ⟨fun c40 => ?_, fun c40 => ?_⟩
    · first
        | exact bqT (by omega)
        | exact bqF (by omega)
        | omega
    · first
        | exact bqT (by omega)
        | exact bqF (by omega)
        | omega
set_option maxHeartbeats 1000000 in
theorem c_meetsSpan_3 {p0 p2 p3 : Int} {K : Int → Prop} {h : XH} (hc : 0 ≤ p0 ∧ p0 < 1000000) (of : 0 ≤ p2 ∧ p2 < 1000000) (oe : 0 ≤ p3 ∧ p3 < 1000000) (k : ∀ x, bq x (smet p0 (3, p2, p3) = true) → K x) : w_X14_meetsSpan p0 3 p2 p3 K h := by
  unfold w_X14_meetsSpan
  have i1 : idiv p0 10000 = p0 / 10000 := idiv_pos ⟨by omega, by omega⟩ (rgk rfl) (by omega) (by decide)
  have i2 : idiv p2 10000 = p2 / 10000 := idiv_pos ⟨by omega, by omega⟩ (rgk rfl) (by omega) (by decide)
  rw [i1, i2]
  refine ⟨fun x => bq x (smB p0 3 p2 p3), ?_, ?_⟩
  · intro x1 rx1 z2
    have y2 := bq1 z2
    refine ⟨bq x1 (smB p0 3 p2 p3 ∧ smT p0 3 p2 p3), ?_, ?_⟩
    · intro z3
      refine ⟨vOr z3, ?_⟩
      exact k _ (bq_iff z3 (smet_P (by omega)).symm)
    · refine ⟨fun c23 => ?_, fun c23 => ?_⟩
      · exact bqN (y2.2.1.mp c23) c23
      · refine c_X14_isTrial hc ?_
        intro x5 qx5
        have y5 := bq1 qx5
        intro rx5 vx5
        refine ⟨fun c22 => ?_, fun c22 => ?_⟩
        · exact bq_iff z2 ⟨fun a => ⟨a, .inl (by have := y5.2.1.mp c22; omega)⟩, fun a => a.1⟩
        · refine ⟨fun c21 => ?_, fun c21 => ?_⟩
          · refine ⟨fun x => bq x (smB p0 3 p2 p3 ∧ smT p0 3 p2 p3), ?_, ?_⟩
            · intro x6 rx6 z7
              refine ⟨vOr z7, ?_⟩
              exact k _ (bq_iff z7 (smet_P (by omega)).symm)
            · refine ⟨¬ smT p0 3 p2 p3, ?_, ?_⟩
              · intro z9
                exact bqF (fun a => z9 a.2)
              · refine ⟨fun c20 => ?_, fun c20 => ?_⟩
                · first
                    | exact bqT (by unfold smB; omega)
                    | exact bqF (by unfold smB; omega)
                    | (unfold smT; omega)
                    | omega
                    | (have := z2; assumption)
                · refine c_X14_isTrial of ?_
                  intro x10 qx10
                  have y10 := bq1 qx10
                  intro rx10 vx10
                  refine ⟨smT p0 3 p2 p3, ?_, ?_⟩
                  · intro z11
                    exact bqT ⟨y2.2.2.1.mp c23, z11⟩
                  · refine ⟨¬ (¬ p2 % 100 = 99 ∧ p0 / 100 = p2 / 100), ?_, ?_⟩
                    · intro z12
                      refine c_X14_isTrial oe ?_
                      intro x13 qx13
                      have y13 := bq1 qx13
                      intro rx13 vx13
                      refine ⟨fun c16 => ?_, fun c16 => ?_⟩
                      · first
                          | exact bqT (by unfold smB; omega)
                          | exact bqF (by unfold smB; omega)
                          | (unfold smT; omega)
                          | omega
                          | (have := z2; assumption)
                      · refine c_X14_isLike hc oe ?_
                        intro x14 qx14
                        have y14 := bq1 qx14
                        intro rx14 vx14
                        refine ⟨fun c15 => ?_, fun c15 => ?_⟩
                        · first
                            | exact bqT (by unfold smB; omega)
                            | exact bqF (by unfold smB; omega)
                            | (unfold smT; omega)
                            | omega
                            | (have := z2; assumption)
                        · first
                            | exact bqT (by unfold smB; omega)
                            | exact bqF (by unfold smB; omega)
                            | (unfold smT; omega)
                            | omega
                            | (have := z2; assumption)
                    · refine ⟨fun c19 => ?_, fun c19 => ?_⟩
                      · first
                          | exact bqT (by unfold smB; omega)
                          | exact bqF (by unfold smB; omega)
                          | (unfold smT; omega)
                          | omega
                          | (have := z2; assumption)
                      · refine c_X14_isLike hc of ?_
                        intro x17 qx17
                        have y17 := bq1 qx17
                        intro rx17 vx17
                        refine ⟨fun c18 => ?_, fun c18 => ?_⟩
                        · first
                            | exact bqT (by unfold smB; omega)
                            | exact bqF (by unfold smB; omega)
                            | (unfold smT; omega)
                            | omega
                            | (have := z2; assumption)
                        · first
                            | exact bqT (by unfold smB; omega)
                            | exact bqF (by unfold smB; omega)
                            | (unfold smT; omega)
                            | omega
                            | (have := z2; assumption)
          · exact bq_iff z2 ⟨fun a => ⟨a, .inr (.inl (by omega))⟩, fun a => a.1⟩
  · refine ⟨fun c24 => ?_, fun c24 => ?_, fun c24 => ?_, fun c24 => ?_, fun c24 => ?_, fun c24 => ?_, fun c24 => ?_⟩
    · refine ⟨_, fun x25 rx25 z26 => z26, ?_⟩
      refine ⟨_, fun z27 => z27, ?_⟩
      refine ⟨fun c29 => ?_, fun c29 => ?_⟩
      · first
          | exact bqT (by unfold smB; omega)
          | exact bqF (by unfold smB; omega)
          | (unfold smT; omega)
          | omega
          | (have := z2; assumption)
      · refine ⟨fun c28 => ?_, fun c28 => ?_⟩
        · first
            | exact bqT (by unfold smB; omega)
            | exact bqF (by unfold smB; omega)
            | (unfold smT; omega)
            | omega
            | (have := z2; assumption)
        · first
            | exact bqT (by unfold smB; omega)
            | exact bqF (by unfold smB; omega)
            | (unfold smT; omega)
            | omega
            | (have := z2; assumption)
    · first
        | exact bqT (by unfold smB; omega)
        | exact bqF (by unfold smB; omega)
        | (unfold smT; omega)
        | omega
        | (have := z2; assumption)
    · refine ⟨_, fun x30 rx30 z31 => z31, ?_⟩
      refine ⟨fun c32 => ?_, fun c32 => ?_⟩
      · first
          | exact bqT (by unfold smB; omega)
          | exact bqF (by unfold smB; omega)
          | (unfold smT; omega)
          | omega
          | (have := z2; assumption)
      · first
          | exact bqT (by unfold smB; omega)
          | exact bqF (by unfold smB; omega)
          | (unfold smT; omega)
          | omega
          | (have := z2; assumption)
    · refine ⟨_, fun x33 rx33 z34 => z34, ?_⟩
      refine ⟨fun c35 => ?_, fun c35 => ?_⟩
      · first
          | exact bqT (by unfold smB; omega)
          | exact bqF (by unfold smB; omega)
          | (unfold smT; omega)
          | omega
          | (have := z2; assumption)
      · first
          | exact bqT (by unfold smB; omega)
          | exact bqF (by unfold smB; omega)
          | (unfold smT; omega)
          | omega
          | (have := z2; assumption)
    · refine ⟨_, fun x36 rx36 z37 => z37, ?_⟩
      refine ⟨fun c38 => ?_, fun c38 => ?_⟩
      · first
          | exact bqT (by unfold smB; omega)
          | exact bqF (by unfold smB; omega)
          | (unfold smT; omega)
          | omega
          | (have := z2; assumption)
      · first
          | exact bqT (by unfold smB; omega)
          | exact bqF (by unfold smB; omega)
          | (unfold smT; omega)
          | omega
          | (have := z2; assumption)
    · refine ⟨_, fun x39 rx39 z40 => z40, ?_⟩
      refine ⟨_, fun z41 => z41, ?_⟩
      refine ⟨fun c43 => ?_, fun c43 => ?_⟩
      · first
          | exact bqT (by unfold smB; omega)
          | exact bqF (by unfold smB; omega)
          | (unfold smT; omega)
          | omega
          | (have := z2; assumption)
      · refine ⟨fun c42 => ?_, fun c42 => ?_⟩
        · first
            | exact bqT (by unfold smB; omega)
            | exact bqF (by unfold smB; omega)
            | (unfold smT; omega)
            | omega
            | (have := z2; assumption)
        · first
            | exact bqT (by unfold smB; omega)
            | exact bqF (by unfold smB; omega)
            | (unfold smT; omega)
            | omega
            | (have := z2; assumption)
    · refine ⟨_, fun x44 rx44 z45 => z45, ?_⟩
      refine ⟨_, fun z46 => z46, ?_⟩
      refine ⟨fun c49 => ?_, fun c49 => ?_⟩
      · first
          | exact bqT (by unfold smB; omega)
          | exact bqF (by unfold smB; omega)
          | (unfold smT; omega)
          | omega
          | (have := z2; assumption)
      · refine c_X14_isLike hc of ?_
        intro x47 qx47
        have y47 := bq1 qx47
        intro rx47 vx47
        refine ⟨fun c48 => ?_, fun c48 => ?_⟩
        · first
            | exact bqT (by unfold smB; omega)
            | exact bqF (by unfold smB; omega)
            | (unfold smT; omega)
            | omega
            | (have := z2; assumption)
        · first
            | exact bqT (by unfold smB; omega)
            | exact bqF (by unfold smB; omega)
            | (unfold smT; omega)
            | omega
            | (have := z2; assumption)
set_option maxHeartbeats 1000000 in
theorem c_isMetBy_4 {t : Nat} {p0 f e : Int} {K : Int → Prop} {h : XH} (hc : 0 ≤ p0 ∧ p0 < 1000000) (of : 0 ≤ f ∧ f < 1000000) (oe : 0 ≤ e ∧ e < 1000000) (b0 : hI h t 0 = 94) (b1 : hI h t 1 = f) (b2 : hI h t 2 = e) (b3 : hI h t 3 = trl f) (b4 : hI h t 4 = trl e) (k : ∀ x, bq x (smet p0 (4, f, e) = true) → K x) : w_X10_isMetBy t p0 K h := by
  unfold w_X10_isMetBy
  have i0 : irem p0 100 = p0 % 100 := irem_pos ⟨by omega, by omega⟩ (rgk rfl) (by omega) (by decide)
  have i1 : idiv p0 100 = p0 / 100 := idiv_pos ⟨by omega, by omega⟩ (rgk rfl) (by omega) (by decide)
  have i3 : idiv (hI h t 1) 10000 = hI h t 1 / 10000 := idiv_pos ⟨by omega, by omega⟩ (rgk rfl) (by omega) (by decide)
  have i4 : idiv (hI h t 1) 100 = hI h t 1 / 100 := idiv_pos ⟨by omega, by omega⟩ (rgk rfl) (by omega) (by decide)
  have t3 : (f % 100 = 99 ∧ hI h t 3 = -1) ∨ (¬ f % 100 = 99 ∧ hI h t 3 = f / 100) := by
    rw [b3]; unfold trl
    by_cases c : (f : Int) % 100 = 99
    · exact .inl ⟨c, if_pos c⟩
    · exact .inr ⟨c, if_neg c⟩
  have t4 : (e % 100 = 99 ∧ hI h t 4 = -1) ∨ (¬ e % 100 = 99 ∧ hI h t 4 = e / 100) := by
    rw [b4]; unfold trl
    by_cases c : (e : Int) % 100 = 99
    · exact .inl ⟨c, if_pos c⟩
    · exact .inr ⟨c, if_neg c⟩
  intro x1 ex1 rx1
  have i2 : idiv x1 100 = x1 / 100 := idiv_pos rx1 (rgk rfl) (by omega) (by decide)
  rw [i1] at ex1
  rw [i2, i3, i4]
  refine ⟨fun x => bq x (¬ p0 % 100 = 99), ?_, ?_⟩
  · intro x2 rx2 z3
    have z3 := bq1 z3
    refine ⟨p0 % 100 = 99 ∨ hI h t 0 = 61 ∨ x1 = hI h t 3 ∨ x1 = hI h t 4, ?_, ?_⟩
    · intro z4
      refine ⟨fun c5 => ?_, fun c5 => ?_, fun c5 => ?_, fun c5 => ?_, fun c5 => ?_, fun c5 => ?_, fun c5 => ?_⟩
      · refine ⟨_, fun x6 rx6 z7 => z7, ?_⟩
        refine ⟨_, fun z9 => z9, ?_⟩
        refine ⟨fun c11 => ?_, fun c11 => ?_⟩
        · refine ⟨(by first | decide | omega | ((try simp (disch := omega) only [wr_of] at *); omega)), ?_⟩
          first
            | exact k _ (bqT ((smet_P (by omega)).mpr (by unfold smB smT; omega)))
            | exact k _ (bqF (fun z => by
                have z := (smet_P (by omega)).mp z
                unfold smB smT at z
                omega))
        · refine ⟨fun c10 => ?_, fun c10 => ?_⟩
          · refine ⟨(by first | decide | omega | ((try simp (disch := omega) only [wr_of] at *); omega)), ?_⟩
            first
              | exact k _ (bqT ((smet_P (by omega)).mpr (by unfold smB smT; omega)))
              | exact k _ (bqF (fun z => by
                  have z := (smet_P (by omega)).mp z
                  unfold smB smT at z
                  omega))
          · refine ⟨(by first | decide | omega | ((try simp (disch := omega) only [wr_of] at *); omega)), ?_⟩
            first
              | exact k _ (bqT ((smet_P (by omega)).mpr (by unfold smB smT; omega)))
              | exact k _ (bqF (fun z => by
                  have z := (smet_P (by omega)).mp z
                  unfold smB smT at z
                  omega))
      · first
          | exact k _ (bqT ((smet_P (by omega)).mpr (by unfold smB smT; omega)))
          | exact k _ (bqF (fun z => by
              have z := (smet_P (by omega)).mp z
              unfold smB smT at z
              omega))
      · refine ⟨_, fun x12 rx12 z13 => z13, ?_⟩
        refine ⟨fun c15 => ?_, fun c15 => ?_⟩
        · refine ⟨(by first | decide | omega | ((try simp (disch := omega) only [wr_of] at *); omega)), ?_⟩
          first
            | exact k _ (bqT ((smet_P (by omega)).mpr (by unfold smB smT; omega)))
            | exact k _ (bqF (fun z => by
                have z := (smet_P (by omega)).mp z
                unfold smB smT at z
                omega))
        · refine ⟨(by first | decide | omega | ((try simp (disch := omega) only [wr_of] at *); omega)), ?_⟩
          first
            | exact k _ (bqT ((smet_P (by omega)).mpr (by unfold smB smT; omega)))
            | exact k _ (bqF (fun z => by
                have z := (smet_P (by omega)).mp z
                unfold smB smT at z
                omega))
      · refine ⟨_, fun x16 rx16 z17 => z17, ?_⟩
        refine ⟨fun c19 => ?_, fun c19 => ?_⟩
        · refine ⟨(by first | decide | omega | ((try simp (disch := omega) only [wr_of] at *); omega)), ?_⟩
          first
            | exact k _ (bqT ((smet_P (by omega)).mpr (by unfold smB smT; omega)))
            | exact k _ (bqF (fun z => by
                have z := (smet_P (by omega)).mp z
                unfold smB smT at z
                omega))
        · refine ⟨(by first | decide | omega | ((try simp (disch := omega) only [wr_of] at *); omega)), ?_⟩
          first
            | exact k _ (bqT ((smet_P (by omega)).mpr (by unfold smB smT; omega)))
            | exact k _ (bqF (fun z => by
                have z := (smet_P (by omega)).mp z
                unfold smB smT at z
                omega))
      · refine ⟨_, fun x20 rx20 z21 => z21, ?_⟩
        refine ⟨fun c23 => ?_, fun c23 => ?_⟩
        · refine ⟨(by first | decide | omega | ((try simp (disch := omega) only [wr_of] at *); omega)), ?_⟩
          first
            | exact k _ (bqT ((smet_P (by omega)).mpr (by unfold smB smT; omega)))
            | exact k _ (bqF (fun z => by
                have z := (smet_P (by omega)).mp z
                unfold smB smT at z
                omega))
        · refine ⟨(by first | decide | omega | ((try simp (disch := omega) only [wr_of] at *); omega)), ?_⟩
          first
            | exact k _ (bqT ((smet_P (by omega)).mpr (by unfold smB smT; omega)))
            | exact k _ (bqF (fun z => by
                have z := (smet_P (by omega)).mp z
                unfold smB smT at z
                omega))
      · refine ⟨_, fun x24 rx24 z25 => z25, ?_⟩
        refine ⟨_, fun z27 => z27, ?_⟩
        refine ⟨fun c29 => ?_, fun c29 => ?_⟩
        · refine ⟨(by first | decide | omega | ((try simp (disch := omega) only [wr_of] at *); omega)), ?_⟩
          first
            | exact k _ (bqT ((smet_P (by omega)).mpr (by unfold smB smT; omega)))
            | exact k _ (bqF (fun z => by
                have z := (smet_P (by omega)).mp z
                unfold smB smT at z
                omega))
        · refine ⟨fun c28 => ?_, fun c28 => ?_⟩
          · refine ⟨(by first | decide | omega | ((try simp (disch := omega) only [wr_of] at *); omega)), ?_⟩
            first
              | exact k _ (bqT ((smet_P (by omega)).mpr (by unfold smB smT; omega)))
              | exact k _ (bqF (fun z => by
                  have z := (smet_P (by omega)).mp z
                  unfold smB smT at z
                  omega))
          · refine ⟨(by first | decide | omega | ((try simp (disch := omega) only [wr_of] at *); omega)), ?_⟩
            first
              | exact k _ (bqT ((smet_P (by omega)).mpr (by unfold smB smT; omega)))
              | exact k _ (bqF (fun z => by
                  have z := (smet_P (by omega)).mp z
                  unfold smB smT at z
                  omega))
      · refine ⟨_, fun x30 rx30 z31 => z31, ?_⟩
        refine ⟨_, fun z33 => z33, ?_⟩
        refine ⟨fun c35 => ?_, fun c35 => ?_⟩
        · refine ⟨(by first | decide | omega | ((try simp (disch := omega) only [wr_of] at *); omega)), ?_⟩
          first
            | exact k _ (bqT ((smet_P (by omega)).mpr (by unfold smB smT; omega)))
            | exact k _ (bqF (fun z => by
                have z := (smet_P (by omega)).mp z
                unfold smB smT at z
                omega))
        · refine ⟨fun c34 => ?_, fun c34 => ?_⟩
          · refine ⟨(by first | decide | omega | ((try simp (disch := omega) only [wr_of] at *); omega)), ?_⟩
            first
              | exact k _ (bqT ((smet_P (by omega)).mpr (by unfold smB smT; omega)))
              | exact k _ (bqF (fun z => by
                  have z := (smet_P (by omega)).mp z
                  unfold smB smT at z
                  omega))
          · refine ⟨(by first | decide | omega | ((try simp (disch := omega) only [wr_of] at *); omega)), ?_⟩
            first
              | exact k _ (bqT ((smet_P (by omega)).mpr (by unfold smB smT; omega)))
              | exact k _ (bqF (fun z => by
                  have z := (smet_P (by omega)).mp z
                  unfold smB smT at z
                  omega))
    · refine ⟨fun c39 => ?_, fun c39 => ?_⟩
      · first
          | exact bqT (by omega)
          | exact bqF (by omega)
          | omega
      · refine ⟨fun c38 => ?_, fun c38 => ?_⟩
        · first
            | exact bqT (by omega)
            | exact bqF (by omega)
            | omega
        · refine ⟨fun c37 => ?_, fun c37 => ?_⟩
          · first
              | exact bqT (by omega)
              | exact bqF (by omega)
              | omega
          · refine ⟨fun c36 => ?_, fun c36 => ?_⟩
            · first
                | exact bqT (by omega)
                | exact bqF (by omega)
                | omega
            · first
                | exact k _ (bqT ((smet_P (by omega)).mpr (by unfold smB smT; omega)))
                | exact k _ (bqF (fun z => by
                    have z := (smet_P (by omega)).mp z
                    unfold smB smT at z
                    omega))
  · refine ⟨fun c40 => ?_, fun c40 => ?_⟩
    · first
        | exact bqT (by omega)
        | exact bqF (by omega)
        | omega
    · first
        | exact bqT (by omega)
        | exact bqF (by omega)
        | omega
set_option maxHeartbeats 1000000 in
theorem c_meetsSpan_4 {p0 p2 p3 : Int} {K : Int → Prop} {h : XH} (hc : 0 ≤ p0 ∧ p0 < 1000000) (of : 0 ≤ p2 ∧ p2 < 1000000) (oe : 0 ≤ p3 ∧ p3 < 1000000) (k : ∀ x, bq x (smet p0 (4, p2, p3) = true) → K x) : w_X14_meetsSpan p0 4 p2 p3 K h := by
  unfold w_X14_meetsSpan
  have i1 : idiv p0 10000 = p0 / 10000 := idiv_pos ⟨by omega, by omega⟩ (rgk rfl) (by omega) (by decide)
  have i2 : idiv p2 10000 = p2 / 10000 := idiv_pos ⟨by omega, by omega⟩ (rgk rfl) (by omega) (by decide)
  rw [i1, i2]
  refine ⟨fun x => bq x (smB p0 4 p2 p3), ?_, ?_⟩
  · intro x1 rx1 z2
    have y2 := bq1 z2
    refine ⟨bq x1 (smB p0 4 p2 p3 ∧ smT p0 4 p2 p3), ?_, ?_⟩
    · intro z3
      refine ⟨vOr z3, ?_⟩
      exact k _ (bq_iff z3 (smet_P (by omega)).symm)
    · refine ⟨fun c23 => ?_, fun c23 => ?_⟩
      · exact bqN (y2.2.1.mp c23) c23
      · refine c_X14_isTrial hc ?_
        intro x5 qx5
        have y5 := bq1 qx5
        intro rx5 vx5
        refine ⟨fun c22 => ?_, fun c22 => ?_⟩
        · exact bq_iff z2 ⟨fun a => ⟨a, .inl (by have := y5.2.1.mp c22; omega)⟩, fun a => a.1⟩
        · refine ⟨fun c21 => ?_, fun c21 => ?_⟩
          · refine ⟨fun x => bq x (smB p0 4 p2 p3 ∧ smT p0 4 p2 p3), ?_, ?_⟩
            · intro x6 rx6 z7
              refine ⟨vOr z7, ?_⟩
              exact k _ (bq_iff z7 (smet_P (by omega)).symm)
            · refine ⟨¬ smT p0 4 p2 p3, ?_, ?_⟩
              · intro z9
                exact bqF (fun a => z9 a.2)
              · refine ⟨fun c20 => ?_, fun c20 => ?_⟩
                · first
                    | exact bqT (by unfold smB; omega)
                    | exact bqF (by unfold smB; omega)
                    | (unfold smT; omega)
                    | omega
                    | (have := z2; assumption)
                · refine c_X14_isTrial of ?_
                  intro x10 qx10
                  have y10 := bq1 qx10
                  intro rx10 vx10
                  refine ⟨smT p0 4 p2 p3, ?_, ?_⟩
                  · intro z11
                    exact bqT ⟨y2.2.2.1.mp c23, z11⟩
                  · refine ⟨¬ (¬ p2 % 100 = 99 ∧ p0 / 100 = p2 / 100), ?_, ?_⟩
                    · intro z12
                      refine c_X14_isTrial oe ?_
                      intro x13 qx13
                      have y13 := bq1 qx13
                      intro rx13 vx13
                      refine ⟨fun c16 => ?_, fun c16 => ?_⟩
                      · first
                          | exact bqT (by unfold smB; omega)
                          | exact bqF (by unfold smB; omega)
                          | (unfold smT; omega)
                          | omega
                          | (have := z2; assumption)
                      · refine c_X14_isLike hc oe ?_
                        intro x14 qx14
                        have y14 := bq1 qx14
                        intro rx14 vx14
                        refine ⟨fun c15 => ?_, fun c15 => ?_⟩
                        · first
                            | exact bqT (by unfold smB; omega)
                            | exact bqF (by unfold smB; omega)
                            | (unfold smT; omega)
                            | omega
                            | (have := z2; assumption)
                        · first
                            | exact bqT (by unfold smB; omega)
                            | exact bqF (by unfold smB; omega)
                            | (unfold smT; omega)
                            | omega
                            | (have := z2; assumption)
                    · refine ⟨fun c19 => ?_, fun c19 => ?_⟩
                      · first
                          | exact bqT (by unfold smB; omega)
                          | exact bqF (by unfold smB; omega)
                          | (unfold smT; omega)
                          | omega
                          | (have := z2; assumption)
                      · refine c_X14_isLike hc of ?_
                        intro x17 qx17
                        have y17 := bq1 qx17
                        intro rx17 vx17
                        refine ⟨fun c18 => ?_, fun c18 => ?_⟩
                        · first
                            | exact bqT (by unfold smB; omega)
                            | exact bqF (by unfold smB; omega)
                            | (unfold smT; omega)
                            | omega
                            | (have := z2; assumption)
                        · first
                            | exact bqT (by unfold smB; omega)
                            | exact bqF (by unfold smB; omega)
                            | (unfold smT; omega)
                            | omega
                            | (have := z2; assumption)
          · exact bq_iff z2 ⟨fun a => ⟨a, .inr (.inl (by omega))⟩, fun a => a.1⟩
  · refine ⟨fun c24 => ?_, fun c24 => ?_, fun c24 => ?_, fun c24 => ?_, fun c24 => ?_, fun c24 => ?_, fun c24 => ?_⟩
    · refine ⟨_, fun x25 rx25 z26 => z26, ?_⟩
      refine ⟨_, fun z27 => z27, ?_⟩
      refine ⟨fun c29 => ?_, fun c29 => ?_⟩
      · first
          | exact bqT (by unfold smB; omega)
          | exact bqF (by unfold smB; omega)
          | (unfold smT; omega)
          | omega
          | (have := z2; assumption)
      · refine ⟨fun c28 => ?_, fun c28 => ?_⟩
        · first
            | exact bqT (by unfold smB; omega)
            | exact bqF (by unfold smB; omega)
            | (unfold smT; omega)
            | omega
            | (have := z2; assumption)
        · first
            | exact bqT (by unfold smB; omega)
            | exact bqF (by unfold smB; omega)
            | (unfold smT; omega)
            | omega
            | (have := z2; assumption)
    · first
        | exact bqT (by unfold smB; omega)
        | exact bqF (by unfold smB; omega)
        | (unfold smT; omega)
        | omega
        | (have := z2; assumption)
    · refine ⟨_, fun x30 rx30 z31 => z31, ?_⟩
      refine ⟨fun c32 => ?_, fun c32 => ?_⟩
      · first
          | exact bqT (by unfold smB; omega)
          | exact bqF (by unfold smB; omega)
          | (unfold smT; omega)
          | omega
          | (have := z2; assumption)
      · first
          | exact bqT (by unfold smB; omega)
          | exact bqF (by unfold smB; omega)
          | (unfold smT; omega)
          | omega
          | (have := z2; assumption)
    · refine ⟨_, fun x33 rx33 z34 => z34, ?_⟩
      refine ⟨fun c35 => ?_, fun c35 => ?_⟩
      · first
          | exact bqT (by unfold smB; omega)
          | exact bqF (by unfold smB; omega)
          | (unfold smT; omega)
          | omega
          | (have := z2; assumption)
      · first
          | exact bqT (by unfold smB; omega)
          | exact bqF (by unfold smB; omega)
          | (unfold smT; omega)
          | omega
          | (have := z2; assumption)
    · refine ⟨_, fun x36 rx36 z37 => z37, ?_⟩
      refine ⟨fun c38 => ?_, fun c38 => ?_⟩
      · first
          | exact bqT (by unfold smB; omega)
          | exact bqF (by unfold smB; omega)
          | (unfold smT; omega)
          | omega
          | (have := z2; assumption)
      · first
          | exact bqT (by unfold smB; omega)
          | exact bqF (by unfold smB; omega)
          | (unfold smT; omega)
          | omega
          | (have := z2; assumption)
    · refine ⟨_, fun x39 rx39 z40 => z40, ?_⟩
      refine ⟨_, fun z41 => z41, ?_⟩
      refine ⟨fun c43 => ?_, fun c43 => ?_⟩
      · first
          | exact bqT (by unfold smB; omega)
          | exact bqF (by unfold smB; omega)
          | (unfold smT; omega)
          | omega
          | (have := z2; assumption)
      · refine ⟨fun c42 => ?_, fun c42 => ?_⟩
        · first
            | exact bqT (by unfold smB; omega)
            | exact bqF (by unfold smB; omega)
            | (unfold smT; omega)
            | omega
            | (have := z2; assumption)
        · first
            | exact bqT (by unfold smB; omega)
            | exact bqF (by unfold smB; omega)
            | (unfold smT; omega)
            | omega
            | (have := z2; assumption)
    · refine ⟨_, fun x44 rx44 z45 => z45, ?_⟩
      refine ⟨_, fun z46 => z46, ?_⟩
      refine ⟨fun c49 => ?_, fun c49 => ?_⟩
      · first
          | exact bqT (by unfold smB; omega)
          | exact bqF (by unfold smB; omega)
          | (unfold smT; omega)
          | omega
          | (have := z2; assumption)
      · refine c_X14_isLike hc of ?_
        intro x47 qx47
        have y47 := bq1 qx47
        intro rx47 vx47
        refine ⟨fun c48 => ?_, fun c48 => ?_⟩
        · first
            | exact bqT (by unfold smB; omega)
            | exact bqF (by unfold smB; omega)
            | (unfold smT; omega)
            | omega
            | (have := z2; assumption)
        · first
            | exact bqT (by unfold smB; omega)
            | exact bqF (by unfold smB; omega)
            | (unfold smT; omega)
            | omega
            | (have := z2; assumption)
set_option maxHeartbeats 1000000 in
theorem c_isMetBy_5 {t : Nat} {p0 f e : Int} {K : Int → Prop} {h : XH} (hc : 0 ≤ p0 ∧ p0 < 1000000) (of : 0 ≤ f ∧ f < 1000000) (oe : 0 ≤ e ∧ e < 1000000) (b0 : hI h t 0 = 126) (b1 : hI h t 1 = f) (b2 : hI h t 2 = e) (b3 : hI h t 3 = trl f) (b4 : hI h t 4 = trl e) (k : ∀ x, bq x (smet p0 (5, f, e) = true) → K x) : w_X10_isMetBy t p0 K h := by
  unfold w_X10_isMetBy
  have i0 : irem p0 100 = p0 % 100 := irem_pos ⟨by omega, by omega⟩ (rgk rfl) (by omega) (by decide)
  have i1 : idiv p0 100 = p0 / 100 := idiv_pos ⟨by omega, by omega⟩ (rgk rfl) (by omega) (by decide)
  have i3 : idiv (hI h t 1) 10000 = hI h t 1 / 10000 := idiv_pos ⟨by omega, by omega⟩ (rgk rfl) (by omega) (by decide)
  have i4 : idiv (hI h t 1) 100 = hI h t 1 / 100 := idiv_pos ⟨by omega, by omega⟩ (rgk rfl) (by omega) (by decide)
  have t3 : (f % 100 = 99 ∧ hI h t 3 = -1) ∨ (¬ f % 100 = 99 ∧ hI h t 3 = f / 100) := by
    rw [b3]; unfold trl
    by_cases c : (f : Int) % 100 = 99
    · exact .inl ⟨c, if_pos c⟩
    · exact .inr ⟨c, if_neg c⟩
  have t4 : (e % 100 = 99 ∧ hI h t 4 = -1) ∨ (¬ e % 100 = 99 ∧ hI h t 4 = e / 100) := by
    rw [b4]; unfold trl
    by_cases c : (e : Int) % 100 = 99
    · exact .inl ⟨c, if_pos c⟩
    · exact .inr ⟨c, if_neg c⟩
  intro x1 ex1 rx1
  have i2 : idiv x1 100 = x1 / 100 := idiv_pos rx1 (rgk rfl) (by omega) (by decide)
  rw [i1] at ex1
  rw [i2, i3, i4]
  refine ⟨fun x => bq x (¬ p0 % 100 = 99), ?_, ?_⟩
  · intro x2 rx2 z3
    have z3 := bq1 z3
    refine ⟨p0 % 100 = 99 ∨ hI h t 0 = 61 ∨ x1 = hI h t 3 ∨ x1 = hI h t 4, ?_, ?_⟩
    · intro z4
      refine ⟨fun c5 => ?_, fun c5 => ?_, fun c5 => ?_, fun c5 => ?_, fun c5 => ?_, fun c5 => ?_, fun c5 => ?_⟩
      · refine ⟨_, fun x6 rx6 z7 => z7, ?_⟩
        refine ⟨_, fun z9 => z9, ?_⟩
        refine ⟨fun c11 => ?_, fun c11 => ?_⟩
        · refine ⟨(by first | decide | omega | ((try simp (disch := omega) only [wr_of] at *); omega)), ?_⟩
          first
            | exact k _ (bqT ((smet_P (by omega)).mpr (by unfold smB smT; omega)))
            | exact k _ (bqF (fun z => by
                have z := (smet_P (by omega)).mp z
                unfold smB smT at z
                omega))
        · refine ⟨fun c10 => ?_, fun c10 => ?_⟩
          · refine ⟨(by first | decide | omega | ((try simp (disch := omega) only [wr_of] at *); omega)), ?_⟩
            first
              | exact k _ (bqT ((smet_P (by omega)).mpr (by unfold smB smT; omega)))
              | exact k _ (bqF (fun z => by
                  have z := (smet_P (by omega)).mp z
                  unfold smB smT at z
                  omega))
          · refine ⟨(by first | decide | omega | ((try simp (disch := omega) only [wr_of] at *); omega)), ?_⟩
            first
              | exact k _ (bqT ((smet_P (by omega)).mpr (by unfold smB smT; omega)))
              | exact k _ (bqF (fun z => by
                  have z := (smet_P (by omega)).mp z
                  unfold smB smT at z
                  omega))
      · first
          | exact k _ (bqT ((smet_P (by omega)).mpr (by unfold smB smT; omega)))
          | exact k _ (bqF (fun z => by
              have z := (smet_P (by omega)).mp z
              unfold smB smT at z
              omega))
      · refine ⟨_, fun x12 rx12 z13 => z13, ?_⟩
        refine ⟨fun c15 => ?_, fun c15 => ?_⟩
        · refine ⟨(by first | decide | omega | ((try simp (disch := omega) only [wr_of] at *); omega)), ?_⟩
          first
            | exact k _ (bqT ((smet_P (by omega)).mpr (by unfold smB smT; omega)))
            | exact k _ (bqF (fun z => by
                have z := (smet_P (by omega)).mp z
                unfold smB smT at z
                omega))
        · refine ⟨(by first | decide | omega | ((try simp (disch := omega) only [wr_of] at *); omega)), ?_⟩
          first
            | exact k _ (bqT ((smet_P (by omega)).mpr (by unfold smB smT; omega)))
            | exact k _ (bqF (fun z => by
                have z := (smet_P (by omega)).mp z
                unfold smB smT at z
                omega))
      · refine ⟨_, fun x16 rx16 z17 => z17, ?_⟩
        refine ⟨fun c19 => ?_, fun c19 => ?_⟩
        · refine ⟨(by first | decide | omega | ((try simp (disch := omega) only [wr_of] at *); omega)), ?_⟩
          first
            | exact k _ (bqT ((smet_P (by omega)).mpr (by unfold smB smT; omega)))
            | exact k _ (bqF (fun z => by
                have z := (smet_P (by omega)).mp z
                unfold smB smT at z
                omega))
        · refine ⟨(by first | decide | omega | ((try simp (disch := omega) only [wr_of] at *); omega)), ?_⟩
          first
            | exact k _ (bqT ((smet_P (by omega)).mpr (by unfold smB smT; omega)))
            | exact k _ (bqF (fun z => by
                have z := (smet_P (by omega)).mp z
                unfold smB smT at z
                omega))
      · refine ⟨_, fun x20 rx20 z21 => z21, ?_⟩
        refine ⟨fun c23 => ?_, fun c23 => ?_⟩
        · refine ⟨(by first | decide | omega | ((try simp (disch := omega) only [wr_of] at *); omega)), ?_⟩
          first
            | exact k _ (bqT ((smet_P (by omega)).mpr (by unfold smB smT; omega)))
            | exact k _ (bqF (fun z => by
                have z := (smet_P (by omega)).mp z
                unfold smB smT at z
                omega))
        · refine ⟨(by first | decide | omega | ((try simp (disch := omega) only [wr_of] at *); omega)), ?_⟩
          first
            | exact k _ (bqT ((smet_P (by omega)).mpr (by unfold smB smT; omega)))
            | exact k _ (bqF (fun z => by
                have z := (smet_P (by omega)).mp z
                unfold smB smT at z
                omega))
      · refine ⟨_, fun x24 rx24 z25 => z25, ?_⟩
        refine ⟨_, fun z27 => z27, ?_⟩
        refine ⟨fun c29 => ?_, fun c29 => ?_⟩
        · refine ⟨(by first | decide | omega | ((try simp (disch := omega) only [wr_of] at *); omega)), ?_⟩
          first
            | exact k _ (bqT ((smet_P (by omega)).mpr (by unfold smB smT; omega)))
            | exact k _ (bqF (fun z => by
                have z := (smet_P (by omega)).mp z
                unfold smB smT at z
                omega))
        · refine ⟨fun c28 => ?_, fun c28 => ?_⟩
          · refine ⟨(by first | decide | omega | ((try simp (disch := omega) only [wr_of] at *); omega)), ?_⟩
            first
              | exact k _ (bqT ((smet_P (by omega)).mpr (by unfold smB smT; omega)))
              | exact k _ (bqF (fun z => by
                  have z := (smet_P (by omega)).mp z
                  unfold smB smT at z
                  omega))
          · refine ⟨(by first | decide | omega | ((try simp (disch := omega) only [wr_of] at *); omega)), ?_⟩
            first
              | exact k _ (bqT ((smet_P (by omega)).mpr (by unfold smB smT; omega)))
              | exact k _ (bqF (fun z => by
                  have z := (smet_P (by omega)).mp z
                  unfold smB smT at z
                  omega))
      · refine ⟨_, fun x30 rx30 z31 => z31, ?_⟩
        refine ⟨_, fun z33 => z33, ?_⟩
        refine ⟨fun c35 => ?_, fun c35 => ?_⟩
        · refine ⟨(by first | decide | omega | ((try simp (disch := omega) only [wr_of] at *); omega)), ?_⟩
          first
            | exact k _ (bqT ((smet_P (by omega)).mpr (by unfold smB smT; omega)))
            | exact k _ (bqF (fun z => by
                have z := (smet_P (by omega)).mp z
                unfold smB smT at z
                omega))
        · refine ⟨fun c34 => ?_, fun c34 => ?_⟩
          · refine ⟨(by first | decide | omega | ((try simp (disch := omega) only [wr_of] at *); omega)), ?_⟩
            first
              | exact k _ (bqT ((smet_P (by omega)).mpr (by unfold smB smT; omega)))
              | exact k _ (bqF (fun z => by
                  have z := (smet_P (by omega)).mp z
                  unfold smB smT at z
                  omega))
          · refine ⟨(by first | decide | omega | ((try simp (disch := omega) only [wr_of] at *); omega)), ?_⟩
            first
              | exact k _ (bqT ((smet_P (by omega)).mpr (by unfold smB smT; omega)))
              | exact k _ (bqF (fun z => by
                  have z := (smet_P (by omega)).mp z
                  unfold smB smT at z
                  omega))
    · refine ⟨fun c39 => ?_, fun c39 => ?_⟩
      · first
          | exact bqT (by omega)
          | exact bqF (by omega)
          | omega
      · refine ⟨fun c38 => ?_, fun c38 => ?_⟩
        · first
            | exact bqT (by omega)
            | exact bqF (by omega)
            | omega
        · refine ⟨fun c37 => ?_, fun c37 => ?_⟩
          · first
              | exact bqT (by omega)
              | exact bqF (by omega)
              | omega
          · refine ⟨fun c36 => ?_, fun c36 => ?_⟩
            · first
                | exact bqT (by omega)
                | exact bqF (by omega)
                | omega
            · first
                | exact k _ (bqT ((smet_P (by omega)).mpr (by unfold smB smT; omega)))
                | exact k _ (bqF (fun z => by
                    have z := (smet_P (by omega)).mp z
                    unfold smB smT at z
                    omega))
  · refine ⟨fun c40 => ?_, fun c40 => ?_⟩
    · first
        | exact bqT (by omega)
        | exact bqF (by omega)
        | omega
    · first
        | exact bqT (by omega)
        | exact bqF (by omega)
        | omega
set_option maxHeartbeats 1000000 in
theorem c_meetsSpan_5 {p0 p2 p3 : Int} {K : Int → Prop} {h : XH} (hc : 0 ≤ p0 ∧ p0 < 1000000) (of : 0 ≤ p2 ∧ p2 < 1000000) (oe : 0 ≤ p3 ∧ p3 < 1000000) (k : ∀ x, bq x (smet p0 (5, p2, p3) = true) → K x) : w_X14_meetsSpan p0 5 p2 p3 K h := by
  unfold w_X14_meetsSpan
  have i1 : idiv p0 10000 = p0 / 10000 := idiv_pos ⟨by omega, by omega⟩ (rgk rfl) (by omega) (by decide)
  have i2 : idiv p2 10000 = p2 / 10000 := idiv_pos ⟨by omega, by omega⟩ (rgk rfl) (by omega) (by decide)
  rw [i1, i2]
  refine ⟨fun x => bq x (smB p0 5 p2 p3), ?_, ?_⟩
  · intro x1 rx1 z2
    have y2 := bq1 z2
    refine ⟨bq x1 (smB p0 5 p2 p3 ∧ smT p0 5 p2 p3), ?_, ?_⟩
    · intro z3
      refine ⟨vOr z3, ?_⟩
      exact k _ (bq_iff z3 (smet_P (by omega)).symm)
    · refine ⟨fun c23 => ?_, fun c23 => ?_⟩
      · exact bqN (y2.2.1.mp c23) c23
      · refine c_X14_isTrial hc ?_
        intro x5 qx5
        have y5 := bq1 qx5
        intro rx5 vx5
        refine ⟨fun c22 => ?_, fun c22 => ?_⟩
        · exact bq_iff z2 ⟨fun a => ⟨a, .inl (by have := y5.2.1.mp c22; omega)⟩, fun a => a.1⟩
        · refine ⟨fun c21 => ?_, fun c21 => ?_⟩
          · refine ⟨fun x => bq x (smB p0 5 p2 p3 ∧ smT p0 5 p2 p3), ?_, ?_⟩
            · intro x6 rx6 z7
              refine ⟨vOr z7, ?_⟩
              exact k _ (bq_iff z7 (smet_P (by omega)).symm)
            · refine ⟨¬ smT p0 5 p2 p3, ?_, ?_⟩
              · intro z9
                exact bqF (fun a => z9 a.2)
              · refine ⟨fun c20 => ?_, fun c20 => ?_⟩
                · first
                    | exact bqT (by unfold smB; omega)
                    | exact bqF (by unfold smB; omega)
                    | (unfold smT; omega)
                    | omega
                    | (have := z2; assumption)
                · refine c_X14_isTrial of ?_
                  intro x10 qx10
                  have y10 := bq1 qx10
                  intro rx10 vx10
                  refine ⟨smT p0 5 p2 p3, ?_, ?_⟩
                  · intro z11
                    exact bqT ⟨y2.2.2.1.mp c23, z11⟩
                  · refine ⟨¬ (¬ p2 % 100 = 99 ∧ p0 / 100 = p2 / 100), ?_, ?_⟩
                    · intro z12
                      refine c_X14_isTrial oe ?_
                      intro x13 qx13
                      have y13 := bq1 qx13
                      intro rx13 vx13
                      refine ⟨fun c16 => ?_, fun c16 => ?_⟩
                      · first
                          | exact bqT (by unfold smB; omega)
                          | exact bqF (by unfold smB; omega)
                          | (unfold smT; omega)
                          | omega
                          | (have := z2; assumption)
                      · refine c_X14_isLike hc oe ?_
                        intro x14 qx14
                        have y14 := bq1 qx14
                        intro rx14 vx14
                        refine ⟨fun c15 => ?_, fun c15 => ?_⟩
                        · first
                            | exact bqT (by unfold smB; omega)
                            | exact bqF (by unfold smB; omega)
                            | (unfold smT; omega)
                            | omega
                            | (have := z2; assumption)
                        · first
                            | exact bqT (by unfold smB; omega)
                            | exact bqF (by unfold smB; omega)
                            | (unfold smT; omega)
                            | omega
                            | (have := z2; assumption)
                    · refine ⟨fun c19 => ?_, fun c19 => ?_⟩
                      · first
                          | exact bqT (by unfold smB; omega)
                          | exact bqF (by unfold smB; omega)
                          | (unfold smT; omega)
                          | omega
                          | (have := z2; assumption)
                      · refine c_X14_isLike hc of ?_
                        intro x17 qx17
                        have y17 := bq1 qx17
                        intro rx17 vx17
                        refine ⟨fun c18 => ?_, fun c18 => ?_⟩
                        · first
                            | exact bqT (by unfold smB; omega)
                            | exact bqF (by unfold smB; omega)
                            | (unfold smT; omega)
                            | omega
                            | (have := z2; assumption)
                        · first
                            | exact bqT (by unfold smB; omega)
                            | exact bqF (by unfold smB; omega)
                            | (unfold smT; omega)
                            | omega
                            | (have := z2; assumption)
          · exact bq_iff z2 ⟨fun a => ⟨a, .inr (.inl (by omega))⟩, fun a => a.1⟩
  · refine ⟨fun c24 => ?_, fun c24 => ?_, fun c24 => ?_, fun c24 => ?_, fun c24 => ?_, fun c24 => ?_, fun c24 => ?_⟩
    · refine ⟨_, fun x25 rx25 z26 => z26, ?_⟩
      refine ⟨_, fun z27 => z27, ?_⟩
      refine ⟨fun c29 => ?_, fun c29 => ?_⟩
      · first
          | exact bqT (by unfold smB; omega)
          | exact bqF (by unfold smB; omega)
          | (unfold smT; omega)
          | omega
          | (have := z2; assumption)
      · refine ⟨fun c28 => ?_, fun c28 => ?_⟩
        · first
            | exact bqT (by unfold smB; omega)
            | exact bqF (by unfold smB; omega)
            | (unfold smT; omega)
            | omega
            | (have := z2; assumption)
        · first
            | exact bqT (by unfold smB; omega)
            | exact bqF (by unfold smB; omega)
            | (unfold smT; omega)
            | omega
            | (have := z2; assumption)
    · first
        | exact bqT (by unfold smB; omega)
        | exact bqF (by unfold smB; omega)
        | (unfold smT; omega)
        | omega
        | (have := z2; assumption)
    · refine ⟨_, fun x30 rx30 z31 => z31, ?_⟩
      refine ⟨fun c32 => ?_, fun c32 => ?_⟩
      · first
          | exact bqT (by unfold smB; omega)
          | exact bqF (by unfold smB; omega)
          | (unfold smT; omega)
          | omega
          | (have := z2; assumption)
      · first
          | exact bqT (by unfold smB; omega)
          | exact bqF (by unfold smB; omega)
          | (unfold smT; omega)
          | omega
          | (have := z2; assumption)
    · refine ⟨_, fun x33 rx33 z34 => z34, ?_⟩
      refine ⟨fun c35 => ?_, fun c35 => ?_⟩
      · first
          | exact bqT (by unfold smB; omega)
          | exact bqF (by unfold smB; omega)
          | (unfold smT; omega)
          | omega
          | (have := z2; assumption)
      · first
          | exact bqT (by unfold smB; omega)
          | exact bqF (by unfold smB; omega)
          | (unfold smT; omega)
          | omega
          | (have := z2; assumption)
    · refine ⟨_, fun x36 rx36 z37 => z37, ?_⟩
      refine ⟨fun c38 => ?_, fun c38 => ?_⟩
      · first
          | exact bqT (by unfold smB; omega)
          | exact bqF (by unfold smB; omega)
          | (unfold smT; omega)
          | omega
          | (have := z2; assumption)
      · first
          | exact bqT (by unfold smB; omega)
          | exact bqF (by unfold smB; omega)
          | (unfold smT; omega)
          | omega
          | (have := z2; assumption)
    · refine ⟨_, fun x39 rx39 z40 => z40, ?_⟩
      refine ⟨_, fun z41 => z41, ?_⟩
      refine ⟨fun c43 => ?_, fun c43 => ?_⟩
      · first
          | exact bqT (by unfold smB; omega)
          | exact bqF (by unfold smB; omega)
          | (unfold smT; omega)
          | omega
          | (have := z2; assumption)
      · refine ⟨fun c42 => ?_, fun c42 => ?_⟩
        · first
            | exact bqT (by unfold smB; omega)
            | exact bqF (by unfold smB; omega)
            | (unfold smT; omega)
            | omega
            | (have := z2; assumption)
        · first
            | exact bqT (by unfold smB; omega)
            | exact bqF (by unfold smB; omega)
            | (unfold smT; omega)
            | omega
            | (have := z2; assumption)
    · refine ⟨_, fun x44 rx44 z45 => z45, ?_⟩
      refine ⟨_, fun z46 => z46, ?_⟩
      refine ⟨fun c49 => ?_, fun c49 => ?_⟩
      · first
          | exact bqT (by unfold smB; omega)
          | exact bqF (by unfold smB; omega)
          | (unfold smT; omega)
          | omega
          | (have := z2; assumption)
      · refine c_X14_isLike hc of ?_
        intro x47 qx47
        have y47 := bq1 qx47
        intro rx47 vx47
        refine ⟨fun c48 => ?_, fun c48 => ?_⟩
        · first
            | exact bqT (by unfold smB; omega)
            | exact bqF (by unfold smB; omega)
            | (unfold smT; omega)
            | omega
            | (have := z2; assumption)
        · first
            | exact bqT (by unfold smB; omega)
            | exact bqF (by unfold smB; omega)
            | (unfold smT; omega)
            | omega
            | (have := z2; assumption)
set_option maxHeartbeats 1000000 in
theorem c_isMetBy_6 {t : Nat} {p0 f e : Int} {K : Int → Prop} {h : XH} (hc : 0 ≤ p0 ∧ p0 < 1000000) (of : 0 ≤ f ∧ f < 1000000) (oe : 0 ≤ e ∧ e < 1000000) (b0 : hI h t 0 = 46) (b1 : hI h t 1 = f) (b2 : hI h t 2 = e) (b3 : hI h t 3 = trl f) (b4 : hI h t 4 = trl e) (k : ∀ x, bq x (smet p0 (6, f, e) = true) → K x) : w_X10_isMetBy t p0 K h := by
  unfold w_X10_isMetBy
  have i0 : irem p0 100 = p0 % 100 := irem_pos ⟨by omega, by omega⟩ (rgk rfl) (by omega) (by decide)
  have i1 : idiv p0 100 = p0 / 100 := idiv_pos ⟨by omega, by omega⟩ (rgk rfl) (by omega) (by decide)
  have i3 : idiv (hI h t 1) 10000 = hI h t 1 / 10000 := idiv_pos ⟨by omega, by omega⟩ (rgk rfl) (by omega) (by decide)
  have i4 : idiv (hI h t 1) 100 = hI h t 1 / 100 := idiv_pos ⟨by omega, by omega⟩ (rgk rfl) (by omega) (by decide)
  have t3 : (f % 100 = 99 ∧ hI h t 3 = -1) ∨ (¬ f % 100 = 99 ∧ hI h t 3 = f / 100) := by
    rw [b3]; unfold trl
    by_cases c : (f : Int) % 100 = 99
    · exact .inl ⟨c, if_pos c⟩
    · exact .inr ⟨c, if_neg c⟩
  have t4 : (e % 100 = 99 ∧ hI h t 4 = -1) ∨ (¬ e % 100 = 99 ∧ hI h t 4 = e / 100) := by
    rw [b4]; unfold trl
    by_cases c : (e : Int) % 100 = 99
    · exact .inl ⟨c, if_pos c⟩
    · exact .inr ⟨c, if_neg c⟩
  intro x1 ex1 rx1
  have i2 : idiv x1 100 = x1 / 100 := idiv_pos rx1 (rgk rfl) (by omega) (by decide)
  rw [i1] at ex1
  rw [i2, i3, i4]
  refine ⟨fun x => bq x (¬ p0 % 100 = 99), ?_, ?_⟩
  · intro x2 rx2 z3
    have z3 := bq1 z3
    refine ⟨p0 % 100 = 99 ∨ hI h t 0 = 61 ∨ x1 = hI h t 3 ∨ x1 = hI h t 4, ?_, ?_⟩
    · intro z4
      refine ⟨fun c5 => ?_, fun c5 => ?_, fun c5 => ?_, fun c5 => ?_, fun c5 => ?_, fun c5 => ?_, fun c5 => ?_⟩
      · refine ⟨_, fun x6 rx6 z7 => z7, ?_⟩
        refine ⟨_, fun z9 => z9, ?_⟩
        refine ⟨fun c11 => ?_, fun c11 => ?_⟩
        · refine ⟨(by first | decide | omega | ((try simp (disch := omega) only [wr_of] at *); omega)), ?_⟩
          first
            | exact k _ (bqT ((smet_P (by omega)).mpr (by unfold smB smT; omega)))
            | exact k _ (bqF (fun z => by
                have z := (smet_P (by omega)).mp z
                unfold smB smT at z
                omega))
        · refine ⟨fun c10 => ?_, fun c10 => ?_⟩
          · refine ⟨(by first | decide | omega | ((try simp (disch := omega) only [wr_of] at *); omega)), ?_⟩
            first
              | exact k _ (bqT ((smet_P (by omega)).mpr (by unfold smB smT; omega)))
              | exact k _ (bqF (fun z => by
                  have z := (smet_P (by omega)).mp z
                  unfold smB smT at z
                  omega))
          · refine ⟨(by first | decide | omega | ((try simp (disch := omega) only [wr_of] at *); omega)), ?_⟩
            first
              | exact k _ (bqT ((smet_P (by omega)).mpr (by unfold smB smT; omega)))
              | exact k _ (bqF (fun z => by
                  have z := (smet_P (by omega)).mp z
                  unfold smB smT at z
                  omega))
      · first
          | exact k _ (bqT ((smet_P (by omega)).mpr (by unfold smB smT; omega)))
          | exact k _ (bqF (fun z => by
              have z := (smet_P (by omega)).mp z
              unfold smB smT at z
              omega))
      · refine ⟨_, fun x12 rx12 z13 => z13, ?_⟩
        refine ⟨fun c15 => ?_, fun c15 => ?_⟩
        · refine ⟨(by first | decide | omega | ((try simp (disch := omega) only [wr_of] at *); omega)), ?_⟩
          first
            | exact k _ (bqT ((smet_P (by omega)).mpr (by unfold smB smT; omega)))
            | exact k _ (bqF (fun z => by
                have z := (smet_P (by omega)).mp z
                unfold smB smT at z
                omega))
        · refine ⟨(by first | decide | omega | ((try simp (disch := omega) only [wr_of] at *); omega)), ?_⟩
          first
            | exact k _ (bqT ((smet_P (by omega)).mpr (by unfold smB smT; omega)))
            | exact k _ (bqF (fun z => by
                have z := (smet_P (by omega)).mp z
                unfold smB smT at z
                omega))
      · refine ⟨_, fun x16 rx16 z17 => z17, ?_⟩
        refine ⟨fun c19 => ?_, fun c19 => ?_⟩
        · refine ⟨(by first | decide | omega | ((try simp (disch := omega) only [wr_of] at *); omega)), ?_⟩
          first
            | exact k _ (bqT ((smet_P (by omega)).mpr (by unfold smB smT; omega)))
            | exact k _ (bqF (fun z => by
                have z := (smet_P (by omega)).mp z
                unfold smB smT at z
                omega))
        · refine ⟨(by first | decide | omega | ((try simp (disch := omega) only [wr_of] at *); omega)), ?_⟩
          first
            | exact k _ (bqT ((smet_P (by omega)).mpr (by unfold smB smT; omega)))
            | exact k _ (bqF (fun z => by
                have z := (smet_P (by omega)).mp z
                unfold smB smT at z
                omega))
      · refine ⟨_, fun x20 rx20 z21 => z21, ?_⟩
        refine ⟨fun c23 => ?_, fun c23 => ?_⟩
        · refine ⟨(by first | decide | omega | ((try simp (disch := omega) only [wr_of] at *); omega)), ?_⟩
          first
            | exact k _ (bqT ((smet_P (by omega)).mpr (by unfold smB smT; omega)))
            | exact k _ (bqF (fun z => by
                have z := (smet_P (by omega)).mp z
                unfold smB smT at z
                omega))
        · refine ⟨(by first | decide | omega | ((try simp (disch := omega) only [wr_of] at *); omega)), ?_⟩
          first
            | exact k _ (bqT ((smet_P (by omega)).mpr (by unfold smB smT; omega)))
            | exact k _ (bqF (fun z => by
                have z := (smet_P (by omega)).mp z
                unfold smB smT at z
                omega))
      · refine ⟨_, fun x24 rx24 z25 => z25, ?_⟩
        refine ⟨_, fun z27 => z27, ?_⟩
        refine ⟨fun c29 => ?_, fun c29 => ?_⟩
        · refine ⟨(by first | decide | omega | ((try simp (disch := omega) only [wr_of] at *); omega)), ?_⟩
          first
            | exact k _ (bqT ((smet_P (by omega)).mpr (by unfold smB smT; omega)))
            | exact k _ (bqF (fun z => by
                have z := (smet_P (by omega)).mp z
                unfold smB smT at z
                omega))
        · refine ⟨fun c28 => ?_, fun c28 => ?_⟩
          · refine ⟨(by first | decide | omega | ((try simp (disch := omega) only [wr_of] at *); omega)), ?_⟩
            first
              | exact k _ (bqT ((smet_P (by omega)).mpr (by unfold smB smT; omega)))
              | exact k _ (bqF (fun z => by
                  have z := (smet_P (by omega)).mp z
                  unfold smB smT at z
                  omega))
          · refine ⟨(by first | decide | omega | ((try simp (disch := omega) only [wr_of] at *); omega)), ?_⟩
            first
              | exact k _ (bqT ((smet_P (by omega)).mpr (by unfold smB smT; omega)))
              | exact k _ (bqF (fun z => by
                  have z := (smet_P (by omega)).mp z
                  unfold smB smT at z
                  omega))
      · refine ⟨_, fun x30 rx30 z31 => z31, ?_⟩
        refine ⟨_, fun z33 => z33, ?_⟩
        refine ⟨fun c35 => ?_, fun c35 => ?_⟩
        · refine ⟨(by first | decide | omega | ((try simp (disch := omega) only [wr_of] at *); omega)), ?_⟩
          first
            | exact k _ (bqT ((smet_P (by omega)).mpr (by unfold smB smT; omega)))
            | exact k _ (bqF (fun z => by
                have z := (smet_P (by omega)).mp z
                unfold smB smT at z
                omega))
        · refine ⟨fun c34 => ?_, fun c34 => ?_⟩
          · refine ⟨(by first | decide | omega | ((try simp (disch := omega) only [wr_of] at *); omega)), ?_⟩
            first
              | exact k _ (bqT ((smet_P (by omega)).mpr (by unfold smB smT; omega)))
              | exact k _ (bqF (fun z => by
                  have z := (smet_P (by omega)).mp z
                  unfold smB smT at z
                  omega))
          · refine ⟨(by first | decide | omega | ((try simp (disch := omega) only [wr_of] at *); omega)), ?_⟩
            first
              | exact k _ (bqT ((smet_P (by omega)).mpr (by unfold smB smT; omega)))
              | exact k _ (bqF (fun z => by
                  have z := (smet_P (by omega)).mp z
                  unfold smB smT at z
                  omega))
    · refine ⟨fun c39 => ?_, fun c39 => ?_⟩
      · first
          | exact bqT (by omega)
          | exact bqF (by omega)
          | omega
      · refine ⟨fun c38 => ?_, fun c38 => ?_⟩
        · first
            | exact bqT (by omega)
            | exact bqF (by omega)
            | omega
        · refine ⟨fun c37 => ?_, fun c37 => ?_⟩
          · first
              | exact bqT (by omega)
              | exact bqF (by omega)
              | omega
          · refine ⟨fun c36 => ?_, fun c36 => ?_⟩
            · first
                | exact bqT (by omega)
                | exact bqF (by omega)
                | omega
            · first
                | exact k _ (bqT ((smet_P (by omega)).mpr (by unfold smB smT; omega)))
                | exact k _ (bqF (fun z => by
                    have z := (smet_P (by omega)).mp z
                    unfold smB smT at z
                    omega))
  · refine ⟨fun c40 => ?_, fun c40 => ?_⟩
    · first
        | exact bqT (by omega)
        | exact bqF (by omega)
        | omega
    · first
        | exact bqT (by omega)
        | exact bqF (by omega)
        | omega
set_option maxHeartbeats 1000000 in
theorem c_meetsSpan_6 {p0 p2 p3 : Int} {K : Int → Prop} {h : XH} (hc : 0 ≤ p0 ∧ p0 < 1000000) (of : 0 ≤ p2 ∧ p2 < 1000000) (oe : 0 ≤ p3 ∧ p3 < 1000000) (k : ∀ x, bq x (smet p0 (6, p2, p3) = true) → K x) : w_X14_meetsSpan p0 6 p2 p3 K h := by
  unfold w_X14_meetsSpan
  have i1 : idiv p0 10000 = p0 / 10000 := idiv_pos ⟨by omega, by omega⟩ (rgk rfl) (by omega) (by decide)
  have i2 : idiv p2 10000 = p2 / 10000 := idiv_pos ⟨by omega, by omega⟩ (rgk rfl) (by omega) (by decide)
  rw [i1, i2]
  refine ⟨fun x => bq x (smB p0 6 p2 p3), ?_, ?_⟩
  · intro x1 rx1 z2
    have y2 := bq1 z2
    refine ⟨bq x1 (smB p0 6 p2 p3 ∧ smT p0 6 p2 p3), ?_, ?_⟩
    · intro z3
      refine ⟨vOr z3, ?_⟩
      exact k _ (bq_iff z3 (smet_P (by omega)).symm)
    · refine ⟨fun c23 => ?_, fun c23 => ?_⟩
      · exact bqN (y2.2.1.mp c23) c23
      · refine c_X14_isTrial hc ?_
        intro x5 qx5
        have y5 := bq1 qx5
        intro rx5 vx5
        refine ⟨fun c22 => ?_, fun c22 => ?_⟩
        · exact bq_iff z2 ⟨fun a => ⟨a, .inl (by have := y5.2.1.mp c22; omega)⟩, fun a => a.1⟩
        · refine ⟨fun c21 => ?_, fun c21 => ?_⟩
          · refine ⟨fun x => bq x (smB p0 6 p2 p3 ∧ smT p0 6 p2 p3), ?_, ?_⟩
            · intro x6 rx6 z7
              refine ⟨vOr z7, ?_⟩
              exact k _ (bq_iff z7 (smet_P (by omega)).symm)
            · refine ⟨¬ smT p0 6 p2 p3, ?_, ?_⟩
              · intro z9
                exact bqF (fun a => z9 a.2)
              · refine ⟨fun c20 => ?_, fun c20 => ?_⟩
                · first
                    | exact bqT (by unfold smB; omega)
                    | exact bqF (by unfold smB; omega)
                    | (unfold smT; omega)
                    | omega
                    | (have := z2; assumption)
                · refine c_X14_isTrial of ?_
                  intro x10 qx10
                  have y10 := bq1 qx10
                  intro rx10 vx10
                  refine ⟨smT p0 6 p2 p3, ?_, ?_⟩
                  · intro z11
                    exact bqT ⟨y2.2.2.1.mp c23, z11⟩
                  · refine ⟨¬ (¬ p2 % 100 = 99 ∧ p0 / 100 = p2 / 100), ?_, ?_⟩
                    · intro z12
                      refine c_X14_isTrial oe ?_
                      intro x13 qx13
                      have y13 := bq1 qx13
                      intro rx13 vx13
                      refine ⟨fun c16 => ?_, fun c16 => ?_⟩
                      · first
                          | exact bqT (by unfold smB; omega)
                          | exact bqF (by unfold smB; omega)
                          | (unfold smT; omega)
                          | omega
                          | (have := z2; assumption)
                      · refine c_X14_isLike hc oe ?_
                        intro x14 qx14
                        have y14 := bq1 qx14
                        intro rx14 vx14
                        refine ⟨fun c15 => ?_, fun c15 => ?_⟩
                        · first
                            | exact bqT (by unfold smB; omega)
                            | exact bqF (by unfold smB; omega)
                            | (unfold smT; omega)
                            | omega
                            | (have := z2; assumption)
                        · first
                            | exact bqT (by unfold smB; omega)
                            | exact bqF (by unfold smB; omega)
                            | (unfold smT; omega)
                            | omega
                            | (have := z2; assumption)
                    · refine ⟨fun c19 => ?_, fun c19 => ?_⟩
                      · first
                          | exact bqT (by unfold smB; omega)
                          | exact bqF (by unfold smB; omega)
                          | (unfold smT; omega)
                          | omega
                          | (have := z2; assumption)
                      · refine c_X14_isLike hc of ?_
                        intro x17 qx17
                        have y17 := bq1 qx17
                        intro rx17 vx17
                        refine ⟨fun c18 => ?_, fun c18 => ?_⟩
                        · first
                            | exact bqT (by unfold smB; omega)
                            | exact bqF (by unfold smB; omega)
                            | (unfold smT; omega)
                            | omega
                            | (have := z2; assumption)
                        · first
                            | exact bqT (by unfold smB; omega)
                            | exact bqF (by unfold smB; omega)
                            | (unfold smT; omega)
                            | omega
                            | (have := z2; assumption)
          · exact bq_iff z2 ⟨fun a => ⟨a, .inr (.inl (by omega))⟩, fun a => a.1⟩
  · refine ⟨fun c24 => ?_, fun c24 => ?_, fun c24 => ?_, fun c24 => ?_, fun c24 => ?_, fun c24 => ?_, fun c24 => ?_⟩
    · refine ⟨_, fun x25 rx25 z26 => z26, ?_⟩
      refine ⟨_, fun z27 => z27, ?_⟩
      refine ⟨fun c29 => ?_, fun c29 => ?_⟩
      · first
          | exact bqT (by unfold smB; omega)
          | exact bqF (by unfold smB; omega)
          | (unfold smT; omega)
          | omega
          | (have := z2; assumption)
      · refine ⟨fun c28 => ?_, fun c28 => ?_⟩
        · first
            | exact bqT (by unfold smB; omega)
            | exact bqF (by unfold smB; omega)
            | (unfold smT; omega)
            | omega
            | (have := z2; assumption)
        · first
            | exact bqT (by unfold smB; omega)
            | exact bqF (by unfold smB; omega)
            | (unfold smT; omega)
            | omega
            | (have := z2; assumption)
    · first
        | exact bqT (by unfold smB; omega)
        | exact bqF (by unfold smB; omega)
        | (unfold smT; omega)
        | omega
        | (have := z2; assumption)
    · refine ⟨_, fun x30 rx30 z31 => z31, ?_⟩
      refine ⟨fun c32 => ?_, fun c32 => ?_⟩
      · first
          | exact bqT (by unfold smB; omega)
          | exact bqF (by unfold smB; omega)
          | (unfold smT; omega)
          | omega
          | (have := z2; assumption)
      · first
          | exact bqT (by unfold smB; omega)
          | exact bqF (by unfold smB; omega)
          | (unfold smT; omega)
          | omega
          | (have := z2; assumption)
    · refine ⟨_, fun x33 rx33 z34 => z34, ?_⟩
      refine ⟨fun c35 => ?_, fun c35 => ?_⟩
      · first
          | exact bqT (by unfold smB; omega)
          | exact bqF (by unfold smB; omega)
          | (unfold smT; omega)
          | omega
          | (have := z2; assumption)
      · first
          | exact bqT (by unfold smB; omega)
          | exact bqF (by unfold smB; omega)
          | (unfold smT; omega)
          | omega
          | (have := z2; assumption)
    · refine ⟨_, fun x36 rx36 z37 => z37, ?_⟩
      refine ⟨fun c38 => ?_, fun c38 => ?_⟩
      · first
          | exact bqT (by unfold smB; omega)
          | exact bqF (by unfold smB; omega)
          | (unfold smT; omega)
          | omega
          | (have := z2; assumption)
      · first
          | exact bqT (by unfold smB; omega)
          | exact bqF (by unfold smB; omega)
          | (unfold smT; omega)
          | omega
          | (have := z2; assumption)
    · refine ⟨_, fun x39 rx39 z40 => z40, ?_⟩
      refine ⟨_, fun z41 => z41, ?_⟩
      refine ⟨fun c43 => ?_, fun c43 => ?_⟩
      · first
          | exact bqT (by unfold smB; omega)
          | exact bqF (by unfold smB; omega)
          | (unfold smT; omega)
          | omega
          | (have := z2; assumption)
      · refine ⟨fun c42 => ?_, fun c42 => ?_⟩
        · first
            | exact bqT (by unfold smB; omega)
            | exact bqF (by unfold smB; omega)
            | (unfold smT; omega)
            | omega
            | (have := z2; assumption)
        · first
            | exact bqT (by unfold smB; omega)
            | exact bqF (by unfold smB; omega)
            | (unfold smT; omega)
            | omega
            | (have := z2; assumption)
    · refine ⟨_, fun x44 rx44 z45 => z45, ?_⟩
      refine ⟨_, fun z46 => z46, ?_⟩
      refine ⟨fun c49 => ?_, fun c49 => ?_⟩
      · first
          | exact bqT (by unfold smB; omega)
          | exact bqF (by unfold smB; omega)
          | (unfold smT; omega)
          | omega
          | (have := z2; assumption)
      · refine c_X14_isLike hc of ?_
        intro x47 qx47
        have y47 := bq1 qx47
        intro rx47 vx47
        refine ⟨fun c48 => ?_, fun c48 => ?_⟩
        · first
            | exact bqT (by unfold smB; omega)
            | exact bqF (by unfold smB; omega)
            | (unfold smT; omega)
            | omega
            | (have := z2; assumption)
        · first
            | exact bqT (by unfold smB; omega)
            | exact bqF (by unfold smB; omega)
            | (unfold smT; omega)
            | omega
            | (have := z2; assumption)

