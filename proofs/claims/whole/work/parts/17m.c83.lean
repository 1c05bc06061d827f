/-! A STEP, the reference -/
def nz1 (a : Nat) : Nat × Nat := if a < 256 then (a, 31) else (a >>> 8, 23)
def nz2 (a : Nat) : Nat × Nat := if (nz1 a).1 < 16 then nz1 a else ((nz1 a).1 >>> 4, (nz1 a).2 - 4)
def nz3 (a : Nat) : Nat × Nat := if (nz2 a).1 < 4 then nz2 a else ((nz2 a).1 >>> 2, (nz2 a).2 - 2)
def nlzF (a : Nat) : Nat := (nz3 a).2 - ((nz3 a).1 >>> 1)
theorem nlz_b : ∀ q r : Fin 64, 0 < 64 * q.1 + r.1 → nlzF (64 * q.1 + r.1) ≤ 31 ∧ (31 - (nlzF (64 * q.1 + r.1) : Int)) = hiB (64 * q.1 + r.1) 12 := by decide +kernel
theorem nlz_hi {a : Nat} (h : a < 4096) (h0 : 0 < a) : nlzF a ≤ 31 ∧ (31 - (nlzF a : Int)) = hiB a 12 := by
  have e : 64 * (a / 64) + a % 64 = a := by omega
  have := nlz_b ⟨a / 64, by omega⟩ ⟨a % 64, by omega⟩ (by dsimp only; omega)
  dsimp only at this
  rw [e] at this
  exact this
theorem AR_st {h g : XH} {a i : Nat} {f : Nat → Int} {x : Int} (A : AR h a f) (hi : i < 12) (rx : rg x) (e : g = sI h a i x) : AR g a (fun q => if q = i then x else f q) := by
  obtain ⟨a1, a2, a3⟩ := A
  refine ⟨by rw [e, hk_sV]; exact a1, by rw [e, hn_sV]; exact a2, fun q hq => ?_⟩
  rw [e]
  show hI (sI h a i x) a q = if q = i then x else f q
  by_cases c : q = i
  · rw [if_pos c, c]; exact hI_eq (by omega) rx
  · rw [if_neg c, hI_ni (fun z => c z.symm)]; exact a3 q hq
theorem AR_cg {h : XH} {a : Nat} {f g : Nat → Int} (A : AR h a f) (e : ∀ q, q < 12 → g q = f q) : AR h a g := ⟨A.1, A.2.1, fun i hi => by rw [e i hi]; exact A.2.2 i hi⟩
set_option maxHeartbeats 1000000 in
theorem c_J6_numberOfLeadingZeros_0f7a4 {a : Nat} {h : XH} (lt : a < 4096) (a0 : 0 < a) {K : Int → Prop} (k : K (nlzF a : Nat)) : w_J6_numberOfLeadingZeros_0f7a4 (a : Int) K h := by
  unfold w_J6_numberOfLeadingZeros_0f7a4
  refine ⟨fun c28 => ?_, fun c28 => ?_⟩
  · refine ⟨fun x n => x = (a : Int) ∧ n = 31, ?_, ?_⟩
    · intro x1 x2 rx1 rx2 z3
      refine ⟨fun x n => ∃ y m : Nat, x = (y : Int) ∧ n = (m : Int) ∧ (y, m) = nz1 a ∧ y < 256 ∧ 15 ≤ m ∧ m ≤ 31, ?_, ?_⟩
      · intro x4 x5 rx4 rx5 z6
        refine ⟨fun x n => ∃ y m : Nat, x = (y : Int) ∧ n = (m : Int) ∧ (y, m) = nz2 a ∧ y < 16 ∧ 11 ≤ m ∧ m ≤ 31, ?_, ?_⟩
        · intro x7 x8 rx7 rx8 z9
          refine ⟨fun x n => ∃ y m : Nat, x = (y : Int) ∧ n = (m : Int) ∧ (y, m) = nz3 a ∧ y < 4 ∧ 9 ≤ m ∧ m ≤ 31, ?_, ?_⟩
          · intro x10 x11 rx10 rx11 z12
            obtain ⟨y, m, e1, e2, e3, e4, e5⟩ := z12
            have e8 : iushr (y : Int) 1 = ((y >>> 1 : Nat) : Int) := iushr_nat (n := 1) (by decide) (by omega)
            have : y >>> 1 = y / 2 := Nat.shiftRight_eq_div_pow y 1
            rw [e1, e2, e8, wr_of (by omega) (by omega)]
            have en : ((m : Int) - ((y >>> 1 : Nat) : Int)) = (nlzF a : Nat) := by unfold nlzF; rw [← e3]; dsimp only; omega
            rw [en]
            exact k
          · refine ⟨fun c15 => ?_, fun c15 => ?_⟩
            · obtain ⟨y, m, e1, e2, e3, e4, e5⟩ := z9
              exact ⟨y, m, e1, e2, by unfold nz3; rw [← e3, if_pos (by dsimp only; omega)], by omega, by omega, by omega⟩
            · intro x13 ex13 rx13
              intro x14 ex14 rx14
              obtain ⟨y, m, e1, e2, e3, e4, e5⟩ := z9
              rw [e1] at ex14 c15
              rw [e2, wr_of (by omega) (by omega)] at ex13
              have e8 : iushr (y : Int) 2 = ((y >>> 2 : Nat) : Int) := iushr_nat (n := 2) (by decide) (by omega)
              rw [e8] at ex14
              have : y >>> 2 = y / 4 := Nat.shiftRight_eq_div_pow y 2
              exact ⟨y >>> 2, m - 2, ex14, by omega, by unfold nz3; rw [← e3, if_neg (by dsimp only; omega)], by omega, by omega, by omega⟩
        · refine ⟨fun c18 => ?_, fun c18 => ?_⟩
          · obtain ⟨y, m, e1, e2, e3, e4, e5⟩ := z6
            exact ⟨y, m, e1, e2, by unfold nz2; rw [← e3, if_pos (by dsimp only; omega)], by omega, by omega, by omega⟩
          · intro x16 ex16 rx16
            intro x17 ex17 rx17
            obtain ⟨y, m, e1, e2, e3, e4, e5⟩ := z6
            rw [e1] at ex17 c18
            rw [e2, wr_of (by omega) (by omega)] at ex16
            have e8 : iushr (y : Int) 4 = ((y >>> 4 : Nat) : Int) := iushr_nat (n := 4) (by decide) (by omega)
            rw [e8] at ex17
            have : y >>> 4 = y / 16 := Nat.shiftRight_eq_div_pow y 4
            exact ⟨y >>> 4, m - 4, ex17, by omega, by unfold nz2; rw [← e3, if_neg (by dsimp only; omega)], by omega, by omega, by omega⟩
      · refine ⟨fun c21 => ?_, fun c21 => ?_⟩
        · exact ⟨a, 31, z3.1, z3.2, by unfold nz1; rw [if_pos (by omega)], by omega, by omega, by omega⟩
        · intro x19 ex19 rx19
          intro x20 ex20 rx20
          obtain ⟨e1, e2⟩ := z3
          rw [e1] at c21 ex20
          rw [e2, wr_of (by omega) (by omega)] at ex19
          have e8 : iushr (a : Int) 8 = ((a >>> 8 : Nat) : Int) := iushr_nat (n := 8) (by decide) (by omega)
          rw [e8] at ex20
          have : a >>> 8 = a / 256 := Nat.shiftRight_eq_div_pow a 8
          exact ⟨a >>> 8, 23, ex20, by omega, by unfold nz1; rw [if_neg (by omega)], by omega, by omega, by omega⟩
    · refine ⟨fun c24 => ?_, fun c24 => ?_⟩
      · exact ⟨rfl, rfl⟩
      · intro x22 ex22 rx22
        intro x23 ex23 rx23
        omega
  · refine ⟨_, fun x25 rx25 z26 => z26, ?_⟩
    refine ⟨fun c27 => ?_, fun c27 => ?_⟩
    · omega
    · omega
set_option maxHeartbeats 1000000 in
theorem c_X14_goesWrong {x y z : Int} {r m : Nat} {h : XH} {P : Nat → Int} (T : HT h) (en : nw h = P) (W : WF P m) (er : rh P = r) (r0 : rg x) (r1 : rg y) (r2 : rg z) {K : Int → XH → Prop} (k : ∀ g, Fr (fun b => b = 438) h g → g.length = h.length → xhs g = xhs h → nw g = whyN P r x y z → K (-1) g) : w_X14_goesWrong x y z K h := by
  unfold w_X14_goesWrong
  have r3 : r < 3 := by rw [← er]; exact rh_lt W
  have hr : hI h 438 1 = r := by rw [← er]; exact hr_ en.symm W
  refine c_X14_putRoot (r := r) (by decide) hr r3 ?_
  intro h1 eh1
  intro t1 u1
  refine c_X14_putRoot (r := r) (by decide) (by rw [eh1, hI_ni (by first | (simp; done) | (simp; omega))]; exact hr) r3 ?_
  intro h2 eh2
  intro t2 u2
  refine c_X14_putRoot (r := r) (by decide) (by rw [eh2, hI_ni (by first | (simp; done) | (simp; omega)), eh1, hI_ni (by first | (simp; done) | (simp; omega))]; exact hr) r3 ?_
  intro h3 eh3
  intro t3 u3
  have n1 := W_nw T (by first | (simp; done) | (simp; omega)) r0 eh1 en
  have n2 := W_nw t1 (by first | (simp; done) | (simp; omega)) r1 eh2 n1
  have n3 := W_nw t2 (by first | (simp; done) | (simp; omega)) r2 eh3 n2
  refine k h3 ?_ (by rw [eh3, eh2, eh1, len_sV, len_sV, len_sV]) (by rw [eh3, eh2, eh1, xhs_sV, xhs_sV, xhs_sV]) n3
  rw [eh3, eh2, eh1]
  exact fun b _ n => sameC_tr (sameC_sV (fun z => n z.symm)) (sameC_tr (sameC_sV (fun z => n z.symm)) (sameC_sV (fun z => n z.symm)))
