/-! APPEND -/
theorem iand_255 (y : Int) : 0 ≤ iand y 255 ∧ iand y 255 ≤ 255 := by
  have e : (J y &&& J 255).toBitVec.toNat ≤ 255 := by
    rw [Int32.toBitVec_and, BitVec.toNat_and, show (J 255).toBitVec.toNat = 255 from bv_J (a := 255) (by decide)]
    exact Nat.and_le_right
  have t : iand y 255 = (((J y &&& J 255).toBitVec.toNat : Nat) : Int) := ti_of rfl (by omega)
  rw [t]; omega
/-- the bytes of a word; those that are none of them 0 -/
def btW (p : Int) (s : Int) : Int := iand (iushr p s) 255
theorem btW_b (p s : Int) : 0 ≤ btW p s ∧ btW p s ≤ 255 := iand_255 _
def ac (B : Nat → Int) : Nat → List Int
  | 0 => []
  | n + 1 => ac B n ++ (if B n = 0 then [] else [B n])
theorem ac_s (B : Nat → Int) (n : Nat) : ac B (n + 1) = ac B n ++ (if B n = 0 then [] else [B n]) := rfl
theorem ac_add (B : Nat → Int) (a : Nat) : ∀ b, ac B (a + b) = ac B a ++ ac (fun j => B (a + j)) b := by
  intro b
  induction b with
  | zero => rw [Nat.add_zero]; exact (List.append_nil _).symm
  | succ b ih => rw [← Nat.add_assoc, ac_s, ih, ac_s, List.append_assoc]
theorem ac_cg {B C : Nat → Int} : ∀ n, (∀ j, j < n → B j = C j) → ac B n = ac C n := by
  intro n
  induction n with
  | zero => intro _; rfl
  | succ n ih => intro a; rw [ac_s, ac_s, ih (fun j hj => a j (by omega)), a n (by omega)]
theorem ac_le (B : Nat → Int) : ∀ n, (ac B n).length ≤ n := by
  intro n
  induction n with
  | zero => exact Nat.le_refl _
  | succ n ih => rw [ac_s, List.length_append]; split <;> simp <;> omega
theorem ac_1 (B : Nat → Int) (n : Nat) : (ac B (n + 1)).length = (ac B n).length + (if B n = 0 then 0 else 1) := by
  rw [ac_s, List.length_append]; split <;> simp
def wB (p : Int) (j : Nat) : Int := btW p (24 - 8 * (j : Int))
def wd (p0 p1 p2 p3 p4 : Int) (i : Nat) : Int := if 4 ≤ i then (if 8 ≤ i then (if 12 ≤ i then (if 16 ≤ i then p4 else p3) else p2) else p1) else p0
def wB5 (p0 p1 p2 p3 p4 : Int) (i : Nat) : Int := btW (wd p0 p1 p2 p3 p4 i) (24 - 8 * ((i % 4 : Nat) : Int))
theorem ac_20 (p0 p1 p2 p3 p4 : Int) : ac (wB5 p0 p1 p2 p3 p4) 20 = ac (wB p0) 4 ++ (ac (wB p1) 4 ++ (ac (wB p2) 4 ++ (ac (wB p3) 4 ++ ac (wB p4) 4))) := by
  have c4 : ∀ j, j < 4 → (0 + j) % 4 = j ∧ (4 + j) % 4 = j ∧ (4 + (4 + j)) % 4 = j ∧ (4 + (4 + (4 + j))) % 4 = j ∧ (4 + (4 + (4 + (4 + j)))) % 4 = j := fun j hj => by omega
  rw [show 20 = 4 + (4 + (4 + (4 + 4))) from rfl, ac_add, ac_add, ac_add, ac_add]
  refine congr (congrArg _ (ac_cg 4 fun j hj => ?_)) (congr (congrArg _ (ac_cg 4 fun j hj => ?_)) (congr (congrArg _ (ac_cg 4 fun j hj => ?_)) (congr (congrArg _ (ac_cg 4 fun j hj => ?_)) (ac_cg 4 fun j hj => ?_))))
  · unfold wB5 wd wB; rw [if_neg (by omega), show j % 4 = j by omega]
  · unfold wB5 wd wB; rw [if_pos (by omega), if_neg (by omega), (c4 j hj).2.1]
  · unfold wB5 wd wB; rw [if_pos (by omega), if_pos (by omega), if_neg (by omega), (c4 j hj).2.2.1]
  · unfold wB5 wd wB; rw [if_pos (by omega), if_pos (by omega), if_pos (by omega), if_neg (by omega), (c4 j hj).2.2.2.1]
  · unfold wB5 wd wB; rw [if_pos (by omega), if_pos (by omega), if_pos (by omega), if_pos (by omega), (c4 j hj).2.2.2.2]
/-- a tape: its length in the cell a, place i; its bytes in the cell b -/
def Tape (g : XH) (a i b : Nat) (L : List Int) : Prop := hI g a i = (L.length : Nat) ∧ ∀ j, j < L.length → hI g b j = L.getD j 0
theorem Tape_s {g g1 g2 : XH} {a i b : Nat} {L : List Int} {x : Int} (Z : Tape g a i b L) (ne : ¬ a = b) (l : L.length < 200) (ni : i < hn g1 a) (nb : hn g b = 200) (rx : rg x) (e1 : g1 = sI g b (hI g a i).toNat x) (e2 : g2 = sI g1 a i (wr (hI g1 a i + 1))) : Tape g2 a i b (L ++ [x]) := by
  obtain ⟨z1, z2⟩ := Z
  have h1 : hI g1 a i = (L.length : Nat) := by rw [e1, hI_ne (fun z => ne z.symm)]; exact z1
  refine ⟨?_, fun j hj => ?_⟩
  · rw [e2, h1, wr_of (by omega) (by omega), hI_eq ni (by unfold rg; omega), List.length_append]; rfl
  · rw [List.length_append, List.length_singleton] at hj
    rw [e2, hI_ne ne, e1, z1, Int.toNat_natCast]
    by_cases c : j = L.length
    · subst c
      rw [hI_eq (by omega) rx, List.getD_eq_getElem?_getD, List.getElem?_append_right (Nat.le_refl _), Nat.sub_self]; rfl
    · rw [hI_ni (fun z => c z.symm), z2 j (by omega), List.getD_eq_getElem?_getD, List.getD_eq_getElem?_getD, List.getElem?_append_left (by omega)]
theorem btW_all {B : Nat → Int} (b : ∀ j, 0 ≤ B j ∧ B j ≤ 255) : ∀ n, ∀ x ∈ ac B n, 1 ≤ x ∧ x ≤ 255 := by
  intro n
  induction n with
  | zero => intro x hx; cases hx
  | succ n ih =>
    intro x hx
    rw [ac_s] at hx
    rcases List.mem_append.mp hx with y | y
    · exact ih x y
    · by_cases c : B n = 0
      · rw [if_pos c] at y; cases y
      · rw [if_neg c] at y
        have := List.mem_singleton.mp y
        have := b n
        omega
set_option maxHeartbeats 1000000 in
theorem c_X5_bytesIn {p0 : Int} {K : Int → Prop} {h : XH} (k : K ((ac (wB p0) 4).length : Nat)) : w_X5_bytesIn p0 K h := by
  unfold w_X5_bytesIn
  refine ⟨fun n s => ∃ j : Nat, j ≤ 4 ∧ s = 24 - 8 * (j : Int) ∧ n = ((ac (wB p0) j).length : Nat), fun _ s => (s + 8).toNat, ?_, ?_⟩
  · exact ⟨0, by omega, by omega, rfl⟩
  · intro x1 x2 rx1 rx2 z3
    obtain ⟨j, j4, es, en⟩ := z3
    have al := ac_le (wB p0) j
    refine ⟨fun c9 => ?_, fun c9 => ?_⟩
    · rw [en, show j = 4 by omega]
      exact k
    · have a1 := ac_1 (wB p0) j
      refine ⟨fun y => y = if wB p0 j = 0 then 0 else 1, ?_, ?_⟩
      · intro x4 rx4 z5
        intro x6 ex6 rx6
        intro x7 ex7 rx7
        have y01 : x4 = 0 ∨ x4 = 1 := by rw [z5]; split <;> omega
        rw [wr_of (by omega) (by omega)] at ex6 ex7
        refine ⟨⟨j + 1, by omega, by omega, ?_⟩, by dsimp only; omega⟩
        rw [ex6, en, a1, z5]
        by_cases c : wB p0 j = 0
        · rw [if_pos c, if_pos c]; omega
        · rw [if_neg c, if_neg c]; omega
      · refine ⟨fun c8 => ?_, fun c8 => ?_⟩
        · rw [es] at c8
          exact (if_pos c8).symm
        · rw [es] at c8
          exact (if_neg c8).symm
def FTp (h g : XH) : Prop := (Fr (fun b => b = 3 ∨ b = 4) h g ∧ g.length = h.length ∧ xhs g = xhs h ∧ (∀ j, ¬ j = 1 → el g 3 j = el h 3 j))
theorem FTp_tr {h g k : XH} (a : FTp h g) (b : FTp g k) : FTp h k := ⟨Fr_tr a.1 (by rw [a.2.1]; exact Nat.le_refl _) b.1, b.2.1.trans a.2.1, b.2.2.1.trans a.2.2.1, fun j hj => (b.2.2.2 j hj).trans (a.2.2.2 j hj)⟩
set_option maxHeartbeats 1000000 in
theorem c_X5_put {p0 : Int} {L : List Int} {h : XH} (T : HT h) (Z : Tape h 3 1 4 L) (l : L.length + (ac (wB p0) 4).length ≤ 200) {K : XH → Prop} (k : ∀ g, Tape g 3 1 4 (L ++ ac (wB p0) 4) → FTp h g → K g) : w_X5_put p0 K h := by
  unfold w_X5_put
  refine ⟨fun s g => ∃ j : Nat, j ≤ 4 ∧ s = 24 - 8 * (j : Int) ∧ Tape g 3 1 4 (L ++ ac (wB p0) j) ∧ FTp h g, fun s _ => (s + 8).toNat, ?_, ?_⟩
  · exact ⟨0, by omega, by omega, by rw [show ac (wB p0) 0 = [] from rfl, List.append_nil]; exact Z, Fr_rf _ _, rfl, rfl, fun _ _ => rfl⟩
  · intro x1 h3 t3 s3 rx1 z4
    obtain ⟨j, j4, es, Zj, f1, f2, f3, f4⟩ := z4
    refine ⟨fun c14 => ?_, fun c14 => ?_⟩
    · rw [show j = 4 by omega] at Zj
      exact k _ Zj ⟨f1, f2, f3, f4⟩
    · have a1 := ac_1 (wB p0) j
      have a4 : (ac (wB p0) (j + 1)).length ≤ (ac (wB p0) 4).length := by
        have := ac_add (wB p0) (j + 1) (4 - (j + 1))
        rw [show j + 1 + (4 - (j + 1)) = 4 by omega] at this
        rw [this, List.length_append]; omega
      intro x5 ex5 rx5
      rw [es] at ex5
      replace ex5 : x5 = wB p0 j := ex5
      have bb := btW_b p0 (24 - 8 * (j : Int))
      have lz : (L ++ ac (wB p0) j).length = L.length + (ac (wB p0) j).length := List.length_append
      have as_ := ac_s (wB p0) j
      refine ⟨fun g => Tape g 3 1 4 (L ++ ac (wB p0) (j + 1)) ∧ FTp h g, ?_, ?_⟩
      · intro h6 t6 s6 z7
        intro x8 ex8 rx8
        rw [wr_of (by omega) (by omega)] at ex8
        exact ⟨⟨j + 1, by omega, by omega, z7⟩, by dsimp only; omega⟩
      · refine ⟨fun c13 => ?_, fun c13 => ?_⟩
        · rw [if_pos (ex5.symm.trans c13), List.append_nil] at as_
          rw [as_]
          exact ⟨Zj, f1, f2, f3, f4⟩
        · have cn : ¬ wB p0 j = 0 := fun y => c13 (ex5.trans y)
          rw [if_neg cn] at as_ a1
          have zl := Zj.1
          refine ⟨fun c12 => ?_, fun c12 => ?_⟩
          · omega
          · refine ⟨(by omega), ?_⟩
            intro h10 eh10 t10 u10
            intro h11 eh11 t11 u11
            rw [as_, ← List.append_assoc, ← ex5]
            refine ⟨Tape_s Zj (by decide) (by omega) (hn_obj t10 (c := 6) (lyk (n := 8) t10 rfl) rfl rfl) (lyn (c := 100) (n := 200) t3 rfl) rx5 eh10 eh11, ?_, ?_, ?_, fun i hi => ?_⟩
            · have fa : Fr (fun b => b = 3 ∨ b = 4) h3 h10 := by rw [eh10]; exact Fr_sV (.inr rfl)
              have fb : Fr (fun b => b = 3 ∨ b = 4) h10 h11 := by rw [eh11]; exact Fr_sV (.inl rfl)
              exact Fr_tr (Fr_tr f1 (by omega) fa) (by rw [eh10, len_sV]; omega) fb
            · rw [eh11, eh10, len_sV, len_sV]; exact f2
            · rw [eh11, eh10, xhs_sV, xhs_sV]; exact f3
            · rw [eh11, el_ni (fun z => hi z.symm), eh10, el_ne (by decide)]; exact f4 i hi
set_option maxHeartbeats 1000000 in
theorem c_X5_hasRoomFor {p0 : Int} {h : XH} (b : 0 ≤ hI h 3 1 ∧ hI h 3 1 ≤ 200 ∧ 0 ≤ p0 ∧ p0 ≤ 20) {K : Int → Prop} (k : ∀ x, bq x (hI h 3 1 + p0 ≤ 200) → K x) : w_X5_hasRoomFor p0 K h := by
  unfold w_X5_hasRoomFor
  refine ⟨fun x => bq x (hI h 3 1 + p0 ≤ 200), ?_, ?_⟩
  · intro x1 rx1 z2
    refine ⟨(by rcases z2 with y | y; exact .inr y.1; exact .inl y.1), ?_⟩
    exact k _ z2
  · refine ⟨fun c4 => ?_, fun c4 => ?_⟩
    · rw [wr_of (by omega) (by omega)] at c4
      exact bqF (by omega)
    · rw [wr_of (by omega) (by omega)] at c4
      exact bqT (by omega)
set_option maxHeartbeats 1000000 in
theorem c_X5_length {h : XH} {K : Int → Prop} (k : K (hI h 3 1)) : w_X5_length K h := by
  unfold w_X5_length
  exact k
set_option maxHeartbeats 1000000 in
theorem c_X12_append {p0 p1 p2 p3 p4 : Int} {L : List Int} {h : XH} (T : HT h) (Z : Tape h 3 1 4 L) (l : L.length ≤ 200) {K : Int → XH → Prop} {E : Nat → XH → Prop} (k0 : 200 < L.length + (ac (wB5 p0 p1 p2 p3 p4) 20).length → E 0 (nT h)) (k : L.length + (ac (wB5 p0 p1 p2 p3 p4) 20).length ≤ 200 → ∀ g, Tape g 3 1 4 (L ++ ac (wB5 p0 p1 p2 p3 p4) 20) → FTp h g → K (((L ++ ac (wB5 p0 p1 p2 p3 p4) 20).length : Nat) : Int) g) : w_X12_append p0 p1 p2 p3 p4 K E h := by
  unfold w_X12_append
  have e20 := ac_20 p0 p1 p2 p3 p4
  have b0 := ac_le (wB p0) 4
  have b1 := ac_le (wB p1) 4
  have b2 := ac_le (wB p2) 4
  have b3 := ac_le (wB p3) 4
  have b4 := ac_le (wB p4) 4
  have ln : (ac (wB5 p0 p1 p2 p3 p4) 20).length = (ac (wB p0) 4).length + ((ac (wB p1) 4).length + ((ac (wB p2) 4).length + ((ac (wB p3) 4).length + (ac (wB p4) 4).length))) := by
    rw [e20, List.length_append, List.length_append, List.length_append, List.length_append]
  have zl := Z.1
  refine c_X5_bytesIn ?_
  intro _
  refine c_X5_bytesIn ?_
  intro _
  refine c_X5_bytesIn ?_
  intro _
  refine c_X5_bytesIn ?_
  intro _
  refine c_X5_bytesIn ?_
  intro _
  intro x6 ex6 rx6
  simp (disch := omega) only [wr_of] at ex6
  refine c_X5_hasRoomFor (by omega) ?_
  intro x7 qx7
  replace qx7 := bq_iff qx7 (show _ ↔ L.length + (ac (wB5 p0 p1 p2 p3 p4) 20).length ≤ 200 by omega)
  intro rx7 vx7
  refine ⟨fun c14 => ?_, fun c14 => ?_⟩
  · have ok := (bq1 qx7).2.2.1.mp c14
    refine c_X5_put T Z (by omega) ?_
    intro h8 Z8 F8
    intro t8 u8
    refine c_X5_put t8 Z8 (by simp only [List.length_append]; omega) ?_
    intro h9 Z9 F9
    intro t9 u9
    refine c_X5_put t9 Z9 (by simp only [List.length_append]; omega) ?_
    intro h10 Z10 F10
    intro t10 u10
    refine c_X5_put t10 Z10 (by simp only [List.length_append]; omega) ?_
    intro h11 Z11 F11
    intro t11 u11
    refine c_X5_put t11 Z11 (by simp only [List.length_append]; omega) ?_
    intro h12 Z12 F12
    intro t12 u12
    refine c_X5_length ?_
    intro _
    simp only [List.append_assoc] at Z12
    rw [← e20] at Z12
    rw [Z12.1]
    exact k ok _ Z12 (FTp_tr (FTp_tr (FTp_tr (FTp_tr F8 F9) F10) F11) F12)
  · exact k0 (by have := (bq1 qx7).2.1.mp (Decidable.not_not.mp c14); omega)
set_option maxHeartbeats 1000000 in
theorem c_L_append {p1 p2 p3 p4 p5 : Int} {L : List Int} {h : XH} (T : HT h) (Z : Tape h 3 1 4 L) (l : L.length ≤ 200) {K : Int → XH → Prop} (k0 : 200 < L.length + (ac (wB5 p1 p2 p3 p4 p5) 20).length → K 1 (nT h)) (k : L.length + (ac (wB5 p1 p2 p3 p4 p5) 20).length ≤ 200 → ∀ g g6, HT g → Tape g 3 1 4 (L ++ ac (wB5 p1 p2 p3 p4 p5) 20) → FTp h g → g6 = sL g 467 0 (i2l (((L ++ ac (wB5 p1 p2 p3 p4 p5) 20).length : Nat) : Int)) → K 0 g6) : w_L_append p1 p2 p3 p4 p5 K h := by
  unfold w_L_append
  refine c_X12_append T Z l (fun q => ⟨rfl, k0 q⟩) (fun q g z f => ?_)
  intro tx ux _
  intro h5 eh5 t5 u5
  exact k q _ _ tx z f eh5
set_option maxHeartbeats 1000000 in
theorem c_X14_byteOf {p0 p1 p2 p3 p4 p5 : Int} {h : XH} (hp : 0 ≤ p5 ∧ p5 < 20) {K : Int → Prop} (k : K (wB5 p0 p1 p2 p3 p4 p5.toNat)) : w_X14_byteOf p0 p1 p2 p3 p4 p5 K h := by
  unfold w_X14_byteOf
  refine ⟨fun y => y = wd p0 p1 p2 p3 p4 p5.toNat, ?_, ?_⟩
  · intro x1 rx1 z2
    have e := irem_pos (x := p5) (y := 4) (by unfold rg; omega) (rgk rfl) hp.1 (by decide)
    rw [e, wr_of (x := 8 * (p5 % 4)) (by omega) (by omega), wr_of (by omega) (by omega), z2]
    have e4 : ((p5.toNat % 4 : Nat) : Int) = p5 % 4 := by omega
    unfold wB5 at k
    rw [e4] at k
    exact k
  · refine ⟨fun c6 => ?_, fun c6 => ?_⟩
    · refine ⟨fun c5 => ?_, fun c5 => ?_⟩
      · refine ⟨fun c4 => ?_, fun c4 => ?_⟩
        · refine ⟨fun c3 => ?_, fun c3 => ?_⟩
          · unfold wd
            rw [if_pos (by omega), if_pos (by omega), if_pos (by omega), if_pos (by omega)]
          · unfold wd
            rw [if_pos (by omega), if_pos (by omega), if_pos (by omega), if_neg (by omega)]
        · unfold wd
          rw [if_pos (by omega), if_pos (by omega), if_neg (by omega)]
      · unfold wd
        rw [if_pos (by omega), if_neg (by omega)]
    · unfold wd
      rw [if_neg (by omega)]
set_option maxHeartbeats 1000000 in
theorem c_X14_append {p0 p1 p2 p3 p4 : Int} {L : List Int} {h : XH} (T : HT h) (Z : Tape h 437 9 441 L) (l : L.length ≤ 200) {K : Int → XH → Prop} (k0 : 200 < L.length + (ac (wB5 p0 p1 p2 p3 p4) 20).length → ∀ h1 h2, HT h1 → h1 = sI h 437 5 0 → h2 = sI h1 437 5 1 → K 0 h2) (k : L.length + (ac (wB5 p0 p1 p2 p3 p4) 20).length ≤ 200 → ∀ h1 g, HT h1 → h1 = sI h 437 5 0 → Tape g 437 9 441 (L ++ ac (wB5 p0 p1 p2 p3 p4) 20) → (Fr (fun b => b = 437 ∨ b = 441) h1 g ∧ g.length = h1.length ∧ xhs g = xhs h1 ∧ (∀ j, ¬ j = 9 → el g 437 j = el h1 437 j)) → K (((L ++ ac (wB5 p0 p1 p2 p3 p4) 20).length : Nat) : Int) g) : w_X14_append p0 p1 p2 p3 p4 K h := by
  unfold w_X14_append
  have bb : ∀ j, 0 ≤ wB5 p0 p1 p2 p3 p4 j ∧ wB5 p0 p1 p2 p3 p4 j ≤ 255 := fun j => btW_b _ _
  have le20 := ac_le (wB5 p0 p1 p2 p3 p4) 20
  intro h1 eh1 t1 u1
  have Z1 : Tape h1 437 9 441 L := ⟨by rw [eh1, hI_ni (by decide)]; exact Z.1, fun j hj => by rw [eh1, hI_ne (by decide)]; exact Z.2 j hj⟩
  have z1 := Z1.1
  refine ⟨fun n v => 0 ≤ v ∧ v ≤ 20 ∧ n = ((ac (wB5 p0 p1 p2 p3 p4) v.toNat).length : Nat), fun _ v => (20 - v).toNat, ?_, ?_⟩
  · exact ⟨by omega, by omega, rfl⟩
  · intro x2 x3 rx2 rx3 z4
    obtain ⟨y0, y1, yn⟩ := z4
    refine ⟨fun c31 => ?_, fun c31 => ?_⟩
    · rw [show x3.toNat = 20 by omega] at yn
      refine ⟨fun x => bq x (L.length + (ac (wB5 p0 p1 p2 p3 p4) 20).length ≤ 200), ?_, ?_⟩
      · intro x5 rx5 z6
        refine c_X14_refused z6 ?_
        intro x7 h8 qx7
        intro t8 u8
        intro rx7 vx7
        refine ⟨fun c23 => ?_, fun c23 => ?_⟩
        · obtain ⟨b_1, e_1⟩ : (L.length + (ac (wB5 p0 p1 p2 p3 p4) 20).length ≤ 200) ∧ h8 = h1 := by
            rcases qx7 with ⟨_, y, z⟩ | ⟨y, _⟩
            · exact ⟨y, z⟩
            · omega
          subst e_1
          refine ⟨fun v g => 0 ≤ v ∧ v ≤ 20 ∧ Tape g 437 9 441 (L ++ ac (wB5 p0 p1 p2 p3 p4) v.toNat) ∧ (Fr (fun b => b = 437 ∨ b = 441) h8 g ∧ g.length = h8.length ∧ xhs g = xhs h8 ∧ (∀ j, ¬ j = 9 → el g 437 j = el h8 437 j)), fun v _ => (20 - v).toNat, ?_, ?_⟩
          · exact ⟨by omega, by omega, by rw [show ac (wB5 p0 p1 p2 p3 p4) (0 : Int).toNat = [] from rfl, List.append_nil]; exact Z1, Fr_rf _ _, rfl, rfl, fun _ _ => rfl⟩
          · intro x10 h12 t12 s12 rx10 z13
            obtain ⟨y2, y3, Zj, f1, f2, f3, f4⟩ := z13
            have zl := Zj.1
            refine ⟨fun c22 => ?_, fun c22 => ?_⟩
            · rw [show x10.toNat = 20 by omega] at Zj
              rw [Zj.1]
              exact k b_1 _ _ t8 eh1 Zj ⟨f1, f2, f3, f4⟩
            · have as_ := ac_s (wB5 p0 p1 p2 p3 p4) x10.toNat
              have a1 := ac_1 (wB5 p0 p1 p2 p3 p4) x10.toNat
              have a4 : (ac (wB5 p0 p1 p2 p3 p4) (x10.toNat + 1)).length ≤ (ac (wB5 p0 p1 p2 p3 p4) 20).length := by
                have := ac_add (wB5 p0 p1 p2 p3 p4) (x10.toNat + 1) (20 - (x10.toNat + 1))
                rw [show x10.toNat + 1 + (20 - (x10.toNat + 1)) = 20 by omega] at this
                rw [this, List.length_append]; omega
              have lz : (L ++ ac (wB5 p0 p1 p2 p3 p4) x10.toNat).length = L.length + (ac (wB5 p0 p1 p2 p3 p4) x10.toNat).length := List.length_append
              have bj := bb x10.toNat
              refine c_X14_byteOf (by omega) ?_
              intro rx14
              refine ⟨fun g => Tape g 437 9 441 (L ++ ac (wB5 p0 p1 p2 p3 p4) (x10.toNat + 1)) ∧ (Fr (fun b => b = 437 ∨ b = 441) h8 g ∧ g.length = h8.length ∧ xhs g = xhs h8 ∧ (∀ j, ¬ j = 9 → el g 437 j = el h8 437 j)), ?_, ?_⟩
              · intro h15 t15 s15 z16
                intro x17 ex17 rx17
                rw [wr_of (by omega) (by omega)] at ex17
                have tn : x17.toNat = x10.toNat + 1 := by omega
                refine ⟨⟨by omega, by omega, ?_⟩, by dsimp only; omega⟩
                rw [tn]
                exact z16
              · refine ⟨fun c21 => ?_, fun c21 => ?_⟩
                · rw [if_pos c21, List.append_nil] at as_
                  rw [as_]
                  exact ⟨Zj, f1, f2, f3, f4⟩
                · rw [if_neg c21] at as_ a1
                  refine ⟨(by omega), ?_⟩
                  intro h19 eh19 t19 u19
                  intro h20 eh20 t20 u20
                  rw [as_, ← List.append_assoc]
                  refine ⟨Tape_s Zj (by decide) (by omega) (by rw [(lstn t19).2.2.2.2.1]; decide) (lyn (c := 100) (n := 200) t12 rfl) rx14 eh19 eh20, ?_, ?_, ?_, fun i hi => ?_⟩
                  · have fa : Fr (fun b => b = 437 ∨ b = 441) h12 h19 := by rw [eh19]; exact Fr_sV (.inr rfl)
                    have fb : Fr (fun b => b = 437 ∨ b = 441) h19 h20 := by rw [eh20]; exact Fr_sV (.inl rfl)
                    exact Fr_tr (Fr_tr f1 (by omega) fa) (by rw [eh19, len_sV]; omega) fb
                  · rw [eh20, eh19, len_sV, len_sV]; exact f2
                  · rw [eh20, eh19, xhs_sV, xhs_sV]; exact f3
                  · rw [eh20, el_ni (fun z => hi z.symm), eh19, el_ne (by decide)]; exact f4 i hi
        · have q_1 : ¬ (L.length + (ac (wB5 p0 p1 p2 p3 p4) 20).length ≤ 200) ∧ h8 = sI h1 437 5 1 := by
            rcases qx7 with ⟨y, _⟩ | ⟨_, y, z⟩
            · omega
            · exact ⟨y, z⟩
          exact k0 (by have := q_1.1; omega) _ _ t1 eh1 q_1.2
      · refine ⟨fun c24 => ?_, fun c24 => ?_⟩
        · rw [wr_of (by omega) (by omega)] at c24
          exact bqF (by omega)
        · rw [wr_of (by omega) (by omega)] at c24
          exact bqT (by omega)
    · have a1 := ac_1 (wB5 p0 p1 p2 p3 p4) x3.toNat
      have al := ac_le (wB5 p0 p1 p2 p3 p4) x3.toNat
      refine c_X14_byteOf (by omega) ?_
      intro rx25
      refine ⟨fun y => y = if wB5 p0 p1 p2 p3 p4 x3.toNat = 0 then 0 else 1, ?_, ?_⟩
      · intro x26 rx26 z27
        intro x28 ex28 rx28
        intro x29 ex29 rx29
        have y01 : x26 = 0 ∨ x26 = 1 := by rw [z27]; split <;> omega
        rw [wr_of (by omega) (by omega)] at ex28 ex29
        have tn : x29.toNat = x3.toNat + 1 := by omega
        refine ⟨⟨by omega, by omega, ?_⟩, by dsimp only; omega⟩
        rw [tn, a1, ex28, yn, z27]
        by_cases c : wB5 p0 p1 p2 p3 p4 x3.toNat = 0
        · rw [if_pos c, if_pos c]; omega
        · rw [if_neg c, if_neg c]; omega
      · refine ⟨fun c30 => ?_, fun c30 => ?_⟩
        · rw [if_neg c30]
        · rw [if_pos (Decidable.not_not.mp c30)]
theorem Tape_of {h : XH} (z : TP h) : ∃ L : List Int, L.length ≤ 200 ∧ Tape h 3 1 4 L ∧ Tape h 437 9 441 L ∧ ∀ x ∈ L, 1 ≤ x ∧ x ≤ 255 := by
  obtain ⟨z0, z1, z9, -, zv⟩ := z
  have gd : ∀ j, j < (hI h 3 1).toNat → ((List.range (hI h 3 1).toNat).map (fun i => hI h 4 i)).getD j 0 = hI h 4 j := fun j hj => by
    rw [List.getD_eq_getElem?_getD, List.getElem?_map, List.getElem?_range hj]; rfl
  have ln : ((List.range (hI h 3 1).toNat).map (fun i => hI h 4 i)).length = (hI h 3 1).toNat := by rw [List.length_map, List.length_range]
  refine ⟨(List.range (hI h 3 1).toNat).map (fun i => hI h 4 i), by omega, ⟨by omega, fun j hj => (gd j (by omega)).symm⟩, ⟨by omega, fun j hj => ?_⟩, fun x hx => ?_⟩
  · rw [gd j (by omega)]; exact (zv j (by omega)).1
  · obtain ⟨i, hi, e⟩ := List.mem_map.mp hx
    have := List.mem_range.mp hi
    rw [← e]
    exact (zv i (by omega)).2
theorem TP_mk {g : XH} {M : List Int} (l : M.length ≤ 200) (a : Tape g 3 1 4 M) (b : Tape g 437 9 441 M) (e : hI g 437 10 = hI g 3 2) (r : ∀ x ∈ M, 1 ≤ x ∧ x ≤ 255) : TP g := by
  have a1 := a.1
  have b1 := b.1
  refine ⟨by omega, by omega, by omega, e, fun i hi => ?_⟩
  have hi2 : i < M.length := by omega
  rw [a.2 i hi2, b.2 i hi2]
  refine ⟨rfl, ?_⟩
  rw [List.getD_eq_getElem?_getD, List.getElem?_eq_getElem hi2]
  exact r _ (List.getElem_mem hi2)
theorem d_append {h : XH} {nd : Nat → ND} {o u p1 p2 p3 p4 p5 : Int} {c : Nat} (T : HT h) (R : Inv h nd o u c) {K : Int → XH → Prop} {J : XH → Prop} (k : ∀ h' o' u', HT h' → Inv h' nd o' u' (c + 1) → Gr (1 + 0) (xcs none + 0) h h' → J h') : w_L_append p1 p2 p3 p4 p5 (LDw h (fun g Q => w_X14_append p1 p2 p3 p4 p5 Q g) K J) h := by
  have L := HT_len T
  obtain ⟨L0, l2, Z, Z9, rr⟩ := Tape_of R.1.2.2.2.2.2
  refine c_L_append T Z l2 (fun q => ?_) (fun q g g6 Tg Zg F e6 => ?_)
  · intro t1 u1 rx
    have A := Ask_nT T R
    have s : ∀ b, b < h.length → sameC h (nT h) b := fun b hb => nT_s h hb
    refine c_X14_append t1 (L := L0) ⟨(sameC_I (s 437 (by omega)) 9).trans Z9.1, fun j hj => (sameC_I (s 441 (by omega)) j).trans (Z9.2 j hj)⟩ l2 (fun q1 h1 h2 th e1 e2 => ?_) (fun q1 => by omega)
    intro t2 u2 ry
    obtain ⟨z1, z2⟩ := Ask_5 t1 A.1 th (rgk rfl) e1 e2
    have z3 := Ask_tr A z1
    exact fin_ z2 (fun z => by cases z) (k h2 o u t2 (Inv_mono (Nat.le_succ c) z3.1) z3.2.2)
  · intro t1 u1 rx
    obtain ⟨f1, f2, f3, f4⟩ := F
    have s6 : ∀ b, ¬ b = 467 → sameC g g6 b := fun b n => by rw [e6]; exact sameC_sV (fun z => n z.symm)
    have s : ∀ b, b < h.length → ¬ (b = 3 ∨ b = 4) → ¬ b = 467 → sameC h g6 b := fun b hb n m => sameC_tr (f1 b hb n) (s6 b m)
    refine c_X14_append t1 (L := L0) ⟨(sameC_I (s 437 (by omega) (by omega) (by decide)) 9).trans Z9.1, fun j hj => (sameC_I (s 441 (by omega) (by omega) (by decide)) j).trans (Z9.2 j hj)⟩ l2 (fun q1 => by omega) (fun q1 h1 g7 th e1 Z7 F7 => ?_)
    obtain ⟨m1, m2, m3, m4⟩ := F7
    intro t7 u7 ry
    have l1 : h1.length = h.length := by rw [e1, e6, len_sV, len_sV]; exact f2
    have s7 : ∀ b, b < h.length → ¬ (b = 437 ∨ b = 441) → sameC g6 g7 b := fun b hb n => sameC_tr (by rw [e1]; exact sameC_sV (fun z => n (.inl z.symm))) (m1 b (by omega) n)
    have g37 : ∀ j, ¬ j = 5 → ¬ j = 9 → el g7 437 j = el h 437 j := fun j n m => by rw [m4 j m, e1, el_ni (fun z => n z.symm), sameC_el (s 437 (by omega) (by omega) (by decide))]
    have Zc : Tape g7 3 1 4 (L0 ++ ac (wB5 p1 p2 p3 p4 p5) 20) := ⟨by rw [sameC_I (s7 3 (by omega) (by omega)), sameC_I (s6 3 (by decide))]; exact Zg.1, fun j hj => by rw [sameC_I (s7 4 (by omega) (by omega)), sameC_I (s6 4 (by decide))]; exact Zg.2 j hj⟩
    have ll : (L0 ++ ac (wB5 p1 p2 p3 p4 p5) 20).length ≤ 200 := by rw [List.length_append]; exact q
    have tp : TP g7 := TP_mk ll Zc Z7 (by
      rw [sameC_I (s7 3 (by omega) (by omega)), sameC_I (s6 3 (by decide))]
      refine ((congrArg gvI (g37 10 (by decide) (by decide))).trans R.1.2.2.2.2.2.2.2.2.1).trans ?_
      exact (congrArg gvI (f4 2 (by decide))).symm) (fun x hx => by
      rcases List.mem_append.mp hx with y | y
      · exact rr x y
      · exact btW_all (fun j => btW_b _ _) 20 x y)
    have I : Inv g7 nd o u c := Inv_fr (S := fun b => b = 3 ∨ b = 4 ∨ b = 437 ∨ b = 441 ∨ b = 467) T R (fun b hb n => sameC_tr (s b hb (by omega) (by omega)) (s7 b hb (by omega))) (fun b y => by omega) (fun j _ => (sameC_el (s7 2 (by omega) (by omega)) j).trans (sameC_el (s 2 (by omega) (by omega) (by decide)) j)) (fun j hj => g37 j (by omega) (by omega)) tp
    refine fin_ ?_ (fun _ => ?_) (k g7 o u t7 (Inv_mono (Nat.le_succ c) I) ⟨by omega, ?_⟩)
    · unfold hI
      rw [m4 5 (by decide), e1]
      exact hI_eq (by rw [(lstn t1).2.2.2.2.1]; decide) (rgk rfl)
    · rw [sameC_L (s7 467 (by omega) (by omega)), e6]
      exact hL_eq (by rw [lyn (c := 101) (n := 1) Tg rfl]; decide)
    · rw [m3, e1, e6, xhs_sV, xhs_sV, f3]; omega
