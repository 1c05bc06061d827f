/-! MIRRORS THAT COUNT WRONG SUMS -/
def mbN (N : Nat → Int) (t : Int) (s : Nat) : Nat → (Nat → Int)
  | 0 => N
  | j + 1 => if N (1715 + 81 * ((t + (j : Int)) % N 3).toNat + 2 * s) = 1 then cuN (mbN N t s j) ((t + (j : Int)) % N 3).toNat else mbN N t s j
def mfN (N : Nat → Int) (t : Int) (s : Nat) : Nat → Int := mbN N t s (if mirK N t s = -1 then (N 3).toNat else (mirK N t s).toNat)
section MB
variable {N : Nat → Int} {t : Int} {s : Nat}
theorem mb_s (j : Nat) : mbN N t s (j + 1) = if N (1715 + 81 * ((t + (j : Int)) % N 3).toNat + 2 * s) = 1 then cuN (mbN N t s j) ((t + (j : Int)) % N 3).toNat else mbN N t s j := rfl
theorem m3_lt (h3 : 0 < N 3 ∧ N 3 ≤ 3) (j : Nat) : ((t + (j : Int)) % N 3).toNat < 3 := by
  have a1 := Int.emod_nonneg (t + (j : Int)) (show N 3 ≠ 0 by omega)
  have a2 := Int.emod_lt_of_pos (t + (j : Int)) h3.1
  omega
theorem mb_at (h3 : 0 < N 3 ∧ N 3 ≤ 3) (i : Nat) (n : ∀ k, k < 3 → ¬ i = 1714 + 81 * k) : ∀ j, mbN N t s j i = N i := by
  intro j
  induction j with
  | zero => rfl
  | succ j ih =>
    rw [mb_s]
    split
    · rw [cu_at i (n _ (m3_lt h3 j))]; exact ih
    · exact ih
theorem mb_b (h3 : 0 < N 3 ∧ N 3 ≤ 3) (k : Nat) : ∀ j, N (1714 + 81 * k) ≤ mbN N t s j (1714 + 81 * k) ∧ mbN N t s j (1714 + 81 * k) ≤ N (1714 + 81 * k) + j := by
  intro j
  induction j with
  | zero => exact ⟨Int.le_refl _, by show N _ ≤ _; omega⟩
  | succ j ih =>
    rw [mb_s]
    split
    · by_cases c : k = ((t + (j : Int)) % N 3).toNat
      · rw [← c, cu_k]; omega
      · rw [cu_at _ (by omega)]; omega
    · omega
theorem E8_mb (h3 : 0 < N 3 ∧ N 3 ≤ 3) (j : Nat) : E8 N (mbN N t s j) := fun i h n => mb_at h3 i (fun k hk => by omega) j
theorem WF_mb {m : Nat} (W : WF N m) (h3 : 0 < N 3 ∧ N 3 ≤ 3) (lk : ∀ k : Nat, k < 3 → N (1714 + 81 * k) + 3 ≤ 100000) : ∀ j, j ≤ 3 → WF (mbN N t s j) m := by
  intro j
  induction j with
  | zero => intro _; exact W
  | succ j ih =>
    intro hj
    rw [mb_s]
    split
    · have k3 := m3_lt (t := t) h3 j
      exact WF_cu (ih (by omega)) k3 (by have := (mb_b (t := t) (s := s) h3 ((t + (j : Int)) % N 3).toNat j).2; have := lk _ k3; omega)
    · exact ih (by omega)
theorem mb_why {r : Nat} {a b c : Int} (hr : r < 3) (h3 : 0 < N 3 ∧ N 3 ≤ 3) : ∀ j, s < 40 → mbN (whyN N r a b c) t s j = whyN (mbN N t s j) r a b c := by
  intro j hs
  induction j with
  | zero => rfl
  | succ j ih =>
    have k3 := m3_lt (t := t) h3 j
    have e3 : whyN N r a b c 3 = N 3 := why_at 3 (by omega)
    rw [mb_s, mb_s, e3, why_at _ (by omega), ih]
    split
    · rw [cu_why hr]
    · rfl
theorem mirK_why {r : Nat} {a b c : Int} (hr : r < 3) (h3 : 0 < N 3 ∧ N 3 ≤ 3) (W4 : s < 40) : mirK (whyN N r a b c) t s = mirK N t s := by
  unfold mirK
  rw [why_at 3 (by omega)]
  refine fnd_cg _ (fun k hk => ?_)
  have k3 := m3_lt (t := t) h3 k
  unfold okM
  rw [why_at _ (by omega), why_at _ (by omega), show nV (whyN N r a b c) s 4 = nV N s 4 from why_at _ (by omega)]
theorem mf_why {r : Nat} {a b c : Int} (hr : r < 3) (h3 : 0 < N 3 ∧ N 3 ≤ 3) (W4 : s < 40) : mfN (whyN N r a b c) t s = whyN (mfN N t s) r a b c := by
  unfold mfN
  rw [mirK_why hr h3 W4, why_at 3 (by omega), mb_why hr h3 _ W4]
theorem mirN_why {r : Nat} {a b c : Int} (hr : r < 3) (h3 : 0 < N 3 ∧ N 3 ≤ 3) (W4 : s < 40) : mirN (whyN N r a b c) t s = mirN N t s := by
  unfold mirN
  rw [mirK_why hr h3 W4, why_at 3 (by omega)]
end MB
set_option maxHeartbeats 4000000 in
theorem c_mirC {s : Nat} {t : Int} {h : XH} {N : Nat → Int} {nd : Nat → ND} {m : Nat} (T : HT h) (C : CS h 8 N nd) (W : WF N m) (hs : s < vc N) (ht : 0 ≤ t ∧ t < 100000) (lk : ∀ k : Nat, k < 3 → N (1714 + 81 * k) + 3 ≤ 100000) (p3 : 0 < N 3) {K : Int → XH → Prop} (k : ∀ g, Fr (fun b => b = 40) h g → g.length = h.length → xhs g = xhs h → CS g 8 (mfN N t s) nd → K (mirN N t s) g) : w_X11_mirrorFor (s : Int) t 1 K h := by
  unfold w_X11_mirrorFor
  have v40 := vc64 W.1
  have vcN : vc N = (N 4).toNat := rfl
  have v4 := W.1.2.2.2.1
  obtain ⟨-, -, n2, n2', n3, n3', wm⟩ := W.2.2
  have h3p : 0 < N 3 ∧ N 3 ≤ 3 := ⟨p3, n3'⟩
  refine ⟨fun x g => ∃ j : Nat, x = (j : Int) ∧ (j : Int) ≤ N 3 ∧ CS g 8 (mbN N t s j) nd ∧ (Fr (fun b => b = 40) h g ∧ g.length = h.length ∧ xhs g = xhs h) ∧ ∀ i : Nat, i < j → okM N s ((t + (i : Int)) % N 3).toNat = false, fun x _ => (N 3 - x).toNat, ?_, ?_⟩
  · exact ⟨0, rfl, by omega, C, ⟨Fr_rf _ _, rfl, rfl⟩, fun i hi => by omega⟩
  · intro x1 h3 t3 s3 rx1 z4
    obtain ⟨j, hj, z1, C3, F3, za⟩ := z4
    have W3 := WF_mb (t := t) (s := s) W h3p lk j (by omega)
    obtain ⟨-, e6, -, -, cm⟩ := C3.2.2.2
    have a3_ : mbN N t s j 3 = N 3 := mb_at h3p 3 (fun k hk => by omega) j
    have e6 : hI h3 8 6 = N 3 := e6.trans a3_
    have vc3 : vc (mbN N t s j) = vc N := E8_c (E8_mb h3p j)
    obtain ⟨-, -, -, -, e17, -⟩ := V8 C3.1 (show s < vc (mbN N t s j) by rw [vc3]; exact hs)
    rw [E8_v (E8_mb h3p j) (by omega) (by decide)] at e17
    refine ⟨fun c23 => ?_, fun c23 => ?_⟩
    · have jn : j = (N 3).toNat := by omega
      have mk : mirK N t s = -1 := fnd_no (fun i hi => za i (by omega))
      have e1 : mirN N t s = -1 := by unfold mirN; rw [if_pos mk]
      have e2 : mfN N t s = mbN N t s j := by unfold mfN; rw [if_pos mk, jn]
      rw [← e1]
      exact k h3 F3.1 F3.2.1 F3.2.2 (by rw [e2]; exact C3)
    · refine ⟨(by omega), ?_⟩
      refine ⟨(by omega), ?_⟩
      intro x7 ex7 rx7
      rw [e6, irem_pos (x := t) (by unfold rg; omega) (by unfold rg; omega) ht.1 p3] at ex7
      have q1 := Int.emod_nonneg t (show N 3 ≠ 0 by omega)
      have q2 := Int.emod_lt_of_pos t p3
      rw [wr_of (by omega) (by omega), irem_pos (by unfold rg; omega) (by unfold rg; omega) (by omega) p3, Int.emod_add_emod] at ex7
      have q3 := Int.emod_nonneg (t + x1) (show N 3 ≠ 0 by omega)
      have q4 := Int.emod_lt_of_pos (t + x1) p3
      obtain ⟨a, ea⟩ : ∃ a : Nat, x7 = a := ⟨x7.toNat, by omega⟩
      have a3 : a < 3 := by omega
      rw [hj] at ex7
      have ta : ((t + (j : Int)) % N 3).toNat = a := by rw [← ex7, ea]; rfl
      have ok3 := cm a a3
      have d5 : mbN N t s j (1715 + 81 * a + 2 * s) = N (1715 + 81 * a + 2 * s) := mb_at h3p _ (fun k hk => by omega) j
      have d6 : mbN N t s j (1716 + 81 * a + 2 * s) = N (1716 + 81 * a + 2 * s) := mb_at h3p _ (fun k hk => by omega) j
      refine ⟨fun g => CS g 8 (mbN N t s (j + 1)) nd ∧ (Fr (fun b => b = 40) h g ∧ g.length = h.length ∧ xhs g = xhs h) ∧ okM N s a = false, ?_, ?_⟩
      · intro h8 t8 s8 z9
        intro x10 ex10 rx10
        rw [wr_of (by omega) (by omega)] at ex10
        obtain ⟨y1, y2, y3⟩ := z9
        refine ⟨⟨j + 1, by omega, by omega, y1, y2, fun i hi => ?_⟩, by dsimp only; omega⟩
        by_cases c : i = j
        · rw [c, ta]; exact y3
        · exact za i (by omega)
      · refine ⟨fun c22 => ?_, fun c22 => ?_⟩
        · omega
        · refine ⟨(by omega), ?_⟩
          refine c_X12_has (by omega) ?_
          intro x12 qx12
          rw [ea, Int.toNat_natCast, Int.toNat_natCast] at qx12
          have b41 := ok3.2.1 s (by omega)
          rw [d5] at b41
          replace qx12 := bq_iff qx12 b41
          intro rx12 vx12
          refine ⟨fun c21 => ?_, fun c21 => ?_⟩
          · have no : ¬ N (1715 + 81 * a + 2 * s) = 1 := fun y => (bq1 qx12).2.1.mp c21 ⟨by omega, y⟩
            exact ⟨by rw [mb_s, ta, if_neg no]; exact C3, F3, by unfold okM; rw [df no, Bool.false_and]⟩
          · have of_ := ((bq1 qx12).2.2.1.mp c21).2
            have es := ok3.2.2 s (by omega) (by rw [d5]; exact of_)
            rw [d6] at es
            intro x13 ex13 rx13
            rw [wr_of (x := x7 * 40) (by omega) (by omega), wr_of (by omega) (by omega)] at ex13
            refine ⟨(by omega), ?_⟩
            refine ⟨(by omega), ?_⟩
            refine ⟨fun c20 => ?_, fun c20 => ?_⟩
            · have e42 : hI h3 42 x13.toNat = N (1716 + 81 * a + 2 * s) := by rw [show x13.toNat = 40 * a + s by omega]; exact es
              have e17' : hI h3 17 (s : Int).toNat = nV N s 4 := by rw [Int.toNat_natCast]; exact e17
              rw [e42, e17'] at c20
              refine ⟨fun y => y = 1, ?_, ?_⟩
              · intro x16 rx16 z17
                intro h18 eh18 t18 u18
                have i40 : hI h3 40 a = mbN N t s j (1714 + 81 * a) := ok3.1
                have bb := mb_b (t := t) (s := s) h3p a j
                have lka := lk a a3
                have nn := (wm a a3).1
                rw [z17, show x7.toNat = a by omega, i40, wr_of (by omega) (by omega)] at eh18
                exact ⟨by rw [mb_s, ta, if_pos of_]; exact CS_cu t3 C3 W3 a3 (by omega) eh18, ⟨Fr_tr F3.1 (by rw [F3.2.1]; exact Nat.le_refl _) (by rw [eh18]; exact Fr_sV rfl), by rw [eh18, len_sV]; exact F3.2.1, by rw [eh18, xhs_sV]; exact F3.2.2⟩, by unfold okM; rw [df c20, Bool.and_false]⟩
              · refine ⟨fun c19 => ?_, fun c19 => ?_⟩
                · omega
                · rfl
            · have e42 : hI h3 42 x13.toNat = N (1716 + 81 * a + 2 * s) := by rw [show x13.toNat = 40 * a + s by omega]; exact es
              have e17' : hI h3 17 (s : Int).toNat = nV N s 4 := by rw [Int.toNat_natCast]; exact e17
              rw [e42, e17'] at c20
              replace c20 := Decidable.not_not.mp c20
              have o : okM N s ((t + (j : Int)) % N 3).toNat = true := by rw [ta]; unfold okM; rw [dt of_, dt c20]; rfl
              have mk : mirK N t s = (j : Int) := fnd_is (by omega) o (fun i hi => za i hi)
              have e1 := mirN_is (k := j) (by omega) o (fun i hi => za i hi)
              have e2 : mfN N t s = mbN N t s j := by unfold mfN; rw [mk, if_neg (by omega), Int.toNat_natCast]
              have ex : x7 = mirN N t s := by rw [e1, ex7]
              rw [ex]
              exact k h3 F3.1 F3.2.1 F3.2.2 (by rw [e2]; exact C3)
set_option maxHeartbeats 4000000 in
theorem c_mirR {s : Nat} {t : Int} {h : XH} {N : Nat → Int} {m : Nat} (T : HT h) (eN : N = nw h) (W : WF N m) (hs : s < vc N) (ht : 0 ≤ t ∧ t < 100000) (lk : ∀ k : Nat, k < 3 → N (1714 + 81 * k) + 3 ≤ 100000) (p3 : 0 < N 3) {K : Int → XH → Prop} (k : ∀ g, Fr (fun b => b = 438) h g → g.length = h.length → xhs g = xhs h → nw g = mfN N t s → K (mirN N t s) g) : w_X14_mirrorFor (s : Int) t 1 K h := by
  unfold w_X14_mirrorFor
  have v40 := vc64 W.1
  have vcN : vc N = (N 4).toNat := rfl
  have v4 := W.1.2.2.2.1
  obtain ⟨-, -, n2, n2', n3, n3', wm⟩ := W.2.2
  have h3p : 0 < N 3 ∧ N 3 ≤ 3 := ⟨p3, n3'⟩
  have rN : ∀ i, hI h 438 i = N i := fun i => by rw [eN]; rfl
  intro x1 ex1 rx1
  rw [rN] at ex1
  refine ⟨fun x g => ∃ j : Nat, x = (j : Int) ∧ (j : Int) ≤ N 3 ∧ nw g = mbN N t s j ∧ (Fr (fun b => b = 438) h g ∧ g.length = h.length ∧ xhs g = xhs h) ∧ ∀ i : Nat, i < j → okM N s ((t + (i : Int)) % N 3).toNat = false, fun x _ => (N 3 - x).toNat, ?_, ?_⟩
  · exact ⟨0, rfl, by omega, eN.symm, ⟨Fr_rf _ _, rfl, rfl⟩, fun i hi => by omega⟩
  · intro x2 h4 t4 s4 rx2 z5
    obtain ⟨j, hj, z1, en, F3, za⟩ := z5
    have rN4 : ∀ i, hI h4 438 i = mbN N t s j i := fun i => by rw [← en]; rfl
    refine ⟨fun c25 => ?_, fun c25 => ?_⟩
    · have jn : j = (N 3).toNat := by omega
      have mk : mirK N t s = -1 := fnd_no (fun i hi => za i (by omega))
      have e1 : mirN N t s = -1 := by unfold mirN; rw [if_pos mk]
      have e2 : mfN N t s = mbN N t s j := by unfold mfN; rw [if_pos mk, jn]
      rw [← e1]
      exact k h4 F3.1 F3.2.1 F3.2.2 (by rw [e2]; exact en)
    · refine ⟨(by omega), ?_⟩
      intro x7 ex7 rx7
      rw [ex1, wr_of (by omega) (by omega), irem_pos (by unfold rg; omega) (by unfold rg; omega) (by omega) p3] at ex7
      have q3 := Int.emod_nonneg (t + x2) (show N 3 ≠ 0 by omega)
      have q4 := Int.emod_lt_of_pos (t + x2) p3
      obtain ⟨a, ea⟩ : ∃ a : Nat, x7 = a := ⟨x7.toNat, by omega⟩
      have a3 : a < 3 := by omega
      rw [hj] at ex7
      have ta : ((t + (j : Int)) % N 3).toNat = a := by rw [← ex7, ea]; rfl
      have d5 : mbN N t s j (1715 + 81 * a + 2 * s) = N (1715 + 81 * a + 2 * s) := mb_at h3p _ (fun k hk => by omega) j
      have d6 : mbN N t s j (1716 + 81 * a + 2 * s) = N (1716 + 81 * a + 2 * s) := mb_at h3p _ (fun k hk => by omega) j
      refine c_X14_offered (by omega) ?_
      intro _
      refine ⟨(by omega), ?_⟩
      refine ⟨fun g => nw g = mbN N t s (j + 1) ∧ (Fr (fun b => b = 438) h g ∧ g.length = h.length ∧ xhs g = xhs h) ∧ okM N s a = false, ?_, ?_⟩
      · intro h10 t10 s10 z11
        intro x12 ex12 rx12
        rw [wr_of (by omega) (by omega)] at ex12
        obtain ⟨y1, y2, y3⟩ := z11
        refine ⟨⟨j + 1, by omega, by omega, y1, y2, fun i hi => ?_⟩, by dsimp only; omega⟩
        by_cases c : i = j
        · rw [c, ta]; exact y3
        · exact za i (by omega)
      · refine ⟨fun c24 => ?_, fun c24 => ?_⟩
        · rw [rN4, show (1715 + 81 * x7 + 2 * (s : Int)).toNat = 1715 + 81 * a + 2 * s by omega, d5] at c24
          exact ⟨by rw [mb_s, ta, if_neg c24]; exact en, F3, by unfold okM; rw [df c24, Bool.false_and]⟩
        · rw [rN4, show (1715 + 81 * x7 + 2 * (s : Int)).toNat = 1715 + 81 * a + 2 * s by omega, d5] at c24
          have of_ := Decidable.not_not.mp c24
          refine c_X14_offered (by omega) ?_
          intro _
          intro x14 ex14 rx14
          rw [wr_of (by omega) (by omega)] at ex14
          refine ⟨(by omega), ?_⟩
          refine c_X14_ver (by omega) ?_
          intro x16 ex16
          replace ex16 : x16 = nV N s 4 := by rw [ex16, rN4, Int.toNat_natCast]; exact E8_v (E8_mb h3p j) (by omega) (by decide)
          intro rx16
          refine ⟨fun c23 => ?_, fun c23 => ?_⟩
          · rw [rN4, show x14.toNat = 1716 + 81 * a + 2 * s by omega, d6, ex16] at c23
            intro x17 ex17 rx17
            rw [wr_of (x := 81 * x7) (by omega) (by omega), wr_of (by omega) (by omega)] at ex17
            refine ⟨(by omega), ?_⟩
            refine ⟨fun y => y = 1, ?_, ?_⟩
            · intro x19 rx19 z20
              intro h21 eh21 t21 u21
              have bb := mb_b (t := t) (s := s) h3p a j
              have lka := lk a a3
              have nn := (wm a a3).1
              rw [z20, show x17.toNat = 1714 + 81 * a by omega, rN4, wr_of (by omega) (by omega)] at eh21
              have n21 := W_nw t4 (by omega) (by unfold rg; omega) eh21 en
              exact ⟨by rw [mb_s, ta, if_pos of_]; exact n21, ⟨Fr_tr F3.1 (by rw [F3.2.1]; exact Nat.le_refl _) (by rw [eh21]; exact Fr_sV rfl), by rw [eh21, len_sV]; exact F3.2.1, by rw [eh21, xhs_sV]; exact F3.2.2⟩, by unfold okM; rw [df c23, Bool.and_false]⟩
            · refine ⟨fun c22 => ?_, fun c22 => ?_⟩
              · omega
              · rfl
          · rw [rN4, show x14.toNat = 1716 + 81 * a + 2 * s by omega, d6, ex16] at c23
            replace c23 := Decidable.not_not.mp c23
            have o : okM N s ((t + (j : Int)) % N 3).toNat = true := by rw [ta]; unfold okM; rw [dt of_, dt c23]; rfl
            have mk : mirK N t s = (j : Int) := fnd_is (by omega) o (fun i hi => za i hi)
            have e1 := mirN_is (k := j) (by omega) o (fun i hi => za i hi)
            have e2 : mfN N t s = mbN N t s j := by unfold mfN; rw [mk, if_neg (by omega), Int.toNat_natCast]
            have ex : x7 = mirN N t s := by rw [e1, ex7]
            rw [ex]
            exact k h4 F3.1 F3.2.1 F3.2.2 (by rw [e2]; exact en)
