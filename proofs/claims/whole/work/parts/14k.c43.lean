/-! WHAT COMES, AND FROM WHERE -/
theorem sI_wr {h : XH} {a i : Nat} {x : Int} : sI h a i (wr x) = sI h a i x := by
  show sV h a i (Value.int (J (wr x))) = _
  rw [J_wr]
theorem and40 {b c : BitVec 64} (e : ∀ v, v < 40 → b.getLsbD v = c.getLsbD v) : c &&& 1099511627775#64 = b &&& 1099511627775#64 := by
  have al : ∀ m : Fin 64, (1099511627775#64 : BitVec 64).getLsbD m.1 = decide (m.1 < 40) := by decide +kernel
  apply BitVec.eq_of_getLsbD_eq
  intro i hi
  rw [BitVec.getLsbD_and, BitVec.getLsbD_and, al ⟨i, hi⟩]
  by_cases d : i < 40
  · rw [e i d]
  · rw [df d, Bool.and_false, Bool.and_false]
theorem idF_40 {N : Nat → Int} {b c : BitVec 64} (w : N 4 ≤ 40) (e : ∀ v, v < 40 → b.getLsbD v = c.getLsbD v) (p : Int) : idF N c p = idF N b p := by
  unfold idF
  refine fnd_cg _ (fun v hv => ?_)
  unfold vc at hv
  rw [e v (by omega)]
theorem comC_t {f g : Nat → Int} {p : Nat} (nf : ¬ f p = -1) : comC f g p = true ↔ ¬ cIn f p = cIn g p := by
  unfold comC comF
  by_cases c : cIn f p = cIn g p
  · rw [if_pos (.inr c)]; simp [c]
  · rw [if_neg (fun y => y.elim nf c)]; simp [nf, c]
theorem comC_v {N : Nat → Int} {m : Nat} (W : WV N m) {f g : Nat → Int} (S : fOK N f) {p : Nat} (hp : p < 12) : (slF N (comF f g) p = -1 ∧ comC f g p = false) ∨ (comC f g p = true ∧ ∃ v : Nat, v < vc N ∧ slF N (comF f g) p = v ∧ slF N f p = v) := by
  by_cases c : comF f g p = -1
  · exact .inl ⟨slF_0 c, by unfold comC; rw [dt c]; rfl⟩
  · obtain ⟨v, hv, e, -⟩ := fOK_v W (fOK_com S (g := g)) hp c
    refine .inr ⟨by unfold comC; rw [df c]; rfl, v, hv, e, ?_⟩
    rw [← slF_cgp (N := N) (f := comF f g) (g := f) (p := p) ?_]
    · exact e
    · unfold comF at c ⊢
      by_cases d : f p = -1 ∨ cIn f p = cIn g p
      · rw [if_pos d] at c; exact absurd rfl c
      · rw [if_neg d]
theorem Arr_b {N : Nat → Int} {nd : Nat → ND} {f : Nat → Int} {b : Bool} {L : List Nat} (A : Arr N nd f b L) {x : Int} (e : x = if b = true then -((L.length : Nat) : Int) else (L.length : Nat)) : 0 ≤ x ↔ b = false := by
  rcases A with ⟨-, eb, -⟩ | ⟨-, eb, s, d, -, -, -, r1, -⟩
  · rw [eb, if_neg (by decide)] at e
    exact ⟨fun _ => eb, fun _ => by omega⟩
  · rw [eb, if_pos rfl] at e
    exact ⟨fun y => by omega, fun y => by rw [eb] at y; cases y⟩
theorem ly100 {h : XH} (T : HT h) {a n : Nat} (e : xfind lyS a = some (100, n)) : hk h a = 100 := (ly_sh T e).1
set_option maxHeartbeats 1000000 in
theorem c_X2_comingCount {h : XH} {N : Nat → Int} {nd : Nat → ND} {m : Nat} (T : HT h) (C : CS h 8 N nd) (W : WF N m) {K : Int → Prop} (k : K ((cntN 12 (comC (goal N (rh N)) (inst N (rh N))) : Nat) : Int)) : w_X2_comingCount K h := by
  unfold w_X2_comingCount
  have hr := rh_lt W
  obtain ⟨b, Sb, eb⟩ := com_S W.1 (CS_g C hr) (CS_i C hr)
  refine c_atH C W ?_
  refine ⟨(rc_k T hr), ?_⟩
  refine c_X12_packsIn ?_
  rw [and40 eb, many_F W.1 Sb]
  intro _
  exact k
set_option maxHeartbeats 1000000 in
theorem c_X2_comingOf {p : Nat} (hp : p < 12) {h : XH} {N : Nat → Int} {nd : Nat → ND} {m : Nat} (T : HT h) (C : CS h 8 N nd) (W : WF N m) {K : Int → Prop} (k : K (slF N (comF (goal N (rh N)) (inst N (rh N))) p)) : w_X2_comingOf (p : Int) K h := by
  unfold w_X2_comingOf
  have hr := rh_lt W
  obtain ⟨b, Sb, eb⟩ := com_S W.1 (CS_g C hr) (CS_i C hr)
  refine c_atH C W ?_
  refine ⟨(rc_k T hr), ?_⟩
  refine c_X8_idIn C.1 ⟨W.1.2.2.1, W.1.2.2.2.1⟩ ?_
  rw [idF_40 W.1.2.2.2.1 eb, idF_F W.1 Sb hp]
  intro _
  exact k
set_option maxHeartbeats 1000000 in
theorem c_X11_mirrorFor {s : Nat} {t : Int} {h : XH} {N : Nat → Int} {nd : Nat → ND} {m : Nat} (T : HT h) (C : CS h 8 N nd) (W : WF N m) (hs : s < vc N) (ht : 0 ≤ t ∧ t < 100000) {K : Int → XH → Prop} (k : K (mirN N t s) h) : w_X11_mirrorFor (s : Int) t 0 K h := by
  unfold w_X11_mirrorFor
  have v40 := vc64 W.1
  have vcN : vc N = (N 4).toNat := rfl
  have v4 := W.1.2.2.2.1
  obtain ⟨-, -, n2, n2', n3, n3', wm⟩ := W.2.2
  refine ⟨fun x g => 0 ≤ x ∧ x ≤ N 3 ∧ g = h ∧ ∀ j : Nat, (j : Int) < x → okM N s ((t + (j : Int)) % N 3).toNat = false, fun x _ => (N 3 - x).toNat, ?_, ?_⟩
  · exact ⟨by omega, n3, rfl, fun j hj => by omega⟩
  · intro x1 h3 t3 s3 rx1 z4
    obtain ⟨z0, z1, zg, za⟩ := z4
    have C3 : CS h3 8 N nd := by rw [zg]; exact C
    obtain ⟨-, e6, -, -, cm⟩ := C3.2.2.2
    replace e6 : hI h3 8 6 = N 3 := e6
    obtain ⟨-, -, -, -, e17, -⟩ := V8 C3.1 hs
    refine ⟨fun c23 => ?_, fun c23 => ?_⟩
    · rw [zg]
      rw [mirN_no (fun j hj => za j (by omega))] at k
      exact k
    · refine ⟨(by omega), ?_⟩
      refine ⟨(by omega), ?_⟩
      intro x7 ex7 rx7
      have p3 : 0 < N 3 := by omega
      rw [e6, irem_pos (x := t) (by unfold rg; omega) (by unfold rg; omega) ht.1 p3] at ex7
      have q1 := Int.emod_nonneg t (show N 3 ≠ 0 by omega)
      have q2 := Int.emod_lt_of_pos t p3
      rw [wr_of (by omega) (by omega), irem_pos (by unfold rg; omega) (by unfold rg; omega) (by omega) p3, Int.emod_add_emod] at ex7
      have q3 := Int.emod_nonneg (t + x1) (show N 3 ≠ 0 by omega)
      have q4 := Int.emod_lt_of_pos (t + x1) p3
      obtain ⟨j, hj⟩ : ∃ j : Nat, x1 = j := ⟨(x1).toNat, by omega⟩
      obtain ⟨a, ea⟩ : ∃ a : Nat, x7 = a := ⟨x7.toNat, by omega⟩
      have a3 : a < 3 := by omega
      rw [hj] at ex7 za
      have ta : ((t + (j : Int)) % N 3).toNat = a := by rw [← ex7, ea]; rfl
      have ok3 := cm a a3
      refine ⟨fun g => g = h ∧ okM N s a = false, ?_, ?_⟩
      · intro h8 t8 s8 z9
        intro x10 ex10 rx10
        rw [wr_of (by omega) (by omega)] at ex10
        obtain ⟨y1, y2⟩ := z9
        refine ⟨⟨by omega, by omega, y1, fun i hi => ?_⟩, by dsimp only; omega⟩
        by_cases c : i = j
        · rw [c, ta]; exact y2
        · exact za i (by omega)
      · refine ⟨fun c22 => ?_, fun c22 => ?_⟩
        · omega
        · refine ⟨(by omega), ?_⟩
          refine c_X12_has (by omega) ?_
          intro x12 qx12
          rw [ea, Int.toNat_natCast, Int.toNat_natCast] at qx12
          replace qx12 := bq_iff qx12 (ok3.2.1 s (by omega))
          intro rx12 vx12
          refine ⟨fun c21 => ?_, fun c21 => ?_⟩
          · exact ⟨zg, by unfold okM; rw [df (fun y => (bq1 qx12).2.1.mp c21 ⟨by omega, y⟩), Bool.false_and]⟩
          · have of_ := ((bq1 qx12).2.2.1.mp c21).2
            have es := ok3.2.2 s (by omega) of_
            intro x13 ex13 rx13
            rw [wr_of (x := x7 * 40) (by omega) (by omega), wr_of (by omega) (by omega)] at ex13
            refine ⟨(by omega), ?_⟩
            refine ⟨(by omega), ?_⟩
            refine ⟨fun c20 => ?_, fun c20 => ?_⟩
            · rw [show x13.toNat = 40 * a + s by omega, Int.toNat_natCast, e17] at c20
              replace c20 : ¬ N (1716 + 81 * a + 2 * s) = nV N s 4 := fun y => c20 (es.trans y)
              refine ⟨fun y => y = 0, ?_, ?_⟩
              · intro x16 rx16 z17
                intro h18 eh18 t18 u18
                rw [z17, Int.add_zero, sI_wr, sI_id t3 (ly100 (n := 3) t3 rfl) (by rw [lyn (c := 100) (n := 3) t3 rfl]; omega)] at eh18
                exact ⟨eh18.trans zg, by unfold okM; rw [df c20, Bool.and_false]⟩
              · refine ⟨fun c19 => ?_, fun c19 => ?_⟩
                · rfl
                · exact absurd rfl c19
            · rw [show x13.toNat = 40 * a + s by omega, Int.toNat_natCast, e17] at c20
              replace c20 : N (1716 + 81 * a + 2 * s) = nV N s 4 := es.symm.trans (Decidable.not_not.mp c20)
              have := mirN_is (k := j) (by omega) (by rw [ta]; unfold okM; rw [dt of_, dt c20]; rfl) (fun i hi => za i (by omega))
              rw [zg, ex7, ← this]
              exact k
set_option maxHeartbeats 1000000 in
theorem c_X14_mirrorFor {s : Nat} {t : Int} {h : XH} {N : Nat → Int} {m : Nat} (T : HT h) (eN : N = nw h) (W : WF N m) (hs : s < vc N) (ht : 0 ≤ t ∧ t < 100000) {K : Int → XH → Prop} (k : K (mirN N t s) h) : w_X14_mirrorFor (s : Int) t 0 K h := by
  unfold w_X14_mirrorFor
  have v40 := vc64 W.1
  have vcN : vc N = (N 4).toNat := rfl
  have v4 := W.1.2.2.2.1
  obtain ⟨-, -, n2, n2', n3, n3', wm⟩ := W.2.2
  have rN : ∀ i, hI h 438 i = N i := fun i => by rw [eN]; rfl
  intro x1 ex1 rx1
  rw [rN] at ex1
  refine ⟨fun x g => 0 ≤ x ∧ x ≤ N 3 ∧ g = h ∧ ∀ j : Nat, (j : Int) < x → okM N s ((t + (j : Int)) % N 3).toNat = false, fun x _ => (N 3 - x).toNat, ?_, ?_⟩
  · exact ⟨by omega, n3, rfl, fun j hj => by omega⟩
  · intro x2 h4 t4 s4 rx2 z5
    obtain ⟨z0, z1, zg, za⟩ := z5
    have rN4 : ∀ i, hI h4 438 i = N i := fun i => by rw [zg]; exact rN i
    refine ⟨fun c25 => ?_, fun c25 => ?_⟩
    · rw [zg]
      rw [mirN_no (fun j hj => za j (by omega))] at k
      exact k
    · refine ⟨(by omega), ?_⟩
      intro x7 ex7 rx7
      have p3 : 0 < N 3 := by omega
      rw [ex1, wr_of (by omega) (by omega), irem_pos (by unfold rg; omega) (by unfold rg; omega) (by omega) p3] at ex7
      have q3 := Int.emod_nonneg (t + x2) (show N 3 ≠ 0 by omega)
      have q4 := Int.emod_lt_of_pos (t + x2) p3
      obtain ⟨j, hj⟩ : ∃ j : Nat, x2 = j := ⟨(x2).toNat, by omega⟩
      obtain ⟨a, ea⟩ : ∃ a : Nat, x7 = a := ⟨x7.toNat, by omega⟩
      have a3 : a < 3 := by omega
      rw [hj] at ex7 za
      have ta : ((t + (j : Int)) % N 3).toNat = a := by rw [← ex7, ea]; rfl
      refine c_X14_offered (by omega) ?_
      intro _
      refine ⟨(by omega), ?_⟩
      refine ⟨fun g => g = h ∧ okM N s a = false, ?_, ?_⟩
      · intro h10 t10 s10 z11
        intro x12 ex12 rx12
        rw [wr_of (by omega) (by omega)] at ex12
        obtain ⟨y1, y2⟩ := z11
        refine ⟨⟨by omega, by omega, y1, fun i hi => ?_⟩, by dsimp only; omega⟩
        by_cases c : i = j
        · rw [c, ta]; exact y2
        · exact za i (by omega)
      · refine ⟨fun c24 => ?_, fun c24 => ?_⟩
        · rw [rN4, show (1715 + 81 * x7 + 2 * (s : Int)).toNat = 1715 + 81 * a + 2 * s by omega] at c24
          exact ⟨zg, by unfold okM; rw [df c24, Bool.false_and]⟩
        · rw [rN4, show (1715 + 81 * x7 + 2 * (s : Int)).toNat = 1715 + 81 * a + 2 * s by omega] at c24
          have of_ := Decidable.not_not.mp c24
          refine c_X14_offered (by omega) ?_
          intro _
          intro x14 ex14 rx14
          rw [wr_of (by omega) (by omega)] at ex14
          refine ⟨(by omega), ?_⟩
          refine c_X14_ver (by omega) ?_
          intro x16 ex16
          replace ex16 : x16 = nV N s 4 := by rw [ex16, rN4, Int.toNat_natCast]; rfl
          intro rx16
          refine ⟨fun c23 => ?_, fun c23 => ?_⟩
          · rw [rN4, show x14.toNat = 1716 + 81 * a + 2 * s by omega, ex16] at c23
            intro x17 ex17 rx17
            rw [wr_of (x := 81 * x7) (by omega) (by omega), wr_of (by omega) (by omega)] at ex17
            refine ⟨(by omega), ?_⟩
            refine ⟨fun y => y = 0, ?_, ?_⟩
            · intro x19 rx19 z20
              intro h21 eh21 t21 u21
              rw [z20, Int.add_zero, sI_wr, sI_id t4 (ly100 (n := 1957) t4 rfl) (by rw [lyn (c := 100) (n := 1957) t4 rfl]; omega)] at eh21
              exact ⟨eh21.trans zg, by unfold okM; rw [df c23, Bool.and_false]⟩
            · refine ⟨fun c22 => ?_, fun c22 => ?_⟩
              · rfl
              · exact absurd rfl c22
          · rw [rN4, show x14.toNat = 1716 + 81 * a + 2 * s by omega, ex16] at c23
            replace c23 := Decidable.not_not.mp c23
            have := mirN_is (k := j) (by omega) (by rw [ta]; unfold okM; rw [dt of_, dt c23]; rfl) (fun i hi => za i (by omega))
            rw [zg, ex7, ← this]
            exact k
