/-! WHAT COMES, AND FROM WHERE -/
theorem sI_wr {h : XH} {a i : Nat} {x : Int} : sI h a i (wr x) = sI h a i x := by
  show sV h a i (Value.int (J (wr x))) = _
  rw [J_wr]
theorem and40 {b c : BitVec 64} (e : ∀ v, v < 40 → b.getLsbD v = c.getLsbD v) : c &&& 1099511627775#64 = b &&& 1099511627775#64 := by
  have al : ∀ m : Fin 64, (1099511627775#64 : BitVec 64).getLsbD m.1 = decide (m.1 < 40) := by decide +kernel
  apply BitVec.eq_of_getLsbD_eq
  intro i hi
  rw [BitVec.getLsbD_and, BitVec.getLsbD_and, al ⟨i, hi⟩]
  by_cases d : i < 40
  · rw [e i d]
  · rw [df d, Bool.and_false, Bool.and_false]
theorem idF_40 {N : Nat → Int} {b c : BitVec 64} (w : N 4 ≤ 40) (e : ∀ v, v < 40 → b.getLsbD v = c.getLsbD v) (p : Int) : idF N c p = idF N b p := by
  unfold idF
  refine fnd_cg _ (fun v hv => ?_)
  unfold vc at hv
  rw [e v (by omega)]
theorem comC_t {f g : Nat → Int} {p : Nat} (nf : ¬ f p = -1) : comC f g p = true ↔ ¬ cIn f p = cIn g p := by
  unfold comC comF
  by_cases c : cIn f p = cIn g p
  · rw [if_pos (.inr c)]; simp [c]
  · rw [if_neg (fun y => y.elim nf c)]; simp [nf, c]
theorem comC_v {N : Nat → Int} {m : Nat} (W : WV N m) {f g : Nat → Int} (S : fOK N f) {p : Nat} (hp : p < 12) : (slF N (comF f g) p = -1 ∧ comC f g p = false) ∨ (comC f g p = true ∧ ∃ v : Nat, v < vc N ∧ slF N (comF f g) p = v ∧ slF N f p = v) := by
  by_cases c : comF f g p = -1
  · exact .inl ⟨slF_0 c, by unfold comC; rw [dt c]; rfl⟩
  · obtain ⟨v, hv, e, -⟩ := fOK_v W (fOK_com S (g := g)) hp c
    refine .inr ⟨by unfold comC; rw [df c]; rfl, v, hv, e, ?_⟩
    rw [← slF_cgp (N := N) (f := comF f g) (g := f) (p := p) ?_]
    · exact e
    · unfold comF at c ⊢
      by_cases d : f p = -1 ∨ cIn f p = cIn g p
      · rw [if_pos d] at c; exact absurd rfl c
      · rw [if_neg d]
theorem Arr_b {N : Nat → Int} {nd : Nat → ND} {f : Nat → Int} {b : Bool} {L : List Nat} (A : Arr N nd f b L) {x : Int} (e : x = if b = true then -((L.length : Nat) : Int) else (L.length : Nat)) : 0 ≤ x ↔ b = false := by
  rcases A with ⟨-, eb, -⟩ | ⟨-, eb, s, d, -, -, -, r1, -⟩
  · rw [eb, if_neg (by decide)] at e
    exact ⟨fun _ => eb, fun _ => by omega⟩
  · rw [eb, if_pos rfl] at e
    exact ⟨fun y => by omega, fun y => by rw [eb] at y; cases y⟩
theorem getD_1 (l : List Nat) (x : Nat) : (l ++ [x]).getD l.length 0 = x := by
  rw [List.getD_eq_getElem?_getD, List.getElem?_append_right (Nat.le_refl _), Nat.sub_self]; rfl
theorem ly100 {h : XH} (T : HT h) {a n : Nat} (e : xfind lyS a = some (100, n)) : hk h a = 100 := (ly_sh T e).1
set_option maxHeartbeats 1000000 in
theorem c_X2_comingCount {h : XH} {N : Nat → Int} {nd : Nat → ND} {m : Nat} (T : HT h) (C : CS h 8 N nd) (W : WF N m) {K : Int → Prop} (k : K ((cntN 12 (comC (goal N (rh N)) (inst N (rh N))) : Nat) : Int)) : w_X2_comingCount K h := by
  unfold w_X2_comingCount
  have hr := rh_lt W
  obtain ⟨b, Sb, eb⟩ := com_S W.1 (CS_g C hr) (CS_i C hr)
  refine c_atH C W ?_
  refine ⟨(rc_k T hr), ?_⟩
  refine c_X12_packsIn ?_
  rw [and40 eb, many_F W.1 Sb]
  intro _
  exact k
set_option maxHeartbeats 1000000 in
theorem c_X2_comingOf {p : Nat} (hp : p < 12) {h : XH} {N : Nat → Int} {nd : Nat → ND} {m : Nat} (T : HT h) (C : CS h 8 N nd) (W : WF N m) {K : Int → Prop} (k : K (slF N (comF (goal N (rh N)) (inst N (rh N))) p)) : w_X2_comingOf (p : Int) K h := by
  unfold w_X2_comingOf
  have hr := rh_lt W
  obtain ⟨b, Sb, eb⟩ := com_S W.1 (CS_g C hr) (CS_i C hr)
  refine c_atH C W ?_
  refine ⟨(rc_k T hr), ?_⟩
  refine c_X8_idIn C.1 ⟨W.1.2.2.1, W.1.2.2.2.1⟩ ?_
  rw [idF_40 W.1.2.2.2.1 eb, idF_F W.1 Sb hp]
  intro _
  exact k
set_option maxHeartbeats 1000000 in
theorem c_X11_mirrorFor {s : Nat} {t : Int} {h : XH} {N : Nat → Int} {nd : Nat → ND} {m : Nat} (T : HT h) (C : CS h 8 N nd) (W : WF N m) (hs : s < vc N) (ht : 0 ≤ t ∧ t < 100000) {K : Int → XH → Prop} (k : K (mirN N t s) h) : w_X11_mirrorFor (s : Int) t 0 K h := by
  unfold w_X11_mirrorFor
  have v40 := vc64 W.1
  have vcN : vc N = (N 4).toNat := rfl
  have v4 := W.1.2.2.2.1
  obtain ⟨-, -, n2, n2', n3, n3', wm⟩ := W.2.2
  refine ⟨fun x g => 0 ≤ x ∧ x ≤ N 3 ∧ g = h ∧ ∀ j : Nat, (j : Int) < x → okM N s ((t + (j : Int)) % N 3).toNat = false, fun x _ => (N 3 - x).toNat, ?_, ?_⟩
  · exact ⟨by omega, n3, rfl, fun j hj => by omega⟩
  · intro x1 h3 t3 s3 rx1 z4
    obtain ⟨z0, z1, zg, za⟩ := z4
    have C3 : CS h3 8 N nd := by rw [zg]; exact C
    obtain ⟨-, e6, -, -, cm⟩ := C3.2.2.2
    replace e6 : hI h3 8 6 = N 3 := e6
    obtain ⟨-, -, -, -, e17, -⟩ := V8 C3.1 hs
    refine ⟨fun c23 => ?_, fun c23 => ?_⟩
    · rw [zg]
      rw [mirN_no (fun j hj => za j (by omega))] at k
      exact k
    · refine ⟨(by omega), ?_⟩
      refine ⟨(by omega), ?_⟩
      intro x7 ex7 rx7
      have p3 : 0 < N 3 := by omega
      rw [e6, irem_pos (x := t) (by unfold rg; omega) (by unfold rg; omega) ht.1 p3] at ex7
      have q1 := Int.emod_nonneg t (show N 3 ≠ 0 by omega)
      have q2 := Int.emod_lt_of_pos t p3
      rw [wr_of (by omega) (by omega), irem_pos (by unfold rg; omega) (by unfold rg; omega) (by omega) p3, Int.emod_add_emod] at ex7
      have q3 := Int.emod_nonneg (t + x1) (show N 3 ≠ 0 by omega)
      have q4 := Int.emod_lt_of_pos (t + x1) p3
      obtain ⟨j, hj⟩ : ∃ j : Nat, x1 = j := ⟨(x1).toNat, by omega⟩
      obtain ⟨a, ea⟩ : ∃ a : Nat, x7 = a := ⟨x7.toNat, by omega⟩
      have a3 : a < 3 := by omega
      rw [hj] at ex7 za
      have ta : ((t + (j : Int)) % N 3).toNat = a := by rw [← ex7, ea]; rfl
      have ok3 := cm a a3
      refine ⟨fun g => g = h ∧ okM N s a = false, ?_, ?_⟩
      · intro h8 t8 s8 z9
        intro x10 ex10 rx10
        rw [wr_of (by omega) (by omega)] at ex10
        obtain ⟨y1, y2⟩ := z9
        refine ⟨⟨by omega, by omega, y1, fun i hi => ?_⟩, by dsimp only; omega⟩
        by_cases c : i = j
        · rw [c, ta]; exact y2
        · exact za i (by omega)
      · refine ⟨fun c22 => ?_, fun c22 => ?_⟩
        · omega
        · refine ⟨(by omega), ?_⟩
          refine c_X12_has (by omega) ?_
          intro x12 qx12
          rw [ea, Int.toNat_natCast, Int.toNat_natCast] at qx12
          replace qx12 := bq_iff qx12 (ok3.2.1 s (by omega))
          intro rx12 vx12
          refine ⟨fun c21 => ?_, fun c21 => ?_⟩
          · exact ⟨zg, by unfold okM; rw [df (fun y => (bq1 qx12).2.1.mp c21 ⟨by omega, y⟩), Bool.false_and]⟩
          · have of_ := ((bq1 qx12).2.2.1.mp c21).2
            have es := ok3.2.2 s (by omega) of_
            intro x13 ex13 rx13
            rw [wr_of (x := x7 * 40) (by omega) (by omega), wr_of (by omega) (by omega)] at ex13
            refine ⟨(by omega), ?_⟩
            refine ⟨(by omega), ?_⟩
            refine ⟨fun c20 => ?_, fun c20 => ?_⟩
            · rw [show x13.toNat = 40 * a + s by omega, Int.toNat_natCast, e17] at c20
              replace c20 : ¬ N (1716 + 81 * a + 2 * s) = nV N s 4 := fun y => c20 (es.trans y)
              refine ⟨fun y => y = 0, ?_, ?_⟩
              · intro x16 rx16 z17
                intro h18 eh18 t18 u18
                rw [z17, Int.add_zero, sI_wr, sI_id t3 (ly100 (n := 3) t3 rfl) (by rw [lyn (c := 100) (n := 3) t3 rfl]; omega)] at eh18
                exact ⟨eh18.trans zg, by unfold okM; rw [df c20, Bool.and_false]⟩
              · refine ⟨fun c19 => ?_, fun c19 => ?_⟩
                · rfl
                · exact absurd rfl c19
            · rw [show x13.toNat = 40 * a + s by omega, Int.toNat_natCast, e17] at c20
              replace c20 : N (1716 + 81 * a + 2 * s) = nV N s 4 := es.symm.trans (Decidable.not_not.mp c20)
              have := mirN_is (k := j) (by omega) (by rw [ta]; unfold okM; rw [dt of_, dt c20]; rfl) (fun i hi => za i (by omega))
              rw [zg, ex7, ← this]
              exact k
set_option maxHeartbeats 1000000 in
theorem c_X14_mirrorFor {s : Nat} {t : Int} {h : XH} {N : Nat → Int} {m : Nat} (T : HT h) (eN : N = nw h) (W : WF N m) (hs : s < vc N) (ht : 0 ≤ t ∧ t < 100000) {K : Int → XH → Prop} (k : K (mirN N t s) h) : w_X14_mirrorFor (s : Int) t 0 K h := by
  unfold w_X14_mirrorFor
  have v40 := vc64 W.1
  have vcN : vc N = (N 4).toNat := rfl
  have v4 := W.1.2.2.2.1
  obtain ⟨-, -, n2, n2', n3, n3', wm⟩ := W.2.2
  have rN : ∀ i, hI h 438 i = N i := fun i => by rw [eN]; rfl
  intro x1 ex1 rx1
  rw [rN] at ex1
  refine ⟨fun x g => 0 ≤ x ∧ x ≤ N 3 ∧ g = h ∧ ∀ j : Nat, (j : Int) < x → okM N s ((t + (j : Int)) % N 3).toNat = false, fun x _ => (N 3 - x).toNat, ?_, ?_⟩
  · exact ⟨by omega, n3, rfl, fun j hj => by omega⟩
  · intro x2 h4 t4 s4 rx2 z5
    obtain ⟨z0, z1, zg, za⟩ := z5
    have rN4 : ∀ i, hI h4 438 i = N i := fun i => by rw [zg]; exact rN i
    refine ⟨fun c25 => ?_, fun c25 => ?_⟩
    · rw [zg]
      rw [mirN_no (fun j hj => za j (by omega))] at k
      exact k
    · refine ⟨(by omega), ?_⟩
      intro x7 ex7 rx7
      have p3 : 0 < N 3 := by omega
      rw [ex1, wr_of (by omega) (by omega), irem_pos (by unfold rg; omega) (by unfold rg; omega) (by omega) p3] at ex7
      have q3 := Int.emod_nonneg (t + x2) (show N 3 ≠ 0 by omega)
      have q4 := Int.emod_lt_of_pos (t + x2) p3
      obtain ⟨j, hj⟩ : ∃ j : Nat, x2 = j := ⟨(x2).toNat, by omega⟩
      obtain ⟨a, ea⟩ : ∃ a : Nat, x7 = a := ⟨x7.toNat, by omega⟩
      have a3 : a < 3 := by omega
      rw [hj] at ex7 za
      have ta : ((t + (j : Int)) % N 3).toNat = a := by rw [← ex7, ea]; rfl
      refine c_X14_offered (by omega) ?_
      intro _
      refine ⟨(by omega), ?_⟩
      refine ⟨fun g => g = h ∧ okM N s a = false, ?_, ?_⟩
      · intro h10 t10 s10 z11
        intro x12 ex12 rx12
        rw [wr_of (by omega) (by omega)] at ex12
        obtain ⟨y1, y2⟩ := z11
        refine ⟨⟨by omega, by omega, y1, fun i hi => ?_⟩, by dsimp only; omega⟩
        by_cases c : i = j
        · rw [c, ta]; exact y2
        · exact za i (by omega)
      · refine ⟨fun c24 => ?_, fun c24 => ?_⟩
        · rw [rN4, show (1715 + 81 * x7 + 2 * (s : Int)).toNat = 1715 + 81 * a + 2 * s by omega] at c24
          exact ⟨zg, by unfold okM; rw [df c24, Bool.false_and]⟩
        · rw [rN4, show (1715 + 81 * x7 + 2 * (s : Int)).toNat = 1715 + 81 * a + 2 * s by omega] at c24
          have of_ := Decidable.not_not.mp c24
          refine c_X14_offered (by omega) ?_
          intro _
          intro x14 ex14 rx14
          rw [wr_of (by omega) (by omega)] at ex14
          refine ⟨(by omega), ?_⟩
          refine c_X14_ver (by omega) ?_
          intro x16 ex16
          replace ex16 : x16 = nV N s 4 := by rw [ex16, rN4, Int.toNat_natCast]; rfl
          intro rx16
          refine ⟨fun c23 => ?_, fun c23 => ?_⟩
          · rw [rN4, show x14.toNat = 1716 + 81 * a + 2 * s by omega, ex16] at c23
            intro x17 ex17 rx17
            rw [wr_of (x := 81 * x7) (by omega) (by omega), wr_of (by omega) (by omega)] at ex17
            refine ⟨(by omega), ?_⟩
            refine ⟨fun y => y = 0, ?_, ?_⟩
            · intro x19 rx19 z20
              intro h21 eh21 t21 u21
              rw [z20, Int.add_zero, sI_wr, sI_id t4 (ly100 (n := 1957) t4 rfl) (by rw [lyn (c := 100) (n := 1957) t4 rfl]; omega)] at eh21
              exact ⟨eh21.trans zg, by unfold okM; rw [df c23, Bool.and_false]⟩
            · refine ⟨fun c22 => ?_, fun c22 => ?_⟩
              · rfl
              · exact absurd rfl c22
          · rw [rN4, show x14.toNat = 1716 + 81 * a + 2 * s by omega, ex16] at c23
            replace c23 := Decidable.not_not.mp c23
            have := mirN_is (k := j) (by omega) (by rw [ta]; unfold okM; rw [dt of_, dt c23]; rfl) (fun i hi => za i (by omega))
            rw [zg, ex7, ← this]
            exact k
set_option maxHeartbeats 1000000 in
theorem c_X2_comingAt {p0 p1 : Int} {L : List Nat} {h : XH} {N : Nat → Int} {nd : Nat → ND} {m : Nat} (T : HT h) (C : CS h 8 N nd) (W : WF N m) (A4 : Arr N nd (goal N (rh N)) false L) (l12 : L.length ≤ 12) (e6 : hI h 79 6 = (L.length : Nat)) (e82 : ∀ i, i < L.length → hI h 82 i = ((L.getD i 0 : Nat) : Int)) (hp : 0 ≤ p0 ∧ p0 < (((L.filter (comC (goal N (rh N)) (inst N (rh N)))).length : Nat) : Int)) {K : Int → XH → Prop} (k : K (if p1 = 0 then (((L.filter (comC (goal N (rh N)) (inst N (rh N)))).getD p0.toNat 0 : Nat) : Int) else (mirN N (ftN N (goal N (rh N)) (L.filter (comC (goal N (rh N)) (inst N (rh N)))) p0.toNat) (slF N (goal N (rh N)) ((L.filter (comC (goal N (rh N)) (inst N (rh N)))).getD p0.toNat 0)).toNat)) h) : w_X2_comingAt p0 p1 K h := by
  unfold w_X2_comingAt
  obtain ⟨-, -, n2, n2_, -, -, -⟩ := W.2.2
  have sg := (CS_g C (rh_lt W)).2.2.2
  have ln := List.length_filter_le (comC (goal N (rh N)) (inst N (rh N))) L
  intro x1 ex1 rx1
  replace ex1 : x1 = N 2 := ex1.trans C.2.2.2.2.2.1
  refine ⟨fun y x v g => 0 ≤ v ∧ v ≤ ((L.length : Nat) : Int) ∧ g = h ∧ x = ((((L.take v.toNat).filter (comC (goal N (rh N)) (inst N (rh N)))).length : Nat) : Int) ∧ x ≤ p0 ∧ y = (ftN N (goal N (rh N)) (L.filter (comC (goal N (rh N)) (inst N (rh N)))) x.toNat), fun _ _ v _ => (((L.length : Nat) : Int) - v).toNat, ?_, ?_⟩
  · exact ⟨by omega, by omega, rfl, rfl, by omega, ex1⟩
  · intro x2 x3 x4 h7 t7 s7 rx2 rx3 rx4 z8
    obtain ⟨z0, z1, zg, zx, zp, zy⟩ := z8
    have C7 : CS h7 8 N nd := by rw [zg]; exact C
    rw [← zg] at e6 e82 k
    refine ⟨fun c30 => ?_, fun c30 => ?_⟩
    · rw [List.take_of_length_le (by omega)] at zx
      omega
    · have kl : x4.toNat < L.length := by omega
      obtain ⟨q12, qf⟩ := Arr_mem A4 x4.toNat kl
      have fs := fil_s (comC (goal N (rh N)) (inst N (rh N))) L x4.toNat kl
      have fat := fil_at (comC (goal N (rh N)) (inst N (rh N))) L x4.toNat kl
      have fb := ftN_b N (goal N (rh N)) (L.filter (comC (goal N (rh N)) (inst N (rh N)))) x3.toNat
      have fl := fil_le (comC (goal N (rh N)) (inst N (rh N))) L x4.toNat
      refine ⟨(by omega), ?_⟩
      rw [e82 x4.toNat kl]
      refine c_X2_comingOf q12 t7 C7 W ?_
      intro _
      refine ⟨fun y x g => g = h ∧ x = ((((L.take (x4.toNat + 1)).filter (comC (goal N (rh N)) (inst N (rh N)))).length : Nat) : Int) ∧ x ≤ p0 ∧ y = (ftN N (goal N (rh N)) (L.filter (comC (goal N (rh N)) (inst N (rh N)))) x.toNat), ?_, ?_⟩
      · intro x11 x12 h15 t15 s15 rx11 rx12 z16
        intro x17 ex17 rx17
        rw [wr_of (by omega) (by omega)] at ex17
        obtain ⟨y1, y2, y3, y4⟩ := z16
        have tn : (x4 + 1).toNat = x4.toNat + 1 := by omega
        rw [ex17]
        dsimp only
        rw [tn]
        exact ⟨⟨by omega, by omega, y1, y2, y3, y4⟩, by omega⟩
      · refine ⟨fun c29 => ?_, fun c29 => ?_⟩
        · rcases comC_v W.1 sg (g := (inst N (rh N))) q12 with ⟨-, cq⟩ | ⟨-, v, -, e, -⟩
          · rw [if_neg (by rw [cq]; decide), List.append_nil] at fs
            exact ⟨zg, by rw [fs]; exact zx, zp, zy⟩
          · omega
        · obtain ⟨cq, v, hv, e1, e2⟩ := (comC_v W.1 sg (g := (inst N (rh N))) q12).resolve_left (fun y => c29 y.1)
          obtain ⟨f1, f2⟩ := fat cq
          rw [if_pos cq] at fs
          rw [e1]
          refine c_X11_mirrorFor t7 C7 W hv (by omega) ?_
          intro _ _ _
          refine ⟨fun c28 => ?_, fun c28 => ?_⟩
          · refine ⟨fun y => y = if mirN N x2 v = -1 then 0 else 1, ?_, ?_⟩
            · intro x20 rx20 z21
              intro x22 ex22 rx22
              intro x23 ex23 rx23
              have z01 : x20 = 0 ∨ x20 = 1 := by rw [z21]; split <;> omega
              rw [wr_of (by omega) (by omega)] at ex22 ex23
              refine ⟨zg, by rw [fs, List.length_append, List.length_singleton]; omega, by omega, ?_⟩
              rw [ex23, show (x3 + 1).toNat = x3.toNat + 1 by omega, ex22, z21]
              show _ = ftN N _ _ x3.toNat + _
              rw [← zy, show x3.toNat = (List.filter (comC (goal N (rh N)) (inst N (rh N))) (List.take x4.toNat L)).length by omega, f2, e2, Int.toNat_natCast]
            · refine ⟨fun c24 => ?_, fun c24 => ?_⟩
              · rw [if_pos c24]
              · rw [if_neg c24]
          · have xe : p0.toNat = (List.filter (comC (goal N (rh N)) (inst N (rh N))) (List.take x4.toNat L)).length := by omega
            refine ⟨fun y => y = (if p1 = 0 then (((L.filter (comC (goal N (rh N)) (inst N (rh N)))).getD p0.toNat 0 : Nat) : Int) else (mirN N (ftN N (goal N (rh N)) (L.filter (comC (goal N (rh N)) (inst N (rh N)))) p0.toNat) (slF N (goal N (rh N)) ((L.filter (comC (goal N (rh N)) (inst N (rh N)))).getD p0.toNat 0)).toNat)), ?_, ?_⟩
            · intro x25 rx25 z26
              rw [z26]
              exact k
            · refine ⟨fun c27 => ?_, fun c27 => ?_⟩
              · rw [if_pos c27, e82 x4.toNat kl, xe, f2]
              · rw [if_neg c27, xe, f2, e2, Int.toNat_natCast, ← xe, show p0.toNat = x3.toNat by omega, ← zy]
set_option maxHeartbeats 1000000 in
theorem c_X14_coming {p0 p1 : Nat} {f g : Nat → Int} {L : List Nat} {h : XH} {N : Nat → Int} {m : Nat} (T : HT h) (eN : N = nw h) (W : WF N m) {nd : Nat → ND} (A : AR h p0 f) (S : fOK N f) (B : AR h p1 g) (S2 : fOK N g) (A4 : Arr N nd f false L) (l12 : L.length ≤ 12) (e61 : hI h 437 61 = (L.length : Nat)) (e465 : ∀ i, i < L.length → hI h 465 i = ((L.getD i 0 : Nat) : Int)) {K : Nat → XH → Prop} (k : ∀ a h1, Fr (fun _ => False) h h1 → Gr 2 (2 * n12) h h1 → h.length ≤ h1.length → LsR h1 a (L.filter (comC f g)) → K a h1) : w_X14_coming p0 p1 K h := by
  unfold w_X14_coming
  have L0 := HT_len T
  have lp0 := hk_lt A.1 (by decide)
  have lp1 := hk_lt B.1 (by decide)
  have ln := List.length_filter_le (comC f g) L
  intro a1 h2 ea1 eh2 t2 u2 ca1 la1
  have f2 : Fr (fun _ => False) h h2 := fun b hb _ => by rw [eh2]; exact sameC_app hb
  have l2 : h2.length = h.length + 1 := by rw [eh2]; unfold nA; rw [len_app]
  have x2 : xhs h2 = xhs h + n12 := by rw [eh2, xhs_nA]; rfl
  refine ⟨fun n v g_ => 0 ≤ v ∧ v ≤ ((L.length : Nat) : Int) ∧ n = ((((L.take v.toNat).filter (comC f g)).length : Nat) : Int) ∧ Fr (fun b => b = a1) h2 g_ ∧ g_.length = h2.length ∧ xhs g_ = xhs h2 ∧ hk g_ a1 = 100 ∧ hn g_ a1 = 12 ∧ ∀ j, j < ((L.take v.toNat).filter (comC f g)).length → hI g_ a1 j = ((((L.take v.toNat).filter (comC f g)).getD j 0 : Nat) : Int), fun _ v _ => (((L.length : Nat) : Int) - v).toNat, ?_, ?_⟩
  · exact ⟨by omega, by omega, rfl, Fr_rf _ _, rfl, rfl, ca1, la1, fun j hj => by cases hj⟩
  · intro x3 x4 h6 t6 s6 rx3 rx4 z7
    obtain ⟨z0, z1, zn, zf, zl, zx, zk, z8, zv⟩ := z7
    have s6 : ∀ b, b < h.length → sameC h h6 b := fun b hb => sameC_tr (f2 b hb id) (zf b (by omega) (by omega))
    have e66 : hI h6 437 61 = (L.length : Nat) := (sameC_I (s6 437 (by omega)) 61).trans e61
    have fl := fil_le (comC f g) L x4.toNat
    refine ⟨fun c27 => ?_, fun c27 => ?_⟩
    · rw [List.take_of_length_le (by omega)] at zn zv
      refine ⟨(by omega), ?_⟩
      intro a9 h10 ea9 eh10 t10 u10 ca9 la9
      have n1 : hn h10 a1 = 12 := by rw [sameC_n (show sameC h6 h10 a1 by rw [eh10]; exact sameC_app (by omega))]; exact z8
      refine ⟨(by exact HX_hk u10 zk (by decide)), ?_⟩
      refine ⟨(by omega), ?_⟩
      intro h13 eh13 t13 u13
      have s10 : ∀ b, b < h6.length → sameC h6 h10 b := fun b hb => by rw [eh10]; exact sameC_app hb
      have k1 : hk h10 a1 = 100 := HX_hk u10 zk (by decide)
      have e13 := el_cA (h := h10) (a := a1) (sp := 0) (b := a9) (dp := 0) (n := x3.toNat) (t := t10) (u := 0) k1 ca9 (by decide) (by omega) (by omega)
      have x13 : xhs h13 = xhs h10 := by rw [eh13]; exact xhs_cA (t := t10) (u := 0) k1 ca9 (by decide) (by omega) (by omega)
      have l13 : h13.length = h6.length + 1 := by rw [eh13, len_cA, eh10]; unfold nA; rw [len_app]
      refine k _ _ (fun b hb _ => ?_) ⟨by omega, ?_⟩ (by omega) ⟨HX_hk u13 ca9 (by decide), ?_, fun i hi => ?_⟩
      · refine sameC_tr (sameC_tr (s6 b hb) (s10 b (by omega))) ?_
        rw [eh13]; exact sameC_cA (by omega)
      · rw [x13, eh10, xhs_nA, zx, x2]
        have := xcs_le (show x3.toNat ≤ 12 by omega)
        unfold n12
        omega
      · rw [show hn h13 a9 = hn h10 a9 from congrArg Prod.snd (u13.2 a9 (hk_lt ca9 (by decide)))]; omega
      · unfold hI
        rw [eh13, e13, if_pos ⟨by omega, by omega⟩, Nat.zero_add, Nat.sub_zero, sameC_el (s10 a1 (by omega))]
        exact zv i hi
    · have kl : x4.toNat < L.length := by omega
      obtain ⟨q12, qf⟩ := Arr_mem A4 x4.toNat kl
      have nf := qf rfl
      have fs := fil_s (comC f g) L x4.toNat kl
      have fl1 := fil_le (comC f g) L (x4.toNat + 1)
      have ct := comC_t (g := g) nf
      refine ⟨(by omega), ?_⟩
      intro x15 ex15 rx15
      rw [sameC_I (s6 465 (by omega)), e465 x4.toNat kl] at ex15
      rw [ex15]
      refine c_X14_codeIn (AR_fr (s6 p0 lp0) A) ⟨by omega, by omega⟩ (by rw [Int.toNat_natCast]; exact fOK_r W.1 S q12) ?_
      rw [Int.toNat_natCast]
      intro _
      refine c_X14_codeIn (AR_fr (s6 p1 lp1) B) ⟨by omega, by omega⟩ (by rw [Int.toNat_natCast]; exact fOK_r W.1 S2 q12) ?_
      rw [Int.toNat_natCast]
      intro _
      refine ⟨fun n g_ => n = ((((L.take (x4.toNat + 1)).filter (comC f g)).length : Nat) : Int) ∧ Fr (fun b => b = a1) h2 g_ ∧ g_.length = h2.length ∧ xhs g_ = xhs h2 ∧ hk g_ a1 = 100 ∧ hn g_ a1 = 12 ∧ ∀ j, j < ((L.take (x4.toNat + 1)).filter (comC f g)).length → hI g_ a1 j = ((((L.take (x4.toNat + 1)).filter (comC f g)).getD j 0 : Nat) : Int), ?_, ?_⟩
      · intro x18 h19 t19 s19 rx18 z20
        intro x21 ex21 rx21
        rw [wr_of (by omega) (by omega)] at ex21
        have tn : (x4 + 1).toNat = x4.toNat + 1 := by omega
        rw [ex21]
        dsimp only
        rw [tn]
        exact ⟨⟨by omega, by omega, z20⟩, by omega⟩
      · refine ⟨fun c26 => ?_, fun c26 => ?_⟩
        · rw [if_neg (fun y => ct.mp y c26), List.append_nil] at fs
          rw [fs]
          exact ⟨zn, zf, zl, zx, zk, z8, zv⟩
        · rw [if_pos (ct.mpr c26)] at fs
          have fsl : (List.filter (comC f g) (List.take (x4.toNat + 1) L)).length = (List.filter (comC f g) (List.take x4.toNat L)).length + 1 := by rw [fs, List.length_append, List.length_singleton]
          refine ⟨zk, ?_⟩
          refine ⟨(by omega), ?_⟩
          intro h24 eh24 t24 u24
          intro x25 ex25 rx25
          rw [wr_of (by omega) (by omega)] at ex25
          refine ⟨by omega, Fr_tr zf (by omega) (by rw [eh24]; exact Fr_sV rfl), by rw [eh24, len_sV, zl], by rw [eh24, xhs_sV, zx], by rw [eh24, hk_sV]; exact zk, by rw [eh24, hn_sV]; exact z8, fun j hj => ?_⟩
          rw [fs, eh24]
          by_cases c : j = (List.filter (comC f g) (List.take x4.toNat L)).length
          · rw [show x3.toNat = j by omega, hI_eq (by omega) (by unfold rg; omega), c]
            rw [getD_1]
          · rw [hI_ni (by omega), zv j (by omega)]
            rw [List.getD_eq_getElem?_getD, List.getD_eq_getElem?_getD, List.getElem?_append_left (by omega)]
