/-! FETCHES -/
set_option maxHeartbeats 1000000 in
theorem c_X12_fetches {h : XH} {N : Nat → Int} {nd : Nat → ND} {m : Nat} (T : HT h) (C : CS h 8 N nd) (W : WF N m) (dk : DK nd m) (CC : CaC h N nd) {K : Int → XH → Prop} (k : ∀ g, HT g → CSt h g N nd → K ((if (arrO N nd (goal N (rh N))).1 = true then -1 else ((((arrO N nd (goal N (rh N))).2.filter (comC (goal N (rh N)) (inst N (rh N)))).length : Nat) : Int))) g) : w_X12_fetches K h := by
  unfold w_X12_fetches
  have hr := rh_lt W
  refine c_X12_knowMet T C W dk CC ?_
  intro h1 s1 cc1 k1 m1
  intro t1 u1
  have C1 := CSt_CS T C W s1
  refine c_atH C1 W ?_
  refine ⟨(rc_k t1 hr), ?_⟩
  refine c_X2_arrange t1 C1 W dk m1 (CS_g C1 hr) ?_
  intro h4 b L A4 l12 f4 _ e7 e6 e82
  have ao := arr_is A4
  intro t4 u4
  have s4 := CSt_tr s1 (CSt_s (nd := nd) (N := N) t1 (Fr_mono f4.1 (fun b y => by omega)) f4.2.1 f4.2.2)
  have C4 := CSt_CS T C W s4
  refine ⟨fun y => y = (if (arrO N nd (goal N (rh N))).1 = true then -1 else ((((arrO N nd (goal N (rh N))).2.filter (comC (goal N (rh N)) (inst N (rh N)))).length : Nat) : Int)), ?_, ?_⟩
  · intro x5 rx5 z6
    rw [z6]
    exact k _ t4 s4
  · refine ⟨fun c8 => ?_, fun c8 => ?_⟩
    · have b0 : b = false := by
        cases b with
        | false => rfl
        | true => rw [e7] at c8; cases c8
      rw [b0] at A4 ao
      refine c_X2_comingCount t4 C4 W ?_
      intro _
      rw [ao, if_neg (show ¬ (false, L).1 = true from Bool.false_ne_true)]
      exact congrArg Nat.cast (Arr_cnt A4).symm
    · have b1 : b = true := by
        cases b with
        | true => rfl
        | false => exact absurd e7 c8
      rw [ao, if_pos b1]
set_option maxHeartbeats 1000000 in
theorem c_X14_fetches {nd : Nat → ND} {h : XH} {N : Nat → Int} {m : Nat} (T : HT h) (eN : N = nw h) (W : WF N m) (Z : NTm h nd m) (fg : fOK N (goal N (rh N))) (fi : fOK N (inst N (rh N))) {K : Int → XH → Prop} (k : ∀ h1 h2, HT h1 → h1 = sI h 437 5 0 → RSt h1 h2 nd 5 (5 * n12) → K ((if (arrO N nd (goal N (rh N))).1 = true then -1 else ((((arrO N nd (goal N (rh N))).2.filter (comC (goal N (rh N)) (inst N (rh N)))).length : Nat) : Int))) h2) : w_X14_fetches K h := by
  unfold w_X14_fetches
  intro h1 eh1 t1 u1
  have eN1 : N = nw h1 := eN.trans (nw_fr (by rw [eh1]; exact sameC_sV (by decide))).symm
  have Z1 := NTm_5 T eh1 Z
  have L1 := HT_len t1
  refine c_gS t1 eN1 W ?_
  intro a2 h3 f3 g3 l3 A3
  intro t3 u3
  have eN3 : N = nw h3 := eN1.trans (nw_F t1 f3).symm
  have Z3 : NTm h3 nd m := NTm_fr t1 (fun b x _ => f3 b x id) (fun j _ => sameC_el (f3 437 (by omega) id) j) Z1
  have L3 := HT_len t3
  refine c_X14_findScripts t3 eN3 W Z3 A3 fg (by omega) ?_
  intro h4 b L A4 l12 f4 l4 g4 e4 e61 e465
  have ao := arr_is A4
  intro t4 u4
  have eN4 : N = nw h4 := eN3.trans (nw_fr (f4 438 (by omega) (by decide))).symm
  have r4 : RSt h1 h4 nd 2 (2 * n12) := RSt_mono (RSt_tr t1 u3.1 (RSt_a t1 f3 g3 u3.1) (RSt_n t3 (Fr_mono f4 (fun b y => by omega)) (fun j hj => e4 j (by omega)) g4 l4)) (by omega) (by omega)
  have L4 := HT_len t4
  have p3 := hk_lt A3.1 (by decide)
  have A34 := AR_fr (f4 a2 p3 (by omega)) A3
  have ab := Arr_b A4 e61
  refine ⟨fun y g => y = (if (arrO N nd (goal N (rh N))).1 = true then -1 else ((((arrO N nd (goal N (rh N))).2.filter (comC (goal N (rh N)) (inst N (rh N)))).length : Nat) : Int)) ∧ RSt h1 g nd 5 (5 * n12), ?_, ?_⟩
  · intro x5 h6 t6 s6 rx5 z7
    rw [z7.1]
    exact k _ _ t1 eh1 z7.2
  · refine ⟨fun c14 => ?_, fun c14 => ?_⟩
    · have b0 := ab.mp c14
      rw [b0] at A4 ao
      rw [b0, if_neg (by decide)] at e61
      refine c_iS t4 eN4 W ?_
      intro a8 h9 f9 g9 l9 A9
      intro t9 u9
      have eN9 : N = nw h9 := eN4.trans (nw_F t4 f9).symm
      have L9 := HT_len t9
      have p4 := hk_lt A34.1 (by decide)
      have A39 := AR_fr (f9 a2 p4 id) A34
      have r9 := RSt_tr t1 r4.2.2.2.2.1 r4 (RSt_a (nd := nd) t4 f9 g9 u9.1)
      refine c_X14_coming t9 eN9 W A39 fg A9 fi A4 l12 ((sameC_I (f9 437 (by omega) id) 61).trans e61) (fun i hi => (sameC_I (f9 465 (by omega) id) i).trans (e465 i hi)) ?_
      intro a10 h11 f11 g11 l11 A11
      intro t11 u11
      have ln := List.length_filter_le (comC (goal N (rh N)) (inst N (rh N))) L
      have r11 := RSt_mono (RSt_tr t1 r9.2.2.2.2.1 r9 (RSt_a (nd := nd) t9 f11 g11 l11)) (n2 := 5) (s2 := 5 * n12) (by omega) (by omega)
      refine ⟨A11.1, ?_⟩
      refine ⟨(by rw [A11.2.1]; omega), ?_⟩
      refine ⟨?_, r11⟩
      rw [ao, if_neg (show ¬ (false, L).1 = true from Bool.false_ne_true), A11.2.1]
    · have b1 : b = true := by
        cases b with
        | true => rfl
        | false => exact absurd (ab.mpr rfl) c14
      refine ⟨?_, RSt_mono r4 (by omega) (by omega)⟩
      rw [ao, if_pos b1]
theorem d_fetches {h : XH} {nd : Nat → ND} {o u : Int} {c : Nat} (T : HT h) (R : Inv h nd o u c) {K : Int → XH → Prop} {J : XH → Prop} (k : ∀ h' o' u', HT h' → Inv h' nd o' u' (c + 1) → Gr (0 + 5) (0 + (5 * n12)) h h' → J h') : w_X12_fetches  (LDq h (fun g Q => w_X14_fetches  Q g) K J) h := by
  have W := R.1.2.1
  have C := R.1.1
  have hr := rh_lt W
  refine dasq (x := (if (arrO (nw h) nd (goal (nw h) (rh (nw h)))).1 = true then -1 else ((((arrO (nw h) nd (goal (nw h) (rh (nw h)))).2.filter (comC (goal (nw h) (rh (nw h))) (inst (nw h) (rh (nw h))))).length : Nat) : Int))) (wL := fun Q => w_X12_fetches  Q h) (wR := fun g Q => w_X14_fetches  Q g) (mkAq T R (fun Q q => ?_)) (fun g Tg Rg eg => mkBq Tg Rg (fun Q q => ?_)) k
  · exact c_X12_fetches T C W (DK_of (NTm_of R.1)) R.2.2.1  q
  · exact c_X14_fetches (m := (hI g 437 7).toNat) (nd := nd) Tg eg.symm (by rw [← eg]; exact Rg.1.2.1) (NTm_of Rg.1) (CS_g C hr).2.2.2 (CS_i C hr).2.2.2 q
set_option maxHeartbeats 1000000 in
theorem c_X12_fetchAt {p0 p1 : Int} {h : XH} {N : Nat → Int} {nd : Nat → ND} {m : Nat} (T : HT h) (C : CS h 8 N nd) (W : WF N m) (dk : DK nd m) (CC : CaC h N nd) {K : Int → XH → Prop} {E : Nat → XH → Prop} (k0 : ¬ ((arrO N nd (goal N (rh N))).1 = false) → ∀ g, HT g → CSt h g N nd → E 3 (nT g)) (k1 : (arrO N nd (goal N (rh N))).1 = false → ¬ (0 ≤ p0 ∧ p0 < ((((arrO N nd (goal N (rh N))).2.filter (comC (goal N (rh N)) (inst N (rh N)))).length : Nat) : Int)) → ∀ g, HT g → CSt h g N nd → E 2 (nT g)) (k : (arrO N nd (goal N (rh N))).1 = false → (0 ≤ p0 ∧ p0 < ((((arrO N nd (goal N (rh N))).2.filter (comC (goal N (rh N)) (inst N (rh N)))).length : Nat) : Int)) → ∀ g, HT g → CSt h g N nd → K ((if p1 = 0 then ((((arrO N nd (goal N (rh N))).2.filter (comC (goal N (rh N)) (inst N (rh N)))).getD p0.toNat 0 : Nat) : Int) else (mirN N (ftN N (goal N (rh N)) ((arrO N nd (goal N (rh N))).2.filter (comC (goal N (rh N)) (inst N (rh N)))) p0.toNat) (slF N (goal N (rh N)) (((arrO N nd (goal N (rh N))).2.filter (comC (goal N (rh N)) (inst N (rh N)))).getD p0.toNat 0)).toNat))) g) : w_X12_fetchAt p0 p1 K E h := by
  unfold w_X12_fetchAt
  have hr := rh_lt W
  refine c_X12_knowMet T C W dk CC ?_
  intro h1 s1 cc1 kk1 m1
  intro t1 u1
  have C1 := CSt_CS T C W s1
  refine c_atH C1 W ?_
  refine ⟨(rc_k t1 hr), ?_⟩
  refine c_X2_arrange t1 C1 W dk m1 (CS_g C1 hr) ?_
  intro h4 b L A4 l12 f4 _ e7 e6 e82
  have ao := arr_is A4
  have o1 : (arrO N nd (goal N (rh N))).1 = b := by rw [ao]
  have o2 : (arrO N nd (goal N (rh N))).2 = L := by rw [ao]
  rw [o1] at k k0 k1
  rw [o2] at k k1
  intro t4 u4
  have s4 := CSt_tr s1 (CSt_s (nd := nd) (N := N) t1 (Fr_mono f4.1 (fun b y => by omega)) f4.2.1 f4.2.2)
  have C4 := CSt_CS T C W s4
  refine ⟨fun c11 => ?_, fun c11 => ?_⟩
  · have b0 : b = false := by
      cases b with
      | false => rfl
      | true => rw [e7] at c11; cases c11
    rw [b0] at A4 ao
    refine ⟨¬ (0 ≤ p0 ∧ p0 < (((L.filter (comC (goal N (rh N)) (inst N (rh N)))).length : Nat) : Int)), ?_, ?_⟩
    · intro z5
      exact k1 b0 z5 _ t4 s4
    · refine ⟨fun c10 => ?_, fun c10 => ?_⟩
      · omega
      · refine c_X2_comingCount t4 C4 W ?_
        rw [← Arr_cnt A4]
        unfold comL
        intro _
        refine ⟨fun c9 => ?_, fun c9 => ?_⟩
        · refine c_X2_comingAt t4 C4 W A4 l12 e6 e82 ⟨by omega, by omega⟩ ?_
          intro _ _ _
          exact k b0 ⟨by omega, by omega⟩ _ t4 s4
        · omega
  · have b1 : b = true := by
      cases b with
      | true => rfl
      | false => exact absurd e7 c11
    exact k0 (by rw [b1]; decide) _ t4 s4
set_option maxHeartbeats 1000000 in
theorem c_L_fetchAt {p1 p2 : Int} {h : XH} {N : Nat → Int} {nd : Nat → ND} {m : Nat} (T : HT h) (C : CS h 8 N nd) (W : WF N m) (dk : DK nd m) (CC : CaC h N nd) {K : Int → XH → Prop} (k0 : ¬ ((arrO N nd (goal N (rh N))).1 = false) → ∀ g, HT g → CSt h g N nd → K 1 (nT g)) (k1 : (arrO N nd (goal N (rh N))).1 = false → ¬ (0 ≤ p1 ∧ p1 < ((((arrO N nd (goal N (rh N))).2.filter (comC (goal N (rh N)) (inst N (rh N)))).length : Nat) : Int)) → ∀ g, HT g → CSt h g N nd → K 2 (nT g)) (k : (arrO N nd (goal N (rh N))).1 = false → (0 ≤ p1 ∧ p1 < ((((arrO N nd (goal N (rh N))).2.filter (comC (goal N (rh N)) (inst N (rh N)))).length : Nat) : Int)) → ∀ g g6, HT g → CSt h g N nd → g6 = sL g 467 0 (i2l ((if p2 = 0 then ((((arrO N nd (goal N (rh N))).2.filter (comC (goal N (rh N)) (inst N (rh N)))).getD p1.toNat 0 : Nat) : Int) else (mirN N (ftN N (goal N (rh N)) ((arrO N nd (goal N (rh N))).2.filter (comC (goal N (rh N)) (inst N (rh N)))) p1.toNat) (slF N (goal N (rh N)) (((arrO N nd (goal N (rh N))).2.filter (comC (goal N (rh N)) (inst N (rh N)))).getD p1.toNat 0)).toNat)))) → K 0 g6) : w_L_fetchAt p1 p2 K h := by
  unfold w_L_fetchAt
  refine c_X12_fetchAt T C W dk CC (fun q g t s => .inl ⟨rfl, k0 q g t s⟩) (fun q w g t s => .inr ⟨rfl, k1 q w g t s⟩) (fun q w g t s => ?_)
  intro tx ux _
  intro h5 eh5 t5 u5
  exact k q w _ _ t s eh5
set_option maxHeartbeats 1000000 in
theorem c_X14_fetchAt {p0 p1 : Int} {nd : Nat → ND} {h : XH} {N : Nat → Int} {m : Nat} (T : HT h) (eN : N = nw h) (W : WF N m) (Z : NTm h nd m) (fg : fOK N (goal N (rh N))) (fi : fOK N (inst N (rh N))) {K : Int → XH → Prop} (k0 : ¬ ((arrO N nd (goal N (rh N))).1 = false) → ∀ h1 h2 h3, HT h1 → h1 = sI h 437 5 0 → RSt h1 h2 nd 5 (5 * n12) → HT h2 → h3 = sI h2 437 5 1 → K 0 h3) (k1 : (arrO N nd (goal N (rh N))).1 = false → ¬ (0 ≤ p0 ∧ p0 < ((((arrO N nd (goal N (rh N))).2.filter (comC (goal N (rh N)) (inst N (rh N)))).length : Nat) : Int)) → ∀ h1 h2 h3, HT h1 → h1 = sI h 437 5 0 → RSt h1 h2 nd 5 (5 * n12) → HT h2 → h3 = sI h2 437 5 2 → K 0 h3) (k : (arrO N nd (goal N (rh N))).1 = false → (0 ≤ p0 ∧ p0 < ((((arrO N nd (goal N (rh N))).2.filter (comC (goal N (rh N)) (inst N (rh N)))).length : Nat) : Int)) → ∀ h1 h2, HT h1 → h1 = sI h 437 5 0 → RSt h1 h2 nd 5 (5 * n12) → K ((if p1 = 0 then ((((arrO N nd (goal N (rh N))).2.filter (comC (goal N (rh N)) (inst N (rh N)))).getD p0.toNat 0 : Nat) : Int) else (mirN N (ftN N (goal N (rh N)) ((arrO N nd (goal N (rh N))).2.filter (comC (goal N (rh N)) (inst N (rh N)))) p0.toNat) (slF N (goal N (rh N)) (((arrO N nd (goal N (rh N))).2.filter (comC (goal N (rh N)) (inst N (rh N)))).getD p0.toNat 0)).toNat))) h2) : w_X14_fetchAt p0 p1 K h := by
  unfold w_X14_fetchAt
  intro h1 eh1 t1 u1
  have eN1 : N = nw h1 := eN.trans (nw_fr (by rw [eh1]; exact sameC_sV (by decide))).symm
  have Z1 := NTm_5 T eh1 Z
  have L1 := HT_len t1
  refine c_gS t1 eN1 W ?_
  intro a2 h3 f3 g3 l3 A3
  intro t3 u3
  have eN3 : N = nw h3 := eN1.trans (nw_F t1 f3).symm
  have Z3 : NTm h3 nd m := NTm_fr t1 (fun b x _ => f3 b x id) (fun j _ => sameC_el (f3 437 (by omega) id) j) Z1
  have L3 := HT_len t3
  refine c_X14_findScripts t3 eN3 W Z3 A3 fg (by omega) ?_
  intro h4 b L A4 l12 f4 l4 g4 e4 e61 e465
  have ao := arr_is A4
  have o1 : (arrO N nd (goal N (rh N))).1 = b := by rw [ao]
  have o2 : (arrO N nd (goal N (rh N))).2 = L := by rw [ao]
  rw [o1] at k k0 k1
  rw [o2] at k k1
  intro t4 u4
  have eN4 : N = nw h4 := eN3.trans (nw_fr (f4 438 (by omega) (by decide))).symm
  have r4 : RSt h1 h4 nd 2 (2 * n12) := RSt_mono (RSt_tr t1 u3.1 (RSt_a t1 f3 g3 u3.1) (RSt_n t3 (Fr_mono f4 (fun b y => by omega)) (fun j hj => e4 j (by omega)) g4 l4)) (by omega) (by omega)
  have L4 := HT_len t4
  have p3 := hk_lt A3.1 (by decide)
  have A34 := AR_fr (f4 a2 p3 (by omega)) A3
  have ab := Arr_b A4 e61
  refine ⟨fun y => bq y (b = false), ?_, ?_⟩
  · intro x5 rx5 z6
    refine c_X14_refused z6 ?_
    intro x7 h8 qx7
    intro t8 u8
    intro rx7 vx7
    refine ⟨fun c38 => ?_, fun c38 => ?_⟩
    · obtain ⟨b_1, e_1⟩ : (b = false) ∧ h8 = h4 := by
        rcases qx7 with ⟨_, y, z⟩ | ⟨y, _⟩
        · exact ⟨y, z⟩
        · omega
      subst e_1
      rw [b_1] at A4 ao
      rw [b_1, if_neg (by decide)] at e61
      refine c_iS t8 eN4 W ?_
      intro a9 h10 f10 g10 l10 A10
      intro t10 u10
      have eN10 : N = nw h10 := eN4.trans (nw_F t8 f10).symm
      have L10 := HT_len t10
      have p4 := hk_lt A34.1 (by decide)
      have A39 := AR_fr (f10 a2 p4 id) A34
      have r10 := RSt_tr t1 r4.2.2.2.2.1 r4 (RSt_a (nd := nd) t8 f10 g10 u10.1)
      refine c_X14_coming t10 eN10 W A39 fg A10 fi A4 l12 ((sameC_I (f10 437 (by omega) id) 61).trans e61) (fun i hi => (sameC_I (f10 465 (by omega) id) i).trans (e465 i hi)) ?_
      intro a11 h12 f12 g12 l12_ A12
      intro t12 u12
      have ln := List.length_filter_le (comC (goal N (rh N)) (inst N (rh N))) L
      have r12 := RSt_mono (RSt_tr t1 r10.2.2.2.2.1 r10 (RSt_a (nd := nd) t10 f12 g12 l12_)) (n2 := 5) (s2 := 5 * n12) (by omega) (by omega)
      have eN12 : N = nw h12 := eN10.trans (nw_F t10 f12).symm
      have A32 := AR_fr (f12 a2 (hk_lt A39.1 (by decide)) id) A39
      obtain ⟨A12k, A12n, A12r⟩ := A12
      rw [A12n]
      refine ⟨A12k, ?_⟩
      refine ⟨(by omega), ?_⟩
      rw [wr_of (by omega) (by omega)]
      refine c_X14_within ?_
      intro x15 qx15
      replace qx15 := bq_iff qx15 (show _ ↔ (0 ≤ p0 ∧ p0 < (((L.filter (comC (goal N (rh N)) (inst N (rh N)))).length : Nat) : Int)) by omega)
      intro rx15 vx15
      refine c_X14_refused qx15 ?_
      intro x16 h17 qx16
      intro t17 u17
      intro rx16 vx16
      refine ⟨fun c37 => ?_, fun c37 => ?_⟩
      · obtain ⟨b_2, e_2⟩ : (0 ≤ p0 ∧ p0 < (((L.filter (comC (goal N (rh N)) (inst N (rh N)))).length : Nat) : Int)) ∧ h17 = h12 := by
          rcases qx16 with ⟨_, y, z⟩ | ⟨y, _⟩
          · exact ⟨y, z⟩
          · omega
        subst e_2
        refine ⟨fun c36 => ?_, fun c36 => ?_⟩
        · intro x18 ex18 rx18
          obtain ⟨-, -, n2, n2_, -, -, -⟩ := W.2.2
          replace ex18 : x18 = N 2 := ex18.trans (by rw [eN12]; rfl)
          refine ⟨fun y v_ v g => 0 ≤ v ∧ v ≤ p0 + 1 ∧ g = h17 ∧ y = (ftN N (goal N (rh N)) (L.filter (comC (goal N (rh N)) (inst N (rh N)))) v.toNat) ∧ (v = 0 ∧ v_ = -1 ∨ 0 < v ∧ v_ = (mirN N (ftN N (goal N (rh N)) (L.filter (comC (goal N (rh N)) (inst N (rh N)))) (v.toNat - 1)) (slF N (goal N (rh N)) ((L.filter (comC (goal N (rh N)) (inst N (rh N)))).getD (v.toNat - 1) 0)).toNat)), fun _ _ v _ => (p0 + 1 - v).toNat, ?_, ?_⟩
          · exact ⟨by omega, by omega, rfl, ex18, .inl ⟨rfl, rfl⟩⟩
          · intro x19 x20 x21 h22 t22 s22 rx19 rx20 rx21 z23
            obtain ⟨z0, z1, zg, zy, zm⟩ := z23
            refine ⟨fun c34 => ?_, fun c34 => ?_⟩
            · have e := (zm.resolve_left (fun y => by omega)).2
              rw [show x21.toNat - 1 = p0.toNat by omega] at e
              have := k b_1 b_2 _ _ t1 eh1 r12
              rw [if_neg c36] at this
              rw [zg, e]
              exact this
            · have T22 : HT h22 := t22
              have A22 : hk h22 a11 = 100 ∧ hn h22 a11 = (List.filter (comC (goal N (rh N)) (inst N (rh N))) L).length ∧ ∀ i, i < (List.filter (comC (goal N (rh N)) (inst N (rh N))) L).length → hI h22 a11 i = (((List.filter (comC (goal N (rh N)) (inst N (rh N))) L).getD i 0 : Nat) : Int) := by rw [zg]; exact ⟨A12k, A12n, A12r⟩
              have eN22 : N = nw h22 := by rw [zg]; exact eN12
              have A322 : AR h22 a2 (goal N (rh N)) := by rw [zg]; exact A32
              have kl : x21.toNat < (List.filter (comC (goal N (rh N)) (inst N (rh N))) L).length := by omega
              have fb := ftN_b N (goal N (rh N)) (L.filter (comC (goal N (rh N)) (inst N (rh N)))) x21.toNat
              have mm : (List.filter (comC (goal N (rh N)) (inst N (rh N))) L).getD x21.toNat 0 ∈ List.filter (comC (goal N (rh N)) (inst N (rh N))) L := by
                rw [List.getD_eq_getElem?_getD, List.getElem?_eq_getElem kl]
                exact List.getElem_mem kl
              obtain ⟨i, hi, ei⟩ := List.getElem_of_mem (List.mem_filter.mp mm).1
              have am := Arr_mem A4 i hi
              rw [List.getD_eq_getElem?_getD, List.getElem?_eq_getElem hi, show (some L[i]).getD 0 = L[i] from rfl, ei] at am
              obtain ⟨q12, qf⟩ := am
              obtain ⟨v, hv, sv, -⟩ := fOK_v W.1 fg q12 (qf rfl)
              refine ⟨A22.1, ?_⟩
              refine ⟨(by have := A22.2.1; omega), ?_⟩
              rw [A22.2.2 _ kl]
              refine c_X14_slotIn eN22 W.1 A322 fg ⟨by omega, by omega⟩ ?_
              rw [Int.toNat_natCast, sv]
              intro _
              refine c_X14_mirrorFor t22 eN22 W hv (by omega) ?_
              intro _ _ _
              refine ⟨fun y => y = if mirN N x19 v = -1 then 0 else 1, ?_, ?_⟩
              · intro x29 rx29 z30
                intro x31 ex31 rx31
                intro x32 ex32 rx32
                have z01 : x29 = 0 ∨ x29 = 1 := by rw [z30]; split <;> omega
                rw [wr_of (by omega) (by omega)] at ex31 ex32
                have tn : x32.toNat = x21.toNat + 1 := by omega
                refine ⟨⟨by omega, by omega, zg, ?_, .inr ⟨by omega, ?_⟩⟩, by dsimp only; omega⟩
                · rw [tn, ex31, z30]
                  show _ = ftN N _ _ x21.toNat + _
                  rw [← zy, sv, Int.toNat_natCast]
                · rw [tn, Nat.add_sub_cancel, ← zy, sv, Int.toNat_natCast]
              · refine ⟨fun c33 => ?_, fun c33 => ?_⟩
                · rw [if_neg c33]
                · rw [if_pos (Decidable.not_not.mp c33)]
        · have c360 : p1 = 0 := Decidable.not_not.mp c36
          refine ⟨(by omega), ?_⟩
          have := k b_1 b_2 _ _ t1 eh1 r12
          rw [if_pos c360] at this
          rw [A12r _ (by omega)]
          exact this
      · have q_2 : ¬ (0 ≤ p0 ∧ p0 < (((L.filter (comC (goal N (rh N)) (inst N (rh N)))).length : Nat) : Int)) ∧ h17 = sI h12 437 5 2 := by
          rcases qx16 with ⟨y, _⟩ | ⟨_, y, z⟩
          · omega
          · exact ⟨y, z⟩
        exact k1 b_1 q_2.1 _ _ _ t1 eh1 r12 t12 q_2.2
    · have q_1 : ¬ (b = false) ∧ h8 = sI h4 437 5 1 := by
        rcases qx7 with ⟨y, _⟩ | ⟨_, y, z⟩
        · omega
        · exact ⟨y, z⟩
      exact k0 q_1.1 _ _ _ t1 eh1 (RSt_mono r4 (by omega) (by omega)) t4 q_1.2
  · refine ⟨fun c39 => ?_, fun c39 => ?_⟩
    · exact bqF (fun y => by have := ab.mpr y; omega)
    · exact bqT (ab.mp (by omega))
theorem d_fetchAt {h : XH} {nd : Nat → ND} {o u p q : Int} {c : Nat} (T : HT h) (R : Inv h nd o u c) {K : Int → XH → Prop} {J : XH → Prop} (k : ∀ h' o' u', HT h' → Inv h' nd o' u' (c + 1) → Gr (1 + 5) (xcs none + 5 * n12) h h' → J h') : w_L_fetchAt p q (LDw h (fun g Q => w_X14_fetchAt p q Q g) K J) h := by
  classical
  have W := R.1.2.1
  have C := R.1.1
  have hr := rh_lt W
  have ea : ¬ ((arrO (nw h) nd (goal (nw h) (rh (nw h)))).1 = false) → e2 ((arrO (nw h) nd (goal (nw h) (rh (nw h)))).1 = false) (0 ≤ p ∧ p < ((((arrO (nw h) nd (goal (nw h) (rh (nw h)))).2.filter (comC (goal (nw h) (rh (nw h))) (inst (nw h) (rh (nw h))))).length : Nat) : Int)) 1 2 = 1 := fun y => if_neg y
  have eb : ((arrO (nw h) nd (goal (nw h) (rh (nw h)))).1 = false) → ¬ (0 ≤ p ∧ p < ((((arrO (nw h) nd (goal (nw h) (rh (nw h)))).2.filter (comC (goal (nw h) (rh (nw h))) (inst (nw h) (rh (nw h))))).length : Nat) : Int)) → e2 ((arrO (nw h) nd (goal (nw h) (rh (nw h)))).1 = false) (0 ≤ p ∧ p < ((((arrO (nw h) nd (goal (nw h) (rh (nw h)))).2.filter (comC (goal (nw h) (rh (nw h))) (inst (nw h) (rh (nw h))))).length : Nat) : Int)) 1 2 = 2 := fun y z => by unfold e2; rw [if_pos y, if_neg z]
  have ec : ((arrO (nw h) nd (goal (nw h) (rh (nw h)))).1 = false) → (0 ≤ p ∧ p < ((((arrO (nw h) nd (goal (nw h) (rh (nw h)))).2.filter (comC (goal (nw h) (rh (nw h))) (inst (nw h) (rh (nw h))))).length : Nat) : Int)) → e2 ((arrO (nw h) nd (goal (nw h) (rh (nw h)))).1 = false) (0 ≤ p ∧ p < ((((arrO (nw h) nd (goal (nw h) (rh (nw h)))).2.filter (comC (goal (nw h) (rh (nw h))) (inst (nw h) (rh (nw h))))).length : Nat) : Int)) 1 2 = 0 := fun y z => by unfold e2; rw [if_pos y, if_pos z]
  refine dask (e := e2 ((arrO (nw h) nd (goal (nw h) (rh (nw h)))).1 = false) (0 ≤ p ∧ p < ((((arrO (nw h) nd (goal (nw h) (rh (nw h)))).2.filter (comC (goal (nw h) (rh (nw h))) (inst (nw h) (rh (nw h))))).length : Nat) : Int)) 1 2) (x := (if q = 0 then ((((arrO (nw h) nd (goal (nw h) (rh (nw h)))).2.filter (comC (goal (nw h) (rh (nw h))) (inst (nw h) (rh (nw h))))).getD p.toNat 0 : Nat) : Int) else (mirN (nw h) (ftN (nw h) (goal (nw h) (rh (nw h))) ((arrO (nw h) nd (goal (nw h) (rh (nw h)))).2.filter (comC (goal (nw h) (rh (nw h))) (inst (nw h) (rh (nw h))))) p.toNat) (slF (nw h) (goal (nw h) (rh (nw h))) (((arrO (nw h) nd (goal (nw h) (rh (nw h)))).2.filter (comC (goal (nw h) (rh (nw h))) (inst (nw h) (rh (nw h))))).getD p.toNat 0)).toNat))) (wL := fun Q => w_L_fetchAt p q Q h) (wR := fun g Q => w_X14_fetchAt p q Q g) (mkAe T R (fun Q q0 q1 => ?_)) (fun g Tg Rg eg => mkBe Tg Rg (by unfold e2; split <;> (try split) <;> exact rgk rfl) (fun Q q0 q1 => ?_)) k
  · refine c_L_fetchAt T C W (DK_of (NTm_of R.1)) R.2.2.1  (fun y g t s => ?_) (fun y z g t s => ?_) (fun y z => q1 (ec y z))
    · have := q0 (by rw [ea y]; decide) g t s
      rw [ea y] at this
      exact this
    · have := q0 (by rw [eb y z]; decide) g t s
      rw [eb y z] at this
      exact this
  · refine c_X14_fetchAt (m := (hI g 437 7).toNat) Tg eg.symm (by rw [← eg]; exact Rg.1.2.1) (NTm_of Rg.1) (CS_g C hr).2.2.2 (CS_i C hr).2.2.2 (fun y h1 h2 h3 t1 e1 r t2 e3 => ?_) (fun y z h1 h2 h3 t1 e1 r t2 e3 => ?_) (fun y z => q1 (ec y z))
    · exact q0 (by rw [ea y]; decide) h1 h2 h3 t1 e1 r t2 (by rw [ea y]; exact e3)
    · exact q0 (by rw [eb y z]; decide) h1 h2 h3 t1 e1 r t2 (by rw [eb y z]; exact e3)
