/-! CORE AND COREAT, the reference -/
theorem coreL_lt {cs : List Cl} {i : Nat} (hi : i < (coreL cs).length) : (coreL cs).getD i 0 < cs.length := by
  rw [List.getD_eq_getElem?_getD, List.getElem?_eq_getElem hi]
  show (coreL cs)[i] < cs.length
  have mem := List.getElem_mem hi
  generalize (coreL cs)[i] = x at mem
  unfold coreL at mem
  split at mem
  · cases mem
  · exact List.mem_range.mp (List.mem_filter.mp mem).1
theorem coreL_le (cs : List Cl) : (coreL cs).length ≤ cs.length := by
  unfold coreL
  split
  · exact Nat.zero_le _
  · exact Nat.le_trans (List.length_filter_le _ _) (by rw [List.length_range]; exact Nat.le_refl _)
def coreV (cs : List Cl) (core : List Nat) (p q : Int) : Int :=
  if q = 0 then (core.getD p.toNat 0 : Nat) else if q = 1 then cKind (cs.getD (core.getD p.toNat 0) c0) else if q = 2 then cAbout (cs.getD (core.getD p.toNat 0) c0) else if q = 3 then cCode (cs.getD (core.getD p.toNat 0) c0) else (popc (cYes (cs.getD (core.getD p.toNat 0) c0)) + popc (cNo (cs.getD (core.getD p.toNat 0) c0)) : Nat)
set_option maxHeartbeats 1000000 in
theorem c_X14_core {h : XH} {N : Nat → Int} {m : Nat} (T : HT h) (eN : N = nw h) (W : WF N m) {nd : Nat → ND} (P8 : P8N N) (CR : CaR h N nd) (Z : NTm h nd m) (fi : fOK N (inst N (rh N))) (TL : (told N nd).length ≤ 3712) {K : Int → XH → Prop} (k : ∀ h1 h2, HT h1 → h1 = sI h 437 5 0 → RSP h1 h2 nd 28 (n12 + 12 * nA8 + 8192 + 3712) → K ((coreL (told N nd)).length : Nat) h2) : w_X14_core K h := by
  unfold w_X14_core
  intro h1 eh1 t1 u1
  have eN1 : N = nw h1 := eN.trans (nw_fr (by rw [eh1]; exact sameC_sV (by decide))).symm
  have CR1 : CaR h1 N nd := by rw [eh1]; exact CaR_fr (fun b x _ => sameC_sV (by omega)) (fun j hj => el_ni (by omega)) (HT_len T) CR
  have cll := coreL_le (told N nd)
  refine c_X14_findCore t1 eN1 W P8 CR1 (NTm_5 T eh1 Z) fi TL ?_
  intro h2 th2 r2 cr2 s2
  obtain ⟨s30, ⟨ok, ol, ov⟩⟩ := cr2.2.2.2.2.2.2.1 s2
  intro t2 u2
  refine ⟨ok.1, ?_⟩
  refine ⟨(by omega), ?_⟩
  rw [ol]
  exact k _ _ t1 eh1 r2
set_option maxHeartbeats 1000000 in
theorem c_X14_coreAt {p0 p1 : Int} {h : XH} {N : Nat → Int} {m : Nat} (T : HT h) (eN : N = nw h) (W : WF N m) {nd : Nat → ND} (P8 : P8N N) (CR : CaR h N nd) (Z : NTm h nd m) (fi : fOK N (inst N (rh N))) (TL : (told N nd).length ≤ 3712) {K : Int → XH → Prop} (k0 : ¬ (0 ≤ p0 ∧ p0 < ((coreL (told N nd)).length : Int)) → ∀ h1 h2 h3, HT h1 → h1 = sI h 437 5 0 → RSP h1 h2 nd 28 (n12 + 12 * nA8 + 8192 + 3712) → HT h2 → h3 = sI h2 437 5 1 → K 0 h3) (k1 : 0 ≤ p0 ∧ p0 < ((coreL (told N nd)).length : Int) → ¬ (0 ≤ p1 ∧ p1 ≤ 4) → ∀ h1 h2 h3, HT h1 → h1 = sI h 437 5 0 → RSP h1 h2 nd 28 (n12 + 12 * nA8 + 8192 + 3712) → HT h2 → h3 = sI h2 437 5 2 → K 0 h3) (k : 0 ≤ p0 ∧ p0 < ((coreL (told N nd)).length : Int) → 0 ≤ p1 ∧ p1 ≤ 4 → ∀ h1 h2, HT h1 → h1 = sI h 437 5 0 → RSP h1 h2 nd 28 (n12 + 12 * nA8 + 8192 + 3712) → K (coreV (told N nd) (coreL (told N nd)) p0 p1) h2) : w_X14_coreAt p0 p1 K h := by
  unfold w_X14_coreAt
  intro h1 eh1 t1 u1
  have eN1 : N = nw h1 := eN.trans (nw_fr (by rw [eh1]; exact sameC_sV (by decide))).symm
  have CR1 : CaR h1 N nd := by rw [eh1]; exact CaR_fr (fun b x _ => sameC_sV (by omega)) (fun j hj => el_ni (by omega)) (HT_len T) CR
  have cll := coreL_le (told N nd)
  refine c_X14_findCore t1 eN1 W P8 CR1 (NTm_5 T eh1 Z) fi TL ?_
  intro h2 th2 r2 cr2 s2
  obtain ⟨s30, ⟨ok, ol, ov⟩⟩ := cr2.2.2.2.2.2.2.1 s2
  intro t2 u2
  obtain ⟨o24, o25, o26, o27, o28, ⟨n25, n26, n27, n28, -⟩, -⟩ := id cr2.2.1.1
  obtain ⟨t29, tl, tv⟩ := cr2.2.2.2.1 s30
  refine ⟨ok.1, ?_⟩
  refine ⟨(by omega), ?_⟩
  refine c_X14_within ?_
  intro x5 qx5
  rw [ol, wr_of (by omega) (by omega)] at qx5
  replace qx5 : bq x5 (0 ≤ p0 ∧ p0 < ((coreL (told N nd)).length : Int)) := bq_iff qx5 (by omega)
  intro rx5 vx5
  refine c_X14_refused qx5 ?_
  intro x6 h7 qx6
  intro t7 u7
  intro rx6 vx6
  refine ⟨fun g => (¬ (0 ≤ p0 ∧ p0 < ((coreL (told N nd)).length : Int)) ∧ g = sI h2 437 5 1) ∨ ((0 ≤ p0 ∧ p0 < ((coreL (told N nd)).length : Int)) ∧ ¬ (0 ≤ p1 ∧ p1 ≤ 4) ∧ g = sI h2 437 5 2), ?_, ?_⟩
  · intro h8 t8 s8 z9
    rcases z9 with ⟨y, e⟩ | ⟨y, y2, e⟩
    · exact k0 y _ _ _ t1 eh1 r2 th2 e
    · exact k1 y y2 _ _ _ t1 eh1 r2 th2 e
  · refine ⟨fun c30 => ?_, fun c30 => ?_⟩
    · have q_ : ¬ (0 ≤ p0 ∧ p0 < ((coreL (told N nd)).length : Int)) ∧ h7 = sI h2 437 5 1 := by
        rcases qx6 with ⟨y, _⟩ | ⟨_, y, z⟩
        · omega
        · exact ⟨y, z⟩
      exact .inl q_
    · obtain ⟨b_, e_⟩ : (0 ≤ p0 ∧ p0 < ((coreL (told N nd)).length : Int)) ∧ h7 = h2 := by
        rcases qx6 with ⟨_, y, z⟩ | ⟨y, _⟩
        · exact ⟨y, z⟩
        · omega
      subst e_
      have ci := coreL_lt (cs := told N nd) (i := p0.toNat) (by omega)
      refine c_X14_within ?_
      intro x10 qx10
      intro rx10 vx10
      refine c_X14_refused qx10 ?_
      intro x11 h12 qx11
      intro t12 u12
      intro rx11 vx11
      refine ⟨fun c29 => ?_, fun c29 => ?_⟩
      · obtain ⟨b_2, e_2⟩ : (0 ≤ p1 ∧ p1 ≤ 4) ∧ h12 = h7 := by
          rcases qx11 with ⟨_, y, z⟩ | ⟨y, _⟩
          · exact ⟨y, z⟩
          · omega
        subst e_2
        have vi := tv _ ci
        refine ⟨ok.1, ?_⟩
        refine ⟨(by rw [ol]; exact b_), ?_⟩
        intro x15 ex15 rx15
        rw [ov _ (by omega)] at ex15
        have e15 : x15.toNat = (coreL (told N nd)).getD p0.toNat 0 := by omega
        refine ⟨fun c16 => ?_, fun c16 => ?_, fun c16 => ?_, fun c16 => ?_, fun c16 => ?_⟩
        · refine ⟨o24.1, ?_⟩
          refine ⟨(by omega), ?_⟩
          refine c_J13_bitCount_95d88 ?_
          rw [e15, vi.2.2.2.1]
          intro rx19
          refine ⟨o25.1, ?_⟩
          refine ⟨(by rw [n25]; omega), ?_⟩
          refine c_J13_bitCount_95d88 ?_
          try rw [e15]
          rw [vi.2.2.2.2]
          intro rx22
          have b1_ := popc_le (cYes ((told N nd).getD ((coreL (told N nd)).getD p0.toNat 0) c0))
          have b2_ := popc_le (cNo ((told N nd).getD ((coreL (told N nd)).getD p0.toNat 0) c0))
          rw [wr_of (by omega) (by omega)]
          have e := k b_ b_2 _ _ t1 eh1 r2
          unfold coreV at e
          rw [if_neg (by omega), if_neg (by omega), if_neg (by omega), if_neg (by omega), Int.natCast_add] at e
          exact e
        · have e := k b_ b_2 _ _ t1 eh1 r2
          unfold coreV at e
          rw [if_pos (by omega)] at e
          rw [ex15]
          exact e
        · refine ⟨o26.1, ?_⟩
          refine ⟨(by rw [n26]; omega), ?_⟩
          have e := k b_ b_2 _ _ t1 eh1 r2
          unfold coreV at e
          rw [if_neg (by omega), if_pos (by omega)] at e
          rw [e15, vi.1]
          exact e
        · refine ⟨o27.1, ?_⟩
          refine ⟨(by rw [n27]; omega), ?_⟩
          have e := k b_ b_2 _ _ t1 eh1 r2
          unfold coreV at e
          rw [if_neg (by omega), if_neg (by omega), if_pos (by omega)] at e
          rw [e15, vi.2.1]
          exact e
        · refine ⟨o28.1, ?_⟩
          refine ⟨(by rw [n28]; omega), ?_⟩
          have e := k b_ b_2 _ _ t1 eh1 r2
          unfold coreV at e
          rw [if_neg (by omega), if_neg (by omega), if_neg (by omega), if_pos (by omega)] at e
          rw [e15, vi.2.2.1]
          exact e
      · have q_2 : ¬ (0 ≤ p1 ∧ p1 ≤ 4) ∧ h12 = sI h7 437 5 2 := by
          rcases qx11 with ⟨y, _⟩ | ⟨_, y, z⟩
          · omega
          · exact ⟨y, z⟩
        exact .inr ⟨b_, q_2⟩
