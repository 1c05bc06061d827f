/-! FETCHING, the class -/
theorem slF_com {N : Nat → Int} {f g : Nat → Int} {p : Nat} : slF N (comF f g) p = if comC f g p = true then slF N f p else -1 := by
  unfold comC
  by_cases c : comF f g p = -1
  · rw [decide_eq_true c, if_neg (by decide)]; exact slF_0 c
  · rw [decide_eq_false c, Bool.not_false, if_pos rfl]
    refine slF_cgp ?_
    unfold comF at c ⊢
    by_cases d : f p = -1 ∨ cIn f p = cIn g p
    · rw [if_pos d] at c; exact absurd rfl c
    · rw [if_neg d]
theorem slF_fOK {N : Nat → Int} {m : Nat} (W : WF N m) {f : Nat → Int} (S : fOK N f) {p : Nat} (hp : p < 12) (n : ¬ f p = -1) : 0 ≤ slF N f p ∧ (slF N f p).toNat < vc N ∧ nV N (slF N f p).toNat 0 = p := by
  obtain ⟨v, hv, e1, e2⟩ := (S p hp).resolve_left n
  rw [slF_r W.1 hv e1 e2, Int.toNat_natCast]
  exact ⟨by omega, hv, e1⟩
abbrev w3N (N : Nat → Int) (r : Nat) : Nat → Int := whyN N r (-1) (-1) (-1)
theorem w3_at {N : Nat → Int} {r : Nat} : ∀ i, ¬ (805 + 291 * r + 288 ≤ i ∧ i ≤ 805 + 291 * r + 290) → w3N N r i = N i := why_at
theorem drop_f {α : Type} {L : List α} {C : α → Bool} {j : Nat} {d : α} (h : j < L.length) : (L.drop j).filter C = if C (L.getD j d) = true then L.getD j d :: (L.drop (j + 1)).filter C else (L.drop (j + 1)).filter C := by
  have : L.drop j = L.getD j d :: L.drop (j + 1) := by
    rw [List.drop_eq_getElem_cons h, List.getD_eq_getElem?_getD, List.getElem?_eq_getElem h]; rfl
  rw [this, List.filter_cons]
set_option maxHeartbeats 8000000 in
theorem c_X2_isAllFetched {h : XH} {N : Nat → Int} {nd : Nat → ND} {m r : Nat} {L : List Nat} (T : HT h) (C : CS h 8 (w3N N r) nd) (W : WF N m) (er : r = rh N) (S : fOK N (goal N r)) (l2 : N 2 + 12 ≤ 12000) (lk : ∀ k : Nat, k < 3 → N (1714 + 81 * k) + 36 ≤ 100000) (l12 : L.length ≤ 12) (lp : ∀ i, i < L.length → L.getD i 0 < 12) (e6 : hI h 79 6 = (L.length : Nat)) (e82 : ∀ i, i < L.length → hI h 82 i = ((L.getD i 0 : Nat) : Int)) {K : Int → XH → Prop} (k1 : (fetA (goal N r) N (L.filter (comC (goal N r) (inst N r)))).2 = -1 → ∀ g, Fr (fun b => b = 8 ∨ b = 40) h g → g.length = h.length → xhs g = xhs h → CS g 8 (w3N (fetA (goal N r) N (L.filter (comC (goal N r) (inst N r)))).1 r) nd → K 1 g) (k0 : ∀ p : Nat, (fetA (goal N r) N (L.filter (comC (goal N r) (inst N r)))).2 = (p : Int) → ∀ g, Fr (fun b => b = 8 ∨ b = 40 ∨ b = rc r) h g → g.length = h.length → xhs g = xhs h → CS g 8 (whyN (fetA (goal N r) N (L.filter (comC (goal N r) (inst N r)))).1 r 1 p (-1)) nd → K 0 g) : w_X2_isAllFetched K h := by
  unfold w_X2_isAllFetched
  have r3 : r < 3 := by rw [er]; exact rh_lt W
  have rb := rc_lt r3
  have L0 := HT_len T
  have w36 := W.2.2.2.2.2.2.2.1
  have n20 : 0 ≤ N 2 := W.2.2.2.2.1
  obtain ⟨M, eM⟩ : ∃ M, M = (L.filter (comC (goal N r) (inst N r))) := ⟨_, rfl⟩
  rw [← eM] at k1 k0
  have ml : M.length ≤ 12 := by rw [eM]; exact Nat.le_trans (List.length_filter_le _ _) l12
  refine ⟨fun x g => ∃ (j k : Nat) (P : Nat → Int), x = (j : Int) ∧ j ≤ L.length ∧ WF P m ∧ FW N P k ∧ k + ((L.drop j).filter (comC (goal N r) (inst N r))).length ≤ 12 ∧ (N 3 ≤ 0 → P = N) ∧ (0 < N 3 → fet (goal N r) N M = fet (goal N r) P ((L.drop j).filter (comC (goal N r) (inst N r)))) ∧ CS g 8 (w3N P r) nd ∧ Fr (fun b => b = 8 ∨ b = 40) h g ∧ g.length = h.length ∧ xhs g = xhs h, fun x _ => ((L.length : Int) - x).toNat, ?_, ?_⟩
  · exact ⟨0, 0, N, rfl, Nat.zero_le _, W, FW_0 N, by rw [List.drop_zero, ← eM]; omega, fun _ => rfl, fun _ => by rw [List.drop_zero, eM], C, Fr_rf _ _, rfl, rfl⟩
  · intro x1 h3 t3 s3 rx1 z4
    obtain ⟨j, k, P, ej, jl, WP, F, kl, p0, pf, C3, F3, g3, x3⟩ := z4
    have W1 : WF (w3N P r) m := WF_why WP r3
    have E1 : E8 N (w3N P r) := E8_tr (FW_E F) E8_why
    have i86 : hI h3 8 6 = P 3 := (C3.2.2.2.2.1).trans (why_at 3 (by omega))
    have i87 : hI h3 8 7 = P 2 := (C3.2.2.2.2.2.1).trans (why_at 2 (by omega))
    have P3 : P 3 = N 3 := F.1 3 (by decide) (fun j hj => by omega)
    have s79 : sameC h h3 79 := F3 79 (by omega) (by decide)
    have s82 : sameC h h3 82 := F3 82 (by omega) (by decide)
    rw [sameC_I s79, e6]
    refine ⟨fetA (goal N r) N M = (P, -1), ?_, ?_⟩
    · intro z5
      exact k1 (by rw [z5]) h3 F3 g3 x3 (by rw [z5]; exact C3)
    · refine ⟨fun c20 => ?_, fun c20 => ?_⟩
      · unfold fetA
        by_cases c : N 3 ≤ 0
        · rw [if_pos c, p0 c]
        · rw [if_neg c, pf (by omega), List.drop_of_length_le (by omega)]; rfl
      · refine ⟨fun c19 => ?_, fun c19 => ?_⟩
        · rw [i86, P3] at c19
          unfold fetA
          rw [if_pos c19, p0 c19]
        · rw [i86, P3] at c19
          have jlt : j < L.length := by omega
          obtain ⟨p, ep⟩ : ∃ p, p = L.getD j 0 := ⟨_, rfl⟩
          have p12 : p < 12 := by rw [ep]; exact lp j jlt
          have ex : hI h3 82 x1.toNat = (p : Int) := by rw [sameC_I s82, show x1.toNat = j by omega, ep]; exact e82 j jlt
          rw [ex]
          refine ⟨(by omega), ?_⟩
          refine c_X2_comingOf p12 t3 C3 W1 ?_
          have rh1 : rh (w3N P r) = r := by rw [E8_r E1]; exact er.symm
          have gg : ∀ q, q < 12 → goal (w3N P r) r q = goal N r q := fun q hq => (why_at _ (by omega)).trans (F.1 _ (by omega) (fun j hj => by omega))
          have ii : ∀ q, q < 12 → inst (w3N P r) r q = inst N r q := fun q hq => (why_at _ (by omega)).trans (F.1 _ (by omega) (fun j hj => by omega))
          rw [rh1, E8_sl E1 W, slF_cgp (comF_cg (gg p p12) (ii p p12)), slF_com]
          have dr := drop_f (C := (comC (goal N r) (inst N r))) (d := 0) jlt
          rw [← ep] at dr
          intro rx7
          refine ⟨fun g => ∃ (k : Nat) (P : Nat → Int), WF P m ∧ FW N P k ∧ k + ((L.drop (j + 1)).filter (comC (goal N r) (inst N r))).length ≤ 12 ∧ (fet (goal N r) N M = fet (goal N r) P ((L.drop (j + 1)).filter (comC (goal N r) (inst N r)))) ∧ CS g 8 (w3N P r) nd ∧ Fr (fun b => b = 8 ∨ b = 40) h g ∧ g.length = h.length ∧ xhs g = xhs h, ?_, ?_⟩
          · intro h8 t8 s8 z9
            intro x10 ex10 rx10
            obtain ⟨k2, P2, y1, y2, y3, y4, y5, y6, y7, y8⟩ := z9
            rw [wr_of (by omega) (by omega)] at ex10
            exact ⟨⟨j + 1, k2, P2, by omega, by omega, y1, y2, y3, fun z => absurd z c19, fun _ => y4, y5, y6, y7, y8⟩, by dsimp only; omega⟩
          · refine ⟨fun c18 => ?_, fun c18 => ?_⟩
            · have nc : ¬ (comC (goal N r) (inst N r)) p = true := fun y => by
                rw [if_pos y] at c18
                have : ¬ goal N r p = -1 := fun z => by unfold comC comF at y; rw [if_pos (.inl z)] at y; exact absurd y (by decide)
                have := (slF_fOK W S p12 this).1
                omega
              rw [if_neg nc] at dr
              exact ⟨k, P, WP, F, by rw [← dr]; exact kl, by rw [← dr]; exact pf (by omega), C3, F3, g3, x3⟩
            · have yc : (comC (goal N r) (inst N r)) p = true := Classical.byContradiction fun y => c18 (if_neg y)
              rw [if_pos yc] at c18 rx7 ⊢
              rw [if_pos yc] at dr
              have gp : ¬ goal N r p = -1 := fun z => by unfold comC comF at yc; rw [if_pos (.inl z)] at yc; exact absurd yc (by decide)
              obtain ⟨s0, sv, -⟩ := slF_fOK W S p12 gp
              obtain ⟨s, es⟩ : ∃ s : Nat, slF N (goal N r) p = (s : Int) := ⟨(slF N (goal N r) p).toNat, by omega⟩
              have v40 := vc64 W.1
              have s40 : s < 40 := by have := W.1.2.2.2.1; rw [es, Int.toNat_natCast] at sv; unfold vc at sv; omega
              have P2 : P 2 = N 2 + k := F.2.1
              have e1P : slF P (goal N r) p = (s : Int) := by rw [E8_sl (FW_E F) W]; exact es
              rw [dr] at kl pf
              have kl' : k + (((L.drop (j + 1)).filter (comC (goal N r) (inst N r))).length + 1) ≤ 12 := by simp at kl; omega
              have pf' := pf (by omega)
              rw [fet_s, e1P, Int.toNat_natCast] at pf'
              have h3p : 0 < P 3 ∧ P 3 ≤ 3 := by omega
              have lkP : ∀ j : Nat, j < 3 → P (1714 + 81 * j) + 3 ≤ 100000 := fun j hj => by have := F.2.2 j hj; have := lk j hj; omega
              obtain ⟨F1, a1, a2, a3⟩ := FW_mf (s := s) (t := P 2) F (by omega)
              have WM := WF_mf (s := s) (t := P 2) WP h3p lkP
              rw [es, i87]
              refine c_mirC t3 C3 W1 (by rw [E8_c E1]; rw [es, Int.toNat_natCast] at sv; exact sv) (by omega) (fun k hk => by rw [w3_at _ (by omega)]; exact lkP k hk) (by rw [w3_at 3 (by omega)]; omega) ?_
              intro h12 F12 g12 x12 C12
              rw [mirN_why r3 h3p s40]
              rw [mf_why r3 h3p s40] at C12
              have i12 : hI h12 8 7 = mfN P (P 2) s 2 := (C12.2.2.2.2.2.1).trans (why_at 2 (by omega))
              have s82b : sameC h3 h12 82 := F12 82 (by omega) (by decide)
              intro t12 u12
              intro rx11
              refine ⟨fun c17 => ?_, fun c17 => ?_⟩
              · intro h13 eh13 t13 u13
                rw [if_neg c17] at pf'
                rw [i12, wr_of (by omega) (by omega)] at eh13
                have C13 := CS_fe (g := h13) (N := w3N (mfN P (P 2) s) r) t12 C12 (WF_why WM r3) (by rw [w3_at 2 (by omega)]; omega) (by rw [w3_at 2 (by omega)]; exact eh13)
                rw [fe_why] at C13
                exact ⟨k + 1, _, WF_fe WM (by omega), F1, by omega, pf', C13, Fr_tr F3 (by omega) (Fr_tr (Fr_mono F12 (fun b y => .inr y)) (by omega) (by rw [eh13]; exact Fr_sV (.inl rfl))), by rw [eh13, len_sV]; omega, by rw [eh13, xhs_sV]; omega⟩
              · have W12 : WF (w3N (mfN P (P 2) s) r) m := WF_why WM r3
                refine c_atH C12 W12 ?_
                have rh2 : rh (w3N (mfN P (P 2) s) r) = r := by rw [E8_r E8_why]; show (mfN P (P 2) s 1).toNat = r; rw [a1 1 (by decide) (fun j hj => by omega), er]; rfl
                rw [rh2]
                refine ⟨(rc_k t12 r3), ?_⟩
                have e17 := Decidable.not_not.mp c17
                rw [if_pos e17] at pf'
                rw [sameC_I s82b, ex]
                refine c_X6_tellFailure ?_
                intro g1 g2 h16 eg1 eg2 eg3 tg1 tg2 tg3 ug1 ug2 ug3
                intro t16 u16
                obtain ⟨c1, c2⟩ := CS_why t12 C12 W12 r3 (rgk rfl) (by unfold rg; omega) (rgk rfl) tg1 tg2 eg1 eg2 eg3
                rw [why_why] at c1
                have fA : fetA (goal N r) N M = (mfN P (P 2) s, (p : Int)) := by unfold fetA; rw [if_neg c19]; exact pf'
                refine k0 p (by rw [fA]) h16 ?_ (by rw [eg3, eg2, eg1, len_sV, len_sV, len_sV]; omega) (by rw [eg3, eg2, eg1, xhs_sV, xhs_sV, xhs_sV]; omega) (by rw [fA]; exact c1)
                exact Fr_tr (Fr_mono F3 (fun b y => by omega)) (by omega) (Fr_tr (Fr_mono F12 (fun b y => by omega)) (by omega) (by
                  rw [eg3, eg2, eg1]
                  exact fun b _ n => sameC_tr (sameC_sV (fun z => n (.inr (.inr z.symm)))) (sameC_tr (sameC_sV (fun z => n (.inr (.inr z.symm)))) (sameC_sV (fun z => n (.inr (.inr z.symm)))))))
