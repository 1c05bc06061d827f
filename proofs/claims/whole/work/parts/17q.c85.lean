/-! INSTALL, the reference -/
theorem sch_all {N : Nat → Int} {nd : Nat → ND} {f : Nat → Int} {p : Nat} : ∀ n l, l.testBit p = true → p ∈ (sch N nd f n l).1 ∨ (sch N nd f n l).2.testBit p = true := by
  intro n
  induction n with
  | zero => intro l h; exact .inr h
  | succ n ih =>
    intro l h
    unfold sch
    by_cases c : free N nd f l = -1
    · rw [if_pos c]; exact .inr h
    · rw [if_neg c]
      by_cases e : p = (free N nd f l).toNat
      · exact .inl (by rw [e]; exact List.mem_cons_self)
      · rcases ih (rmB l (free N nd f l).toNat) (by rw [rmB_at, h, decide_eq_false (fun y => e y.symm)]; rfl) with y | y
        · exact .inl (List.mem_cons_of_mem _ y)
        · exact .inr y
theorem Arr_all {N : Nat → Int} {nd : Nat → ND} {f : Nat → Int} {L : List Nat} (A : Arr N nd f false L) {p : Nat} (hp : p < 12) (n : ¬ f p = -1) : p ∈ L := by
  rcases A with ⟨r0, -, e⟩ | ⟨-, z, -⟩
  · have b : (thM f).testBit p = true := by unfold thM; rw [orM_at, decide_eq_true hp, decide_eq_false n]; rfl
    rcases sch_all 12 (thM f) b with y | y
    · rw [e]; exact y
    · unfold restN at r0
      rw [r0] at y; simp at y
  · cases z
theorem stp_cs {N : Nat → Int} {g t : Nat → Int} {c : Nat → Bool} {a : Nat} {L : List Nat} {mo y1 y2 : Int} (z : (y1 = 2 ∧ ¬ cfl N g c (u0F a t g) L = -1 ∧ y2 = cfl N g c (u0F a t g) L) ∨ (y1 = 3 ∧ cfl N g c (u0F a t g) L = -1 ∧ mo < szF N (mvF a t g) ∧ y2 = hiB a 12) ∨ (y1 = 4 ∧ cfl N g c (u0F a t g) L = -1 ∧ ¬ mo < szF N (mvF a t g) ∧ ¬ fll N g c L = -1 ∧ y2 = fll N g c L)) : stp N g t c a L mo = (y1, y2) := by
  unfold stp
  rcases z with ⟨e1, e2, e3⟩ | ⟨e1, e2, e3, e4⟩ | ⟨e1, e2, e3, e4, e5⟩
  · rw [if_pos e2, e1, e3]
  · rw [if_neg (fun y => y e2), if_pos e3, e1, e4]
  · rw [if_neg (fun y => y e2), if_neg e3, if_pos e4, e1, e5]
set_option maxHeartbeats 1000000 in
theorem c_comR {p0 p1 : Nat} {f g : Nat → Int} {L : List Nat} {h : XH} {N : Nat → Int} {m : Nat} (T : HT h) (eN : N = nw h) (W : WF N m) {nd : Nat → ND} (A : AR h p0 f) (S : fOK N f) (B : AR h p1 g) (S2 : fOK N g) (A4 : Arr N nd f false L) (l12 : L.length ≤ 12) (e61 : hI h 437 61 = (L.length : Nat)) (e465 : ∀ i, i < L.length → hI h 465 i = ((L.getD i 0 : Nat) : Int)) {K : Nat → XH → Prop} (k : ∀ a h1, Fr (fun _ => False) h h1 → Gr 2 (2 * n12) h h1 → h.length ≤ h1.length → LsR h1 a (L.filter (comC f g)) → h.length ≤ a → K a h1) : w_X14_coming p0 p1 K h := by
  unfold w_X14_coming
  have L0 := HT_len T
  have lp0 := hk_lt A.1 (by decide)
  have lp1 := hk_lt B.1 (by decide)
  have ln := List.length_filter_le (comC f g) L
  intro a1 h2 ea1 eh2 t2 u2 ca1 la1
  have f2 : Fr (fun _ => False) h h2 := fun b hb _ => by rw [eh2]; exact sameC_app hb
  have l2 : h2.length = h.length + 1 := by rw [eh2]; unfold nA; rw [len_app]
  have x2 : xhs h2 = xhs h + n12 := by rw [eh2, xhs_nA]; rfl
  refine ⟨fun n v g_ => 0 ≤ v ∧ v ≤ ((L.length : Nat) : Int) ∧ n = ((((L.take v.toNat).filter (comC f g)).length : Nat) : Int) ∧ Fr (fun b => b = a1) h2 g_ ∧ g_.length = h2.length ∧ xhs g_ = xhs h2 ∧ hk g_ a1 = 100 ∧ hn g_ a1 = 12 ∧ ∀ j, j < ((L.take v.toNat).filter (comC f g)).length → hI g_ a1 j = ((((L.take v.toNat).filter (comC f g)).getD j 0 : Nat) : Int), fun _ v _ => (((L.length : Nat) : Int) - v).toNat, ?_, ?_⟩
  · exact ⟨by omega, by omega, rfl, Fr_rf _ _, rfl, rfl, ca1, la1, fun j hj => by cases hj⟩
  · intro x3 x4 h6 t6 s6 rx3 rx4 z7
    obtain ⟨z0, z1, zn, zf, zl, zx, zk, z8, zv⟩ := z7
    have s6 : ∀ b, b < h.length → sameC h h6 b := fun b hb => sameC_tr (f2 b hb id) (zf b (by omega) (by omega))
    have e66 : hI h6 437 61 = (L.length : Nat) := (sameC_I (s6 437 (by omega)) 61).trans e61
    have fl := fil_le (comC f g) L x4.toNat
    refine ⟨fun c27 => ?_, fun c27 => ?_⟩
    · rw [List.take_of_length_le (by omega)] at zn zv
      refine ⟨(by omega), ?_⟩
      intro a9 h10 ea9 eh10 t10 u10 ca9 la9
      have n1 : hn h10 a1 = 12 := by rw [sameC_n (show sameC h6 h10 a1 by rw [eh10]; exact sameC_app (by omega))]; exact z8
      refine ⟨(by exact HX_hk u10 zk (by decide)), ?_⟩
      refine ⟨(by omega), ?_⟩
      intro h13 eh13 t13 u13
      have s10 : ∀ b, b < h6.length → sameC h6 h10 b := fun b hb => by rw [eh10]; exact sameC_app hb
      have k1 : hk h10 a1 = 100 := HX_hk u10 zk (by decide)
      have e13 := el_cA (h := h10) (a := a1) (sp := 0) (b := a9) (dp := 0) (n := x3.toNat) (t := t10) (u := 0) k1 ca9 (by decide) (by omega) (by omega)
      have x13 : xhs h13 = xhs h10 := by rw [eh13]; exact xhs_cA (t := t10) (u := 0) k1 ca9 (by decide) (by omega) (by omega)
      have l13 : h13.length = h6.length + 1 := by rw [eh13, len_cA, eh10]; unfold nA; rw [len_app]
      refine k _ _ (fun b hb _ => ?_) ⟨by omega, ?_⟩ (by omega) ⟨HX_hk u13 ca9 (by decide), ?_, fun i hi => ?_⟩ (by omega)
      · refine sameC_tr (sameC_tr (s6 b hb) (s10 b (by omega))) ?_
        rw [eh13]; exact sameC_cA (by omega)
      · rw [x13, eh10, xhs_nA, zx, x2]
        have := xcs_le (show x3.toNat ≤ 12 by omega)
        unfold n12
        omega
      · rw [show hn h13 a9 = hn h10 a9 from congrArg Prod.snd (u13.2 a9 (hk_lt ca9 (by decide)))]; omega
      · unfold hI
        rw [eh13, e13, if_pos ⟨by omega, by omega⟩, Nat.zero_add, Nat.sub_zero, sameC_el (s10 a1 (by omega))]
        exact zv i hi
    · have kl : x4.toNat < L.length := by omega
      obtain ⟨q12, qf⟩ := Arr_mem A4 x4.toNat kl
      have nf := qf rfl
      have fs := fil_s (comC f g) L x4.toNat kl
      have fl1 := fil_le (comC f g) L (x4.toNat + 1)
      have ct := comC_t (g := g) nf
      refine ⟨(by omega), ?_⟩
      intro x15 ex15 rx15
      rw [sameC_I (s6 465 (by omega)), e465 x4.toNat kl] at ex15
      rw [ex15]
      refine c_X14_codeIn (AR_fr (s6 p0 lp0) A) ⟨by omega, by omega⟩ (by rw [Int.toNat_natCast]; exact fOK_r W.1 S q12) ?_
      rw [Int.toNat_natCast]
      intro _
      refine c_X14_codeIn (AR_fr (s6 p1 lp1) B) ⟨by omega, by omega⟩ (by rw [Int.toNat_natCast]; exact fOK_r W.1 S2 q12) ?_
      rw [Int.toNat_natCast]
      intro _
      refine ⟨fun n g_ => n = ((((L.take (x4.toNat + 1)).filter (comC f g)).length : Nat) : Int) ∧ Fr (fun b => b = a1) h2 g_ ∧ g_.length = h2.length ∧ xhs g_ = xhs h2 ∧ hk g_ a1 = 100 ∧ hn g_ a1 = 12 ∧ ∀ j, j < ((L.take (x4.toNat + 1)).filter (comC f g)).length → hI g_ a1 j = ((((L.take (x4.toNat + 1)).filter (comC f g)).getD j 0 : Nat) : Int), ?_, ?_⟩
      · intro x18 h19 t19 s19 rx18 z20
        intro x21 ex21 rx21
        rw [wr_of (by omega) (by omega)] at ex21
        have tn : (x4 + 1).toNat = x4.toNat + 1 := by omega
        rw [ex21]
        dsimp only
        rw [tn]
        exact ⟨⟨by omega, by omega, z20⟩, by omega⟩
      · refine ⟨fun c26 => ?_, fun c26 => ?_⟩
        · rw [if_neg (fun y => ct.mp y c26), List.append_nil] at fs
          rw [fs]
          exact ⟨zn, zf, zl, zx, zk, z8, zv⟩
        · rw [if_pos (ct.mpr c26)] at fs
          have fsl : (List.filter (comC f g) (List.take (x4.toNat + 1) L)).length = (List.filter (comC f g) (List.take x4.toNat L)).length + 1 := by rw [fs, List.length_append, List.length_singleton]
          refine ⟨zk, ?_⟩
          refine ⟨(by omega), ?_⟩
          intro h24 eh24 t24 u24
          intro x25 ex25 rx25
          rw [wr_of (by omega) (by omega)] at ex25
          refine ⟨by omega, Fr_tr zf (by omega) (by rw [eh24]; exact Fr_sV rfl), by rw [eh24, len_sV, zl], by rw [eh24, xhs_sV, zx], by rw [eh24, hk_sV]; exact zk, by rw [eh24, hn_sV]; exact z8, fun j hj => ?_⟩
          rw [fs, eh24]
          by_cases c : j = (List.filter (comC f g) (List.take x4.toNat L)).length
          · rw [show x3.toNat = j by omega, hI_eq (by omega) (by unfold rg; omega), c]
            rw [getD_1]
          · rw [hI_ni (by omega), zv j (by omega)]
            rw [List.getD_eq_getElem?_getD, List.getD_eq_getElem?_getD, List.getElem?_append_left (by omega)]
theorem putF_cg {N : Nat → Int} {b : Nat} {f g : Nat → Int} (e : ∀ p, p < 12 → f p = g p) : putF N b f = putF N b g := by
  funext i
  unfold putF
  by_cases c : b ≤ i ∧ i < b + 12
  · rw [if_pos c, if_pos c, e _ (by omega)]
  · rw [if_neg c, if_neg c]
set_option maxHeartbeats 16000000 in
theorem c_X14_install {h : XH} {N : Nat → Int} {m : Nat} {q u : Int} (T : HT h) (eN : N = nw h) (W : WF N m) (B1 : 0 ≤ q ∧ q < 10 ∧ 0 ≤ u ∧ u ≤ 10) (Rq : hI h 437 3 = q) (Ru : hI h 437 2 = u) {nd : Nat → ND} (Z : NTm h nd m) (fg : fOK N (goal N (rh N))) (fi : fOK N (inst N (rh N))) (l2 : N 2 + 12 ≤ 12000) (lk : ∀ k : Nat, k < 3 → N (1714 + 81 * k) + 36 ≤ 100000) (l47 : nR N (rh N) 47 < 600) {K : Int → XH → Prop} (k0 : ¬ sndP N nd (goal N (rh N)) → ∀ h1 h2 h3, HT h1 → h1 = sI h 437 5 0 → RSt h1 h2 nd 1 n12 → HT h2 → h3 = sI h2 437 5 1 → K 0 h3) (k : sndP N nd (goal N (rh N)) → ∀ b L h1 h2 h5 h7, Arr N nd (goal N (rh N)) b L → L.length ≤ 12 → HT h1 → h1 = sI h 437 5 0 → RSt h1 h2 nd 1 n12 → HT h2 → Rrec q u h2 h5 → HT h5 → Fr (fun b => b = 437 ∨ b = 438 ∨ (462 ≤ b ∧ b < 467)) h5 h7 → (∀ j, j ≤ 55 → el h7 437 j = el h5 437 j) → Gr 5 (5 * n12) h5 h7 → nw h7 = (insP N nd b L).2 → K (insP N nd b L).1 h7) : w_X14_install K h := by
  unfold w_X14_install
  obtain ⟨r, er⟩ : ∃ r, r = rh N := ⟨_, rfl⟩
  have r3 : r < 3 := by rw [er]; exact rh_lt W
  have L0 := HT_len T
  obtain ⟨g0, eg0⟩ : ∃ g0, g0 = goal N r := ⟨_, rfl⟩
  obtain ⟨f0, ef0⟩ : ∃ f0, f0 = inst N r := ⟨_, rfl⟩
  have w36 := W.2.2.2.2.2.2.2.1
  have n20 : 0 ≤ N 2 := W.2.2.2.2.1
  intro h1 eh1 t1 u1
  have eN1 : N = nw h1 := eN.trans (nw_fr (by rw [eh1]; exact sameC_sV (by decide))).symm
  have Rq1 : hI h1 437 3 = q := by rw [eh1, hI_ni (by decide)]; exact Rq
  have Ru1 : hI h1 437 2 = u := by rw [eh1, hI_ni (by decide)]; exact Ru
  have Z1 := NTm_5 T eh1 Z
  have L1 := HT_len t1
  refine c_gS t1 eN1 W ?_
  intro a2 h3 f3 g3 l3 A3
  intro t3 u3
  have eN3 : N = nw h3 := eN1.trans (nw_F t1 f3).symm
  have Z3 : NTm h3 nd m := NTm_fr t1 (fun b x _ => f3 b x id) (fun j _ => sameC_el (f3 437 (by omega) id) j) Z1
  have R3 : RSt h1 h3 nd 1 n12 := RSt_a (nd := nd) t1 f3 g3 u3.1
  have L3 := HT_len t3
  have a2lt : a2 < h3.length := hk_lt A3.1 (by decide)
  refine c_X14_isSoundSet t3 eN3 W Z3 A3 fg ?_
  intro x4 qx4
  intro rx4 vx4
  refine c_X14_refused qx4 ?_
  intro x5 h6 qx5
  intro t6 u6
  intro rx5 vx5
  refine ⟨fun c54 => ?_, fun c54 => ?_⟩
  · obtain ⟨b_, e_⟩ : sndP N nd (goal N (rh N)) ∧ h6 = h3 := by
      rcases qx5 with ⟨_, y, z⟩ | ⟨y, _⟩
      · exact ⟨y, z⟩
      · omega
    rw [e_] at t6
    have q3 : hI h3 437 3 = q := (sameC_I (f3 437 (by omega) id) 3).trans Rq1
    have u3' : hI h3 437 2 = u := (sameC_I (f3 437 (by omega) id) 2).trans Ru1
    rw [e_]
    refine c_X14_record B1 t3 q3 u3' ?_
    intro h7 qh7
    intro t7 u7
    have eN7 : N = nw h7 := eN3.trans (nw_fr (qh7.1 438 (by omega) (by decide))).symm
    have l7 := qh7.2.1
    have L7 := HT_len t7
    have A7 : AR h7 a2 (goal N (rh N)) := AR_fr (qh7.1 a2 (by omega) (by omega)) A3
    have Z7 : NTm h7 nd m := NTm_fr t3 (fun b x y => qh7.1 b x (by omega)) (fun j hj => qh7.2.2.2.2.2.1 j (by omega) (by omega) (by omega)) Z3
    refine c_iS t7 eN7 W ?_
    intro a8 h9 f9 g9 l9 A9
    intro t9 u9
    have eN9 : N = nw h9 := eN7.trans (nw_F t7 f9).symm
    have A9g : AR h9 a2 (goal N (rh N)) := AR_fr (f9 a2 (by omega) id) A7
    have Z9 : NTm h9 nd m := NTm_fr t7 (fun b x _ => f9 b x id) (fun j _ => sameC_el (f9 437 (by omega) id) j) Z7
    have l9' := u9.1
    have a8lt : a8 < h9.length := hk_lt A9.1 (by decide)
    refine c_X14_findScripts t9 eN9 W Z9 A9g fg (by omega) ?_
    intro h10 b L A4 l12 F10 l10 g10 k61 e61 e465
    intro t10 u10
    have eN10 : N = nw h10 := eN9.trans (nw_fr (F10 438 (by omega) (by decide))).symm
    have A10g : AR h10 a2 (goal N (rh N)) := AR_fr (F10 a2 (by omega) (by omega)) A9g
    have A10i : AR h10 a8 (inst N (rh N)) := AR_fr (F10 a8 (by omega) (by omega)) A9
    have Z10 : NTm h10 nd m := NTm_fr t9 (fun b x y => F10 b x (by omega)) (fun j hj => k61 j (by omega)) Z9
    have lp : ∀ i, i < L.length → L.getD i 0 < 12 := fun i hi => (Arr_mem A4 i hi).1
    have F710 : Fr (fun b => b = 437 ∨ b = 464 ∨ b = 465) h7 h10 := Fr_tr (Fr_mono f9 (fun _ z => z.elim)) l9' F10
    have k710 : ∀ j, ¬ j = 61 → el h10 437 j = el h7 437 j := fun j n => (k61 j n).trans (sameC_el (f9 437 (by omega) id) j)
    refine ⟨fun c53 => ?_, fun c53 => ?_⟩
    · have bf : b = false := by
        cases b with
        | false => rfl
        | true =>
          rw [if_pos rfl] at e61
          rcases A4 with ⟨-, z, -⟩ | ⟨-, -, s, d, -, -, -, z⟩
          · cases z
          · have := z.1; omega
      rw [bf, if_neg (by decide)] at e61
      have A4f : Arr N nd (goal N (rh N)) false L := bf ▸ A4
      obtain ⟨M, eM⟩ : ∃ M, M = L.filter (comC (goal N (rh N)) (inst N (rh N))) := ⟨_, rfl⟩
      have ml : M.length ≤ 12 := by rw [eM]; exact Nat.le_trans (List.length_filter_le _ _) l12
      have Mm : ∀ p, p ∈ M → p < 12 ∧ ¬ goal N (rh N) p = -1 ∧ p ∈ L := fun p hp => by
        rw [eM] at hp
        obtain ⟨y1, y2⟩ := List.mem_filter.mp hp
        obtain ⟨i, hi, e⟩ := List.getElem_of_mem y1
        have z := Arr_mem A4f i hi
        have eg : L.getD i 0 = p := by rw [List.getD_eq_getElem?_getD, List.getElem?_eq_getElem hi]; exact e
        rw [eg] at z
        exact ⟨z.1, z.2 rfl, y1⟩
      have lpM : ∀ i, i < M.length → M.getD i 0 < 12 ∧ ¬ goal N (rh N) (M.getD i 0) = -1 := fun i hi => ⟨(Mm _ (getD_mem hi)).1, (Mm _ (getD_mem hi)).2.1⟩
      have hM : ∀ q, q < 12 → (comC (goal N (rh N)) (inst N (rh N))) q = true → q ∈ M := fun q hq y => by
        have n : ¬ goal N (rh N) q = -1 := fun z => by unfold comC comF at y; rw [if_pos (.inl z)] at y; exact absurd y (by decide)
        rw [eM]
        exact List.mem_filter.mpr ⟨Arr_all A4f hq n, y⟩
      refine c_comR t10 eN10 W A10g fg A10i fi A4f l12 e61 e465 ?_
      rw [← eM]
      intro a11 h12 f12 g12 l12_ Ls l11
      intro t12 u12
      have eN12 : N = nw h12 := eN10.trans (nw_F t10 f12).symm
      have A12g : AR h12 a2 (goal N (rh N)) := AR_fr (f12 a2 (by omega) id) A10g
      have A12i : AR h12 a8 (inst N (rh N)) := AR_fr (f12 a8 (by omega) id) A10i
      have Z12 : NTm h12 nd m := NTm_fr t10 (fun b x _ => f12 b x id) (fun j _ => sameC_el (f12 437 (by have := HT_len t10; omega) id) j) Z10
      have a11lt : a11 < h12.length := hk_lt Ls.1 (by decide)
      have L10_ := HT_len t10
      refine ⟨fun x g => ∃ (i k : Nat) (P : Nat → Int), x = (i : Int) ∧ i ≤ M.length ∧ nw g = P ∧ WF P m ∧ FW N P k ∧ k + (M.drop i).length ≤ 12 ∧ (N 3 ≤ 0 → P = N) ∧ (0 < N 3 → fet (goal N (rh N)) N M = fet (goal N (rh N)) P (M.drop i)) ∧ Fr (fun b => b = 438) h12 g ∧ g.length = h12.length ∧ xhs g = xhs h12, fun x _ => ((M.length : Int) - x).toNat, ?_, ?_⟩
      · exact ⟨0, 0, N, rfl, Nat.zero_le _, eN12.symm, W, FW_0 N, by rw [List.drop_zero]; omega, fun _ => rfl, fun _ => by rw [List.drop_zero], Fr_rf _ _, rfl, rfl⟩
      · intro x13 h14 t14 s14 rx13 z15
        obtain ⟨i, k', P, ei, il, en, WP, FWp, kl, p0, pf, F14, l14, x14⟩ := z15
        have Ls14 := LsR_fr (F14 a11 a11lt (by omega)) Ls
        have A14g : AR h14 a2 (goal N (rh N)) := AR_fr (F14 a2 (by omega) (by omega)) A12g
        have A14i : AR h14 a8 (inst N (rh N)) := AR_fr (F14 a8 (by omega) (by omega)) A12i
        have EP : E8 N P := FW_E FWp
        have P3 : P 3 = N 3 := FWp.1 3 (by decide) (fun j hj => by omega)
        have i3 : hI h14 438 3 = P 3 := by rw [← en]; rfl
        have i2 : hI h14 438 2 = P 2 := by rw [← en]; rfl
        have rP : rh P = rh N := E8_r EP
        have nP : ∀ k, k < 291 → nR P (rh N) k = nR N (rh N) k := fun k hk => FWp.1 _ (by omega) (fun j hj => by rw [← er]; omega)
        refine ⟨Ls14.1, ?_⟩
        refine ⟨(by have := Ls14.2.1; omega), ?_⟩
        refine ⟨feI N L = (P, -1), ?_, ?_⟩
        · intro z18
          have Z14 : NTm h14 nd m := NTm_fr t12 (fun b x y => F14 b x (by omega)) (fun j _ => sameC_el (F14 437 (by omega) (by decide)) j) Z12
          obtain ⟨St, eSt⟩ : ∃ St, St = stepsOf N nd (inst N (rh N)) (goal N (rh N)) := ⟨_, rfl⟩
          have Sl : St.length ≤ 12 := by rw [eSt]; exact stepsL_len _ _ _
          have gI : goI N nd L = goS N (goal N (rh N)) (comC (goal N (rh N)) (inst N (rh N))) L (nR N (rh N) 22) St 0 (inst N (rh N)) := by unfold goI; rw [eSt]
          have SO : StOK (inst N (rh N)) (goal N (rh N)) St (inst N (rh N)) := by rw [eSt]; exact StOK_of
          refine c_X14_findSteps t14 en.symm WP Z14 A14i A14g (E8_fO EP W fi) (E8_fO EP W fg) (by omega) (by omega) ?_
          rw [E8_st EP W, ← eSt]
          intro h19 F19 l19 g19 k63 e63 e466
          intro t19 u19
          have L14 := HT_len t14
          have A19g : AR h19 a2 (goal N (rh N)) := AR_fr (F19 a2 (by omega) (by omega)) A14g
          have A19i : AR h19 a8 (inst N (rh N)) := AR_fr (F19 a8 (by omega) (by omega)) A14i
          have Ls19 := LsR_fr (F19 a11 (by omega) (by omega)) Ls14
          have n19 : nw h19 = P := (nw_fr (F19 438 (by omega) (by decide))).trans en
          have F719 : Fr (fun b => b = 437 ∨ b = 438 ∨ (462 ≤ b ∧ b < 467)) h7 h19 := Fr_tr (Fr_mono F710 (fun b y => by omega)) (by omega) (Fr_tr (Fr_mono f12 (fun _ z => z.elim)) l12_ (Fr_tr (Fr_mono F14 (fun b y => by omega)) (by omega) (Fr_mono F19 (fun b y => by omega))))
          have k719 : ∀ j, j ≤ 55 → el h19 437 j = el h7 437 j := fun j hj => (k63 j (by omega)).trans ((sameC_el (F14 437 (by omega) (by decide)) j).trans ((sameC_el (f12 437 (by omega) id) j).trans (k710 j (by omega))))
          have a8ge : h7.length ≤ a8 := l9
          have G719 : Gr 5 (5 * n12) h7 h19 := ⟨by have := g9.1; have := g10.1; have := g12.1; have := g19.1; omega, by have := g9.2; have := g10.2; have := g12.2; have := g19.2; omega⟩
          refine ⟨fun x g => ∃ (kk : Nat) (pre rest : List Nat) (t : Nat → Int), x = (kk : Int) ∧ St = pre ++ rest ∧ pre.length = kk ∧ AR g a8 t ∧ fOK N t ∧ StOK (inst N (rh N)) (goal N (rh N)) rest t ∧ goI N nd L = goS N (goal N (rh N)) (comC (goal N (rh N)) (inst N (rh N))) L (nR N (rh N) 22) rest kk t ∧ nw g = P ∧ Fr (fun b => b = a8) h19 g ∧ g.length = h19.length ∧ xhs g = xhs h19, fun x _ => (12 - x).toNat, ?_, ?_⟩
          · exact ⟨0, [], St, inst N (rh N), rfl, rfl, rfl, A19i, fi, SO, gI, n19, Fr_rf _ _, rfl, rfl⟩
          · intro x20 h22 t22 s22 rx20 z23
            obtain ⟨kk, pre, rest, t, ek, est2, epl, At, St_, SOk, gk, n22, F22, l22, x22⟩ := z23
            have L19 := HT_len t19
            have A22g : AR h22 a2 (goal N (rh N)) := AR_fr (F22 a2 (by omega) (by omega)) A19g
            have Ls22 := LsR_fr (F22 a11 (by omega) (by omega)) Ls19
            have s437 : sameC h19 h22 437 := F22 437 (by omega) (by omega)
            have s466 : sameC h19 h22 466 := F22 466 (by omega) (by omega)
            have i63 : hI h22 437 63 = (St.length : Nat) := by rw [sameC_I s437]; exact e63
            have Sl2 : St.length = pre.length + rest.length := by rw [est2, List.length_append]
            have hr22 : hI h22 438 1 = (rh N : Nat) := by rw [← rP]; exact hr_ n22.symm WP
            have F722 : Fr (fun b => b = 437 ∨ b = 438 ∨ (462 ≤ b ∧ b < 467)) h7 h22 := fun b hb n => sameC_tr (F719 b hb n) (F22 b (by omega) (by omega))
            refine ⟨fun c38 => ?_, fun c38 => ?_⟩
            · refine ⟨A22g.1, ?_⟩
              refine ⟨(by rw [hr22, wr_of (x := ((rh N : Nat) : Int) * 291) (by omega) (by omega), wr_of (x := 805 + ((rh N : Nat) : Int) * 291) (by omega) (by omega), wr_of (by omega) (by omega)]; have := A22g.2.1; omega), ?_⟩
              intro h26 eh26 t26 u26
              rw [hr22, wr_of (x := ((rh N : Nat) : Int) * 291) (by omega) (by omega), wr_of (x := 805 + ((rh N : Nat) : Int) * 291) (by omega) (by omega), wr_of (by omega) (by omega), show (805 + ((rh N : Nat) : Int) * 291 + 23).toNat = 805 + 291 * rh N + 23 by omega] at eh26
              have n26 : nw h26 = putF P (805 + 291 * rh N + 23) (goal N (rh N)) := by rw [eh26, nw_cA t22 A22g (by omega), n22]
              have rl : rest.length = 0 := by omega
              have r0 : rest = [] := List.length_eq_zero_iff.mp rl
              have g1 : goI N nd L = (-1, -1, -1) := by rw [gk, r0]; rfl
              have s26 : ∀ b, ¬ b = 438 → sameC h22 h26 b := fun b n => by rw [eh26]; exact sameC_cA (fun z => n z.symm)
              have A26g := AR_fr (s26 a2 (by omega)) A22g
              have hr26 : hI h26 438 1 = (rh N : Nat) := by
                have : hI h26 438 1 = nw h26 1 := rfl
                rw [this, n26, putF_out (by omega), ← n22]; exact hr22
              refine c_X14_rootAt (r := rh N) (by decide) hr26 (rh_lt W) ?_
              intro x27 ex27
              have e27 : x27 = nR P (rh N) 47 := by
                rw [ex27, n26]
                exact putF_out (by first | (simp; done) | (simp; omega))
              have p47 : nR P (rh N) 47 = nR N (rh N) 47 := nP 47 (by decide)
              have w47 : 0 ≤ nR N (rh N) 47 := (W.2.1 _ (rh_lt W)).2.2.2.2.2.2.2.2.2.1
              have im : irem x27 20 = nR P (rh N) 47 % 20 := by rw [e27]; exact irem_pos (by unfold rg; omega) (rgk rfl) (by omega) (by decide)
              rw [hr26, im, wr_of (x := ((rh N : Nat) : Int) * 291) (by omega) (by omega), wr_of (x := 805 + ((rh N : Nat) : Int) * 291) (by omega) (by omega), wr_of (x := 805 + ((rh N : Nat) : Int) * 291 + 48) (by omega) (by omega), wr_of (x := nR P (rh N) 47 % 20 * 12) (by omega) (by omega), wr_of (by omega) (by omega)]
              intro rx27
              refine ⟨(by have := A26g.2.1; omega), ?_⟩
              intro h29 eh29 t29 u29
              rw [show (805 + ((rh N : Nat) : Int) * 291 + 48 + nR P (rh N) 47 % 20 * 12).toNat = 805 + 291 * rh N + 48 + 12 * ((nR P (rh N) 47).toNat % 20) by omega] at eh29
              have n29 : nw h29 = putF (putF P (805 + 291 * rh N + 23) (goal N (rh N))) (805 + 291 * rh N + 48 + 12 * ((nR P (rh N) 47).toNat % 20)) (goal N (rh N)) := by rw [eh29, nw_cA t26 A26g (by omega), n26]
              have s29 : ∀ b, ¬ b = 438 → sameC h26 h29 b := fun b n => by rw [eh29]; exact sameC_cA (fun z => n z.symm)
              have hr29 : hI h29 438 1 = (rh N : Nat) := by
                have : hI h29 438 1 = nw h29 1 := rfl
                rw [this, n29, putF_out (by omega), ← n26]; exact hr26
              refine c_X14_rootAt (r := rh N) (by decide) hr29 (rh_lt W) ?_
              intro x30 ex30
              have e30 : x30 = nR P (rh N) 47 := by
                rw [ex30, n29]
                exact (putF_out (by first | (simp; done) | (simp; omega))).trans (putF_out (by first | (simp; done) | (simp; omega)))
              rw [e30, wr_of (by omega) (by omega)]
              intro rx30
              refine c_X14_putRoot (r := rh N) (by decide) hr29 (rh_lt W) ?_
              intro h31 eh31
              intro t31 u31
              have n31 : nw h31 = entN P (rh N) := by
                rw [W_nw t29 (by first | (simp; done) | (simp; omega)) (by unfold rg; omega) eh31 n29]
                unfold entN
                have gg : ∀ p, p < 12 → goal N (rh N) p = goal P (rh N) p := fun p hp => (nP (35 + p) (by omega)).symm
                rw [putF_cg (N := P) gg, putF_cg (f := goal N (rh N)) (g := goal P (rh N)) gg]
                rfl
              have W31 : WF (entN P (rh N)) m := WF_ent WP (rh_lt W) (by rw [p47]; exact l47)
              have s31 : ∀ b, ¬ b = 438 → sameC h29 h31 b := fun b n => by rw [eh31]; exact sameC_sV (fun z => n z.symm)
              refine c_X14_goesWrong t31 n31 W31 (show rh (entN P (rh N)) = rh N by rw [E8_r (E8_tr EP E8_ent)]) (rgk rfl) (rgk rfl) (rgk rfl) ?_
              intro h33 F33 l33 x33 n33
              intro t33 u33
              intro rx32
              have ip : insP N nd b L = (((St.length : Nat) : Int), whyN (entN P (rh N)) (rh N) (-1) (-1) (-1)) := by
                unfold insP
                rw [bf, if_neg (by decide), z18, if_neg (by dsimp only; omega), g1, if_neg (by dsimp only; omega), ← eSt]
              have s33 : ∀ b, b < h22.length → ¬ b = 438 → sameC h22 h33 b := fun b hb n => sameC_tr (s26 b n) (sameC_tr (s29 b n) (sameC_tr (s31 b n) (F33 b (by rw [eh31, len_sV, eh29, len_cA, eh26, len_cA]; exact hb) n)))
              have l33' : h33.length = h22.length := by rw [l33, eh31, len_sV, eh29, len_cA, eh26, len_cA]
              have x33' : xhs h33 = xhs h22 := by
                have k438 : ∀ {g : XH}, HT g → hk g 438 = 100 ∧ hn g 438 = 1957 := fun t => ly_sh (s := (100, 1957)) t rfl
                rw [x33, eh31, xhs_sV, eh29, xhs_cA (t := t26) (u := 0) A26g.1 (k438 t26).1 (by decide) (by have := A26g.2.1; omega) (by rw [(k438 t26).2]; omega), eh26, xhs_cA (t := t22) (u := 0) A22g.1 (k438 t22).1 (by decide) (by have := A22g.2.1; omega) (by rw [(k438 t22).2]; omega)]
              have i33 : hI h33 437 63 = (St.length : Nat) := by rw [sameC_I (s33 437 (by omega) (by decide))]; exact i63
              have F' : Fr (fun b => b = 437 ∨ b = 438 ∨ (462 ≤ b ∧ b < 467)) h7 h33 := fun b hb n => sameC_tr (F722 b hb n) (s33 b (by omega) (by omega))
              have := k b_ b L h1 h3 h7 h33 A4 l12 t1 eh1 R3 t3 qh7 t7 F' (fun j hj => (sameC_el (s33 437 (by omega) (by decide)) j).trans ((sameC_el s437 j).trans (k719 j hj))) ⟨by have := G719.1; omega, by have := G719.2; omega⟩ (by rw [ip]; exact n33)
              rw [ip] at this
              rw [i33]
              exact this
            · cases rest with
              | nil => simp at Sl2; omega
              | cons a rest => ?_
              obtain ⟨⟨a0, lt⟩, hm, hd, SO'⟩ := SOk
              rw [goS_s] at gk
              have k12 : kk < 12 := by simp at Sl2; omega
              have ga : St.getD kk 0 = a := by rw [est2, List.getD_eq_getElem?_getD, List.getElem?_append_right (by omega), epl, Nat.sub_self]; rfl
              have e466' : hI h22 466 kk = (a : Int) := by rw [sameC_I s466, e466 kk (by simp at Sl2; omega), ga]
              have cM : ∀ u, cfl N (goal N (rh N)) (fun x => a.testBit x) u M = cfl N (goal N (rh N)) (fun x => (comC (goal N (rh N)) (inst N (rh N))) x && a.testBit x) u L := fun u => by rw [eM]; exact cfl_flt L u
              have fM : fll N (goal N (rh N)) (fun x => a.testBit x) M = fll N (goal N (rh N)) (fun x => (comC (goal N (rh N)) (inst N (rh N))) x && a.testBit x) L := by rw [eM]; exact fll_flt L
              rw [ek]
              refine c_X14_carryOut t22 n22 W WP EP rP (nP 22 (by decide)) At A22g Ls22 St_ fg (by omega) (by omega) (by omega) lt a0 k12 e466' ml lpM hm hM ?_
              rw [cM, fM]
              intro x34 h35 l35 x35 q35
              intro t35 u35
              intro rx34
              refine ⟨fun c37 => ?_, fun c37 => ?_⟩
              · intro x36 ex36 rx36
                obtain ⟨ex34, y1, y2, y3, y4, y5, y6⟩ := q35.resolve_right (fun y => c37 y.1)
                rw [wr_of (by omega) (by omega)] at ex36
                have sp : (stp N (goal N (rh N)) t (fun x => (comC (goal N (rh N)) (inst N (rh N))) x && a.testBit x) a L (nR N (rh N) 22)).1 = -1 := by
                  unfold stp
                  rw [if_neg (fun y => y y1), if_neg y2, if_neg (fun y => y y3)]
                rw [if_pos sp] at gk
                refine ⟨⟨kk + 1, pre ++ [a], rest, mvF a t (goal N (rh N)), by omega, by rw [est2]; simp, by simp; omega, y5, ?_, SO', gk, y6, Fr_tr F22 (by omega) y4, by omega, by omega⟩, by dsimp only; omega⟩
                intro p hp
                unfold mvF
                split
                · exact fg p hp
                · exact St_ p hp
              · obtain ⟨ex34, F35, y1, y2, n35, z⟩ := q35.resolve_left (fun y => by have := y.1; have := Decidable.not_not.mp c37; omega)
                have sp := stp_cs (mo := nR N (rh N) 22) z
                have ny : ¬ y1 = -1 := by rcases z with ⟨e, -⟩ | ⟨e, -⟩ | ⟨e, -⟩ <;> omega
                rw [sp, if_neg ny] at gk
                have ip : insP N nd b L = (-1, whyN P (rh N) y1 y2 kk) := by
                  unfold insP
                  rw [bf, if_neg (by decide), z18, if_neg (by dsimp only; omega), gk, if_pos ny]
                have F' : Fr (fun b => b = 437 ∨ b = 438 ∨ (462 ≤ b ∧ b < 467)) h7 h35 := fun b hb n => sameC_tr (F722 b hb n) (F35 b (by omega) (by omega))
                have := k b_ b L h1 h3 h7 h35 A4 l12 t1 eh1 R3 t3 qh7 t7 F' (fun j hj => (sameC_el (F35 437 (by omega) (by omega)) j).trans ((sameC_el s437 j).trans (k719 j hj))) ⟨by have := G719.1; omega, by have := G719.2; omega⟩ (by rw [ip]; exact n35)
                rw [ip] at this
                exact this
        · refine ⟨fun c50 => ?_, fun c50 => ?_⟩
          · unfold feI fetA
            rw [← eM]
            by_cases c : N 3 ≤ 0
            · rw [if_pos c, p0 c]
            · rw [if_neg c, pf (by omega), List.drop_of_length_le (by have := Ls14.2.1; omega)]; rfl
          · refine ⟨fun c49 => ?_, fun c49 => ?_⟩
            · rw [i3, P3] at c49
              unfold feI fetA
              rw [if_pos c49, p0 c49]
            · rw [i3, P3] at c49
              have ilt : i < M.length := by have := Ls14.2.1; omega
              obtain ⟨p, ep⟩ : ∃ p, p = M.getD i 0 := ⟨_, rfl⟩
              obtain ⟨p12, gp⟩ := lpM i ilt
              rw [← ep] at p12 gp
              have ex : hI h14 a11 x13.toNat = (p : Int) := by rw [show x13.toNat = i by omega, ep]; exact Ls14.2.2 i ilt
              have dr := drop_g ilt
              rw [← ep] at dr
              obtain ⟨s0, sv, -⟩ := slF_fOK W fg p12 gp
              obtain ⟨s, es⟩ : ∃ s : Nat, slF N (goal N (rh N)) p = (s : Int) := ⟨(slF N (goal N (rh N)) p).toNat, by omega⟩
              have s40 : s < 40 := by have := W.1.2.2.2.1; rw [es, Int.toNat_natCast] at sv; unfold vc at sv; omega
              have e1P : slF P (goal N (rh N)) p = (s : Int) := by rw [E8_sl EP W]; exact es
              rw [dr] at kl pf
              have kl' : k' + ((M.drop (i + 1)).length + 1) ≤ 12 := by simp at kl ⊢; omega
              have pf' := pf (by omega)
              rw [fet_s, e1P, Int.toNat_natCast] at pf'
              have h3p : 0 < P 3 ∧ P 3 ≤ 3 := by omega
              have lkP : ∀ j : Nat, j < 3 → P (1714 + 81 * j) + 3 ≤ 100000 := fun j hj => by have := FWp.2.2 j hj; have := lk j hj; omega
              obtain ⟨F1, aa1, aa2, aa3⟩ := FW_mf (s := s) (t := P 2) FWp (by omega)
              have WM := WF_mf (s := s) (t := P 2) WP h3p lkP
              have P2 : P 2 = N 2 + k' := FWp.2.1
              refine ⟨(by have := Ls14.2.1; omega), ?_⟩
              rw [ex]
              refine c_X14_slotIn en.symm WP.1 A14g (E8_fO EP W fg) ⟨by omega, by omega⟩ ?_
              rw [Int.toNat_natCast, e1P]
              intro rx40
              rw [i2]
              refine c_mirR t14 en.symm WP (by rw [E8_c EP]; rw [es, Int.toNat_natCast] at sv; exact sv) (by omega) lkP h3p.1 ?_
              intro h42 F42 l42 x42 n42
              have i42 : hI h42 438 2 = mfN P (P 2) s 2 := by rw [← n42]; rfl
              have Ls42 := LsR_fr (F42 a11 (by omega) (by omega)) Ls14
              intro t42 u42
              intro rx41
              refine ⟨fun c48 => ?_, fun c48 => ?_⟩
              · intro h43 eh43 t43 u43
                intro x44 ex44 rx44
                rw [if_neg c48] at pf'
                rw [i42, wr_of (by omega) (by omega)] at eh43
                rw [wr_of (by omega) (by omega)] at ex44
                have n43 := W_nw t42 (by decide) (by unfold rg; omega) eh43 n42
                refine ⟨⟨i + 1, k' + 1, _, by omega, by omega, n43, WF_fe WM (by omega), F1, by omega, fun z => absurd z c49, fun _ => pf', Fr_tr F14 (by omega) (Fr_tr F42 (by omega) (by rw [eh43]; exact Fr_sV rfl)), by rw [eh43, len_sV]; omega, by rw [eh43, xhs_sV]; omega⟩, by dsimp only; have := Ls14.2.1; omega⟩
              · refine ⟨(by have := Ls42.2.1; omega), ?_⟩
                have e48 := Decidable.not_not.mp c48
                rw [if_pos e48] at pf'
                rw [show hI h42 a11 x13.toNat = (p : Int) from (sameC_I (F42 a11 (by omega) (by omega)) _).trans ex]
                refine c_X14_goesWrong t42 n42 WM (show rh (mfN P (P 2) s) = rh N by unfold rh; rw [aa1 1 (by decide) (fun j hj => by omega)]) (rgk rfl) (by unfold rg; omega) (rgk rfl) ?_
                intro h47 F47 l47_ x47_ n47
                intro t47 u47
                intro rx46
                have fA : feI N L = (mfN P (P 2) s, (p : Int)) := by unfold feI fetA; rw [← eM, if_neg c49]; exact pf'
                have ip : insP N nd b L = (-1, whyN (mfN P (P 2) s) (rh N) 1 p (-1)) := by
                  unfold insP
                  rw [bf, if_neg (by decide), fA, if_pos (by dsimp only; omega)]
                have F' : Fr (fun b => b = 437 ∨ b = 438 ∨ (462 ≤ b ∧ b < 467)) h7 h47 := Fr_tr (Fr_mono F710 (fun b y => by omega)) (by omega) (Fr_tr (Fr_mono f12 (fun _ z => z.elim)) l12_ (Fr_tr (Fr_mono F14 (fun b y => by omega)) (by omega) (Fr_tr (Fr_mono F42 (fun b y => by omega)) (by omega) (Fr_mono F47 (fun b y => by omega)))))
                have := k b_ b L h1 h3 h7 h47 A4 l12 t1 eh1 R3 t3 qh7 t7 F' (fun j hj => (sameC_el (F47 437 (by omega) (by decide)) j).trans ((sameC_el (F42 437 (by omega) (by decide)) j).trans ((sameC_el (F14 437 (by omega) (by decide)) j).trans ((sameC_el (f12 437 (by omega) id) j).trans (k710 j (by omega)))))) ⟨by have := g9.1; have := g10.1; have := g12.1; omega, by have := g9.2; have := g10.2; have := g12.2; omega⟩ (by rw [ip]; exact n47)
                rw [ip] at this
                exact this
    · have bt : b = true := Classical.byContradiction fun y => by
        rw [Bool.eq_false_iff.mpr y, if_neg (by decide)] at e61
        omega
      have s0 : 0 < L.length := by
        rcases A4 with ⟨-, z, -⟩ | ⟨-, -, s, d, -, -, -, z⟩
        · rw [bt] at z; cases z
        · rw [z.1]; omega
      have l0 := lp 0 s0
      rw [e465 0 s0]
      refine c_X14_goesWrong t10 eN10.symm W rfl (rgk rfl) (by unfold rg; omega) (rgk rfl) ?_
      intro h52 F52 l52 x52 n52
      intro t52 u52
      intro rx51
      have ip : insP N nd b L = (-1, whyN N (rh N) 0 (L.getD 0 0 : Nat) (-1)) := by unfold insP; rw [if_pos bt]
      have F' : Fr (fun b => b = 437 ∨ b = 438 ∨ (462 ≤ b ∧ b < 467)) h7 h52 := Fr_tr (Fr_mono F710 (fun b y => by omega)) (by omega) (Fr_mono F52 (fun b y => by omega))
      have := k b_ b L h1 h3 h7 h52 A4 l12 t1 eh1 R3 t3 qh7 t7 F' (fun j hj => (sameC_el (F52 437 (by omega) (by decide)) j).trans (k710 j (by omega))) ⟨by have := g9.1; have := g10.1; omega, by have := g9.2; have := g10.2; omega⟩ (by rw [ip]; exact n52)
      rw [ip] at this
      exact this
  · have q_ : ¬ sndP N nd (goal N (rh N)) ∧ h6 = sI h3 437 5 1 := by
      rcases qx5 with ⟨y, _⟩ | ⟨_, y, z⟩
      · omega
      · exact ⟨y, z⟩
    exact k0 q_.1 _ _ _ t1 eh1 R3 t3 q_.2
