/-! THE CORE, the reference -/
theorem DJo_45 {h g : XH} (L : 468 ≤ h.length) (St : StR h) (Dj : DJo h) (F : Fr (fun b => b = 437) h g) (e : ∀ j, ¬ j = 44 → ¬ j = 45 → el g 437 j = el h 437 j) (f : h.length ≤ hR g 437 45) : DJo g := by
  obtain ⟨z1, ⟨z2, z3⟩, z4, z5⟩ := Dj
  have r : ∀ j, ¬ j = 44 → ¬ j = 45 → hR g 437 j = hR h 437 j := fun j a b => congrArg gvR (e j a b)
  have ro : ∀ j, owP j → hR g 437 j = hR h 437 j := fun j hj => r j (by unfold owP at hj; omega) (by unfold owP at hj; omega)
  have i7 : hI g 437 7 = hI h 437 7 := congrArg gvI (e 7 (by decide) (by decide))
  have st : sameC h g (hR h 437 6) := F _ (hk_lt z2 (by decide)) (by omega)
  have s442 : sameC h g 442 := F 442 (by omega) (by decide)
  unfold DJo
  rw [r 6 (by decide) (by decide), r 39 (by decide) (by decide), i7, sameC_k st]
  refine ⟨fun j k hj hk n => by rw [ro j hj, ro k hk]; exact z1 j k hj hk n, ⟨z2, z3⟩, fun i hi => ?_, fun j hj => ?_⟩
  · rw [sameC_R st]
    obtain ⟨y1, y2, y3⟩ := z4 i hi
    have s1 : sameC h g (hR h (hR h 437 6) i) := F _ (hk_lt y1 (by decide)) (by omega)
    rw [sameC_k s1]
    exact ⟨y1, y2, fun j t hj a b => by rw [sameC_R s1, ro j hj]; exact y3 j t hj a b⟩
  · rw [ro j hj]
    obtain ⟨y1, y2, -⟩ := z5 j hj
    have := (own_j St hj).2.1
    exact ⟨fun p hp => by rw [sameC_R s442]; exact y1 p hp, y2, by omega⟩
/-- what was kept, behind the core -/
theorem CaR_core {h g : XH} {N : Nat → Int} {nd : Nat → ND} (z : CaR h N nd) (ne : ¬ hI h 437 44 = hI h 437 4) (St : StR g) (Dj : DJo g) (So : hI g 437 12 = hI g 437 4 → SortOK g N) (b12 : hI g 437 12 = hI h 437 12 ∨ hI g 437 12 = hI g 437 4) (tk : TellOKR g (told N nd)) (s30 : hI g 437 30 = hI g 437 4) (s44 : hI g 437 44 = hI g 437 4) (ck : CoreOKR g (coreL (told N nd))) (k45 : hk g (hR g 437 45) = 100 ∧ 468 ≤ hR g 437 45)
    (e : ∀ j, ¬ j = 12 → ¬ (24 ≤ j ∧ j ≤ 36) → ¬ j = 44 → ¬ j = 45 → el g 437 j = el h 437 j) (s39 : hk h (hR h 437 39) = 100 ∧ 468 ≤ hR h 437 39 → sameC h g (hR h 437 39)) (c1 : cp h ≤ cp g) (c2 : hn h (hR h 437 31) ≤ hn g (hR g 437 31)) (c3 : cq h ≤ cq g) : CaR g N nd := by
  obtain ⟨a1, a2, -, -, a5, a6, a7, a8, cg⟩ := z
  have i : ∀ j, ¬ j = 12 → ¬ (24 ≤ j ∧ j ≤ 36) → ¬ j = 44 → ¬ j = 45 → hI g 437 j = hI h 437 j := fun j a b c d => congrArg gvI (e j a b c d)
  have i4 := i 4 (by decide) (by decide) (by decide) (by decide)
  have i46 := i 46 (by decide) (by decide) (by decide) (by decide)
  unfold CaR
  rw [i 38 (by decide) (by decide) (by decide) (by decide), i 40 (by decide) (by decide) (by decide) (by decide), i 41 (by decide) (by decide) (by decide) (by decide), i46]
  refine ⟨by omega, ⟨St, Dj⟩, So, fun _ => tk, fun x => ?_, fun x => a6 (by omega), fun _ => ⟨s30, ck⟩, fun x => absurd (a8 (by omega)).1 ne, ?_⟩
  · have z5 := a5 (by omega)
    exact OrdOK_s (s39 z5.1) (fun j hj => e j (by omega) (by omega) (by omega) (by omega)) z5
  · obtain ⟨d1, d2, d3, d4, -⟩ := cg
    unfold cp at c1
    unfold cq at c3
    refine ⟨by omega, by omega, by omega, ?_, .inr k45⟩
    rw [show hR g 437 39 = hR h 437 39 from congrArg gvR (e 39 (by decide) (by decide) (by decide) (by decide))]
    exact d4.imp_right (fun y => by rw [sameC_k (s39 y)]; exact y)
/-- which are still kept: one by one, from the last -/
theorem coreK_s (cs : List Cl) (n : Nat) (k : Nat → Bool) : coreK cs (n + 1) k = coreK cs n (@ite _ (canH cs (noC k n) 0#64 0#64) (Classical.propDecidable _) k (noC k n)) := rfl
theorem cntN_t : ∀ n, cntN n (fun _ => true) = n
  | 0 => rfl
  | n + 1 => by show cntN n _ + 1 = n + 1; rw [cntN_t n]
theorem cntN_no {k : Nat → Bool} {c : Nat} : ∀ n, c < n → k c = true → cntN n (noC k c) + 1 = cntN n k
  | 0, h, _ => absurd h (by omega)
  | n + 1, h, e => by
    show cntN n (noC k c) + (if noC k c n = true then 1 else 0) + 1 = cntN n k + (if k n = true then 1 else 0)
    by_cases q : n = c
    · subst q
      have : cntN n (noC k n) = cntN n k := cntN_cg _ (fun i hi => by unfold noC; rw [decide_eq_false (by omega)]; simp)
      have z : noC k n n = false := by unfold noC; rw [decide_eq_true rfl]; simp
      rw [this, z, e]
      rfl
    · have := cntN_no (k := k) n (by omega) e
      have z : noC k c n = k n := by unfold noC; rw [decide_eq_false q]; simp
      rw [z]
      omega
/-- the clauses' flags are worked with -/
def FB (h : XH) (q : Nat) (g : XH) : Prop := Fr (fun b => b = 437 ∨ b = q) h g ∧ (∀ j, j < 32 ∨ 36 < j → el g 437 j = el h 437 j) ∧ g.length = h.length ∧ xhs g = xhs h ∧ hk g q = 102 ∧ hn g q = hn h q
theorem FB_rf {h : XH} {q : Nat} (k : hk h q = 102) : FB h q h := ⟨Fr_rf _ _, fun _ _ => rfl, rfl, rfl, k, rfl⟩
theorem FB_q {h g k : XH} {q i : Nat} {x : Int} (z : FB h q g) (n : ¬ q = 437) (e : k = sI g q i x) : FB h q k := by
  obtain ⟨a, b, c, d, f, s⟩ := z
  exact ⟨fun t ht nt => sameC_tr (a t ht nt) (by rw [e]; exact sameC_sV (fun y => nt (.inr y.symm))), fun j hj => by rw [e, el_ne n]; exact b j hj, by rw [e, len_sV]; exact c, by rw [e, xhs_sV]; exact d, by rw [e, hk_sV]; exact f, by rw [e, hn_sV]; exact s⟩
theorem FB_SX {h g k : XH} {q : Nat} (l : q < g.length) (n : ¬ q = 437) (z : FB h q g) (x : SX g k) : FB h q k := by
  obtain ⟨a, b, c, d, f, s⟩ := z
  obtain ⟨x1, x2, x3, x4⟩ := x
  have sq := x1 q l n
  exact ⟨fun t ht nt => sameC_tr (a t ht nt) (x1 t (by omega) (fun y => nt (.inl y))), fun j hj => (x2 j hj).trans (b j hj), by omega, by omega, (sameC_k sq).trans f, (sameC_n sq).trans s⟩
theorem FB_Q {g k : XH} {N : Nat → Int} {f : Nat → Int} {cs : List Cl} {q i : Nat} {x : Int} (T : HT g) (kq : hk g q = 102) (n : ¬ q = 437) (e : k = sI g q i x) (z : SrQ g N f cs (-1)) : SrQ k N f cs (-1) :=
  SrQ_fr T (fun b hb nb o => by rw [e]; exact sameC_sV (fun y => by rw [← y, kq] at o; omega)) (fun j hj => by rw [e]; exact el_ne n) (by rw [e]; exact hI_ne n) (by rw [e]; exact hR_ne n) z
/-- flags: kk; the clauses from c on have been tried -/
def CI (h : XH) (q : Nat) (N : Nat → Int) (cs : List Cl) (x c : Int) (g : XH) : Prop := ∃ kk : Nat → Bool, FB h q g ∧ hI g 437 32 = 0 ∧ (∀ f, SrQ g N f cs (-1)) ∧ -1 ≤ c ∧ c < cs.length ∧ (∀ i, i < cs.length → (kk i = true ↔ ¬ hI g q i = 0)) ∧ (∀ i : Nat, (i : Int) ≤ c → kk i = true) ∧ coreK cs (c + 1).toNat kk = coreK cs cs.length (fun _ => true) ∧ x = (cntN cs.length kk : Nat)
theorem cntN_up (k : Nat → Bool) {a : Nat} : ∀ n, a ≤ n → cntN a k ≤ cntN n k
  | 0, h => by rw [show a = 0 by omega]; exact Nat.le_refl _
  | n + 1, h => by
    by_cases z : a ≤ n
    · have := cntN_up k n z
      show _ ≤ cntN n k + _
      omega
    · rw [show a = n + 1 by omega]; exact Nat.le_refl _
theorem rfil_l (k : Nat → Bool) : ∀ c, ((List.range c).filter k).length = cntN c k
  | 0 => rfl
  | c + 1 => by
    rw [List.range_succ, List.filter_append, List.length_append, rfil_l k c]
    show _ = cntN c k + _
    by_cases e : k c = true
    · rw [if_pos e, List.filter_cons, if_pos e]; rfl
    · rw [if_neg e, List.filter_cons, if_neg e]; rfl
theorem rfil_at (k : Nat → Bool) (c : Nat) (e : k c = true) : (∀ i, i < cntN c k → ((List.range (c + 1)).filter k).getD i 0 = ((List.range c).filter k).getD i 0) ∧ ((List.range (c + 1)).filter k).getD (cntN c k) 0 = c := by
  have s : (List.range (c + 1)).filter k = (List.range c).filter k ++ [c] := by
    rw [List.range_succ, List.filter_append, List.filter_cons, if_pos e]; rfl
  have l := rfil_l k c
  rw [s]
  refine ⟨fun i hi => ?_, ?_⟩
  · rw [List.getD_eq_getElem?_getD, List.getD_eq_getElem?_getD, List.getElem?_append_left (by omega)]
  · rw [List.getD_eq_getElem?_getD, List.getElem?_append_right (by omega), l, Nat.sub_self]; rfl
theorem rfil_n (k : Nat → Bool) (c : Nat) (e : ¬ k c = true) : (List.range (c + 1)).filter k = (List.range c).filter k := by
  rw [List.range_succ, List.filter_append, List.filter_cons, if_neg e, List.filter_nil, List.append_nil]
set_option maxHeartbeats 16000000 in
theorem c_X14_findCore {h : XH} {N : Nat → Int} {m : Nat} (T : HT h) (eN : N = nw h) (W : WF N m) {nd : Nat → ND} (P8 : P8N N) (CR : CaR h N nd) (Z : NTm h nd m) (fi : fOK N (inst N (rh N))) (TL : (told N nd).length ≤ 3712) {K : XH → Prop} (k : ∀ g, HT g → RSP h g nd 28 (n12 + 12 * nA8 + 8192 + 3712) → CaR g N nd → hI g 437 44 = hI g 437 4 → K g) : w_X14_findCore K h := by
  unfold w_X14_findCore
  have L := HT_len T
  have St := CR.2.1.1
  have Dj := CR.2.1.2
  have Bq := B45_of T CR
  refine ⟨fun c72 => ?_, fun c72 => ?_⟩
  · intro h1 eh1 t1 u1
    intro a2 h3 ea2 eh3 t3 u3 ca2 la2
    intro h4 eh4 t4 u4
    have s1 : ∀ b, ¬ b = 437 → sameC h h1 b := fun b n => by rw [eh1]; exact sameC_sV (fun y => n y.symm)
    obtain ⟨s3, l3, x3⟩ := alc eh3
    have l1 : h1.length = h.length := by rw [eh1, len_sV]
    have x1 : xhs h1 = xhs h := by rw [eh1, xhs_sV]
    have l4 : h4.length = h.length + 1 := by rw [eh4, len_sV]; omega
    have x4 : xhs h4 = xhs h := by rw [eh4, xhs_sV]; omega
    have ea : a2 = h.length := ea2.trans l1
    have F4 : Fr (fun b => b = 437) h h4 := fun b hb n => sameC_tr (s1 b n) (sameC_tr (s3 b (by omega)) (by rw [eh4]; exact sameC_sV (fun y => n y.symm)))
    have e4 : ∀ j, ¬ j = 44 → ¬ j = 45 → el h4 437 j = el h 437 j := fun j a b => by rw [eh4, el_ni (fun y => b y.symm), sameC_el (s3 437 (by omega)), eh1, el_ni (fun y => a y.symm)]
    have i4 : ∀ j, ¬ j = 44 → ¬ j = 45 → hI h4 437 j = hI h 437 j := fun j a b => congrArg gvI (e4 j a b)
    have r45 : hR h4 437 45 = h.length := by rw [eh4, ← ea]; exact hR_eq (by rw [(lstn t3).2.2.2.2.1]; decide)
    have k45 : hk h4 h.length = 100 ∧ hn h4 h.length = 0 := by rw [← ea, eh4, hk_sV, hn_sV]; exact ⟨ca2, la2⟩
    have i44 : hI h4 437 44 = hI h4 437 4 := by
      rw [i4 4 (by decide) (by decide), eh4, hI_ni (by decide), sameC_I (s3 437 (by omega)), eh1]
      exact hI_eq (by rw [(lstn T).2.2.2.2.1]; decide) (rgh _ _ _)
    have St4 : StR h4 := StR_fr (fun b x y => F4 b y (by omega)) (fun j hj => e4 j (by omega) (by omega)) St
    have Dj4 : DJo h4 := DJo_45 L St Dj F4 e4 (by omega)
    have Bq4 : B45 h4 := ⟨by rw [show hR h4 437 39 = hR h 437 39 from congrArg gvR (e4 39 (by decide) (by decide))]; have := Bq.1; omega, by omega⟩
    have eN4 : N = nw h4 := eN.trans (nw_fr (F4 438 (by omega) (by decide))).symm
    have Z4 : NTm h4 nd m := NTm_fr T (fun b x y => F4 b x (by omega)) (fun j hj => e4 j (by omega) (by omega)) Z
    have ro : ∀ j, owP j → hR h4 437 j = hR h 437 j := fun j hj => congrArg gvR (e4 j (by unfold owP at hj; omega) (by unfold owP at hj; omega))
    obtain ⟨cp4, cq4⟩ := cp_s St (HX_trans (HX_trans u1 u3) u4) (fun j hj => e4 j (by omega) (by omega))
    have ul4 := HX_trans (HX_trans u1 u3) u4
    refine c_fits0 t4 eN4 W P8 St4 Dj4 Bq4 (fun y => SortOK_fr (fun b x y => F4 b y (by omega)) (F4 442 (by omega) (by decide)) (CR.2.2.1 (by rw [← i4 12 (by decide) (by decide), ← i4 4 (by decide) (by decide)]; exact y))) (fun y => TellOKR_fr St (fun b x y => F4 b y (by omega)) (fun j hj => e4 j (by omega) (by omega)) (CR.2.2.2.1 (by rw [← i4 30 (by decide) (by decide), ← i4 4 (by decide) (by decide)]; exact y))) Z4 fi TL ?_
    intro x5 h6 th6 r6 e6 sd6 so6 k6 s6 R6 v5 q5
    intro t6 u6
    intro rx5 vx5
    obtain ⟨St6, Dj6⟩ := sd6
    obtain ⟨-, f6, -, g6, l6, w6⟩ := r6
    have ee6 : ∀ j, ¬ j = 12 → ¬ (24 ≤ j ∧ j ≤ 36) → ¬ j = 44 → ¬ j = 45 → el h6 437 j = el h 437 j := fun j a b c d => (e6 j a (by omega) (by omega)).trans (e4 j c d)
    have F6 : Fr (RS h) h h6 := fun b hb n => sameC_tr (F4 b hb (fun y => n (.inl y))) (f6 b (by omega) (fun y => n (by
      rcases y with y | y | ⟨y, j, hj, w⟩
      · exact .inl y
      · exact .inr (.inl y)
      · exact .inr (.inr ⟨y, j, hj, by rw [w]; exact ro j hj⟩))))
    have W6 : ∀ j, owP j → hR h6 437 j = hR h 437 j ∨ h.length ≤ hR h6 437 j := fun j hj => (w6 j hj).imp (fun y => y.trans (ro j hj)) (fun y => by omega)
    have s45 : sameC h4 h6 h.length := f6 _ (by omega) (fun y => by
      rcases y with y | y | ⟨-, j, hj, w⟩
      · omega
      · omega
      · have := (own_j St hj).2.1; rw [ro j hj] at w; omega)
    have r45_6 : hR h6 437 45 = h.length := (congrArg gvR (e6 45 (by decide) (by decide) (by decide))).trans r45
    have i44_6 : hI h6 437 44 = hI h6 437 4 := by rw [show hI h6 437 44 = hI h4 437 44 from congrArg gvI (e6 44 (by decide) (by decide) (by decide)), show hI h6 437 4 = hI h4 437 4 from congrArg gvI (e6 4 (by decide) (by decide) (by decide))]; exact i44
    have s39 : ∀ {g : XH}, Fr (RS h) h g → (hk h (hR h 437 39) = 100 ∧ 468 ≤ hR h 437 39) → sameC h g (hR h 437 39) := fun f y => RS_not f (hk_lt y.1 (by decide)) y.2 (fun j hj => (Dj.2.2.2 j hj).2.1)
    have b12 : hI h6 437 12 = hI h 437 12 ∨ hI h6 437 12 = hI h6 437 4 := so6.2.imp_left (fun y => y.trans (i4 12 (by decide) (by decide)))
    have NT6 : NT h6 nd := RSt_NT t4 St4 Dj4 f6 (congrArg gvR (e6 6 (by decide) (by decide) (by decide))) (congrArg gvI (e6 7 (by decide) (by decide) (by decide))) Z4.1
    have g6_ : GrP 26 (n12 + 12 * nA8) h h6 := by unfold GrP at g6 ⊢; omega
    have r31_6 : hR h6 437 31 = hR h 437 31 := (congrArg gvR (e6 31 (by decide) (by decide) (by decide))).trans (ro 31 (by unfold owP; omega))
    have n31_6 : hn h6 (hR h6 437 31) = hn h (hR h 437 31) := by rw [r31_6]; exact HX_hn (HX_trans ul4 u6) (own_j St (j := 31) (by unfold owP; omega)).2.1
    refine ⟨fun c71 => ?_, fun c71 => ?_⟩
    · have ncn : ¬ canH (told N nd) (fun _ => true) 0#64 0#64 := fun y => by have := q5.mpr y; omega
      obtain ⟨o24, -, -, -, -, ⟨-, -, -, -, m64, m8⟩, -, o31, p64, p81, -⟩ := id St6
      have i29 : hI h6 437 29 = ((told N nd).length : Nat) := k6.1
      have lt24 := k6.2.1
      refine ⟨o31.1, ?_⟩
      refine ⟨(by omega), ?_⟩
      refine ⟨fun g => Fr (fun b => b = 437) h6 g ∧ (∀ j, ¬ j = 31 → el g 437 j = el h6 437 j) ∧ h6.length ≤ g.length ∧ g.length ≤ h6.length + 1 ∧ xhs g ≤ xhs h6 + 8192 ∧ hk g (hR g 437 31) = 102 ∧ (told N nd).length ≤ hn g (hR g 437 31) ∧ 64 ≤ hn g (hR g 437 31) ∧ hn g (hR g 437 31) ≤ 8192 ∧ hn h6 (hR h6 437 31) ≤ hn g (hR g 437 31) ∧ (hR g 437 31 = hR h6 437 31 ∨ hR g 437 31 = h6.length), ?_, ?_⟩
      · intro h9 t9 s9 z10
        obtain ⟨f9, e9, l9, l9', x9, k9, n9, n64, n81, n9', q9⟩ := z10
        obtain ⟨q, eq⟩ : ∃ q, q = hR h9 437 31 := ⟨_, rfl⟩
        rw [← eq] at k9 n9 n64 n81 n9' q9
        have L6 := HT_len t6
        have nq : ¬ q = 437 := by
          rcases q9 with y | y
          · rw [y]; rcases o31.2 with z | z <;> omega
          · omega
        have ql : q < h9.length := hk_lt k9 (by decide)
        have i29_9 : hI h9 437 29 = ((told N nd).length : Nat) := (congrArg gvI (e9 29 (by decide))).trans i29
        have rq9 : ∀ f, SrQ h9 N f (told N nd) (-1) := fun f => SrQ_fr th6 (fun b hb n _ => f9 b hb n) (fun j hj => e9 j (by omega)) (congrArg gvI (e9 33 (by decide))) (congrArg gvR (e9 34 (by decide))) (R6 f)
        refine ⟨fun x g => 0 ≤ x ∧ x ≤ ((told N nd).length : Int) ∧ FB h9 q g ∧ (∀ f, SrQ g N f (told N nd) (-1)) ∧ ∀ i : Nat, (i : Int) < x → ¬ hI g q i = 0, fun x _ => (((told N nd).length : Int) - x).toNat, ?_, ?_⟩
        · exact ⟨by omega, by omega, FB_rf k9, rq9, fun i hi => by omega⟩
        · intro x11 h12 t12 s12 rx11 z13
          obtain ⟨a0, a1, fb, rq, al⟩ := z13
          have r31 : hR h12 437 31 = q := by rw [eq]; exact congrArg gvR (fb.2.1 31 (by decide))
          have i29_12 : hI h12 437 29 = ((told N nd).length : Nat) := (congrArg gvI (fb.2.1 29 (by decide))).trans i29_9
          have n12_ := fb.2.2.2.2.2
          have k12_ := fb.2.2.2.2.1
          refine ⟨fun c63 => ?_, fun c63 => ?_⟩
          · rw [i29_12] at c63
            intro h14 eh14 t14 u14
            have sx14 : SX h12 h14 := SX_st eh14 (by decide)
            have fb14 := FB_SX (by have := fb.2.2.1; omega) nq fb sx14
            have i32_14 : hI h14 437 32 = 0 := by rw [eh14]; exact hI_eq (by rw [(lstn t12).2.2.2.2.1]; decide) (rgk rfl)
            have rq14 : ∀ f, SrQ h14 N f (told N nd) (-1) := fun f => SrQ_fr t12 (fun b hb n _ => sx14.1 b hb n) (fun j hj => sx14.2.1 j (by omega)) (by rw [eh14]; exact hI_ni (by decide)) (by rw [eh14]; exact hR_ni (by decide)) (rq f)
            have i29_14 : hI h14 437 29 = ((told N nd).length : Nat) := (congrArg gvI (sx14.2.1 29 (by decide))).trans i29_12
            have fl14 : ∀ i, hI h14 q i = hI h12 q i := fun i => sameC_I (sx14.1 q (by have := fb.2.2.1; omega) nq) i
            intro x15 ex15 rx15
            rw [i29_14] at ex15
            intro x16 ex16 rx16
            rw [i29_14, wr_of (by omega) (by omega)] at ex16
            refine ⟨fun x c g => CI h9 q N (told N nd) x c g, fun _ c _ => (c + 1).toNat, ?_, ?_⟩
            · exact ⟨fun _ => true, fb14, i32_14, rq14, by omega, by omega, fun i hi => ⟨fun _ => by rw [fl14]; exact al i (by omega), fun _ => rfl⟩, fun _ _ => rfl, by rw [show (x16 + 1).toNat = (told N nd).length by omega], by rw [cntN_t]; exact ex15⟩
            · intro x17 x18 h19 t19 s19 rx17 rx18 z20
              obtain ⟨kk, fb, i32, rq, d0, d1, fl, al, ck, ex⟩ := z20
              have r31_19 : hR h19 437 31 = q := by rw [eq]; exact congrArg gvR (fb.2.1 31 (by decide))
              have n19_ := fb.2.2.2.2.2
              have k19_ := fb.2.2.2.2.1
              have ql19 : q < h19.length := by have := fb.2.2.1; omega
              have cl := cntN_le kk (told N nd).length
              refine ⟨fun c58 => ?_, fun c58 => ?_⟩
              · have kf : kk = coreK (told N nd) (told N nd).length (fun _ => true) := by rw [← ck, show (x18 + 1).toNat = 0 by omega]; rfl
                have cl_ : coreL (told N nd) = (List.range (told N nd).length).filter kk := by unfold coreL; rw [if_neg ncn, kf]
                intro h21 eh21 t21 u21
                refine ⟨(by omega), ?_⟩
                intro a23 h24 ea23 eh24 t24 u24 ca23 la23
                intro h25 eh25 t25 u25
                have sx21 : SX h19 h21 := SX_st eh21 (by decide)
                obtain ⟨s24, l24, x24⟩ := alc eh24
                have l21 : h21.length = h9.length := sx21.2.2.1.trans fb.2.2.1
                have x21 : xhs h21 = xhs h9 := sx21.2.2.2.trans fb.2.2.2.1
                have l25 : h25.length = h9.length + 1 := by rw [eh25, len_sV]; omega
                have x25 : xhs h25 = xhs h9 + x17.toNat := by rw [eh25, xhs_sV]; omega
                have ea23_ : a23 = h9.length := ea23.trans l21
                have r45_25 : hR h25 437 45 = a23 := by rw [eh25]; exact hR_eq (by rw [(lstn t24).2.2.2.2.1]; decide)
                have k25 : hk h25 a23 = 100 ∧ hn h25 a23 = x17.toNat := by rw [eh25, hk_sV, hn_sV]; exact ⟨ca23, la23⟩
                have e25 : ∀ j, j < 32 ∨ 36 < j → ¬ j = 45 → el h25 437 j = el h9 437 j := fun j a b => by
                  rw [eh25, el_ni (fun y => b y.symm), sameC_el (s24 437 (by omega)), sx21.2.1 j a]; exact fb.2.1 j a
                have f25 : ∀ b, b < h9.length → ¬ b = 437 → ¬ b = q → sameC h9 h25 b := fun b hb n nn => sameC_tr (fb.1 b hb (fun y => y.elim n nn)) (sameC_tr (sx21.1 b (by have := fb.2.2.1; omega) n) (sameC_tr (s24 b (by omega)) (by rw [eh25]; exact sameC_sV (fun y => n y.symm))))
                have fq25 : sameC h19 h25 q := sameC_tr (sx21.1 q ql19 nq) (sameC_tr (s24 q (by omega)) (by rw [eh25]; exact sameC_sV (fun y => nq y.symm)))
                have L9_ : h.length ≤ h9.length := by omega
                refine ⟨fun x c g => 0 ≤ c ∧ c ≤ ((told N nd).length : Int) ∧ Fr (fun b => b = a23) h25 g ∧ g.length = h25.length ∧ xhs g = xhs h25 ∧ hk g a23 = 100 ∧ hn g a23 = x17.toNat ∧ x = (cntN c.toNat kk : Nat) ∧ ∀ i, i < cntN c.toNat kk → hI g a23 i = ((((List.range c.toNat).filter kk).getD i 0 : Nat) : Int), fun _ c _ => (((told N nd).length : Int) - c).toNat, ?_, ?_⟩
                · exact ⟨by omega, by omega, Fr_rf _ _, rfl, rfl, k25.1, k25.2, rfl, fun i hi => absurd hi (Nat.not_lt_zero _)⟩
                · intro x27 x28 h29 t29 s29 rx27 rx28 z30
                  obtain ⟨b0, b1, gf, gl, gx, gk, gn, gc, gv⟩ := z30
                  have s437 : sameC h25 h29 437 := gf 437 (by omega) (by omega)
                  have i29_29 : hI h29 437 29 = ((told N nd).length : Nat) := by rw [sameC_I s437]; exact (congrArg gvI (e25 29 (by decide) (by decide))).trans i29_9
                  have r31_29 : hR h29 437 31 = q := by rw [sameC_R s437, eq]; exact congrArg gvR (e25 31 (by decide) (by decide))
                  have sq29 : sameC h19 h29 q := sameC_tr fq25 (gf q (by omega) (by omega))
                  have cle := cntN_le kk x28.toNat
                  have cm := cntN_mono (g := fun i => decide (i < x28.toNat) && kk i) (k := kk) (told N nd).length (fun i _ y => by rw [Bool.and_eq_true] at y; exact y.2)
                  refine ⟨fun c43 => ?_, fun c43 => ?_⟩
                  · rw [i29_29] at c43
                    rw [show x28.toNat = (told N nd).length by omega] at gv gc cle
                    have ll := rfil_l kk (told N nd).length
                    have F9 : ∀ b, b < h9.length → ¬ b = 437 → ¬ b = q → sameC h9 h29 b := fun b hb n nn => sameC_tr (f25 b hb n nn) (gf b (by omega) (by omega))
                    have e29 : ∀ j, j < 31 ∨ 36 < j → ¬ j = 45 → el h29 437 j = el h6 437 j := fun j a b => (sameC_el s437 j).trans ((e25 j (by omega) b).trans (e9 j (by omega)))
                    have F69 : ∀ b, b < h6.length → ¬ b = 437 → ¬ b = q → sameC h6 h29 b := fun b hb n nn => sameC_tr (f9 b hb n) (F9 b (by omega) n nn)
                    have q_ : q = hR h 437 31 ∨ h.length ≤ q := by
                      rcases q9 with y | y
                      · exact .inl (y.trans r31_6)
                      · exact .inr (by omega)
                    have oq : ∀ j, owP j → ¬ j = 31 → ¬ hR h6 437 j = q := fun j hj n y => by
                      rcases q9 with z | z
                      · exact Dj6.1 j 31 hj (by unfold owP; omega) n (y.trans z)
                      · have := (own_j St6 hj).2.1; omega
                    have r45_29 : hR h29 437 45 = a23 := (sameC_R s437 45).trans r45_25
                    have hr : ∀ j, j < 31 ∨ 36 < j → ¬ j = 45 → hR h29 437 j = hR h6 437 j := fun j a b => congrArg gvR (e29 j a b)
                    have hi_ : ∀ j, j < 31 ∨ 36 < j → ¬ j = 45 → hI h29 437 j = hI h6 437 j := fun j a b => congrArg gvI (e29 j a b)
                    have sj : ∀ j, owP j → ¬ j = 31 → sameC h6 h29 (hR h6 437 j) := fun j hj n => by
                      have o := own_j St6 hj
                      exact F69 _ o.2.1 (by omega) (oq j hj n)
                    have hq29 : hk h29 q = 102 ∧ hn h29 q = hn h9 q := ⟨(sameC_k sq29).trans k19_, (sameC_n sq29).trans n19_⟩
                    have St29 : StR h29 := by
                      obtain ⟨a3, a4, a5, a6, a7, ⟨b1, b2, b3, b4, b5, b6⟩, a8, a9, a10, a11, c1, c2, c3, c4, d1, d2, d3, d4, d5⟩ := id St6
                      have z24 := sj 24 (by unfold owP; omega) (by decide)
                      have z25 := sj 25 (by unfold owP; omega) (by decide)
                      have z26 := sj 26 (by unfold owP; omega) (by decide)
                      have z27 := sj 27 (by unfold owP; omega) (by decide)
                      have z28 := sj 28 (by unfold owP; omega) (by decide)
                      have z52 := sj 52 (by unfold owP; omega) (by decide)
                      have z53 := sj 53 (by unfold owP; omega) (by decide)
                      have z54 := sj 54 (by unfold owP; omega) (by decide)
                      have z55 := sj 55 (by unfold owP; omega) (by decide)
                      unfold StR
                      rw [hr 24 (by decide) (by decide), hr 25 (by decide) (by decide), hr 26 (by decide) (by decide), hr 27 (by decide) (by decide), hr 28 (by decide) (by decide), r31_29, hr 52 (by decide) (by decide), hr 53 (by decide) (by decide), hr 54 (by decide) (by decide), hr 55 (by decide) (by decide), sameC_n z24, sameC_n z25, sameC_n z26, sameC_n z27, sameC_n z28, hq29.2, sameC_n z52, sameC_n z53, sameC_n z54, sameC_n z55]
                      exact ⟨own_fr a3 z24, own_fr a4 z25, own_fr a5 z26, own_fr a6 z27, own_fr a7 z28, ⟨b1, b2, b3, b4, b5, b6⟩, a8, ⟨hq29.1, by
                        rcases q9 with y | y
                        · rw [y]; exact a9.2
                        · exact .inr (by omega)⟩, n64, n81, own_fr c1 z52, own_fr c2 z53, own_fr c3 z54, own_fr c4 z55, d1, d2, d3, d4, d5⟩
                    have rj : ∀ j, owP j → hR h29 437 j = if j = 31 then q else hR h6 437 j := fun j hj => by
                      by_cases c : j = 31
                      · rw [if_pos c, c]; exact r31_29
                      · rw [if_neg c]; exact hr j (by unfold owP at hj; omega) (by unfold owP at hj; omega)
                    have ltj : ∀ j, owP j → hR h6 437 j < h6.length := fun j hj => (own_j St6 hj).2.1
                    have Dj29 : DJo h29 := by
                      obtain ⟨z1, ⟨z2, z3⟩, z4, z5⟩ := Dj6
                      have st : sameC h6 h29 (hR h6 437 6) := F69 _ (hk_lt z2 (by decide)) (by omega) (by
                        rcases q9 with y | y
                        · rw [y]; intro w; rw [w, o31.1] at z2; cases z2
                        · have := hk_lt z2 (by decide); omega)
                      have s442 : sameC h6 h29 442 := F69 442 (by omega) (by decide) (by
                        rcases q9 with y | y
                        · rw [y]; rcases o31.2 with z | z <;> omega
                        · omega)
                      have nqx : ∀ x, x < h6.length → (∀ j, owP j → ¬ x = hR h6 437 j) → ∀ j, owP j → ¬ x = hR h29 437 j := fun x hx n j hj => by
                        rw [rj j hj]
                        by_cases c : j = 31
                        · rw [if_pos c]
                          rcases q9 with y | y
                          · rw [y]; exact n 31 (by unfold owP; omega)
                          · omega
                        · rw [if_neg c]; exact n j hj
                      unfold DJo
                      rw [hr 6 (by decide) (by decide), hr 39 (by decide) (by decide), hi_ 7 (by decide) (by decide), r45_29, sameC_k st]
                      refine ⟨fun j k hj hk n => ?_, ⟨z2, z3⟩, fun i hi => ?_, fun j hj => ⟨fun p hp => ?_, ?_, ?_⟩⟩
                      · rw [rj j hj, rj k hk]
                        by_cases c : j = 31
                        · rw [if_pos c, if_neg (by omega)]; exact fun y => oq k hk (by omega) y.symm
                        · rw [if_neg c]
                          by_cases d : k = 31
                          · rw [if_pos d]; exact oq j hj c
                          · rw [if_neg d]; exact z1 j k hj hk n
                      · rw [sameC_R st]
                        obtain ⟨y1, y2, y3⟩ := z4 i hi
                        have s1 : sameC h6 h29 (hR h6 (hR h6 437 6) i) := F69 _ (hk_lt y1 (by decide)) (by omega) (by
                          rcases q9 with y | y
                          · rw [y]; intro w; rw [w, o31.1] at y1; cases y1
                          · have := hk_lt y1 (by decide); omega)
                        rw [sameC_k s1]
                        refine ⟨y1, y2, fun j t hj a b => ?_⟩
                        rw [sameC_R s1]
                        exact nqx _ (need_lt NT6 hi a b) (fun j hj => y3 j t hj a b) j hj
                      · rw [sameC_R s442]; exact nqx _ (r442 t6 p) (fun j hj => (z5 j hj).1 p hp) j hj
                      · exact nqx _ (by rw [show hR h6 437 39 = hR h 437 39 from congrArg gvR (ee6 39 (by decide) (by decide) (by decide) (by decide))]; have := Bq.1; omega) (fun j hj => (z5 j hj).2.1) j hj
                      · rw [rj j hj]
                        have := ltj j hj
                        split <;> omega
                    have s442 : sameC h6 h29 442 := F69 442 (by omega) (by decide) (by
                      rcases q9 with y | y
                      · rw [y]; rcases o31.2 with z | z <;> omega
                      · omega)
                    have i12 : hI h29 437 12 = hI h6 437 12 := hi_ 12 (by decide) (by decide)
                    have i4_ : hI h29 437 4 = hI h6 437 4 := hi_ 4 (by decide) (by decide)
                    have So29 : hI h29 437 12 = hI h29 437 4 → SortOK h29 N := fun y p hp => by
                      obtain ⟨a1, a2, a3⟩ := so6.1 (by rw [← i12, ← i4_]; exact y) p hp
                      have s1 := F69 _ (hk_lt a1.1 (by decide)) (by omega) (fun w => by
                        rcases q9 with z | z
                        · exact (Dj6.2.2.2 31 (by unfold owP; omega)).1 p hp (w.trans z)
                        · have := hk_lt a1.1 (by decide); omega)
                      rw [sameC_R s442, sameC_n s1, sameC_k s1]
                      exact ⟨a1, a2, fun i hi => by rw [sameC_I s1]; exact a3 i hi⟩
                    have z24 := sj 24 (by unfold owP; omega) (by decide)
                    have tk29 : TellOKR h29 (told N nd) := by
                      have z25 := sj 25 (by unfold owP; omega) (by decide)
                      have z26 := sj 26 (by unfold owP; omega) (by decide)
                      have z27 := sj 27 (by unfold owP; omega) (by decide)
                      have z28 := sj 28 (by unfold owP; omega) (by decide)
                      unfold TellOKR
                      rw [hi_ 29 (by decide) (by decide), hr 24 (by decide) (by decide), hr 25 (by decide) (by decide), hr 26 (by decide) (by decide), hr 27 (by decide) (by decide), hr 28 (by decide) (by decide), sameC_n z24]
                      refine ⟨k6.1, k6.2.1, fun i hi => ?_⟩
                      rw [sameC_I z26, sameC_I z27, sameC_I z28, sameC_L z24, sameC_L z25]
                      exact k6.2.2 i hi
                    have s30 : hI h29 437 30 = hI h29 437 4 := by rw [hi_ 30 (by decide) (by decide), i4_]; exact s6
                    have s44 : hI h29 437 44 = hI h29 437 4 := by rw [hi_ 44 (by decide) (by decide), i4_]; exact i44_6
                    have k45_ : hk h29 (hR h29 437 45) = 100 ∧ 468 ≤ hR h29 437 45 := by rw [r45_29]; exact ⟨gk, by omega⟩
                    have ck29 : CoreOKR h29 (coreL (told N nd)) := by
                      rw [cl_]
                      refine ⟨⟨k45_.1, .inr k45_.2⟩, ?_, fun i hi => ?_⟩
                      · rw [r45_29, gn, ll]; omega
                      · rw [r45_29]; exact gv i (by rw [← ll]; exact hi)
                    have F29 : Fr (RS h) h h29 := fun b hb n => sameC_tr (F6 b hb n) (F69 b (by omega) (fun y => n (.inl y)) (fun y => by
                      rcases q_ with z | z
                      · by_cases w : 468 ≤ b
                        · exact n (.inr (.inr ⟨w, 31, by unfold owP; omega, y.trans z⟩))
                        · have o := (own_j St (j := 31) (by unfold owP; omega)).2.2
                          exact n (.inr (.inl (by omega)))
                      · omega))
                    have cp29 : cp h29 = cp h6 := by unfold cp; rw [hr 24 (by decide) (by decide), sameC_n z24]
                    have cq29 : cq h29 = cq h6 := by unfold cq; rw [hr 52 (by decide) (by decide), sameC_n (sj 52 (by unfold owP; omega) (by decide))]
                    have e_ : ∀ j, ¬ j = 12 → ¬ (24 ≤ j ∧ j ≤ 36) → ¬ j = 44 → ¬ j = 45 → el h29 437 j = el h 437 j := fun j a b c d => (e29 j (by omega) d).trans (ee6 j a b c d)
                    have g6a := g6_.2.2.1
                    have g6b := g6_.2.2.2
                    have CR29 : CaR h29 N nd := CaR_core CR c72 St29 Dj29 So29 (by rw [i12, i4_]; exact b12) tk29 s30 s44 ck29 k45_ e_ (s39 F29) (by omega) (by rw [r31_29, hq29.2]; omega) (by omega)
                    have cll := cntN_le kk (told N nd).length
                    refine k h29 t29 ⟨fun _ => by rw [← eN]; exact CR29, F29, fun j hj => e_ j (by omega) (by omega) (by omega) (by omega), ?_, by omega, fun j hj => ?_⟩ CR29 s44
                    · unfold GrP at g6_ ⊢
                      omega
                    · rw [rj j hj]
                      by_cases c : j = 31
                      · rw [if_pos c, c]; exact q_
                      · rw [if_neg c]; exact W6 j hj
                  · rw [i29_29] at c43
                    have xl : x28.toNat < (told N nd).length := by omega
                    have fx := fl x28.toNat xl
                    have c1_ : cntN (x28.toNat + 1) kk = cntN x28.toNat kk + (if kk x28.toNat = true then 1 else 0) := rfl
                    refine ⟨(by rw [r31_29, sameC_k sq29]; exact k19_), ?_⟩
                    refine ⟨(by rw [r31_29, sameC_n sq29, n19_]; omega), ?_⟩
                    refine ⟨fun x g => Fr (fun b => b = a23) h25 g ∧ g.length = h25.length ∧ xhs g = xhs h25 ∧ hk g a23 = 100 ∧ hn g a23 = x17.toNat ∧ x = (cntN (x28.toNat + 1) kk : Nat) ∧ ∀ i, i < cntN (x28.toNat + 1) kk → hI g a23 i = ((((List.range (x28.toNat + 1)).filter kk).getD i 0 : Nat) : Int), ?_, ?_⟩
                    · intro x34 h35 t35 s35 rx34 z36
                      intro x37 ex37 rx37
                      rw [wr_of (by omega) (by omega)] at ex37
                      exact ⟨⟨by omega, by omega, by rw [show x37.toNat = x28.toNat + 1 by omega]; exact z36⟩, by dsimp only; omega⟩
                    · refine ⟨fun c42 => ?_, fun c42 => ?_⟩
                      · rw [r31_29, sameC_I sq29] at c42
                        have nk : ¬ kk x28.toNat = true := fun y => fx.mp y c42
                        rw [if_neg nk] at c1_
                        refine ⟨gf, gl, gx, gk, gn, by rw [gc, c1_, Nat.add_zero], fun i hi => ?_⟩
                        rw [rfil_n kk _ nk]
                        exact gv i (by omega)
                      · rw [r31_29, sameC_I sq29] at c42
                        have yk : kk x28.toNat = true := fx.mpr c42
                        rw [if_pos yk] at c1_
                        have cb : cntN (x28.toNat + 1) kk ≤ cntN (told N nd).length kk := cntN_up kk _ xl
                        have r45_29 : hR h29 437 45 = a23 := (sameC_R s437 45).trans r45_25
                        refine ⟨(by rw [r45_29]; exact gk), ?_⟩
                        refine ⟨(by rw [r45_29, gn]; omega), ?_⟩
                        intro h40 eh40 t40 u40
                        intro x41 ex41 rx41
                        rw [r45_29] at eh40
                        rw [wr_of (by omega) (by omega)] at ex41
                        obtain ⟨ra, rb⟩ := rfil_at kk _ yk
                        refine ⟨fun b hb n => sameC_tr (gf b hb n) (by rw [eh40]; exact sameC_sV (fun y => n y.symm)), by rw [eh40, len_sV]; exact gl, by rw [eh40, xhs_sV]; exact gx, by rw [eh40, hk_sV]; exact gk, by rw [eh40, hn_sV]; exact gn, by omega, fun i hi => ?_⟩
                        by_cases c : i = cntN x28.toNat kk
                        · rw [c, rb, eh40, show x27.toNat = cntN x28.toNat kk by omega, hI_eq (by rw [gn]; omega) (by unfold rg; omega)]; omega
                        · rw [ra i (by omega), eh40, hI_ni (by omega)]; exact gv i (by omega)
              · refine ⟨(by rw [r31_19]; exact k19_), ?_⟩
                refine ⟨(by rw [r31_19, n19_]; omega), ?_⟩
                intro h46 eh46 t46 u46
                rw [r31_19] at eh46
                have fb46 := FB_q fb nq eh46
                have i32_46 : hI h46 437 32 = 0 := by rw [eh46, hI_ne nq]; exact i32
                have rq46 : ∀ f, SrQ h46 N f (told N nd) (-1) := fun f => FB_Q t19 k19_ nq eh46 (rq f)
                have r31_46 : hR h46 437 31 = q := by rw [eq]; exact congrArg gvR (fb46.2.1 31 (by decide))
                have kc : kk x18.toNat = true := al _ (by omega)
                have xl : x18.toNat < (told N nd).length := by omega
                have kp46 : KP h46 (told N nd) (noC kk x18.toNat) := by
                  refine .inr ⟨i32_46, by rw [r31_46]; exact fb46.2.2.2.2.1, by rw [r31_46, fb46.2.2.2.2.2]; exact n9, by rw [r31_46]; exact nq, fun i hi => ?_⟩
                  rw [r31_46]
                  unfold noC
                  by_cases c : i = x18.toNat
                  · rw [c, decide_eq_true rfl, eh46, hI_eq (by omega) (rgk rfl)]; simp
                  · rw [decide_eq_false c, eh46, hI_ni (fun y => c y.symm)]
                    rw [← fl i hi]; simp
                refine c_X14_search (f := fun _ => -1) t46 W (.inl rfl) ⟨rq46 _, kp46⟩ (dj_0 _).1 ?_
                intro x47 h48 th48 q48 v48 e48
                replace e48 := e48.trans canH_Sat
                intro t48 u48
                intro rx47 vx47
                have ql46 : q < h46.length := by have := fb46.2.2.1; omega
                have fb48 := FB_SX ql46 nq fb46 q48.1
                have fl48 : ∀ i, hI h48 q i = hI h46 q i := fun i => sameC_I (q48.1.1 q ql46 nq) i
                have i32_48 : hI h48 437 32 = 0 := q48.2.1.trans i32_46
                have rq48 : ∀ f, SrQ h48 N f (told N nd) (-1) := fun f => SrQ_fr t46 (fun b hb n _ => q48.1.1 b hb n) (fun j hj => q48.1.2.1 j (by omega)) q48.2.2.1 q48.2.2.2 (rq46 f)
                have r31_48 : hR h48 437 31 = q := by rw [eq]; exact congrArg gvR (fb48.2.1 31 (by decide))
                have cs_ : coreK (told N nd) (x18.toNat + 1) kk = coreK (told N nd) (told N nd).length (fun _ => true) := by rw [← ck, show (x18 + 1).toNat = x18.toNat + 1 by omega]
                rw [coreK_s] at cs_
                have cno := cntN_no (told N nd).length xl kc
                refine ⟨fun x g => CI h9 q N (told N nd) x (x18 - 1) g, ?_, ?_⟩
                · intro x49 h50 t50 s50 rx49 z51
                  intro x52 ex52 rx52
                  rw [wr_of (by omega) (by omega)] at ex52
                  exact ⟨by rw [show x52 = x18 - 1 by omega]; exact z51, by dsimp only; omega⟩
                · refine ⟨fun c57 => ?_, fun c57 => ?_⟩
                  · intro x53 ex53 rx53
                    rw [wr_of (by omega) (by omega)] at ex53
                    have nc : ¬ canH (told N nd) (noC kk x18.toNat) 0#64 0#64 := fun y => by have := e48.mpr y; omega
                    rw [if_neg nc] at cs_
                    refine ⟨noC kk x18.toNat, fb48, i32_48, rq48, by omega, by omega, fun i hi => ?_, fun i hi => ?_, by rw [show (x18 - 1 + 1).toNat = x18.toNat by omega]; exact cs_, by omega⟩
                    · rw [fl48]
                      unfold noC
                      by_cases c : i = x18.toNat
                      · rw [c, decide_eq_true rfl, eh46, hI_eq (by omega) (rgk rfl)]; simp
                      · rw [decide_eq_false c, eh46, hI_ni (fun y => c y.symm), ← fl i hi]; simp
                    · unfold noC
                      rw [al i (by omega), decide_eq_false (by omega)]; rfl
                  · refine ⟨(by rw [r31_48]; exact fb48.2.2.2.2.1), ?_⟩
                    refine ⟨(by rw [r31_48, fb48.2.2.2.2.2]; omega), ?_⟩
                    intro h56 eh56 t56 u56
                    rw [r31_48] at eh56
                    have yc : canH (told N nd) (noC kk x18.toNat) 0#64 0#64 := e48.mp (by
                      rcases v48 with y | y
                      · exact absurd y c57
                      · exact y)
                    rw [if_pos yc] at cs_
                    refine ⟨kk, FB_q fb48 nq eh56, by rw [eh56, hI_ne nq]; exact i32_48, fun f => FB_Q t48 fb48.2.2.2.2.1 nq eh56 (rq48 f), by omega, by omega, fun i hi => ?_, fun i hi => al i (by omega), by rw [show (x18 - 1 + 1).toNat = x18.toNat by omega]; exact cs_, ex⟩
                    by_cases c : i = x18.toNat
                    · rw [c, eh56, hI_eq (by rw [fb48.2.2.2.2.2]; omega) (rgk rfl), kc]; simp
                    · rw [eh56, hI_ni (fun y => c y.symm), fl48, eh46, hI_ni (fun y => c y.symm)]; exact fl i hi
          · rw [i29_12] at c63
            refine ⟨(by rw [r31]; exact k12_), ?_⟩
            refine ⟨(by rw [r31, n12_]; omega), ?_⟩
            intro h61 eh61 t61 u61
            intro x62 ex62 rx62
            rw [r31] at eh61
            rw [wr_of (by omega) (by omega)] at ex62
            refine ⟨⟨by omega, by omega, FB_q fb nq eh61, fun f => FB_Q t12 k12_ nq eh61 (rq f), fun i hi => ?_⟩, by dsimp only; omega⟩
            by_cases c : i = x11.toNat
            · rw [c, eh61, hI_eq (by omega) (rgk rfl)]; decide
            · rw [eh61, hI_ni (fun y => c y.symm)]; exact al i (by omega)
      · refine ⟨fun c70 => ?_, fun c70 => ?_⟩
        · rw [i29] at c70
          exact ⟨Fr_rf _ _, fun _ _ => rfl, by omega, by omega, by omega, o31.1, by omega, p64, p81, by omega, .inl rfl⟩
        · refine ⟨o24.1, ?_⟩
          refine ⟨(by omega), ?_⟩
          refine ⟨(by omega), ?_⟩
          intro a67 h68 ea67 eh68 t68 u68 ca67 la67
          intro h69 eh69 t69 u69
          rw [i29] at c70
          obtain ⟨s68, l68, x68⟩ := alc eh68
          have r31 : hR h69 437 31 = a67 := by rw [eh69]; exact hR_eq (by rw [(lstn t68).2.2.2.2.1]; decide)
          have l69 : h69.length = h68.length := by rw [eh69, len_sV]
          have x69 : xhs h69 = xhs h68 := by rw [eh69, xhs_sV]
          have n69 : hn h69 a67 = hn h6 (hR h6 437 24) := by rw [eh69, hn_sV, la67, Int.toNat_natCast]
          refine ⟨fun b hb n => sameC_tr (s68 b hb) (by rw [eh69]; exact sameC_sV (fun y => n y.symm)), fun j n => by rw [eh69, el_ni (fun y => n y.symm)]; exact sameC_el (s68 437 (by have := HT_len t6; omega)) j, by omega, by omega, by omega, by rw [r31, eh69, hk_sV]; exact ca67, by rw [r31, n69]; exact lt24, by rw [r31, n69]; exact m64, by rw [r31, n69]; exact m8, by rw [r31, n69]; omega, .inr (by rw [r31]; exact ea67)⟩
    · have cn : canH (told N nd) (fun _ => true) 0#64 0#64 := q5.mp (by
        rcases v5 with y | y
        · exact absurd y c71
        · exact y)
      have cl : coreL (told N nd) = [] := by unfold coreL; rw [if_pos cn]
      have kk : hk h6 (hR h6 437 45) = 100 ∧ 468 ≤ hR h6 437 45 := by rw [r45_6]; exact ⟨(sameC_k s45).trans k45.1, by omega⟩
      have CR6 : CaR h6 N nd := CaR_core CR c72 St6 Dj6 so6.1 b12 k6 s6 i44_6 (by rw [cl]; exact ⟨⟨kk.1, .inr kk.2⟩, by rw [r45_6]; exact (sameC_n s45).trans k45.2, fun i hi => by cases hi⟩) kk ee6 (s39 F6) g6_.2.2.1 (by omega) g6_.2.2.2
      exact k h6 th6 ⟨fun _ => by rw [← eN]; exact CR6, F6, fun j hj => ee6 j (by omega) (by omega) (by omega) (by omega), GrP_mono g6_ (by omega) (by omega), by omega, W6⟩ CR6 i44_6
  · exact k h T (RSP_mono (RSP_rf h nd) (by omega) (by omega)) CR (Decidable.not_not.mp c72)
