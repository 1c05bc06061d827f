/-! WHETHER ANY FITS, the reference -/
theorem el_int {h : XH} (T : HT h) {j : Nat} (hf : fk 15 j = 0) : el h 437 j = .int (J (hI h 437 j)) := by
  have k := (el_obj (a := 437) (f := j) (k := 0) T.1 (lyk (c := 15) (n := 64) T rfl) (by decide) hf (by decide)).2.1
  unfold hI
  cases v : el h 437 j with
  | int x => show Value.int x = Value.int (J x.toInt); rw [J_toInt]
  | _ => exfalso; rw [v] at k; simp only [vk] at k; first | omega | (split at k <;> omega)
theorem SX_RSP {h g : XH} {nd : Nat → ND} (T : HT h) (u : HX h g) (St : StR h) (q : SX h g) : RSP h g nd 0 0 := by
  have L := HT_len T
  obtain ⟨F, e, l, x⟩ := q
  obtain ⟨c1, c2⟩ := cp_s St u (fun j hj => e j (by omega))
  exact ⟨fun z => CaR_fr (fun b y hb => F b hb (by omega)) (fun j hj => e j (by omega)) L z, Fr_mono F (fun b y => .inl y), fun j hj => e j (by omega), ⟨by omega, by omega, by omega, by omega⟩, by omega, fun j hj => .inl (congrArg gvR (e j (by unfold owP at hj; omega)))⟩
theorem SrQ_of {h g : XH} {N : Nat → Int} {f : Nat → Int} {cs : List Cl} (T : HT h) (eN : N = nw h) (St : StR h) (tk : TellOKR h cs) (l : cs.length ≤ 8192) (eg : g = sI h 437 33 (-1)) : SrQ g N f cs (-1) := by
  obtain ⟨o24, o25, -, -, -, ⟨n25, -⟩, -⟩ := St
  obtain ⟨t1, t2, t3⟩ := tk
  have F : ∀ b, ¬ b = 437 → sameC h g b := fun b n => by rw [eg]; exact sameC_sV (fun y => n y.symm)
  have n1 : ¬ hR h 437 24 = 437 := by rcases o24.2 with y | y <;> omega
  have n2 : ¬ hR h 437 25 = 437 := by rcases o25.2 with y | y <;> omega
  have r : ∀ j, ¬ j = 33 → hR g 437 j = hR h 437 j := fun j n => by rw [eg]; exact hR_ni (fun y => n y.symm)
  unfold SrQ
  rw [r 24 (by decide), r 25 (by decide), show hI g 437 29 = hI h 437 29 by rw [eg]; exact hI_ni (by decide), sameC_k (F _ n1), sameC_k (F _ n2), sameC_n (F _ n1), sameC_n (F _ n2)]
  refine ⟨eN.trans (nw_fr (F 438 (by decide))).symm, ⟨o24.1, o25.1, n1, n2⟩, t1, l, t2, by omega, fun i hi => ?_, ?_, .inl rfl⟩
  · rw [sameC_L (F _ n1), sameC_L (F _ n2)]
    obtain ⟨-, -, -, a, b⟩ := t3 i hi
    exact ⟨a, b⟩
  · rw [eg]; exact hI_eq (by rw [(lstn T).2.2.2.2.1]; decide) (rgk rfl)
theorem canH_Sat {N : Nat → Int} {f : Nat → Int} {cs : List Cl} {keep : Nat → Bool} {y n : BitVec 64} : SatB N f cs keep (-1) y n ↔ canH cs keep y n := by
  unfold SatB canH
  refine exists_congr fun A => ?_
  have e1 : exA A y n ↔ y &&& ~~~A = 0#64 ∧ n &&& A = 0#64 := by
    rw [z64, z64]
    constructor
    · intro x
      refine ⟨fun j hj => ?_, fun j hj => ?_⟩
      · rw [BitVec.getLsbD_and, BitVec.getLsbD_not, decide_eq_true hj, Bool.true_and]
        cases c : y.getLsbD j with
        | false => rfl
        | true => rw [(x j hj).1 c]; rfl
      · rw [BitVec.getLsbD_and]
        cases c : n.getLsbD j with
        | false => rfl
        | true => rw [(x j hj).2 c]; rfl
    · rintro ⟨a, b⟩ j hj
      have a := a j hj
      have b := b j hj
      rw [BitVec.getLsbD_and, BitVec.getLsbD_not, decide_eq_true hj, Bool.true_and] at a
      rw [BitVec.getLsbD_and] at b
      refine ⟨fun c => ?_, fun c => ?_⟩
      · rw [c, Bool.true_and] at a
        cases d : A.getLsbD j with
        | true => rfl
        | false => rw [d] at a; cases a
      · rw [c, Bool.true_and] at b; exact b
  have e2 : ∀ i (hi : i < cs.length), cs.getD i c0 = cs[i] := fun i hi => by
    rw [List.getD_eq_getElem?_getD, List.getElem?_eq_getElem hi]; rfl
  rw [e1]
  unfold SatA
  constructor
  · rintro ⟨a, b, -⟩
    exact ⟨a.1, a.2, fun i hi ki => by rw [← e2 i hi]; exact b i hi ki⟩
  · rintro ⟨a, b, c⟩
    exact ⟨⟨a, b⟩, fun i hi ki => by rw [e2 i hi]; exact c i hi ki, .inl rfl⟩
theorem dj_0 (b : BitVec 64) : dj b 0#64 ∧ dj 0#64 b := ⟨fun j _ z => by rw [BitVec.getLsbD_zero] at z; exact absurd z.2 (by decide), fun j _ z => by rw [BitVec.getLsbD_zero] at z; exact absurd z.1 (by decide)⟩
set_option maxHeartbeats 1000000 in
theorem c_X14_canHold {p0 p1 : BitVec 64} {h : XH} {N : Nat → Int} {m : Nat} (T : HT h) (W : WF N m) {f : Nat → Int} {cs : List Cl} {mo : Int} (S : mo = -1 ∨ fOK N f) (R : SrQ h N f cs mo) (D : dj p0 p1) {K : Int → XH → Prop} (k : ∀ x g, HT g → SX h g → SrQ g N f cs mo → (x = 0 ∨ x = 1) → (x = 1 ↔ SatB N f cs (fun _ => true) mo p0 p1) → K x g) : w_X14_canHold p0 p1 K h := by
  unfold w_X14_canHold
  intro h1 eh1 t1 u1
  have R1 := SrP_32 T eh1 R
  refine c_X14_search t1 W S R1 D ?_
  intro x2 h3 th3 q3 v3 e3
  intro t3 u3
  intro rx2 vx2
  exact k x2 h3 th3 (SX_tr (SX_st eh1 (by decide)) q3.1) (SrP_SM t1 q3 R1).1 v3 e3
set_option maxHeartbeats 1000000 in
theorem c_fits0 {h : XH} {N : Nat → Int} {m : Nat} (T : HT h) (eN : N = nw h) (W : WF N m) {nd : Nat → ND} (P8 : P8N N) (St : StR h) (Dj : DJo h) (Bq : B45 h) (So : hI h 437 12 = hI h 437 4 → SortOK h N) (To : hI h 437 30 = hI h 437 4 → TellOKR h (told N nd)) (Z : NTm h nd m) (fi : fOK N (inst N (rh N))) (TL : (told N nd).length ≤ 3712) {K : Int → XH → Prop} (k : ∀ x g, HT g → RSP h g nd 25 (n12 + 12 * nA8) → (∀ j, ¬ j = 12 → ¬ (24 ≤ j ∧ j ≤ 30) → ¬ (32 ≤ j ∧ j ≤ 36) → el g 437 j = el h 437 j) → StR g ∧ DJo g → (hI g 437 12 = hI g 437 4 → SortOK g N) ∧ (hI g 437 12 = hI h 437 12 ∨ hI g 437 12 = hI g 437 4) → TellOKR g (told N nd) → hI g 437 30 = hI g 437 4 → (∀ f, SrQ g N f (told N nd) (-1)) → (x = 0 ∨ x = 1) → (x = 1 ↔ canH (told N nd) (fun _ => true) 0#64 0#64) → K x g) : w_X14_fitsAny K h := by
  unfold w_X14_fitsAny
  refine c_X14_tellClauses T eN W P8 St Dj Bq So To Z fi TL ?_
  intro h1 th1 r1 e1 sd1 so1 k1 s1
  intro t1 u1
  intro h2 eh2 t2 u2
  obtain ⟨St1, Dj1⟩ := sd1
  have q2 : SX h1 h2 := SX_st eh2 (by decide)
  have R2 : ∀ f, SrQ h2 N f (told N nd) (-1) := fun f => SrQ_of th1 (eN.trans (RSP_nw T r1).symm) St1 k1 (by omega) eh2
  refine c_X14_canHold t2 W (.inl rfl) (R2 (fun _ => -1)) (dj_0 _).1 ?_
  intro x3 h4 th4 q4 R4 v4 e4
  intro t4 u4
  intro rx3 vx3
  have q := SX_tr q2 q4
  have L1_ := HT_len th1
  have r := RSP_tr T r1 (SX_RSP (nd := nd) th1 (HX_trans u2 u4) St1 q)
  have S : ∀ b, ¬ b = 437 → b < h1.length → sameC h1 h4 b := fun b n l => q.1 b l n
  have e : ∀ j, j < 32 ∨ 36 < j → el h4 437 j = el h1 437 j := q.2.1
  have i12 : hI h4 437 12 = hI h1 437 12 := congrArg gvI (e 12 (by decide))
  have i4 : hI h4 437 4 = hI h1 437 4 := congrArg gvI (e 4 (by decide))
  refine k x3 h4 th4 (RSP_mono r (by omega) (by omega)) (fun j a b c => (e j (by omega)).trans (e1 j a b)) ⟨StR_fr (fun b x y => S b (by omega) y) (fun j hj => e j (by omega)) St1, DJo_fr (fun b x y => S b (by omega) y) L1_ (fun j hj => e j (by unfold owP at hj; omega)) Dj1⟩ ⟨fun y => SortOK_fr (fun b x y => S b (by omega) y) (S 442 (by decide) (by omega)) (so1.1 (by rw [← i12, ← i4]; exact y)), by rw [i12, i4]; exact so1.2⟩ (TellOKR_fr St1 (fun b x y => S b (by omega) y) (fun j hj => e j (by omega)) k1) ?_ (fun f => ⟨R4.1, R4.2.1, R4.2.2.1, R4.2.2.2.1, R4.2.2.2.2.1, R4.2.2.2.2.2.1, R4.2.2.2.2.2.2.1, R4.2.2.2.2.2.2.2.1, .inl rfl⟩) v4 (e4.trans canH_Sat)
  rw [show hI h4 437 30 = hI h1 437 30 from congrArg gvI (e 30 (by decide)), i4]
  exact s1
theorem c_X14_fitsAny {h : XH} {N : Nat → Int} {m : Nat} (T : HT h) (eN : N = nw h) (W : WF N m) {nd : Nat → ND} (P8 : P8N N) (CR : CaR h N nd) (Z : NTm h nd m) (fi : fOK N (inst N (rh N))) (TL : (told N nd).length ≤ 3712) {K : Int → XH → Prop} (k : ∀ x g, HT g → RSP h g nd 25 (n12 + 12 * nA8) → CaR g N nd → hI g 437 30 = hI g 437 4 → (∀ f, SrQ g N f (told N nd) (-1)) → (x = 0 ∨ x = 1) → (x = 1 ↔ canH (told N nd) (fun _ => true) 0#64 0#64) → K x g) : w_X14_fitsAny K h :=
  c_fits0 T eN W P8 CR.2.1.1 CR.2.1.2 (B45_of T CR) CR.2.2.1 CR.2.2.2.1 Z fi TL (fun x g tg r _ _ _ _ s R v e => k x g tg r (by have := r.1; rw [← eN] at this; exact this CR) s R v e)
noncomputable def mustV (cs : List Cl) (b : BitVec 64) : Int := @ite _ (canH cs (fun _ => true) 0#64 0#64) (Classical.propDecidable _) (@ite _ (canH cs (fun _ => true) b 0#64) (Classical.propDecidable _) (@ite _ (canH cs (fun _ => true) 0#64 b) (Classical.propDecidable _) 0 1) (-1)) (-2)
theorem RSP_SX {h g k : XH} {nd : Nat → ND} {n s : Nat} {N : Nat → Int} (T : HT h) (Tg : HT g) (eN : N = nw h) (r : RSP h g nd n s) (CRg : CaR g N nd) (u : HX g k) (q : SX g k) : RSP h k nd n s ∧ CaR k N nd := by
  have r4 := SX_RSP (nd := nd) Tg u CRg.2.1.1 q
  have en : nw g = N := (RSP_nw T r).trans eN.symm
  exact ⟨RSP_mono (RSP_tr T r r4) (by omega) (by omega), by have := r4.1; rw [en] at this; exact this CRg⟩
set_option maxHeartbeats 1000000 in
theorem c_X14_must {p0 p1 : Int} {h : XH} {N : Nat → Int} {m : Nat} (T : HT h) (eN : N = nw h) (W : WF N m) {nd : Nat → ND} (P8 : P8N N) (CR : CaR h N nd) (Z : NTm h nd m) (fi : fOK N (inst N (rh N))) (TL : (told N nd).length ≤ 3712) {K : Int → XH → Prop} (k0 : ¬ ((0 ≤ p0 ∧ p0 < N 0) ∧ ¬ slotF N p0 p1 = -1) → ∀ h1 h2, HT h1 → h1 = sI h 437 5 0 → h2 = sI h1 437 5 1 → K 0 h2) (k : (0 ≤ p0 ∧ p0 < N 0) ∧ ¬ slotF N p0 p1 = -1 → ∀ h1 h2, HT h1 → h1 = sI h 437 5 0 → RSP h1 h2 nd 25 (n12 + 12 * nA8) → K (mustV (told N nd) (bit1 (slotF N p0 p1).toNat)) h2) : w_X14_must p0 p1 K h := by
  unfold w_X14_must
  intro h1 eh1 t1 u1
  have eN1 : N = nw h1 := eN.trans (nw_fr (by rw [eh1]; exact sameC_sV (by decide))).symm
  have CR1 : CaR h1 N nd := by rw [eh1]; exact CaR_fr (fun b x _ => sameC_sV (by omega)) (fun j hj => el_ni (by omega)) (HT_len T) CR
  have i0 : hI h1 438 0 = N 0 := by rw [eN1]; rfl
  have w0 := W.1.1
  have w40 := W.1.2.2.2.1
  refine c_X14_isPack ?_ (by rw [i0]; exact w0)
  intro x2 qx2
  rw [i0] at qx2
  intro rx2 vx2
  refine ⟨fun x => bq x ((0 ≤ p0 ∧ p0 < N 0) ∧ ¬ slotF N p0 p1 = -1), ?_, ?_⟩
  · intro x3 rx3 z4
    refine c_X14_refused z4 ?_
    intro x5 h6 qx5
    intro t6 u6
    intro rx5 vx5
    refine ⟨fun c20 => ?_, fun c20 => ?_⟩
    · obtain ⟨b_, e_⟩ : ((0 ≤ p0 ∧ p0 < N 0) ∧ ¬ slotF N p0 p1 = -1) ∧ h6 = h1 := by
        rcases qx5 with ⟨_, y, z⟩ | ⟨y, _⟩
        · exact ⟨y, z⟩
        · omega
      subst e_
      have sr := slotF_r (N := N) (p := p0) (c := p1) W.1.2.2.1
      refine c_X14_fitsAny t6 eN1 W P8 CR1 (NTm_5 T eh1 Z) fi TL ?_
      intro x7 h8 th8 r8 cr8 s8 R8 v8 e8
      intro t8 u8
      intro rx7 vx7
      have eN8 : N = nw h8 := eN1.trans (RSP_nw t6 r8).symm
      obtain ⟨St8, -⟩ := cr8.2.1
      refine ⟨fun c19 => ?_, fun c19 => ?_⟩
      · have y8 : canH (told N nd) (fun _ => true) 0#64 0#64 := e8.mp (by rcases v8 with y | y; exact absurd y c19; exact y)
        refine c_X14_slotF eN8 W.1 ?_
        intro _
        unfold w_X14_bit
        rw [show slotF N p0 p1 = (((slotF N p0 p1).toNat : Nat) : Int) by omega, lshl1 (by omega)]
        try rw [Int.toNat_natCast]
        refine c_X14_canHold t8 W (.inl rfl) (R8 (fun _ => -1)) (dj_0 _).1 ?_
        intro x11 h12 th12 q12 R12 v12 e12
        have e12 := e12.trans canH_Sat
        intro t12 u12
        intro rx11 vx11
        refine c_X14_canHold t12 W (.inl rfl) R12 (dj_0 _).2 ?_
        intro x13 h14 th14 q14 R14 v14 e14
        have e14 := e14.trans canH_Sat
        intro t14 u14
        intro rx13 vx13
        refine ⟨fun x => x = mustV (told N nd) (bit1 (slotF N p0 p1).toNat), ?_, ?_⟩
        · intro x15 rx15 z16
          rw [z16]
          exact k b_ _ _ t6 eh1 (RSP_SX t6 th8 eN1 r8 cr8 (HX_trans u12 u14) (SX_tr q12 q14)).1
        · refine ⟨fun c18 => ?_, fun c18 => ?_⟩
          · refine ⟨fun c17 => ?_, fun c17 => ?_⟩
            · unfold mustV
              rw [if_pos y8, if_pos (e12.mp (by rcases v12 with y | y; exact absurd y c18; exact y)), if_neg (fun y => by have := e14.mpr y; omega)]
            · unfold mustV
              rw [if_pos y8, if_pos (e12.mp (by rcases v12 with y | y; exact absurd y c18; exact y)), if_pos (e14.mp (by rcases v14 with y | y; exact absurd y c17; exact y))]
          · unfold mustV
            rw [if_pos y8, if_neg (fun y => by have := e12.mpr y; omega)]
      · have e := k b_ _ _ t6 eh1 r8
        unfold mustV at e
        rw [if_neg (fun y => c19 (by rw [e8.mpr y]; decide))] at e
        exact e
    · have q_ : ¬ ((0 ≤ p0 ∧ p0 < N 0) ∧ ¬ slotF N p0 p1 = -1) ∧ h6 = sI h1 437 5 1 := by
        rcases qx5 with ⟨y, _⟩ | ⟨_, y, z⟩
        · omega
        · exact ⟨y, z⟩
      exact k0 q_.1 _ _ t1 eh1 q_.2
  · refine ⟨¬ ((0 ≤ p0 ∧ p0 < N 0) ∧ ¬ slotF N p0 p1 = -1), ?_, ?_⟩
    · intro z21
      exact bqF z21
    · refine ⟨fun c24 => ?_, fun c24 => ?_⟩
      · exact fun z => (bq1 qx2).2.1.mp c24 z.1
      · refine c_X14_slotF eN1 W.1 ?_
        intro _
        refine ⟨fun c23 => ?_, fun c23 => ?_⟩
        · exact fun z => z.2 c23
        · exact bqT ⟨(bq1 qx2).2.2.1.mp c24, c23⟩
