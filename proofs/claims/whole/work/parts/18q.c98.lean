/-! WHETHER ANY FITS, the reference -/
theorem el_int {h : XH} (T : HT h) {j : Nat} (hf : fk 15 j = 0) : el h 437 j = .int (J (hI h 437 j)) := by
  have k := (el_obj (a := 437) (f := j) (k := 0) T.1 (lyk (c := 15) (n := 64) T rfl) (by decide) hf (by decide)).2.1
  unfold hI
  cases v : el h 437 j with
  | int x => show Value.int x = Value.int (J x.toInt); rw [J_toInt]
  | _ => exfalso; rw [v] at k; simp only [vk] at k; first | omega | (split at k <;> omega)
theorem SM_set {h g : XH} {j : Nat} {x : Int} (T : HT h) (hf : fk 15 j = 0) (e : hI h 437 j = x) (eg : g = sI h 437 j x) : SM h g := by
  have hj := (el_obj (a := 437) (f := j) (k := 0) T.1 (lyk (c := 15) (n := 64) T rfl) (by decide) hf (by decide)).1
  refine ⟨by rw [eg]; exact Fr_sV rfl, fun i _ _ => ?_, by rw [eg, len_sV], by rw [eg, xhs_sV]⟩
  by_cases c : j = i
  · subst c
    rw [eg, el_eq hj, el_int T hf, e]
  · rw [eg]; exact el_ni c
theorem SM_RSP {h g : XH} {nd : Nat → ND} (T : HT h) (u : HX h g) (St : StR h) (q : SM h g) : RSP h g nd 0 0 := by
  have L := HT_len T
  obtain ⟨F, e, l, x⟩ := q
  obtain ⟨c1, c2⟩ := cp_s St u (fun j hj => e j (by omega) (by omega))
  exact ⟨fun z => CaR_fr (fun b y hb => F b hb (by omega)) (fun j hj => e j (by omega) (by omega)) L z, Fr_mono F (fun b y => .inl y), fun j hj => e j (by omega) (by omega), ⟨by omega, by omega, by omega, by omega⟩, by omega, fun j hj => .inl (congrArg gvR (e j (by unfold owP at hj; omega) (by unfold owP at hj; omega)))⟩
theorem SrP_of {h : XH} {N : Nat → Int} {nd : Nat → ND} {f : Nat → Int} {cs : List Cl} (eN : N = nw h) (St : StR h) (tk : TellOKR h cs) (l : cs.length ≤ 8192) : SrP h N f cs (fun _ => true) (-1) := by
  obtain ⟨s32, s33, o24, o25, -, -, -, ⟨n25, -⟩, -⟩ := St
  obtain ⟨t1, t2, t3⟩ := tk
  refine ⟨eN, ⟨o24.1, o25.1, by rcases o24.2 with y | y <;> omega, by rcases o25.2 with y | y <;> omega⟩, t1, l, t2, by omega, fun i hi => ?_, .inl ⟨by omega, fun _ => rfl⟩, s33, .inl rfl⟩
  obtain ⟨-, -, -, a, b⟩ := t3 i hi
  exact ⟨a, b⟩
theorem canH_Sat {N : Nat → Int} {f : Nat → Int} {cs : List Cl} {keep : Nat → Bool} {y n : BitVec 64} : SatB N f cs keep (-1) y n ↔ canH cs keep y n := by
  unfold SatB canH
  refine exists_congr fun A => ?_
  have e1 : exA A y n ↔ y &&& ~~~A = 0#64 ∧ n &&& A = 0#64 := by
    rw [z64, z64]
    constructor
    · intro x
      refine ⟨fun j hj => ?_, fun j hj => ?_⟩
      · rw [BitVec.getLsbD_and, BitVec.getLsbD_not, decide_eq_true hj, Bool.true_and]
        cases c : y.getLsbD j with
        | false => rfl
        | true => rw [(x j hj).1 c]; rfl
      · rw [BitVec.getLsbD_and]
        cases c : n.getLsbD j with
        | false => rfl
        | true => rw [(x j hj).2 c]; rfl
    · rintro ⟨a, b⟩ j hj
      have a := a j hj
      have b := b j hj
      rw [BitVec.getLsbD_and, BitVec.getLsbD_not, decide_eq_true hj, Bool.true_and] at a
      rw [BitVec.getLsbD_and] at b
      refine ⟨fun c => ?_, fun c => ?_⟩
      · rw [c, Bool.true_and] at a
        cases d : A.getLsbD j with
        | true => rfl
        | false => rw [d] at a; cases a
      · rw [c, Bool.true_and] at b; exact b
  have e2 : ∀ i (hi : i < cs.length), cs.getD i c0 = cs[i] := fun i hi => by
    rw [List.getD_eq_getElem?_getD, List.getElem?_eq_getElem hi]; rfl
  rw [e1]
  unfold SatA
  constructor
  · rintro ⟨a, b, -⟩
    exact ⟨a.1, a.2, fun i hi ki => by rw [← e2 i hi]; exact b i hi ki⟩
  · rintro ⟨a, b, c⟩
    exact ⟨⟨a, b⟩, fun i hi ki => by rw [e2 i hi]; exact c i hi ki, .inl rfl⟩
theorem dj_0 (b : BitVec 64) : dj b 0#64 ∧ dj 0#64 b := ⟨fun j _ z => by rw [BitVec.getLsbD_zero] at z; exact absurd z.2 (by decide), fun j _ z => by rw [BitVec.getLsbD_zero] at z; exact absurd z.1 (by decide)⟩
set_option maxHeartbeats 1000000 in
theorem c_X14_canHold {p0 p1 : BitVec 64} {h : XH} {N : Nat → Int} {m : Nat} (T : HT h) (W : WF N m) {f : Nat → Int} {cs : List Cl} {mo : Int} (S : mo = -1 ∨ fOK N f) (R : SrP h N f cs (fun _ => true) mo) (i32 : hI h 437 32 = 1) (D : dj p0 p1) {K : Int → XH → Prop} (k : ∀ x g, HT g → SM h g → (x = 0 ∨ x = 1) → (x = 1 ↔ SatB N f cs (fun _ => true) mo p0 p1) → K x g) : w_X14_canHold p0 p1 K h := by
  unfold w_X14_canHold
  intro h1 eh1 t1 u1
  have q1 : SM h h1 := SM_set T rfl i32 eh1
  refine c_X14_search t1 W S (SrP_SM T q1 R) D ?_
  intro x2 h3 th3 q3 v3 e3
  intro t3 u3
  intro rx2 vx2
  exact k x2 h3 th3 (SM_tr q1 q3) v3 e3
set_option maxHeartbeats 1000000 in
theorem c_X14_fitsAny {h : XH} {N : Nat → Int} {m : Nat} (T : HT h) (eN : N = nw h) (W : WF N m) {nd : Nat → ND} (P8 : P8N N) (CR : CaR h N nd) (Z : NTm h nd m) (fi : fOK N (inst N (rh N))) (TL : (told N nd).length ≤ 3712) {K : Int → XH → Prop} (k : ∀ x g, HT g → RSP h g nd 25 (n12 + 12 * nA8) → CaR g N nd → hI g 437 30 = hI g 437 4 → (x = 0 ∨ x = 1) → (x = 1 ↔ canH (told N nd) (fun _ => true) 0#64 0#64) → K x g) : w_X14_fitsAny K h := by
  unfold w_X14_fitsAny
  refine c_X14_tellClauses T eN W P8 CR Z fi TL ?_
  intro h1 th1 r1 k1 s1
  intro t1 u1
  intro h2 eh2 t2 u2
  have CR1 : CaR h1 N nd := by rw [eN] at CR ⊢; exact r1.1 CR
  have St1 := CR1.2.1.1
  have q2 : SM h1 h2 := SM_set th1 rfl St1.2.1 eh2
  have R2 : SrP h2 N (fun _ => -1) (told N nd) (fun _ => true) (-1) := SrP_SM th1 q2 (SrP_of (nd := nd) (eN.trans (RSP_nw T r1).symm) St1 k1 (by omega))
  refine c_X14_canHold t2 W (.inl rfl) R2 ((congrArg gvI (q2.2.1 32 (by decide) (by decide))).trans St1.1) (dj_0 _).1 ?_
  intro x3 h4 th4 q4 v4 e4
  intro t4 u4
  intro rx3 vx3
  have q := SM_tr q2 q4
  have r4 := SM_RSP (nd := nd) th1 (HX_trans u2 u4) St1 q
  have r := RSP_tr T r1 r4
  have en : nw h1 = N := (RSP_nw T r1).trans eN.symm
  refine k x3 h4 th4 (RSP_mono r (by omega) (by omega)) (by have := r4.1; rw [en] at this; exact this CR1) ?_ v4 (e4.trans canH_Sat)
  rw [show hI h4 437 30 = hI h1 437 30 from congrArg gvI (q.2.1 30 (by decide) (by decide)), show hI h4 437 4 = hI h1 437 4 from congrArg gvI (q.2.1 4 (by decide) (by decide))]
  exact s1
noncomputable def mustV (cs : List Cl) (b : BitVec 64) : Int := @ite _ (canH cs (fun _ => true) 0#64 0#64) (Classical.propDecidable _) (@ite _ (canH cs (fun _ => true) b 0#64) (Classical.propDecidable _) (@ite _ (canH cs (fun _ => true) 0#64 b) (Classical.propDecidable _) 0 1) (-1)) (-2)
theorem RSP_SM {h g k : XH} {nd : Nat → ND} {n s : Nat} {N : Nat → Int} (T : HT h) (Tg : HT g) (eN : N = nw h) (r : RSP h g nd n s) (CRg : CaR g N nd) (u : HX g k) (q : SM g k) : RSP h k nd n s ∧ CaR k N nd := by
  have r4 := SM_RSP (nd := nd) Tg u CRg.2.1.1 q
  have en : nw g = N := (RSP_nw T r).trans eN.symm
  exact ⟨RSP_mono (RSP_tr T r r4) (by omega) (by omega), by have := r4.1; rw [en] at this; exact this CRg⟩
set_option maxHeartbeats 1000000 in
theorem c_X14_must {p0 p1 : Int} {h : XH} {N : Nat → Int} {m : Nat} (T : HT h) (eN : N = nw h) (W : WF N m) {nd : Nat → ND} (P8 : P8N N) (CR : CaR h N nd) (Z : NTm h nd m) (fi : fOK N (inst N (rh N))) (TL : (told N nd).length ≤ 3712) {K : Int → XH → Prop} (k0 : ¬ ((0 ≤ p0 ∧ p0 < N 0) ∧ ¬ slotF N p0 p1 = -1) → ∀ h1 h2, HT h1 → h1 = sI h 437 5 0 → h2 = sI h1 437 5 1 → K 0 h2) (k : (0 ≤ p0 ∧ p0 < N 0) ∧ ¬ slotF N p0 p1 = -1 → ∀ h1 h2, HT h1 → h1 = sI h 437 5 0 → RSP h1 h2 nd 25 (n12 + 12 * nA8) → K (mustV (told N nd) (bit1 (slotF N p0 p1).toNat)) h2) : w_X14_must p0 p1 K h := by
  unfold w_X14_must
  intro h1 eh1 t1 u1
  have eN1 : N = nw h1 := eN.trans (nw_fr (by rw [eh1]; exact sameC_sV (by decide))).symm
  have CR1 : CaR h1 N nd := by rw [eh1]; exact CaR_fr (fun b x _ => sameC_sV (by omega)) (fun j hj => el_ni (by omega)) (HT_len T) CR
  have i0 : hI h1 438 0 = N 0 := by rw [eN1]; rfl
  have w0 := W.1.1
  have w40 := W.1.2.2.2.1
  refine c_X14_isPack ?_ (by rw [i0]; exact w0)
  intro x2 qx2
  rw [i0] at qx2
  intro rx2 vx2
  refine ⟨fun x => bq x ((0 ≤ p0 ∧ p0 < N 0) ∧ ¬ slotF N p0 p1 = -1), ?_, ?_⟩
  · intro x3 rx3 z4
    refine c_X14_refused z4 ?_
    intro x5 h6 qx5
    intro t6 u6
    intro rx5 vx5
    refine ⟨fun c20 => ?_, fun c20 => ?_⟩
    · obtain ⟨b_, e_⟩ : ((0 ≤ p0 ∧ p0 < N 0) ∧ ¬ slotF N p0 p1 = -1) ∧ h6 = h1 := by
        rcases qx5 with ⟨_, y, z⟩ | ⟨y, _⟩
        · exact ⟨y, z⟩
        · omega
      subst e_
      have sr := slotF_r (N := N) (p := p0) (c := p1) W.1.2.2.1
      refine c_X14_fitsAny t6 eN1 W P8 CR1 (NTm_5 T eh1 Z) fi TL ?_
      intro x7 h8 th8 r8 cr8 s8 v8 e8
      intro t8 u8
      intro rx7 vx7
      have eN8 : N = nw h8 := eN1.trans (RSP_nw t6 r8).symm
      obtain ⟨St8, -⟩ := cr8.2.1
      refine ⟨fun c19 => ?_, fun c19 => ?_⟩
      · have y8 : canH (told N nd) (fun _ => true) 0#64 0#64 := e8.mp (by rcases v8 with y | y; exact absurd y c19; exact y)
        have tk8 := cr8.2.2.2.1 s8
        have R8_ : SrP h8 N (fun _ => -1) (told N nd) (fun _ => true) (-1) := SrP_of (nd := nd) eN8 St8 tk8 (by omega)
        refine c_X14_slotF eN8 W.1 ?_
        intro _
        unfold w_X14_bit
        rw [show slotF N p0 p1 = (((slotF N p0 p1).toNat : Nat) : Int) by omega, lshl1 (by omega)]
        try rw [Int.toNat_natCast]
        refine c_X14_canHold t8 W (.inl rfl) R8_ St8.1 (dj_0 _).1 ?_
        intro x11 h12 th12 q12 v12 e12
        have e12 := e12.trans canH_Sat
        intro t12 u12
        intro rx11 vx11
        have R12 := SrP_SM th8 q12 R8_
        refine c_X14_canHold t12 W (.inl rfl) R12 ((congrArg gvI (q12.2.1 32 (by decide) (by decide))).trans St8.1) (dj_0 _).2 ?_
        intro x13 h14 th14 q14 v14 e14
        have e14 := e14.trans canH_Sat
        intro t14 u14
        intro rx13 vx13
        refine ⟨fun x => x = mustV (told N nd) (bit1 (slotF N p0 p1).toNat), ?_, ?_⟩
        · intro x15 rx15 z16
          rw [z16]
          exact k b_ _ _ t6 eh1 (RSP_SM t6 th8 eN1 r8 cr8 (HX_trans u12 u14) (SM_tr q12 q14)).1
        · refine ⟨fun c18 => ?_, fun c18 => ?_⟩
          · refine ⟨fun c17 => ?_, fun c17 => ?_⟩
            · unfold mustV
              rw [if_pos y8, if_pos (e12.mp (by rcases v12 with y | y; exact absurd y c18; exact y)), if_neg (fun y => by have := e14.mpr y; omega)]
            · unfold mustV
              rw [if_pos y8, if_pos (e12.mp (by rcases v12 with y | y; exact absurd y c18; exact y)), if_pos (e14.mp (by rcases v14 with y | y; exact absurd y c17; exact y))]
          · unfold mustV
            rw [if_pos y8, if_neg (fun y => by have := e12.mpr y; omega)]
      · have e := k b_ _ _ t6 eh1 r8
        unfold mustV at e
        rw [if_neg (fun y => c19 (by rw [e8.mpr y]; decide))] at e
        exact e
    · have q_ : ¬ ((0 ≤ p0 ∧ p0 < N 0) ∧ ¬ slotF N p0 p1 = -1) ∧ h6 = sI h1 437 5 1 := by
        rcases qx5 with ⟨y, _⟩ | ⟨_, y, z⟩
        · omega
        · exact ⟨y, z⟩
      exact k0 q_.1 _ _ t1 eh1 q_.2
  · refine ⟨¬ ((0 ≤ p0 ∧ p0 < N 0) ∧ ¬ slotF N p0 p1 = -1), ?_, ?_⟩
    · intro z21
      exact bqF z21
    · refine ⟨fun c24 => ?_, fun c24 => ?_⟩
      · exact fun z => (bq1 qx2).2.1.mp c24 z.1
      · refine c_X14_slotF eN1 W.1 ?_
        intro _
        refine ⟨fun c23 => ?_, fun c23 => ?_⟩
        · exact fun z => z.2 c23
        · exact bqT ⟨(bq1 qx2).2.2.1.mp c24, c23⟩
