/-! INSTALL: what comes of it -/
theorem ent_why {N : Nat → Int} {r : Nat} {a b c : Int} (hr : r < 3) : entN (whyN N r a b c) r = whyN (entN N r) r a b c := by
  have e47 : nR (whyN N r a b c) r 47 = nR N r 47 := why_at _ (by omega)
  have gg : ∀ p, p < 12 → goal (whyN N r a b c) r p = goal N r p := fun p hp => why_at _ (by omega)
  funext i
  have md := Nat.mod_lt (nR N r 47).toNat (show 20 > 0 by decide)
  by_cases h : 805 + 291 * r + 288 ≤ i ∧ i ≤ 805 + 291 * r + 290
  · rw [ent_at i (by omega) (by omega)]
    have : i = 805 + 291 * r + 288 ∨ i = 805 + 291 * r + 289 ∨ i = 805 + 291 * r + 290 := by omega
    rcases this with e | e | e
    · rw [e]; exact (why_3 (N := N)).1.trans (why_3 (N := entN N r)).1.symm
    · rw [e]; exact (why_3 (N := N)).2.1.trans (why_3 (N := entN N r)).2.1.symm
    · rw [e]; exact (why_3 (N := N)).2.2.trans (why_3 (N := entN N r)).2.2.symm
  · rw [why_at i h]
    unfold entN
    rw [e47]
    by_cases h1 : i = 805 + 291 * r + 47
    · rw [h1, updN_eq, updN_eq]
    · rw [updN_ne h1, updN_ne h1]
      unfold putF
      by_cases h2 : 805 + 291 * r + 48 + 12 * ((nR N r 47).toNat % 20) ≤ i ∧ i < 805 + 291 * r + 48 + 12 * ((nR N r 47).toNat % 20) + 12
      · rw [if_pos h2, if_pos h2, gg _ (by omega)]
      · rw [if_neg h2, if_neg h2]
        by_cases h3 : 805 + 291 * r + 23 ≤ i ∧ i < 805 + 291 * r + 23 + 12
        · rw [if_pos h3, if_pos h3, gg _ (by omega)]
        · rw [if_neg h3, if_neg h3, why_at i h]
noncomputable def goI (N : Nat → Int) (nd : Nat → ND) (L : List Nat) : Int × Int × Int := goS N (goal N (rh N)) (comC (goal N (rh N)) (inst N (rh N))) L (nR N (rh N) 22) (stepsOf N nd (inst N (rh N)) (goal N (rh N))) 0 (inst N (rh N))
def feI (N : Nat → Int) (L : List Nat) : (Nat → Int) × Int := fetA (goal N (rh N)) N (L.filter (comC (goal N (rh N)) (inst N (rh N))))
/-- the answer, and the row then -/
noncomputable def insP (N : Nat → Int) (nd : Nat → ND) (b : Bool) (L : List Nat) : Int × (Nat → Int) :=
  if b = true then (-1, whyN N (rh N) 0 (L.getD 0 0 : Nat) (-1))
  else if ¬ (feI N L).2 = -1 then (-1, whyN (feI N L).1 (rh N) 1 (feI N L).2 (-1))
  else if ¬ (goI N nd L).1 = -1 then (-1, whyN (feI N L).1 (rh N) (goI N nd L).1 (goI N nd L).2.1 (goI N nd L).2.2)
  else ((stepsOf N nd (inst N (rh N)) (goal N (rh N))).length, whyN (entN (feI N L).1 (rh N)) (rh N) (-1) (-1) (-1))
theorem feI_W {N : Nat → Int} {m : Nat} {L : List Nat} (W : WF N m) (l2 : N 2 + 12 ≤ 12000) (lk : ∀ k : Nat, k < 3 → N (1714 + 81 * k) + 36 ≤ 100000) (l12 : L.length ≤ 12) : WF (feI N L).1 m ∧ (feI N L).1 2 ≤ N 2 + 12 ∧ N 2 ≤ (feI N L).1 2 ∧ (∀ j, j < 3 → N (1714 + 81 * j) ≤ (feI N L).1 (1714 + 81 * j) ∧ (feI N L).1 (1714 + 81 * j) ≤ N (1714 + 81 * j) + 36) ∧ ∀ i, ¬ i = 2 → (∀ j, j < 3 → ¬ i = 1714 + 81 * j) → (feI N L).1 i = N i := by
  unfold feI fetA
  by_cases c : N 3 ≤ 0
  · rw [if_pos c]
    exact ⟨W, by show N 2 ≤ _; omega, Int.le_refl _, fun j _ => ⟨Int.le_refl _, by show N _ ≤ _; omega⟩, fun _ _ _ => rfl⟩
  · rw [if_neg c]
    exact fet_W W (by omega) l2 lk _ N 0 (by have := List.length_filter_le (comC (goal N (rh N)) (inst N (rh N))) L; omega) W (FW_0 N)
theorem fet_p {g : Nat → Int} : ∀ (l : List Nat) (N : Nat → Int), (fet g N l).2 = -1 ∨ ∃ p, p ∈ l ∧ (fet g N l).2 = ((p : Nat) : Int) := by
  intro l
  induction l with
  | nil => intro N; exact .inl rfl
  | cons x l ih =>
    intro N
    rw [fet_s]
    split
    · exact .inr ⟨x, by simp, rfl⟩
    · rcases ih (feN (mfN N (N 2) (slF N g x).toNat)) with y | ⟨p, hp, e⟩
      · exact .inl y
      · exact .inr ⟨p, by simp [hp], e⟩
theorem feI_p {N : Nat → Int} {L : List Nat} (h : ¬ (feI N L).2 = -1) : ∃ p, p ∈ L ∧ (feI N L).2 = ((p : Nat) : Int) := by
  unfold feI fetA at h ⊢
  by_cases c : N 3 ≤ 0
  · rw [if_pos c] at h; exact absurd rfl h
  · rw [if_neg c] at h ⊢
    obtain ⟨p, hp, e⟩ := (fet_p _ N).resolve_left h
    exact ⟨p, (List.mem_filter.mp hp).1, e⟩
theorem StOK_pc {N : Nat → Int} {m a : Nat} {f0 g : Nat → Int} (W : WF N m) (S : fOK N f0) (Sg : fOK N g) (lt : a < 4096) (h : ∀ x, a.testBit x = true → ¬ f0 x = g x) (x : Nat) (b : a.testBit x = true) : x < pc N := by
  have x12 : x < 12 := Classical.byContradiction fun y => by
    have := Nat.testBit_lt_two_pow (show a < 2 ^ x from Nat.lt_of_lt_of_le lt (by have := Nat.pow_le_pow_right (n := 2) (by decide) (show 12 ≤ x by omega); omega))
    rw [b] at this; cases this
  have hv : ∀ f : Nat → Int, fOK N f → ¬ f x = -1 → x < pc N := fun f Sf n => by
    obtain ⟨v, hv, e1, -⟩ := (Sf x x12).resolve_left n
    have := (W.1.2.2.2.2.1 v hv).2.1
    unfold pc; omega
  by_cases z : f0 x = -1
  · exact hv g Sg (fun y => h x b (z.trans y.symm))
  · exact hv f0 S z
set_option maxHeartbeats 1000000 in
theorem c_X6_keepEntry {r : Nat} {h : XH} {N : Nat → Int} {nd : Nat → ND} {m : Nat} (T : HT h) (W : WF N m) (r3 : r < 3) (l : nR N r 47 < 600) {h0 : XH} (T0 : HT h0) (C0 : CS h0 8 N nd) (e0 : h = sL h0 (rc r) 6 (hL h0 (rc r) 5)) {K : XH → Prop} (k : ∀ g, Fr (fun b => b = rc r ∨ b = rc r + 3) h g → g.length = h.length → xhs g = xhs h → CS g 8 (entN N r) nd → K g) : w_X6_keepEntry (rc r) K h := by
  unfold w_X6_keepEntry
  have rb := rc_lt r3
  have w0 : 0 ≤ nR N r 47 := (W.2.1 r r3).2.2.2.2.2.2.2.2.2.1
  have i7 : hI h (rc r) 7 = nR N r 47 := by rw [e0, hI_ni (by decide)]; exact (R8 (C0.2.2.1 r r3)).2.2.2.2.2.2.2.1
  have l6 : hL h (rc r) 6 = hL h0 (rc r) 5 := by rw [e0]; exact hL_eq (hn_obj T0 (rc_k T0 r3) rfl rfl)
  have k20 : hn h (rc r + 3) = 20 := by
    have : r = 0 ∨ r = 1 ∨ r = 2 := by omega
    rcases this with y | y | y
    · rw [y]; exact lyn (c := 101) (n := 20) T rfl
    · rw [y]; exact lyn (c := 101) (n := 20) T rfl
    · rw [y]; exact lyn (c := 101) (n := 20) T rfl
  rw [i7]
  refine c_J9_floorMod_7cf53 ⟨w0, by omega, by decide, by decide⟩ ?_
  obtain ⟨x1, ex1⟩ : ∃ x, x = nR N r 47 % 20 := ⟨_, rfl⟩
  rw [← ex1]
  intro rx1
  refine ⟨(by omega), ?_⟩
  intro h3 eh3 t3 u3
  rw [l6, show x1.toNat = (nR N r 47).toNat % 20 by omega] at eh3
  intro h4 eh4 t4 u4
  have i73 : hI h3 (rc r) 7 = nR N r 47 := by rw [eh3, hI_ne (by omega)]; exact i7
  rw [i73, wr_of (by omega) (by omega)] at eh4
  exact k h4 (by rw [eh4, eh3]; exact Fr_tr (Fr_sV (.inr rfl)) (by rw [len_sV]; exact Nat.le_refl _) (Fr_sV (.inl rfl))) (by rw [eh4, eh3, len_sV, len_sV]) (by rw [eh4, eh3, xhs_sV, xhs_sV]) (CS_ent T0 C0 W r3 l T t3 e0 eh3 k20 eh4)
theorem c_AF {h : XH} {N : Nat → Int} {nd : Nat → ND} {m r : Nat} {L : List Nat} (T : HT h) (C : CS h 8 (w3N N r) nd) (W : WF N m) (er : r = rh N) (S : fOK N (goal N r)) (l2 : N 2 + 12 ≤ 12000) (lk : ∀ k : Nat, k < 3 → N (1714 + 81 * k) + 36 ≤ 100000) (l12 : L.length ≤ 12) (lp : ∀ i, i < L.length → L.getD i 0 < 12) (e6 : hI h 79 6 = (L.length : Nat)) (e82 : ∀ i, i < L.length → hI h 82 i = ((L.getD i 0 : Nat) : Int)) {K : Int → XH → Prop} (k : ∀ x g, Fr (fun b => b = 8 ∨ b = 40 ∨ b = rc r) h g → g.length = h.length → xhs g = xhs h → ((x = 1 ∧ (feI N L).2 = -1 ∧ CS g 8 (w3N (feI N L).1 r) nd) ∨ (x = 0 ∧ ¬ (feI N L).2 = -1 ∧ CS g 8 (whyN (feI N L).1 r 1 (feI N L).2 (-1)) nd)) → K x g) : w_X2_isAllFetched K h := by
  have ef : feI N L = fetA (goal N r) N (L.filter (comC (goal N r) (inst N r))) := by unfold feI; rw [← er]
  rw [ef] at k
  refine c_X2_isAllFetched T C W er S l2 lk l12 lp e6 e82 (fun e g F l x C => k 1 g (Fr_mono F (fun b y => by omega)) l x (.inl ⟨rfl, e, C⟩)) (fun p e g F l x C => k 0 g F l x (.inr ⟨rfl, by omega, by rw [e]; exact C⟩))
theorem c_AS {p0 : BitVec 64} {k a r : Nat} {t : Nat → Int} {L : List Nat} {h : XH} {N N1 : Nat → Int} {nd : Nat → ND} {m : Nat} (T : HT h) (C : CS h 8 N1 nd) (W : WF N m) (W1 : WF N1 m) (E : E8 N N1) (er : r = rh N) (eg : ∀ q, q < 12 → goal N1 r q = goal N r q) (e22 : nR N1 r 22 = nR N r 22) (S : SetR N p0 t) (Sg : fOK N (goal N r)) (lt : a < 4096) (k12 : k < 12) (e85 : hI h 85 k = (a : Int)) (e6 : hI h 79 6 = (L.length : Nat)) (l12 : L.length ≤ 12) (lp : ∀ i, i < L.length → L.getD i 0 < 12) (e82 : ∀ i, i < L.length → hI h 82 i = ((L.getD i 0 : Nat) : Int)) (hm : ∀ x, x < 12 → a.testBit x = true → t x = inst N r x) (hp : ∀ x, a.testBit x = true → x < pc N) {K : BitVec 64 → XH → Prop} (kk : ∀ b g, ((stp N (goal N r) t (fun x => comC (goal N r) (inst N r) x && a.testBit x) a L (nR N r 22)).1 = -1 ∧ SetR N b (mvF a t (goal N r)) ∧ g = h) ∨ (¬ (stp N (goal N r) t (fun x => comC (goal N r) (inst N r) x && a.testBit x) a L (nR N r 22)).1 = -1 ∧ b = 4611686018427387904#64 ∧ Fr (fun b => b = rc r) h g ∧ g.length = h.length ∧ xhs g = xhs h ∧ CS g 8 (whyN N1 r (stp N (goal N r) t (fun x => comC (goal N r) (inst N r) x && a.testBit x) a L (nR N r 22)).1 (stp N (goal N r) t (fun x => comC (goal N r) (inst N r) x && a.testBit x) a L (nR N r 22)).2 k) nd) → K b g) : w_X2_afterStep p0 (k : Int) K h := by
  refine c_X2_afterStep T C W W1 E er eg e22 S Sg lt k12 e85 e6 l12 lp e82 hm hp (fun e b Sb => kk b h (.inl ⟨by rw [e], Sb, rfl⟩)) (fun x y e nx g F l xx C => kk _ g (.inr ⟨by rw [e]; exact nx, rfl, F, l, xx, by rw [e]; exact C⟩))
theorem goS_s {N : Nat → Int} {g : Nat → Int} {C : Nat → Bool} {L : List Nat} {mo : Int} {a : Nat} {l : List Nat} {k : Nat} {t : Nat → Int} : goS N g C L mo (a :: l) k t = if (stp N g t (fun x => C x && a.testBit x) a L mo).1 = -1 then goS N g C L mo l (k + 1) (mvF a t g) else ((stp N g t (fun x => C x && a.testBit x) a L mo).1, (stp N g t (fun x => C x && a.testBit x) a L mo).2, (k : Int)) := rfl
theorem bit62 {N : Nat → Int} {s : BitVec 64} {t : Nat → Int} (S : SetR N s t) : ¬ s = 4611686018427387904#64 := fun e => by
  have := S.2.2.1 62 (by decide)
  rw [e] at this
  exact absurd this (by decide)
set_option maxHeartbeats 16000000 in
theorem c_X2_run {h : XH} {N : Nat → Int} {nd : Nat → ND} {m : Nat} (T : HT h) (C : CS h 8 N nd) (W : WF N m) (dk : DK nd m) (Mt : MetOK h N nd) (l2 : N 2 + 12 ≤ 12000) (lk : ∀ k : Nat, k < 3 → N (1714 + 81 * k) + 36 ≤ 100000) (l47 : nR N (rh N) 47 < 600) {K : Int → XH → Prop} (k : ∀ g b L, Arr N nd (goal N (rh N)) b L → L.length ≤ 12 → Fr (fun b => b = 8 ∨ b = 40 ∨ (rc (rh N) ≤ b ∧ b < rc (rh N) + 4) ∨ (79 ≤ b ∧ b < 86)) h g → g.length = h.length → xhs g = xhs h → HT g → CS g 8 (insP N nd b L).2 nd → MetOK g (insP N nd b L).2 nd → K (insP N nd b L).1 g) : w_X2_run K h := by
  unfold w_X2_run
  obtain ⟨r, er⟩ : ∃ r, r = rh N := ⟨_, rfl⟩
  have r3 : r < 3 := by rw [er]; exact rh_lt W
  have rb := rc_lt r3
  have L0 := HT_len T
  have hv := WV_hp W.1
  have hW := WF_b W
  have Sg := fOK_of (CS_g C r3)
  have Si := fOK_of (CS_i C r3)
  refine c_atH C W ?_
  rw [← er]
  refine ⟨(rc_k T r3), ?_⟩
  refine c_X6_tellFailure ?_
  intro g1 g2 h3 eg1 eg2 eg3 tg1 tg2 tg3 ug1 ug2 ug3
  intro t3 u3
  obtain ⟨C3, W3⟩ := CS_why T C W r3 (rgk rfl) (rgk rfl) (rgk rfl) tg1 tg2 eg1 eg2 eg3
  have F3 : Fr (fun b => b = rc r) h h3 := by
    rw [eg3, eg2, eg1]
    exact fun b _ n => sameC_tr (sameC_sV (fun z => n z.symm)) (sameC_tr (sameC_sV (fun z => n z.symm)) (sameC_sV (fun z => n z.symm)))
  have gl3 : h3.length = h.length := by rw [eg3, eg2, eg1, len_sV, len_sV, len_sV]
  have gx3 : xhs h3 = xhs h := by rw [eg3, eg2, eg1, xhs_sV, xhs_sV, xhs_sV]
  have M3 : MetOK h3 (w3N N r) nd := E8_Met E8_why W (fun k hk => why_at _ (by rw [er]; omega)) (MetOK_fr (fun b x y => F3 b (by omega) (by omega)) Mt)
  have rh3 : rh (w3N N r) = r := by rw [E8_r E8_why]; exact er.symm
  have S3 : SetR (w3N N r) (hL h3 (rc r) 5) (goal N r) := SetR_ve (fun _ _ _ => rfl) (WF_b W3).2.2.2 (fun p hp => (show goal N r p = goal (w3N N r) r p from (w3_at (N := N) (r := r) (805 + 291 * r + (35 + p)) (by omega)).symm)) (WV_hp W3.1) (CS_g C3 r3)
  refine c_X2_arrange t3 C3 W3 dk M3 S3 ?_
  intro h4 b L A4_ l12 F4 k79 b7 e6 e82
  intro t4 u4
  have A4 : Arr N nd (goal N r) b L := (Arr_cg (E8_ah E8_why W _) b L).mp A4_
  have lp : ∀ i, i < L.length → L.getD i 0 < 12 := fun i hi => (Arr_mem A4 i hi).1
  have C4 : CS h4 8 (w3N N r) nd := CS_fr (fun j hj => F4.1 (8 + j) (by omega) (by omega)) (txt_fr t3 F4.1 (fun b y => by omega)) (WF_b W3) C3
  have F04 : Fr (fun b => b = rc r ∨ (79 ≤ b ∧ b < 83)) h h4 := Fr_tr (Fr_mono F3 (fun b y => .inl y)) (by omega) (Fr_mono F4.1 (fun b y => .inr y))
  have g4l := F4.2.1
  have g4x := F4.2.2
  have M4 : MetOK h4 (w3N N r) nd := MetOK_fr (fun b x y => F4.1 b (by omega) (by omega)) M3
  have eI : ∀ p, p = insP N nd b L → p = insP N nd b L := fun _ e => e
  rw [← er] at k
  refine ⟨fun c25 => ?_, fun c25 => ?_⟩
  · rw [b7] at c25
    have bf : b = false := by cases b with | false => rfl | true => exact absurd c25 (by decide)
    obtain ⟨WP, p2, p2', pk, pe⟩ := feI_W (N := N) (L := L) W l2 lk l12
    obtain ⟨P, eP⟩ : ∃ P, P = (feI N L).1 := ⟨_, rfl⟩
    rw [← eP] at WP p2 p2' pk pe
    have EP : E8 N P := fun i h n => pe i n (fun j hj => by omega)
    have E1 : E8 N (w3N P r) := E8_tr EP E8_why
    have W1 : WF (w3N P r) m := WF_why WP r3
    have rP : rh P = r := by rw [E8_r EP]; exact er.symm
    have rh1 : rh (w3N P r) = r := by rw [E8_r E1]; exact er.symm
    have nP : ∀ k, k < 288 → nR P r k = nR N r k := fun k hk => pe _ (by omega) (fun j hj => by omega)
    have n1 : ∀ k, k < 288 → nR (w3N P r) r k = nR N r k := fun k hk => (w3_at _ (by omega)).trans (nP k hk)
    refine c_AF t4 C4 W er Sg l2 lk l12 lp e6 e82 ?_
    intro x5 h6 F6 l6 gx6 q6
    rw [← eP] at q6
    intro t6 u6
    intro rx5 vx5
    have s6 : ∀ b, b < h4.length → ¬ b = 8 → ¬ b = 40 → ¬ b = rc r → sameC h4 h6 b := fun b hb y z w => F6 b hb (by omega)
    have F06 : Fr (fun b => b = 8 ∨ b = 40 ∨ b = rc r ∨ (79 ≤ b ∧ b < 83)) h h6 := Fr_tr (Fr_mono F04 (fun b y => by omega)) (by omega) (Fr_mono F6 (fun b y => by omega))
    have Mt6 : MetOK h6 N nd := MetOK_fr (fun b x y => F06 b (by omega) (by omega)) Mt
    refine ⟨fun c23 => ?_, fun c23 => ?_⟩
    · obtain ⟨-, nf, C6⟩ := q6.resolve_right (fun y => c23 y.1)
      have M6 : MetOK h6 (w3N P r) nd := E8_Met E1 W (fun k hk => by rw [← er]; exact n1 k (by omega)) Mt6
      have est : stepsOf (w3N P r) nd (inst (w3N P r) (rh (w3N P r))) (goal (w3N P r) (rh (w3N P r))) = stepsOf N nd (inst N r) (goal N r) := by
        rw [rh1, E8_st E1 W]
        exact steps_cgf (fun p hp => n1 _ (by omega)) (fun p hp => n1 _ (by omega))
      obtain ⟨St, eSt⟩ : ∃ St, St = stepsOf N nd (inst N r) (goal N r) := ⟨_, rfl⟩
      have Sl : St.length ≤ 12 := by rw [eSt]; exact stepsL_len _ _ _
      refine c_X2_findSteps t6 C6 W1 dk M6 ?_
      rw [est, ← eSt]
      intro h7 F7 l7 gx7 k79b e11 e85
      intro t7 u7
      have C7 : CS h7 8 (w3N P r) nd := CS_fr (fun j hj => F7 (8 + j) (by omega) (by omega)) (txt_fr t6 F7 (fun b y => by omega)) (WF_b W1) C6
      have F07 : Fr (fun b => b = 8 ∨ b = 40 ∨ b = rc r ∨ (79 ≤ b ∧ b < 86)) h h7 := Fr_tr (Fr_mono F06 (fun b y => by omega)) (by omega) (Fr_mono F7 (fun b y => by omega))
      have e6_7 : hI h7 79 6 = (L.length : Nat) := by rw [show hI h7 79 6 = hI h6 79 6 from congrArg gvI (k79b 6 (by decide)), sameC_I (s6 79 (by omega) (by decide) (by decide) (by omega))]; exact e6
      have e82_7 : ∀ i, i < L.length → hI h7 82 i = ((L.getD i 0 : Nat) : Int) := fun i hi => by rw [sameC_I (F7 82 (by omega) (by decide)), sameC_I (s6 82 (by omega) (by decide) (by decide) (by omega))]; exact e82 i hi
      have S8 : SetR N (hL h7 (rc r) 6) (inst N r) := SetR_ve (fun _ _ _ => rfl) hW.2.2.2 (fun p hp => (show inst N r p = inst (w3N P r) r p from (n1 _ (by omega)).symm)) hv (E8_S (E8_sy E1) W1 (CS_i C7 r3))
      have gI : goI N nd L = goS N (goal N r) (comC (goal N r) (inst N r)) L (nR N r 22) St 0 (inst N r) := by unfold goI; rw [← er, eSt]
      have SO : StOK (inst N r) (goal N r) St (inst N r) := by rw [eSt]; exact StOK_of
      intro b8 eb8
      refine ⟨fun b x g => Fr (fun b => b = rc r) h7 g ∧ g.length = h7.length ∧ xhs g = xhs h7 ∧ ∃ (k : Nat) (pre rest : List Nat), x = (k : Int) ∧ St = pre ++ rest ∧ pre.length = k ∧ ((¬ b = 4611686018427387904#64 ∧ ∃ t, SetR N b t ∧ StOK (inst N r) (goal N r) rest t ∧ goI N nd L = goS N (goal N r) (comC (goal N r) (inst N r)) L (nR N r 22) rest k t ∧ CS g 8 (w3N P r) nd) ∨ (b = 4611686018427387904#64 ∧ ¬ (goI N nd L).1 = -1 ∧ CS g 8 (whyN P r (goI N nd L).1 (goI N nd L).2.1 (goI N nd L).2.2) nd)), fun _ x _ => (12 - x).toNat, ?_, ?_⟩
      · rw [eb8]
        exact ⟨Fr_rf _ _, rfl, rfl, 0, [], St, rfl, rfl, rfl, .inl ⟨bit62 S8, inst N r, S8, SO, gI, C7⟩⟩
      · intro b9 x10 h11 t11 s11 rx10 z12
        obtain ⟨F11, l11, x11, kk, pre, rest, ek, est2, epl, q12⟩ := z12
        have s79 : sameC h7 h11 79 := F11 79 (by omega) (by omega)
        have i11 : hI h11 79 11 = (St.length : Nat) := by rw [sameC_I s79]; exact e11
        have F0 : Fr (fun b => b = 8 ∨ b = 40 ∨ b = rc r ∨ (79 ≤ b ∧ b < 86)) h h11 := Fr_tr F07 (by omega) (Fr_mono F11 (fun b y => by omega))
        have Sl2 : St.length = pre.length + rest.length := by rw [est2, List.length_append]
        rw [i11]
        refine ⟨(b9 = 4611686018427387904#64 ∧ ¬ (goI N nd L).1 = -1 ∧ CS h11 8 (whyN P r (goI N nd L).1 (goI N nd L).2.1 (goI N nd L).2.2) nd) ∨ (¬ b9 = 4611686018427387904#64 ∧ (goI N nd L).1 = -1 ∧ CS h11 8 (w3N P r) nd), ?_, ?_⟩
        · intro z13
          refine ⟨fun c17 => ?_, fun c17 => ?_⟩
          · refine ⟨(rc_k t11 r3), ?_⟩
            intro h15 eh15 t15 u15
            obtain ⟨-, g1, C11⟩ := z13.resolve_left (fun y => c17 y.1)
            have l47' : nR (w3N P r) r 47 < 600 := by rw [n1 47 (by decide)]; rw [er]; exact l47
            refine c_X6_keepEntry t15 W1 r3 l47' t11 C11 eh15 ?_
            intro h16 F16 l16 x16 C16
            rw [ent_why r3] at C16
            intro t16 u16
            have ip : insP N nd b L = (((St.length : Nat) : Int), whyN (entN P r) r (-1) (-1) (-1)) := by unfold insP; rw [bf, if_neg (by decide), if_neg (fun y => y nf), if_neg (fun y => y g1), ← er, ← eP, ← eSt]
            have F15 : Fr (fun b => b = rc r) h11 h15 := by rw [eh15]; exact Fr_sV rfl
            have l15 : h15.length = h11.length := by rw [eh15, len_sV]
            have x15 : xhs h15 = xhs h11 := by rw [eh15, xhs_sV]
            have F016 : Fr (fun b => b = 8 ∨ b = 40 ∨ (rc r ≤ b ∧ b < rc r + 4) ∨ (79 ≤ b ∧ b < 86)) h h16 := Fr_tr (Fr_mono F0 (fun b y => by omega)) (by omega) (Fr_tr (Fr_mono F15 (fun b y => by omega)) (by omega) (Fr_mono F16 (fun b y => by omega)))
            have E2 : E8 N (whyN (entN P r) r (-1) (-1) (-1)) := E8_tr EP (E8_tr E8_ent E8_why)
            have := k h16 b L A4 l12 F016 (by omega) (by omega) t16 (by rw [ip]; exact C16) (by rw [ip]; exact E8_Met E2 W (fun k hk => by rw [← er]; exact (why_at _ (by omega)).trans ((ent_at _ (by omega) (by omega)).trans (nP k (by omega)))) (MetOK_fr (fun b x y => F016 b (by omega) (by omega)) Mt))
            rw [ip] at this
            have i16 : hI h16 79 11 = (St.length : Nat) := by rw [sameC_I (F16 79 (by omega) (by omega)), sameC_I (F15 79 (by omega) (by omega))]; exact i11
            rw [i16]
            exact this
          · obtain ⟨-, g1, C11⟩ := z13.resolve_right (fun y => c17 y.1)
            have ip : insP N nd b L = (-1, whyN P r (goI N nd L).1 (goI N nd L).2.1 (goI N nd L).2.2) := by unfold insP; rw [bf, if_neg (by decide), if_neg (fun y => y nf), if_pos g1, ← er, ← eP]
            have F011 : Fr (fun b => b = 8 ∨ b = 40 ∨ (rc r ≤ b ∧ b < rc r + 4) ∨ (79 ≤ b ∧ b < 86)) h h11 := Fr_mono F0 (fun b y => by omega)
            have := k h11 b L A4 l12 F011 (by omega) (by omega) t11 (by rw [ip]; exact C11) (by rw [ip]; exact E8_Met (E8_tr EP E8_why) W (fun k hk => by rw [← er]; exact (why_at _ (by omega)).trans (nP k (by omega))) (MetOK_fr (fun b x y => F011 b (by omega) (by omega)) Mt))
            rw [ip] at this
            exact this
        · refine ⟨fun c22 => ?_, fun c22 => ?_⟩
          · have rl : rest.length = 0 := by omega
            have r0 : rest = [] := List.length_eq_zero_iff.mp rl
            rcases q12 with ⟨y1, t, y2, y3, y4, y5⟩ | y
            · refine .inr ⟨y1, ?_, y5⟩
              rw [y4, r0]; rfl
            · exact .inl y
          · refine ⟨fun c21 => ?_, fun c21 => ?_⟩
            · exact .inl (q12.resolve_left (fun y => y.1 c21))
            · obtain ⟨-, t, y2, y3, y4, C11⟩ := q12.resolve_right (fun y => c21 y.1)
              cases rest with
              | nil => simp at Sl2; omega
              | cons a rest => ?_
              obtain ⟨⟨-, lt⟩, hm, hd, SO'⟩ := y3
              rw [goS_s] at y4
              have k12 : kk < 12 := by simp at Sl2; omega
              have ga : St.getD kk 0 = a := by rw [est2, List.getD_eq_getElem?_getD, List.getElem?_append_right (by omega), epl, Nat.sub_self]; rfl
              have e85' : hI h11 85 kk = (a : Int) := by rw [sameC_I (F11 85 (by omega) (by omega)), e85 kk (by simp at Sl2; omega), ga]
              rw [ek]
              refine c_AS (t := t) (L := L) t11 C11 W W1 E1 er (fun q hq => n1 _ (by omega)) (n1 22 (by decide)) y2 Sg lt k12 e85' (by rw [sameC_I s79]; exact e6_7) l12 lp (fun i hi => by rw [sameC_I (F11 82 (by omega) (by omega))]; exact e82_7 i hi) hm (StOK_pc W Si Sg lt hd) ?_
              intro b18 h19 q19
              intro t19 u19
              intro x20 ex20 rx20
              rw [wr_of (by omega) (by omega)] at ex20
              refine ⟨?_, by dsimp only; omega⟩
              rcases q19 with ⟨z1, z2, z3⟩ | ⟨z1, z2, z3, z4, z5, z6⟩
              · rw [if_pos z1] at y4
                rw [z3]
                exact ⟨F11, l11, x11, kk + 1, pre ++ [a], rest, by omega, by rw [est2]; simp, by simp; omega, .inl ⟨bit62 z2, _, z2, SO', y4, C11⟩⟩
              · rw [if_neg z1] at y4
                rw [why_why] at z6
                refine ⟨Fr_tr F11 (by omega) z3, by omega, by omega, kk + 1, pre ++ [a], rest, by omega, by rw [est2]; simp, by simp; omega, .inr ⟨z2, by rw [y4]; exact z1, by rw [y4]; exact z6⟩⟩
    · obtain ⟨-, nf, C6⟩ := q6.resolve_left (fun y => c23 (by omega))
      have ip : insP N nd b L = (-1, whyN P r 1 (feI N L).2 (-1)) := by unfold insP; rw [bf, if_neg (by decide), if_pos nf, ← er, eP]
      have := k h6 b L A4 l12 (Fr_mono F06 (fun b y => by omega)) (by omega) (by omega) t6 (by rw [ip]; exact C6) (by rw [ip]; exact E8_Met (E8_tr EP E8_why) W (fun k hk => (why_at _ (by rw [er]; omega)).trans (by rw [← er]; exact nP k (by omega))) Mt6)
      rw [ip] at this
      exact this
  · rw [b7] at c25
    have bt : b = true := by cases b with | true => rfl | false => exact absurd rfl c25
    refine c_X6_tellFailure ?_
    intro q1 q2 h24 eq1 eq2 eq3 tq1 tq2 tq3 uq1 uq2 uq3
    intro t24 u24
    have s0 : 0 < L.length := by
      rcases A4 with ⟨-, z, -⟩ | ⟨-, -, s, d, -, -, -, z⟩
      · rw [bt] at z; cases z
      · rw [z.1]; omega
    have l0 := lp 0 s0
    rw [e82 0 s0] at eq2
    obtain ⟨c1, c2⟩ := CS_why t4 C4 W3 r3 (rgk rfl) (by unfold rg; omega) (rgk rfl) tq1 tq2 eq1 eq2 eq3
    rw [why_why] at c1 c2
    have ip : insP N nd b L = (-1, whyN N r 0 (L.getD 0 0 : Nat) (-1)) := by unfold insP; rw [if_pos bt, ← er]
    have F24 : Fr (fun b => b = rc r) h4 h24 := by
      rw [eq3, eq2, eq1]
      exact fun b _ n => sameC_tr (sameC_sV (fun z => n z.symm)) (sameC_tr (sameC_sV (fun z => n z.symm)) (sameC_sV (fun z => n z.symm)))
    have F024 : Fr (fun b => b = rc r ∨ (79 ≤ b ∧ b < 83)) h h24 := Fr_tr F04 (by omega) (Fr_mono F24 (fun b y => .inl y))
    have := k h24 b L A4 l12 (Fr_tr (Fr_mono F04 (fun b y => by omega)) (by omega) (Fr_mono F24 (fun b y => by omega))) (by rw [eq3, eq2, eq1, len_sV, len_sV, len_sV]; omega) (by rw [eq3, eq2, eq1, xhs_sV, xhs_sV, xhs_sV]; omega) tq3 (by rw [ip]; exact c1) (by rw [ip]; exact E8_Met E8_why W (fun k hk => why_at _ (by rw [er]; omega)) (MetOK_fr (fun b x y => F024 b (by omega) (by omega)) Mt))
    rw [ip] at this
    exact this
