/-! A SYMBOLIC RUN: steps, and two ways that meet again -/
abbrev SS : Type := SE × SH × Nat × Nat × Nat × Nat × XRec × List (Option SV) × List SV × List SF
noncomputable def sone (R : XRecs) (nw : List (List Value)) (sn : Nat) (s : SS) : Option SS := match s with
  | (e, h, n, sl, mi, pc, r, ls, st, fs) => sbody R nw (none : Option SS) (fun _ => none) (fun _ _ _ => none) (fun e h n sl mi pc r ls st fs => some (e, h, n, sl, mi, pc, r, ls, st, fs)) sn e h n sl mi pc r ls st fs
noncomputable def siter (R : XRecs) (nw : List (List Value)) (sn mi pcj : Nat) (k : Nat) : SS → Option SS := Nat.rec (motive := fun _ => SS → Option SS) (fun _ => none) (fun _ ih s => match sone R nw sn s with
  | none => none
  | some s2 => cond (Nat.beq s2.2.2.2.2.2.1 pcj && (Nat.beq s2.2.2.2.2.1 mi && s2.2.2.2.2.2.2.2.2.2.isEmpty)) (some s2) (ih s2)) k
def sveq : SV → SV → Bool
  | .inl .null, .inl .null => true
  | .inl (.ref a), .inl (.ref b) => Nat.beq a b
  | .inl (.long a), .inl (.long b) => Nat.beq a.toUInt64.toNat b.toUInt64.toNat
  | .inr (t, a, zs), .inr (t2, b, zs2) => Nat.beq t t2 && (Nat.beq a b && szeq zs zs2)
  | _, _ => false
noncomputable def smapL {α γ : Type} (f : α → α → Option γ) (l : List α) : List α → Option (List γ) := List.rec (motive := fun _ => List α → Option (List γ)) (fun u => match u with
  | [] => some []
  | _ :: _ => none) (fun a _ ih u => match u with
  | [] => none
  | b :: u => match f a b with
    | none => none
    | some c => match ih u with
      | none => none
      | some l => some (c :: l)) l
def sgenV (b : Nat) (x y : SV) : Option SV := cond (sveq x y) (some x) (match x, y with
  | .inr (1, c, zs), .inr (1, c2, zs2) => cond (Nat.beq c2 (Nat.succ c) && szeq zs zs2) (some (.inr (1, c, zs ++ [b]))) none
  | _, _ => none)
def seseq : List (Nat × SV) → List (Nat × SV) → Bool
  | [], [] => true
  | p :: t, q :: u => Nat.beq p.1 q.1 && (sveq p.2 q.2 && seseq t u)
  | _, _ => false
noncomputable def sgenC (b : Nat) (x y : Option SCell) : Option (Option SCell) := match x, y with
  | some (.inl (c, row)), some (.inl (c2, row2)) => cond (Nat.beq c c2) (match smapL (smapL (sgenV b)) row row2 with
    | some row3 => some (some (.inl (c, row3)))
    | none => none) none
  | some (.inr (t, len, d, es, kn)), some (.inr (t2, len2, d2, es2, kn2)) => cond (Nat.beq t t2 && Nat.beq len len2) (cond (kn && (kn2 && (sveq d d2 && seseq es es2))) (some (some (.inr (t, len, d, es, true)))) (some (some (.inr (t, len, d, [], false))))) none
  | _, _ => some none
noncomputable def sgenL (b : Nat) (x y : Option SV) : Option (Option SV) := match x, y with
  | none, none => some none
  | some x, some y => match sgenV b x y with
    | some v => some (some v)
    | none => none
  | _, _ => none
noncomputable def sJ (J : List (Nat × Nat × Nat)) (mi pc : Nat) : Option Nat := List.rec (motive := fun _ => Option Nat) none (fun q _ ih => cond (Nat.beq q.1 mi && Nat.beq q.2.1 pc) (some q.2.2) ih) J
noncomputable def smerge (R : XRecs) (nw : List (List Value)) (sn : Nat) (ih : SE → SH → Nat → Nat → Nat → Nat → XRec → List (Option SV) → List SV → List SF → Bool) (e : SE) (h : SH) (n sl mi pc : Nat) (r : XRec) (ls : List (Option SV)) (st : List SV) (fs : List SF) (b pcj : Nat) : Bool :=
  match siter R nw sn mi pcj 40 ((b, 2147483648, 2147483648) :: e, h, n, sl, mi, pc, r, ls, st, []), siter R nw sn mi pcj 40 ((b, 2147483649, (senv e b).2) :: e, h, n, sl, mi, pc, r, ls, st, []) with
  | some (_, hA, nA, slA, _, _, _, lsA, stA, _), some (_, hB, nB, slB, _, _, _, lsB, stB, _) => cond (Nat.beq nA nB && (Nat.beq slA slB && (Nat.ble 2147483648 (senv e b).1 && slenb fs 100))) (match smapL (smapL (smapL (sgenC b))) hA hB, smapL (sgenL b) lsA lsB, smapL (sgenV b) stA stB with
    | some h2, some ls2, some st2 => frc pcj fun pc2 => ih e h2 nA slA mi pc2 r ls2 st2 fs
    | _, _, _ => false) false
  | _, _ => false
noncomputable def sfin (mc ms : Nat) (v : SV) (n sl : Nat) : Bool := match v with
  | .inr (1, c, []) => Nat.beq c 1 && (Nat.ble n mc && Nat.ble sl ms)
  | _ => false
noncomputable def sexec (R : XRecs) (nw : List (List Value)) (J : List (Nat × Nat × Nat)) (sn mc ms : Nat) (k : Nat) : SE → SH → Nat → Nat → Nat → Nat → XRec → List (Option SV) → List SV → List SF → Bool :=
  Nat.rec (motive := fun _ => SE → SH → Nat → Nat → Nat → Nat → XRec → List (Option SV) → List SV → List SF → Bool) (fun _ _ _ _ _ _ _ _ _ _ => false) (fun _ ih e h n sl mi pc r ls st fs => match st with
    | .inr (0, b, _) :: _ => cond (Nat.ble 100 b && Nat.blt b 200) (match sJ J mi pc with
      | some pcj => smerge R nw sn ih e h n sl mi pc r ls st fs b pcj
      | none => sbody R nw false (fun l => l.all id) (sfin mc ms) ih sn e h n sl mi pc r ls st fs) (sbody R nw false (fun l => l.all id) (sfin mc ms) ih sn e h n sl mi pc r ls st fs)
    | _ => sbody R nw false (fun l => l.all id) (sfin mc ms) ih sn e h n sl mi pc r ls st fs) k
