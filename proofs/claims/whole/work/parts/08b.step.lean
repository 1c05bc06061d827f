/-! A SYMBOLIC RUN: one instruction -/
section SI
variable {β : Type} (R : XRecs) (nw : List (List Value)) (bad : β) (many : List β → β) (fin : SV → Nat → Nat → β)
variable (ih : SE → SH → Nat → Nat → Nat → Nat → XRec → List (Option SV) → List SV → List SF → β)
/-- a value comes back to the frames below -/
noncomputable def sretK (e : SE) (h : SH) (n sl : Nat) (v : Option SV) (fs : List SF) : β := match fs with
  | [] => match v with
    | some v => fin v n sl
    | none => bad
  | f :: fs2 => frc (Nat.add f.2.1 3) fun pc => match v with
    | some v => ih e h n sl f.1 pc f.2.2.1 f.2.2.2.1 (v :: f.2.2.2.2) fs2
    | none => ih e h n sl f.1 pc f.2.2.1 f.2.2.2.1 f.2.2.2.2 fs2
/-- a throw goes through the frames below, to the first method with handlers -/
noncomputable def sthrK (e : SE) (h : SH) (n sl x : Nat) (fs : List SF) : β := List.rec (motive := fun _ => β) bad (fun f fs2 ihf => match f.2.2.1.1.hh with
  | [] => ihf
  | _ :: _ => match xhand (xPof R nw) f.1 f.2.2.1.1 (List.replicate f.2.2.2.1.length none) f.2.1 x with
    | some k => cond (xokr f.2.2.1.1.ret (some (.int k))) (sciK k fun v => sretK bad fin ih e h n sl (some v) fs2) bad
    | none => bad) fs
noncomputable def scallK (e : SE) (h : SH) (n sl mi pc : Nat) (r : XRec) (ls : List (Option SV)) (st : List SV) (fs : List SF) (j code : Nat) : β := match qfind R j with
  | none => bad
  | some r2 => spopK bad r2.1.nargs st fun av rest => cond (Nat.ble (ssum rest) 8 && slenb fs 100)
    (cond (match code with
      | 0 => true
      | 1 => match av with
        | .inl (.ref _) :: _ => true
        | _ => false
      | c + 2 => match av with
        | .inl (.ref k) :: _ => match hget h k with
          | some (.inl (c2, _)) => Nat.beq c2 c
          | _ => false
        | _ => false) (sentK bad av r2.1.maxL fun l0 => ih e h n sl j 0 r2 l0 [] ((mi, pc, r, ls, rest) :: fs)) bad) bad
/-- an element is stored -/
noncomputable def sastK (e : SE) (h : SH) (a t0 : Nat) (ix v : SV) (again : SE → β) (f : SH → β) : β := match hget h a with
  | some (.inr (t, len, d, es, kn)) => cond (Nat.beq t t0) (match ix with
    | .inr (1, c, z :: zs) => cond (Nat.blt (Nat.add c (z :: zs).length) len && Nat.blt len 2147483648) (hputK bad h a (some (.inr (t, len, d, [], false))) f) bad
    | ix => sconK bad many e ix again fun i => cond (Nat.blt i len && Nat.blt len 2147483648) (cond kn (cond (seqd v d && !(shas es i)) (f h) (hputK bad h a (some (.inr (t, len, d, (i, v) :: es, true))) f)) (f h)) bad) bad
  | _ => bad
/-- an element is read -/
noncomputable def saldK (sn : Nat) (e : SE) (h : SH) (st : List SV) (ok : Nat → Bool) (again : SE → β) (f : SV → List SV → β) : β := match st with
  | ix :: .inl (.ref a) :: rest => Nat.rec (motive := fun _ => β)
      (sconK bad many e ix again fun i => cond (Nat.blt i sn && (Nat.blt i 6 && ok 0)) (frc i fun i1 => f (.inr (0, i1, [])) rest) bad)
      (fun _ _ => match hget h a with
        | some (.inr (t, len, d, es, true)) => sconK bad many e ix again fun i => cond (Nat.blt i len && (Nat.blt len 2147483648 && ok t)) (f (sfind es i d) rest) bad
        | _ => bad) a
  | _ => bad
noncomputable def snewK (e : SE) (h : SH) (n sl : Nat) (st : List SV) (t : Nat) (d : SV) (again : SE → β) (f : SH → Nat → Nat → List SV → β) : β := match st with
  | c :: rest => sconK bad many e c again fun m => cond (Nat.blt m 67108864) (hputK bad h n (some (.inr (t, m, d, [], true))) fun h2 => frc (Nat.succ n) fun n2 => frc (Nat.add sl m) fun sl2 => f h2 n2 sl2 (.inl (.ref n) :: rest)) bad
  | _ => bad
noncomputable def sbin2K (e : SE) (st : List SV) (again : SE → β) (f : Nat → Nat → List SV → β) : β := match st with
  | y :: x :: rest => sconK bad many e y again fun b => sconK bad many e x again fun a => f a b rest
  | _ => bad
noncomputable def slin2K (e : SE) (st : List SV) (again : SE → β) (f : SV → List SV → β) : β := match st with
  | .inr (1, b, []) :: .inr (1, a, []) :: rest => frc (Nat.mod (Nat.add a b) 4294967296) fun c => f (.inr (1, c, [])) rest
  | .inr (1, b, zb) :: .inr (1, a, za) :: rest => frc (Nat.mod (Nat.add a b) 4294967296) fun c => f (.inr (1, c, za ++ zb)) rest
  | st => sbin2K bad many e st again fun a b rest => frc (Nat.mod (Nat.add a b) 4294967296) fun c => f (.inr (1, c, [])) rest
/-- a byte of a word of the script: the shift, then the mask -/
noncomputable def sushK (e : SE) (st : List SV) (again : SE → β) (f : SV → List SV → β) : β := match st with
  | .inr (1, b, []) :: .inr (0, k, zs) :: rest => cond (Nat.blt k 6 && (Nat.ble b 24 && Nat.beq (Nat.mod b 8) 0)) (frc (Nat.add 1000 (Nat.add (Nat.mul 4 k) (Nat.div b 8))) fun j => f (.inr (0, j, [])) rest)
      (sbin2K bad many e (.inr (1, b, []) :: .inr (0, k, zs) :: rest) again fun a b rest => sciK ((Int32.ofNat a).toUInt32 >>> ((Int32.ofNat b).toUInt32 &&& Int32.toUInt32 31)).toInt32 fun v => f v rest)
  | st => sbin2K bad many e st again fun a b rest => sciK ((Int32.ofNat a).toUInt32 >>> ((Int32.ofNat b).toUInt32 &&& Int32.toUInt32 31)).toInt32 fun v => f v rest
noncomputable def sandK (e : SE) (st : List SV) (again : SE → β) (f : SV → List SV → β) : β := match st with
  | .inr (1, b, []) :: .inr (0, k, zs) :: rest => cond (Nat.ble 1000 k && (Nat.blt k 1100 && Nat.beq b 255)) (frc (Nat.sub k 900) fun j => f (.inr (0, j, [])) rest)
      (cond (Nat.beq k 0 && Nat.beq b 63) (f (.inr (0, 6, [])) rest)
      (sbin2K bad many e (.inr (1, b, []) :: .inr (0, k, zs) :: rest) again fun a b rest => sciK (Int32.ofNat a &&& Int32.ofNat b) fun v => f v rest))
  | st => sbin2K bad many e st again fun a b rest => sciK (Int32.ofNat a &&& Int32.ofNat b) fun v => f v rest
noncomputable def slng2K (st : List SV) (op : Int64 → Int64 → Int64) (f : SV → List SV → β) : β := match st with
  | .inl (.long y) :: .inl (.long x) :: rest => sclK (op x y) fun v => f v rest
  | _ => bad
noncomputable def slshK (e : SE) (st : List SV) (again : SE → β) (op : Int64 → Int32 → Int64) (f : SV → List SV → β) : β := match st with
  | y :: .inl (.long x) :: rest => sconK bad many e y again fun b => sclK (op x (Int32.ofNat b)) fun v => f v rest
  | _ => bad
noncomputable def sldK (ls : List (Option SV)) (k kd : Nat) (f : SV → β) : β := match lget ls k with
  | some (some v) => cond (Nat.beq (skd v) kd) (f v) bad
  | _ => bad
noncomputable def sst1K (ls : List (Option SV)) (k kd : Nat) (st : List SV) (f : List (Option SV) → List SV → β) : β := match st with
  | v :: rest => cond (Nat.beq (skd v) kd && Nat.blt k ls.length) (sput1K ls k v fun l => f l rest) bad
  | _ => bad
noncomputable def sst2K (ls : List (Option SV)) (k kd : Nat) (st : List SV) (f : List (Option SV) → List SV → β) : β := match st with
  | v :: rest => cond (Nat.beq (skd v) kd && Nat.blt (Nat.succ k) ls.length) (sput2K ls k v fun l => f l rest) bad
  | _ => bad
noncomputable def scopyK (h : SH) (st : List SV) (e : SE) (again : SE → β) (f : SH → List SV → β) : β := match st with
  | cn :: dp :: .inl (.ref b) :: sp :: .inl (.ref a) :: rest => sconK bad many e cn again fun m => sconK bad many e dp again fun dp => sconK bad many e sp again fun sp => match hget h a, hget h b with
    | some (.inr (t, len, d, es, true)), some (.inr (t2, len2, d2, es2, true)) =>
      cond ((Nat.beq t t2 && (Nat.blt t 2 && (!(Nat.beq a b) && (seqd d d2 && Nat.ble (ssum rest) 8)))) && ((Nat.ble (Nat.add sp m) len && Nat.ble (Nat.add dp m) len2) && ((Nat.blt len 2147483648 && Nat.blt len2 2147483648) && ((es.all fun q => sxok (xet t) q.2) && sxok (xet t) d))))
        (match es, es2 with
          | [], [] => f h rest
          | es, es2 => hputK bad h b (some (.inr (t2, len2, d2, (es.filterMap fun q => cond (Nat.ble sp q.1 && Nat.blt q.1 (Nat.add sp m)) (some (Nat.add (Nat.sub q.1 sp) dp, q.2)) none) ++ es2.filter (fun q => !(Nat.ble dp q.1 && Nat.blt q.1 (Nat.add dp m))), true))) fun h2 => f h2 rest) bad
    | _, _ => bad
  | _ => bad
noncomputable def stabK (e : SE) (pc : Nat) (d lo hi : Int) (offs : Array Int) (v : SV) (again : SE → β) (f : Nat → β) : β := match sint e v with
  | none => bad
  | some (a, b) => cond (decide ((b : Int) - 2147483648 < lo ∨ hi < (a : Int) - 2147483648)) (sjmpK bad pc d f) (cond (Nat.beq a b) (match offs[((a : Int) - 2147483648 - lo).toNat]? with
      | some o => cond (decide ((a : Int) - 2147483648 < lo ∨ hi < (a : Int) - 2147483648)) bad (sjmpK bad pc o f)
      | none => bad) (match v with
    | .inr (0, k, _) => frc (lo + 2147483648).toNat fun L => frc (hi + 2147483648).toNat fun H => cond (Nat.blt L 4294967296 && (Nat.blt H 4294967296 && Nat.ble (Nat.sub H L) 100))
        (many ((cond (Nat.blt a L) [frc (Nat.sub L 1) fun x => again ((k, a, x) :: e)] []) ++ ((snums (cond (Nat.blt a L) L a) (Nat.sub (Nat.succ (cond (Nat.blt H b) H b)) (cond (Nat.blt a L) L a))).map fun x => frc x fun x1 => again ((k, x1, x1) :: e)) ++ (cond (Nat.blt H b) [frc (Nat.succ H) fun x => again ((k, x, b) :: e)] []))) bad
    | _ => bad))
end SI
section SJ
variable {β : Type} (R : XRecs) (nw : List (List Value)) (bad : β) (many : List β → β) (fin : SV → Nat → Nat → β)
variable (ih : SE → SH → Nat → Nat → Nat → Nat → XRec → List (Option SV) → List SV → List SF → β)
noncomputable def sa_aconst_null (sn : Nat) (G : Nat → List (Option SV) → List SV → β) (A : SE → β) (e : SE) (h : SH) (n sl mi pc : Nat) (r : XRec) (ls : List (Option SV)) (st : List SV) (fs : List SF) : β := G 1 ls (.inl .null :: st)
noncomputable def sa_iconst (k : Int) (sn : Nat) (G : Nat → List (Option SV) → List SV → β) (A : SE → β) (e : SE) (h : SH) (n sl mi pc : Nat) (r : XRec) (ls : List (Option SV)) (st : List SV) (fs : List SF) : β := sciK (Int32.ofInt k) fun v => G 1 ls (v :: st)
noncomputable def sa_bipush (k : Int) (sn : Nat) (G : Nat → List (Option SV) → List SV → β) (A : SE → β) (e : SE) (h : SH) (n sl mi pc : Nat) (r : XRec) (ls : List (Option SV)) (st : List SV) (fs : List SF) : β := sciK (Int8.ofInt k).toInt32 fun v => G 2 ls (v :: st)
noncomputable def sa_sipush (k : Int) (sn : Nat) (G : Nat → List (Option SV) → List SV → β) (A : SE → β) (e : SE) (h : SH) (n sl mi pc : Nat) (r : XRec) (ls : List (Option SV)) (st : List SV) (fs : List SF) : β := sciK (Int16.ofInt k).toInt32 fun v => G 3 ls (v :: st)
noncomputable def sa_lconst (k : Fin 2) (sn : Nat) (G : Nat → List (Option SV) → List SV → β) (A : SE → β) (e : SE) (h : SH) (n sl mi pc : Nat) (r : XRec) (ls : List (Option SV)) (st : List SV) (fs : List SF) : β := sclK (Int64.ofNat (k : Nat)) fun v => G 1 ls (v :: st)
noncomputable def sa_dconst (k : Fin 2) (sn : Nat) (G : Nat → List (Option SV) → List SV → β) (A : SE → β) (e : SE) (h : SH) (n sl mi pc : Nat) (r : XRec) (ls : List (Option SV)) (st : List SV) (fs : List SF) : β := cond (decide (k = 0)) (G 1 ls (.inl (.double FP.dconst0) :: st)) bad
noncomputable def sa_ldc (k : Nat) (sn : Nat) (G : Nat → List (Option SV) → List SV → β) (A : SE → β) (e : SE) (h : SH) (n sl mi pc : Nat) (r : XRec) (ls : List (Option SV)) (st : List SV) (fs : List SF) : β := match qfind r.2.2 k with
    | some (4, _, _, _, .int v) => sciK v fun v => G 2 ls (v :: st)
    | _ => bad
noncomputable def sa_ldc_w (k : Nat) (sn : Nat) (G : Nat → List (Option SV) → List SV → β) (A : SE → β) (e : SE) (h : SH) (n sl mi pc : Nat) (r : XRec) (ls : List (Option SV)) (st : List SV) (fs : List SF) : β := match qfind r.2.2 k with
    | some (4, _, _, _, .int v) => sciK v fun v => G 3 ls (v :: st)
    | _ => bad
noncomputable def sa_ldc2_w (k : Nat) (sn : Nat) (G : Nat → List (Option SV) → List SV → β) (A : SE → β) (e : SE) (h : SH) (n sl mi pc : Nat) (r : XRec) (ls : List (Option SV)) (st : List SV) (fs : List SF) : β := match qfind r.2.2 k with
    | some (4, _, _, _, .long v) => sclK v fun v => G 3 ls (v :: st)
    | _ => bad
noncomputable def sa_iload (k : Nat) (sn : Nat) (G : Nat → List (Option SV) → List SV → β) (A : SE → β) (e : SE) (h : SH) (n sl mi pc : Nat) (r : XRec) (ls : List (Option SV)) (st : List SV) (fs : List SF) : β := sldK bad ls k 0 fun v => G 2 ls (v :: st)
noncomputable def sa_iload_n (k : Fin 4) (sn : Nat) (G : Nat → List (Option SV) → List SV → β) (A : SE → β) (e : SE) (h : SH) (n sl mi pc : Nat) (r : XRec) (ls : List (Option SV)) (st : List SV) (fs : List SF) : β := sldK bad ls k 0 fun v => G 1 ls (v :: st)
noncomputable def sa_lload (k : Nat) (sn : Nat) (G : Nat → List (Option SV) → List SV → β) (A : SE → β) (e : SE) (h : SH) (n sl mi pc : Nat) (r : XRec) (ls : List (Option SV)) (st : List SV) (fs : List SF) : β := sldK bad ls k 1 fun v => G 2 ls (v :: st)
noncomputable def sa_lload_n (k : Fin 4) (sn : Nat) (G : Nat → List (Option SV) → List SV → β) (A : SE → β) (e : SE) (h : SH) (n sl mi pc : Nat) (r : XRec) (ls : List (Option SV)) (st : List SV) (fs : List SF) : β := sldK bad ls k 1 fun v => G 1 ls (v :: st)
noncomputable def sa_aload (k : Nat) (sn : Nat) (G : Nat → List (Option SV) → List SV → β) (A : SE → β) (e : SE) (h : SH) (n sl mi pc : Nat) (r : XRec) (ls : List (Option SV)) (st : List SV) (fs : List SF) : β := sldK bad ls k 2 fun v => G 2 ls (v :: st)
noncomputable def sa_aload_n (k : Fin 4) (sn : Nat) (G : Nat → List (Option SV) → List SV → β) (A : SE → β) (e : SE) (h : SH) (n sl mi pc : Nat) (r : XRec) (ls : List (Option SV)) (st : List SV) (fs : List SF) : β := sldK bad ls k 2 fun v => G 1 ls (v :: st)
noncomputable def sa_dload (k : Nat) (sn : Nat) (G : Nat → List (Option SV) → List SV → β) (A : SE → β) (e : SE) (h : SH) (n sl mi pc : Nat) (r : XRec) (ls : List (Option SV)) (st : List SV) (fs : List SF) : β := sldK bad ls k 4 fun v => G 2 ls (v :: st)
noncomputable def sa_dload_n (k : Fin 4) (sn : Nat) (G : Nat → List (Option SV) → List SV → β) (A : SE → β) (e : SE) (h : SH) (n sl mi pc : Nat) (r : XRec) (ls : List (Option SV)) (st : List SV) (fs : List SF) : β := sldK bad ls k 4 fun v => G 1 ls (v :: st)
noncomputable def sa_istore (k : Nat) (sn : Nat) (G : Nat → List (Option SV) → List SV → β) (A : SE → β) (e : SE) (h : SH) (n sl mi pc : Nat) (r : XRec) (ls : List (Option SV)) (st : List SV) (fs : List SF) : β := sst1K bad ls k 0 st fun l r2 => G 2 l r2
noncomputable def sa_istore_n (k : Fin 4) (sn : Nat) (G : Nat → List (Option SV) → List SV → β) (A : SE → β) (e : SE) (h : SH) (n sl mi pc : Nat) (r : XRec) (ls : List (Option SV)) (st : List SV) (fs : List SF) : β := sst1K bad ls k 0 st fun l r2 => G 1 l r2
noncomputable def sa_astore (k : Nat) (sn : Nat) (G : Nat → List (Option SV) → List SV → β) (A : SE → β) (e : SE) (h : SH) (n sl mi pc : Nat) (r : XRec) (ls : List (Option SV)) (st : List SV) (fs : List SF) : β := sst1K bad ls k 2 st fun l r2 => G 2 l r2
noncomputable def sa_astore_n (k : Fin 4) (sn : Nat) (G : Nat → List (Option SV) → List SV → β) (A : SE → β) (e : SE) (h : SH) (n sl mi pc : Nat) (r : XRec) (ls : List (Option SV)) (st : List SV) (fs : List SF) : β := sst1K bad ls k 2 st fun l r2 => G 1 l r2
noncomputable def sa_lstore (k : Nat) (sn : Nat) (G : Nat → List (Option SV) → List SV → β) (A : SE → β) (e : SE) (h : SH) (n sl mi pc : Nat) (r : XRec) (ls : List (Option SV)) (st : List SV) (fs : List SF) : β := sst2K bad ls k 1 st fun l r2 => G 2 l r2
noncomputable def sa_lstore_n (k : Fin 4) (sn : Nat) (G : Nat → List (Option SV) → List SV → β) (A : SE → β) (e : SE) (h : SH) (n sl mi pc : Nat) (r : XRec) (ls : List (Option SV)) (st : List SV) (fs : List SF) : β := sst2K bad ls k 1 st fun l r2 => G 1 l r2
noncomputable def sa_dstore (k : Nat) (sn : Nat) (G : Nat → List (Option SV) → List SV → β) (A : SE → β) (e : SE) (h : SH) (n sl mi pc : Nat) (r : XRec) (ls : List (Option SV)) (st : List SV) (fs : List SF) : β := sst2K bad ls k 4 st fun l r2 => G 2 l r2
noncomputable def sa_dstore_n (k : Fin 4) (sn : Nat) (G : Nat → List (Option SV) → List SV → β) (A : SE → β) (e : SE) (h : SH) (n sl mi pc : Nat) (r : XRec) (ls : List (Option SV)) (st : List SV) (fs : List SF) : β := sst2K bad ls k 4 st fun l r2 => G 1 l r2
noncomputable def sa_iinc (k : Nat) (m : Int) (sn : Nat) (G : Nat → List (Option SV) → List SV → β) (A : SE → β) (e : SE) (h : SH) (n sl mi pc : Nat) (r : XRec) (ls : List (Option SV)) (st : List SV) (fs : List SF) : β := match lget ls k with
    | some (some (.inr (1, c, zs))) => frc (Nat.mod (Nat.add c (Int32.ofInt m).toUInt32.toNat) 4294967296) fun c2 => sput1K ls k (.inr (1, c2, zs)) fun l => G 3 l st
    | _ => bad
noncomputable def sa_dup (sn : Nat) (G : Nat → List (Option SV) → List SV → β) (A : SE → β) (e : SE) (h : SH) (n sl mi pc : Nat) (r : XRec) (ls : List (Option SV)) (st : List SV) (fs : List SF) : β := match st with
    | v :: rest => cond (swide v) bad (G 1 ls (v :: v :: rest))
    | _ => bad
noncomputable def sa_dup_x1 (sn : Nat) (G : Nat → List (Option SV) → List SV → β) (A : SE → β) (e : SE) (h : SH) (n sl mi pc : Nat) (r : XRec) (ls : List (Option SV)) (st : List SV) (fs : List SF) : β := match st with
    | v :: w :: rest => cond (swide v || swide w) bad (G 1 ls (v :: w :: v :: rest))
    | _ => bad
noncomputable def sa_dup2 (sn : Nat) (G : Nat → List (Option SV) → List SV → β) (A : SE → β) (e : SE) (h : SH) (n sl mi pc : Nat) (r : XRec) (ls : List (Option SV)) (st : List SV) (fs : List SF) : β := match st with
    | v :: w :: rest => cond (swide v || swide w) bad (G 1 ls (v :: w :: v :: w :: rest))
    | _ => bad
noncomputable def sa_pop (sn : Nat) (G : Nat → List (Option SV) → List SV → β) (A : SE → β) (e : SE) (h : SH) (n sl mi pc : Nat) (r : XRec) (ls : List (Option SV)) (st : List SV) (fs : List SF) : β := match st with
    | v :: rest => cond (swide v) bad (G 1 ls rest)
    | _ => bad
noncomputable def sa_iadd (sn : Nat) (G : Nat → List (Option SV) → List SV → β) (A : SE → β) (e : SE) (h : SH) (n sl mi pc : Nat) (r : XRec) (ls : List (Option SV)) (st : List SV) (fs : List SF) : β := slin2K bad many e st A fun v rest => G 1 ls (v :: rest)
noncomputable def sa_isub (sn : Nat) (G : Nat → List (Option SV) → List SV → β) (A : SE → β) (e : SE) (h : SH) (n sl mi pc : Nat) (r : XRec) (ls : List (Option SV)) (st : List SV) (fs : List SF) : β := sbin2K bad many e st A fun a b rest => sciK (Int32.ofNat a - Int32.ofNat b) fun v => G 1 ls (v :: rest)
noncomputable def sa_imul (sn : Nat) (G : Nat → List (Option SV) → List SV → β) (A : SE → β) (e : SE) (h : SH) (n sl mi pc : Nat) (r : XRec) (ls : List (Option SV)) (st : List SV) (fs : List SF) : β := sbin2K bad many e st A fun a b rest => sciK (Int32.ofNat a * Int32.ofNat b) fun v => G 1 ls (v :: rest)
noncomputable def sa_iand (sn : Nat) (G : Nat → List (Option SV) → List SV → β) (A : SE → β) (e : SE) (h : SH) (n sl mi pc : Nat) (r : XRec) (ls : List (Option SV)) (st : List SV) (fs : List SF) : β := sandK bad many e st A fun v rest => G 1 ls (v :: rest)
noncomputable def sa_ior (sn : Nat) (G : Nat → List (Option SV) → List SV → β) (A : SE → β) (e : SE) (h : SH) (n sl mi pc : Nat) (r : XRec) (ls : List (Option SV)) (st : List SV) (fs : List SF) : β := sbin2K bad many e st A fun a b rest => sciK (Int32.ofNat a ||| Int32.ofNat b) fun v => G 1 ls (v :: rest)
noncomputable def sa_ixor (sn : Nat) (G : Nat → List (Option SV) → List SV → β) (A : SE → β) (e : SE) (h : SH) (n sl mi pc : Nat) (r : XRec) (ls : List (Option SV)) (st : List SV) (fs : List SF) : β := sbin2K bad many e st A fun a b rest => sciK (Int32.ofNat a ^^^ Int32.ofNat b) fun v => G 1 ls (v :: rest)
noncomputable def sa_ishr (sn : Nat) (G : Nat → List (Option SV) → List SV → β) (A : SE → β) (e : SE) (h : SH) (n sl mi pc : Nat) (r : XRec) (ls : List (Option SV)) (st : List SV) (fs : List SF) : β := sbin2K bad many e st A fun a b rest => sciK (Int32.ofNat a >>> (Int32.ofNat b &&& 31)) fun v => G 1 ls (v :: rest)
noncomputable def sa_iushr (sn : Nat) (G : Nat → List (Option SV) → List SV → β) (A : SE → β) (e : SE) (h : SH) (n sl mi pc : Nat) (r : XRec) (ls : List (Option SV)) (st : List SV) (fs : List SF) : β := sushK bad many e st A fun v rest => G 1 ls (v :: rest)
noncomputable def sa_irem (sn : Nat) (G : Nat → List (Option SV) → List SV → β) (A : SE → β) (e : SE) (h : SH) (n sl mi pc : Nat) (r : XRec) (ls : List (Option SV)) (st : List SV) (fs : List SF) : β := sbin2K bad many e st A fun a b rest => cond (decide (Int32.ofNat b = 0)) bad (sciK (Int32.ofNat a - Int32.ofNat a / Int32.ofNat b * Int32.ofNat b) fun v => G 1 ls (v :: rest))
noncomputable def sa_ladd (sn : Nat) (G : Nat → List (Option SV) → List SV → β) (A : SE → β) (e : SE) (h : SH) (n sl mi pc : Nat) (r : XRec) (ls : List (Option SV)) (st : List SV) (fs : List SF) : β := slng2K bad st (fun x y => x + y) fun v rest => G 1 ls (v :: rest)
noncomputable def sa_lsub (sn : Nat) (G : Nat → List (Option SV) → List SV → β) (A : SE → β) (e : SE) (h : SH) (n sl mi pc : Nat) (r : XRec) (ls : List (Option SV)) (st : List SV) (fs : List SF) : β := slng2K bad st (fun x y => x - y) fun v rest => G 1 ls (v :: rest)
noncomputable def sa_land (sn : Nat) (G : Nat → List (Option SV) → List SV → β) (A : SE → β) (e : SE) (h : SH) (n sl mi pc : Nat) (r : XRec) (ls : List (Option SV)) (st : List SV) (fs : List SF) : β := slng2K bad st (fun x y => x &&& y) fun v rest => G 1 ls (v :: rest)
noncomputable def sa_lor (sn : Nat) (G : Nat → List (Option SV) → List SV → β) (A : SE → β) (e : SE) (h : SH) (n sl mi pc : Nat) (r : XRec) (ls : List (Option SV)) (st : List SV) (fs : List SF) : β := slng2K bad st (fun x y => x ||| y) fun v rest => G 1 ls (v :: rest)
noncomputable def sa_lxor (sn : Nat) (G : Nat → List (Option SV) → List SV → β) (A : SE → β) (e : SE) (h : SH) (n sl mi pc : Nat) (r : XRec) (ls : List (Option SV)) (st : List SV) (fs : List SF) : β := slng2K bad st (fun x y => x ^^^ y) fun v rest => G 1 ls (v :: rest)
noncomputable def sa_lshl (sn : Nat) (G : Nat → List (Option SV) → List SV → β) (A : SE → β) (e : SE) (h : SH) (n sl mi pc : Nat) (r : XRec) (ls : List (Option SV)) (st : List SV) (fs : List SF) : β := slshK bad many e st A (fun x y => x <<< (y.toInt64 &&& 63)) fun v rest => G 1 ls (v :: rest)
noncomputable def sa_lshr (sn : Nat) (G : Nat → List (Option SV) → List SV → β) (A : SE → β) (e : SE) (h : SH) (n sl mi pc : Nat) (r : XRec) (ls : List (Option SV)) (st : List SV) (fs : List SF) : β := slshK bad many e st A (fun x y => x >>> (y.toInt64 &&& 63)) fun v rest => G 1 ls (v :: rest)
noncomputable def sa_lushr (sn : Nat) (G : Nat → List (Option SV) → List SV → β) (A : SE → β) (e : SE) (h : SH) (n sl mi pc : Nat) (r : XRec) (ls : List (Option SV)) (st : List SV) (fs : List SF) : β := slshK bad many e st A (fun x y => (x.toUInt64 >>> (y.toInt64.toUInt64 &&& Int64.toUInt64 63)).toInt64) fun v rest => G 1 ls (v :: rest)
noncomputable def sa_lcmp (sn : Nat) (G : Nat → List (Option SV) → List SV → β) (A : SE → β) (e : SE) (h : SH) (n sl mi pc : Nat) (r : XRec) (ls : List (Option SV)) (st : List SV) (fs : List SF) : β := match st with
    | .inl (.long y) :: .inl (.long x) :: rest => sciK (lg_cmp x y) fun v => G 1 ls (v :: rest)
    | .inr (2, c, zs) :: .inr (2, c2, zs2) :: rest => cond (Nat.beq c c2 && szeq zs zs2) (G 1 ls (.inr (1, 0, []) :: rest)) bad
    | _ => bad
noncomputable def sa_i2l (sn : Nat) (G : Nat → List (Option SV) → List SV → β) (A : SE → β) (e : SE) (h : SH) (n sl mi pc : Nat) (r : XRec) (ls : List (Option SV)) (st : List SV) (fs : List SF) : β := match st with
    | .inr (1, c, z :: zs) :: rest => G 1 ls (.inr (2, c, z :: zs) :: rest)
    | v :: rest => sconK bad many e v A fun c => sclK (Int32.ofNat c).toInt64 fun v => G 1 ls (v :: rest)
    | _ => bad
noncomputable def sa_l2i (sn : Nat) (G : Nat → List (Option SV) → List SV → β) (A : SE → β) (e : SE) (h : SH) (n sl mi pc : Nat) (r : XRec) (ls : List (Option SV)) (st : List SV) (fs : List SF) : β := match st with
    | .inl (.long x) :: rest => sciK x.toInt32 fun v => G 1 ls (v :: rest)
    | _ => bad
noncomputable def sa_i2f (sn : Nat) (G : Nat → List (Option SV) → List SV → β) (A : SE → β) (e : SE) (h : SH) (n sl mi pc : Nat) (r : XRec) (ls : List (Option SV)) (st : List SV) (fs : List SF) : β := match st with
    | v :: rest => sconK bad many e v A fun c => G 1 ls (.inl (.float (FP.i2f (Int32.ofNat c))) :: rest)
    | _ => bad
noncomputable def sa_f2d (sn : Nat) (G : Nat → List (Option SV) → List SV → β) (A : SE → β) (e : SE) (h : SH) (n sl mi pc : Nat) (r : XRec) (ls : List (Option SV)) (st : List SV) (fs : List SF) : β := match st with
    | .inl (.float x) :: rest => cond (xn64 (FP.f2d x)) (G 1 ls (.inl (.double (FP.f2d x)) :: rest)) bad
    | _ => bad
noncomputable def sa_fdiv (sn : Nat) (G : Nat → List (Option SV) → List SV → β) (A : SE → β) (e : SE) (h : SH) (n sl mi pc : Nat) (r : XRec) (ls : List (Option SV)) (st : List SV) (fs : List SF) : β := match st with
    | .inl (.float y) :: .inl (.float x) :: rest => cond (xn32 (FP.fdiv x y)) (G 1 ls (.inl (.float (FP.fdiv x y)) :: rest)) bad
    | _ => bad
noncomputable def sa_dcmp (op : ClassFile.CmpOp) (sn : Nat) (G : Nat → List (Option SV) → List SV → β) (A : SE → β) (e : SE) (h : SH) (n sl mi pc : Nat) (r : XRec) (ls : List (Option SV)) (st : List SV) (fs : List SF) : β := match st with
    | .inl (.double y) :: .inl (.double x) :: rest => sciK (Op.cmpValue (FP.dcmp x y) op) fun v => G 1 ls (v :: rest)
    | _ => bad
noncomputable def sa_ifCond (c : ClassFile.Cond) (o : Int) (sn : Nat) (G : Nat → List (Option SV) → List SV → β) (A : SE → β) (e : SE) (h : SH) (n sl mi pc : Nat) (r : XRec) (ls : List (Option SV)) (st : List SV) (fs : List SF) : β := match st with
    | v :: rest => scmpK bad many e v (.inr (1, 0, [])) fun e2 w => sbrK bad (sbc c w) pc o fun pc2 => ih e2 h n sl mi pc2 r ls rest fs
    | _ => bad
noncomputable def sa_if_icmp (c : ClassFile.Cond) (o : Int) (sn : Nat) (G : Nat → List (Option SV) → List SV → β) (A : SE → β) (e : SE) (h : SH) (n sl mi pc : Nat) (r : XRec) (ls : List (Option SV)) (st : List SV) (fs : List SF) : β := match st with
    | y :: x :: rest => scmpK bad many e x y fun e2 w => sbrK bad (sbc c w) pc o fun pc2 => ih e2 h n sl mi pc2 r ls rest fs
    | _ => bad
noncomputable def sa_ifnull (o : Int) (sn : Nat) (G : Nat → List (Option SV) → List SV → β) (A : SE → β) (e : SE) (h : SH) (n sl mi pc : Nat) (r : XRec) (ls : List (Option SV)) (st : List SV) (fs : List SF) : β := match st with
    | .inl .null :: rest => sbrK bad true pc o fun pc2 => ih e h n sl mi pc2 r ls rest fs
    | .inl (.ref _) :: rest => sbrK bad false pc o fun pc2 => ih e h n sl mi pc2 r ls rest fs
    | _ => bad
noncomputable def sa_ifnonnull (o : Int) (sn : Nat) (G : Nat → List (Option SV) → List SV → β) (A : SE → β) (e : SE) (h : SH) (n sl mi pc : Nat) (r : XRec) (ls : List (Option SV)) (st : List SV) (fs : List SF) : β := match st with
    | .inl .null :: rest => sbrK bad false pc o fun pc2 => ih e h n sl mi pc2 r ls rest fs
    | .inl (.ref _) :: rest => sbrK bad true pc o fun pc2 => ih e h n sl mi pc2 r ls rest fs
    | _ => bad
noncomputable def sa_if_acmp_eq (o : Int) (sn : Nat) (G : Nat → List (Option SV) → List SV → β) (A : SE → β) (e : SE) (h : SH) (n sl mi pc : Nat) (r : XRec) (ls : List (Option SV)) (st : List SV) (fs : List SF) : β := match st with
    | .inl (.ref b) :: .inl (.ref a) :: rest => cond (!(Nat.beq a 0) && (!(Nat.beq b 0) && (Nat.blt a n && Nat.blt b n))) (sbrK bad (Nat.beq a b) pc o fun pc2 => ih e h n sl mi pc2 r ls rest fs) bad
    | _ => bad
noncomputable def sa_goto (o : Int) (sn : Nat) (G : Nat → List (Option SV) → List SV → β) (A : SE → β) (e : SE) (h : SH) (n sl mi pc : Nat) (r : XRec) (ls : List (Option SV)) (st : List SV) (fs : List SF) : β := sjmpK bad pc o fun pc2 => ih e h n sl mi pc2 r ls st fs
noncomputable def sa_tableswitch (d : Int) (lo : Int) (hi : Int) (offs : Array Int) (sn : Nat) (G : Nat → List (Option SV) → List SV → β) (A : SE → β) (e : SE) (h : SH) (n sl mi pc : Nat) (r : XRec) (ls : List (Option SV)) (st : List SV) (fs : List SF) : β := match st with
    | v :: rest => stabK bad many e pc d lo hi offs v A fun pc2 => ih e h n sl mi pc2 r ls rest fs
    | _ => bad
noncomputable def sa_getfield (k : Nat) (sn : Nat) (G : Nat → List (Option SV) → List SV → β) (A : SE → β) (e : SE) (h : SH) (n sl mi pc : Nat) (r : XRec) (ls : List (Option SV)) (st : List SV) (fs : List SF) : β := match qfind r.2.2 k with
    | some (0, ci, f, _, _) => match st with
      | .inl (.ref a) :: rest => match hget h a with
        | some (.inl (c, row)) => cond (Nat.beq c ci) (match rget row f with
          | some v => G 3 ls (v :: rest)
          | none => bad) bad
        | _ => bad
      | _ => bad
    | _ => bad
noncomputable def sa_putfield (k : Nat) (sn : Nat) (G : Nat → List (Option SV) → List SV → β) (A : SE → β) (e : SE) (h : SH) (n sl mi pc : Nat) (r : XRec) (ls : List (Option SV)) (st : List SV) (fs : List SF) : β := match qfind r.2.2 k with
    | some (0, ci, f, ty, .ref _) => match st with
      | v :: .inl (.ref a) :: rest => match hget h a with
        | some (.inl (c, row)) => cond (Nat.beq c ci && sxok ty v) (rsetK bad row f v fun row2 => hputK bad h a (some (.inl (c, row2))) fun h2 => frc (Nat.add pc 3) fun pc2 => ih e h2 n sl mi pc2 r ls rest fs) bad
        | _ => bad
      | _ => bad
    | _ => bad
noncomputable def sa_getstatic (k : Nat) (sn : Nat) (G : Nat → List (Option SV) → List SV → β) (A : SE → β) (e : SE) (h : SH) (n sl mi pc : Nat) (r : XRec) (ls : List (Option SV)) (st : List SV) (fs : List SF) : β := match qfind r.2.2 k with
    | some (8, _, _, _, _) => G 3 ls (.inl (.ref 1) :: st)
    | _ => bad
noncomputable def sa_iaload (sn : Nat) (G : Nat → List (Option SV) → List SV → β) (A : SE → β) (e : SE) (h : SH) (n sl mi pc : Nat) (r : XRec) (ls : List (Option SV)) (st : List SV) (fs : List SF) : β := saldK bad many sn e h st (fun t => t == 0) A fun v rest => G 1 ls (v :: rest)
noncomputable def sa_laload (sn : Nat) (G : Nat → List (Option SV) → List SV → β) (A : SE → β) (e : SE) (h : SH) (n sl mi pc : Nat) (r : XRec) (ls : List (Option SV)) (st : List SV) (fs : List SF) : β := saldK bad many sn e h st (fun t => t == 1) A fun v rest => G 1 ls (v :: rest)
noncomputable def sa_baload (sn : Nat) (G : Nat → List (Option SV) → List SV → β) (A : SE → β) (e : SE) (h : SH) (n sl mi pc : Nat) (r : XRec) (ls : List (Option SV)) (st : List SV) (fs : List SF) : β := saldK bad many sn e h st (fun t => t == 2) A fun v rest => G 1 ls (v :: rest)
noncomputable def sa_aaload (sn : Nat) (G : Nat → List (Option SV) → List SV → β) (A : SE → β) (e : SE) (h : SH) (n sl mi pc : Nat) (r : XRec) (ls : List (Option SV)) (st : List SV) (fs : List SF) : β := saldK bad many sn e h st (fun t => Nat.blt 2 t) A fun v rest => G 1 ls (v :: rest)
noncomputable def sa_iastore (sn : Nat) (G : Nat → List (Option SV) → List SV → β) (A : SE → β) (e : SE) (h : SH) (n sl mi pc : Nat) (r : XRec) (ls : List (Option SV)) (st : List SV) (fs : List SF) : β := match st with
    | v :: ix :: .inl (.ref a) :: rest => cond (Nat.beq (skd v) 0) (sastK bad many e h a 0 ix v A fun h2 => frc (Nat.succ pc) fun pc2 => ih e h2 n sl mi pc2 r ls rest fs) bad
    | _ => bad
noncomputable def sa_lastore (sn : Nat) (G : Nat → List (Option SV) → List SV → β) (A : SE → β) (e : SE) (h : SH) (n sl mi pc : Nat) (r : XRec) (ls : List (Option SV)) (st : List SV) (fs : List SF) : β := match st with
    | v :: ix :: .inl (.ref a) :: rest => cond (Nat.beq (skd v) 1) (sastK bad many e h a 1 ix v A fun h2 => frc (Nat.succ pc) fun pc2 => ih e h2 n sl mi pc2 r ls rest fs) bad
    | _ => bad
noncomputable def sa_bastore (sn : Nat) (G : Nat → List (Option SV) → List SV → β) (A : SE → β) (e : SE) (h : SH) (n sl mi pc : Nat) (r : XRec) (ls : List (Option SV)) (st : List SV) (fs : List SF) : β := match st with
    | v :: ix :: .inl (.ref a) :: rest => sconK bad many e v A fun c => sciK (Int32.ofNat c &&& 1) fun v2 => sastK bad many e h a 2 ix v2 A fun h2 => frc (Nat.succ pc) fun pc2 => ih e h2 n sl mi pc2 r ls rest fs
    | _ => bad
noncomputable def sa_aastore (sn : Nat) (G : Nat → List (Option SV) → List SV → β) (A : SE → β) (e : SE) (h : SH) (n sl mi pc : Nat) (r : XRec) (ls : List (Option SV)) (st : List SV) (fs : List SF) : β := match st with
    | .inl .null :: ix :: .inl (.ref a) :: rest => match hget h a with
      | some (.inr (t, _)) => cond (Nat.blt 2 t && Nat.blt t 7) (sastK bad many e h a t ix (.inl .null) A fun h2 => frc (Nat.succ pc) fun pc2 => ih e h2 n sl mi pc2 r ls rest fs) bad
      | _ => bad
    | .inl (.ref v) :: ix :: .inl (.ref a) :: rest => match hget h a, hget h v with
      | some (.inr (t, _)), some (.inl (c, _)) => cond ((t == 3 && c == 1) || (t == 4 && c == 11) || (t == 5 && c == 12) || (t == 6 && c == 14)) (sastK bad many e h a t ix (.inl (.ref v)) A fun h2 => frc (Nat.succ pc) fun pc2 => ih e h2 n sl mi pc2 r ls rest fs) bad
      | _, _ => bad
    | _ => bad
noncomputable def sa_arraylength (sn : Nat) (G : Nat → List (Option SV) → List SV → β) (A : SE → β) (e : SE) (h : SH) (n sl mi pc : Nat) (r : XRec) (ls : List (Option SV)) (st : List SV) (fs : List SF) : β := match st with
    | .inl (.ref a) :: rest => Nat.rec (motive := fun _ => β) (G 1 ls (.inr (1, sn, []) :: rest)) (fun a1 _ => Nat.rec (motive := fun _ => β) (G 1 ls (.inr (1, 0, []) :: rest)) (fun _ _ => match hget h a with
      | some (.inr (_, len, _)) => G 1 ls (.inr (1, len, []) :: rest)
      | _ => bad) a1) a
    | _ => bad
noncomputable def sa_newarray_int (sn : Nat) (G : Nat → List (Option SV) → List SV → β) (A : SE → β) (e : SE) (h : SH) (n sl mi pc : Nat) (r : XRec) (ls : List (Option SV)) (st : List SV) (fs : List SF) : β := snewK bad many e h n sl st 0 (.inr (1, 0, [])) A fun h2 n2 sl2 st2 => frc (Nat.add pc 2) fun pc2 => ih e h2 n2 sl2 mi pc2 r ls st2 fs
noncomputable def sa_newarray_long (sn : Nat) (G : Nat → List (Option SV) → List SV → β) (A : SE → β) (e : SE) (h : SH) (n sl mi pc : Nat) (r : XRec) (ls : List (Option SV)) (st : List SV) (fs : List SF) : β := snewK bad many e h n sl st 1 (.inl (.long 0)) A fun h2 n2 sl2 st2 => frc (Nat.add pc 2) fun pc2 => ih e h2 n2 sl2 mi pc2 r ls st2 fs
noncomputable def sa_newarray_boolean (sn : Nat) (G : Nat → List (Option SV) → List SV → β) (A : SE → β) (e : SE) (h : SH) (n sl mi pc : Nat) (r : XRec) (ls : List (Option SV)) (st : List SV) (fs : List SF) : β := snewK bad many e h n sl st 2 (.inr (1, 0, [])) A fun h2 n2 sl2 st2 => frc (Nat.add pc 2) fun pc2 => ih e h2 n2 sl2 mi pc2 r ls st2 fs
noncomputable def sa_anewarray (k : Nat) (sn : Nat) (G : Nat → List (Option SV) → List SV → β) (A : SE → β) (e : SE) (h : SH) (n sl mi pc : Nat) (r : XRec) (ls : List (Option SV)) (st : List SV) (fs : List SF) : β := match qfind r.2.2 (k + 100000) with
    | some (3, t, _, _, _) => snewK bad many e h n sl st t (.inl .null) A fun h2 n2 sl2 st2 => frc (Nat.add pc 3) fun pc2 => ih e h2 n2 sl2 mi pc2 r ls st2 fs
    | _ => bad
noncomputable def sa_new (k : Nat) (sn : Nat) (G : Nat → List (Option SV) → List SV → β) (A : SE → β) (e : SE) (h : SH) (n sl mi pc : Nat) (r : XRec) (ls : List (Option SV)) (st : List SV) (fs : List SF) : β := match qfind r.2.2 k with
    | some (2, ci, _, _, _) => match lget nw ci with
      | some fl => hputK bad h n (some (.inl (ci, schunk 9 (fl.map snorm)))) fun h2 => frc (Nat.succ n) fun n2 => frc (Nat.add sl fl.length) fun sl2 => frc (Nat.add pc 3) fun pc2 => ih e h2 n2 sl2 mi pc2 r ls (.inl (.ref n) :: st) fs
      | none => bad
    | some (5, x, ic, _, _) => cond (r.1.hh.isEmpty && (Nat.ble (ssum st) 8 && xthr (xPof R nw) mi pc ic)) (hputK bad h n none fun h2 => frc (Nat.succ n) fun n2 => frc (Nat.add sl 6) fun sl2 => sthrK R nw bad fin ih e h2 n2 sl2 x fs) bad
    | _ => bad
noncomputable def sa_checkcast (k : Nat) (sn : Nat) (G : Nat → List (Option SV) → List SV → β) (A : SE → β) (e : SE) (h : SH) (n sl mi pc : Nat) (r : XRec) (ls : List (Option SV)) (st : List SV) (fs : List SF) : β := match qfind r.2.2 (k + 200000) with
    | some (9, c, _, _, _) => match st with
      | .inl (.ref a) :: rest => match hget h a with
        | some (.inl (c2, _)) => cond (Nat.beq c2 c) (G 3 ls (.inl (.ref a) :: rest)) bad
        | _ => bad
      | _ => bad
    | _ => bad
noncomputable def sa_invokevirtual (k : Nat) (sn : Nat) (G : Nat → List (Option SV) → List SV → β) (A : SE → β) (e : SE) (h : SH) (n sl mi pc : Nat) (r : XRec) (ls : List (Option SV)) (st : List SV) (fs : List SF) : β := match qfind r.2.2 k with
    | some (1, j, c + 2, _, _) => scallK R bad ih e h n sl mi pc r ls st fs j (c + 2)
    | _ => bad
noncomputable def sa_invokespecial (k : Nat) (sn : Nat) (G : Nat → List (Option SV) → List SV → β) (A : SE → β) (e : SE) (h : SH) (n sl mi pc : Nat) (r : XRec) (ls : List (Option SV)) (st : List SV) (fs : List SF) : β := match qfind r.2.2 k with
    | some (7, _, _, _, _) => match st with
      | .inl (.ref _) :: rest => cond (Nat.ble (ssum rest) 8) (G 3 ls rest) bad
      | _ => bad
    | some (1, j, 1, _, _) => scallK R bad ih e h n sl mi pc r ls st fs j 1
    | _ => bad
noncomputable def sa_invokestatic (k : Nat) (sn : Nat) (G : Nat → List (Option SV) → List SV → β) (A : SE → β) (e : SE) (h : SH) (n sl mi pc : Nat) (r : XRec) (ls : List (Option SV)) (st : List SV) (fs : List SF) : β := match qfind r.2.2 k with
    | some (1, j, 0, _, _) => scallK R bad ih e h n sl mi pc r ls st fs j 0
    | some (10, _, _, _, _) => scopyK bad many h st e A fun h2 rest => frc (Nat.add pc 3) fun pc2 => ih e h2 n sl mi pc2 r ls rest fs
    | _ => bad
noncomputable def sa_return (sn : Nat) (G : Nat → List (Option SV) → List SV → β) (A : SE → β) (e : SE) (h : SH) (n sl mi pc : Nat) (r : XRec) (ls : List (Option SV)) (st : List SV) (fs : List SF) : β := match st with
    | [] => cond (sxokr r.1.ret none) (sretK bad fin ih e h n sl none fs) bad
    | _ => bad
noncomputable def sa_ireturn (sn : Nat) (G : Nat → List (Option SV) → List SV → β) (A : SE → β) (e : SE) (h : SH) (n sl mi pc : Nat) (r : XRec) (ls : List (Option SV)) (st : List SV) (fs : List SF) : β := match st with
    | [v] => cond (Nat.beq (skd v) 0 && sxokr r.1.ret (some v)) (sretK bad fin ih e h n sl (some v) fs) bad
    | _ => bad
noncomputable def sa_lreturn (sn : Nat) (G : Nat → List (Option SV) → List SV → β) (A : SE → β) (e : SE) (h : SH) (n sl mi pc : Nat) (r : XRec) (ls : List (Option SV)) (st : List SV) (fs : List SF) : β := match st with
    | [v] => cond (Nat.beq (skd v) 1 && sxokr r.1.ret (some v)) (sretK bad fin ih e h n sl (some v) fs) bad
    | _ => bad
noncomputable def sa_freturn (sn : Nat) (G : Nat → List (Option SV) → List SV → β) (A : SE → β) (e : SE) (h : SH) (n sl mi pc : Nat) (r : XRec) (ls : List (Option SV)) (st : List SV) (fs : List SF) : β := match st with
    | [v] => cond (Nat.beq (skd v) 3 && sxokr r.1.ret (some v)) (sretK bad fin ih e h n sl (some v) fs) bad
    | _ => bad
noncomputable def sa_dreturn (sn : Nat) (G : Nat → List (Option SV) → List SV → β) (A : SE → β) (e : SE) (h : SH) (n sl mi pc : Nat) (r : XRec) (ls : List (Option SV)) (st : List SV) (fs : List SF) : β := match st with
    | [v] => cond (Nat.beq (skd v) 4 && sxokr r.1.ret (some v)) (sretK bad fin ih e h n sl (some v) fs) bad
    | _ => bad
noncomputable def sa_areturn (sn : Nat) (G : Nat → List (Option SV) → List SV → β) (A : SE → β) (e : SE) (h : SH) (n sl mi pc : Nat) (r : XRec) (ls : List (Option SV)) (st : List SV) (fs : List SF) : β := match st with
    | [v] => cond (Nat.beq (skd v) 2 && sxokr r.1.ret (some v)) (sretK bad fin ih e h n sl (some v) fs) bad
    | _ => bad
abbrev SArm (β : Type) : Type := XRecs → List (List Value) → β → (List β → β) → (SV → Nat → Nat → β) → (SE → SH → Nat → Nat → Nat → Nat → XRec → List (Option SV) → List SV → List SF → β) → Nat → (Nat → List (Option SV) → List SV → β) → (SE → β) → SE → SH → Nat → Nat → Nat → Nat → XRec → List (Option SV) → List SV → List SF → β
noncomputable def sdisp (β : Type) (i : Instr) : SArm β := match i with
  | .aconst_null => fun R nw bad many fin ih => sa_aconst_null
  | .iconst k => fun R nw bad many fin ih => sa_iconst k
  | .bipush k => fun R nw bad many fin ih => sa_bipush k
  | .sipush k => fun R nw bad many fin ih => sa_sipush k
  | .lconst k => fun R nw bad many fin ih => sa_lconst k
  | .dconst k => fun R nw bad many fin ih => sa_dconst bad k
  | .ldc k => fun R nw bad many fin ih => sa_ldc bad k
  | .ldc_w k => fun R nw bad many fin ih => sa_ldc_w bad k
  | .ldc2_w k => fun R nw bad many fin ih => sa_ldc2_w bad k
  | .iload k => fun R nw bad many fin ih => sa_iload bad k
  | .iload_n k => fun R nw bad many fin ih => sa_iload_n bad k
  | .lload k => fun R nw bad many fin ih => sa_lload bad k
  | .lload_n k => fun R nw bad many fin ih => sa_lload_n bad k
  | .aload k => fun R nw bad many fin ih => sa_aload bad k
  | .aload_n k => fun R nw bad many fin ih => sa_aload_n bad k
  | .dload k => fun R nw bad many fin ih => sa_dload bad k
  | .dload_n k => fun R nw bad many fin ih => sa_dload_n bad k
  | .istore k => fun R nw bad many fin ih => sa_istore bad k
  | .istore_n k => fun R nw bad many fin ih => sa_istore_n bad k
  | .astore k => fun R nw bad many fin ih => sa_astore bad k
  | .astore_n k => fun R nw bad many fin ih => sa_astore_n bad k
  | .lstore k => fun R nw bad many fin ih => sa_lstore bad k
  | .lstore_n k => fun R nw bad many fin ih => sa_lstore_n bad k
  | .dstore k => fun R nw bad many fin ih => sa_dstore bad k
  | .dstore_n k => fun R nw bad many fin ih => sa_dstore_n bad k
  | .iinc k m => fun R nw bad many fin ih => sa_iinc bad k m
  | .dup => fun R nw bad many fin ih => sa_dup bad
  | .dup_x1 => fun R nw bad many fin ih => sa_dup_x1 bad
  | .dup2 => fun R nw bad many fin ih => sa_dup2 bad
  | .pop => fun R nw bad many fin ih => sa_pop bad
  | .iadd => fun R nw bad many fin ih => sa_iadd bad many
  | .isub => fun R nw bad many fin ih => sa_isub bad many
  | .imul => fun R nw bad many fin ih => sa_imul bad many
  | .iand => fun R nw bad many fin ih => sa_iand bad many
  | .ior => fun R nw bad many fin ih => sa_ior bad many
  | .ixor => fun R nw bad many fin ih => sa_ixor bad many
  | .ishr => fun R nw bad many fin ih => sa_ishr bad many
  | .iushr => fun R nw bad many fin ih => sa_iushr bad many
  | .irem => fun R nw bad many fin ih => sa_irem bad many
  | .ladd => fun R nw bad many fin ih => sa_ladd bad
  | .lsub => fun R nw bad many fin ih => sa_lsub bad
  | .land => fun R nw bad many fin ih => sa_land bad
  | .lor => fun R nw bad many fin ih => sa_lor bad
  | .lxor => fun R nw bad many fin ih => sa_lxor bad
  | .lshl => fun R nw bad many fin ih => sa_lshl bad many
  | .lshr => fun R nw bad many fin ih => sa_lshr bad many
  | .lushr => fun R nw bad many fin ih => sa_lushr bad many
  | .lcmp => fun R nw bad many fin ih => sa_lcmp bad
  | .i2l => fun R nw bad many fin ih => sa_i2l bad many
  | .l2i => fun R nw bad many fin ih => sa_l2i bad
  | .i2f => fun R nw bad many fin ih => sa_i2f bad many
  | .f2d => fun R nw bad many fin ih => sa_f2d bad
  | .fdiv => fun R nw bad many fin ih => sa_fdiv bad
  | .dcmp op => fun R nw bad many fin ih => sa_dcmp bad op
  | .ifCond c o => fun R nw bad many fin ih => sa_ifCond bad many ih c o
  | .if_icmp c o => fun R nw bad many fin ih => sa_if_icmp bad many ih c o
  | .ifnull o => fun R nw bad many fin ih => sa_ifnull bad ih o
  | .ifnonnull o => fun R nw bad many fin ih => sa_ifnonnull bad ih o
  | .if_acmp .eq o => fun R nw bad many fin ih => sa_if_acmp_eq bad ih o
  | .goto o => fun R nw bad many fin ih => sa_goto bad ih o
  | .tableswitch d lo hi offs => fun R nw bad many fin ih => sa_tableswitch bad many ih d lo hi offs
  | .getfield k => fun R nw bad many fin ih => sa_getfield bad k
  | .putfield k => fun R nw bad many fin ih => sa_putfield bad ih k
  | .getstatic k => fun R nw bad many fin ih => sa_getstatic bad k
  | .iaload => fun R nw bad many fin ih => sa_iaload bad many
  | .laload => fun R nw bad many fin ih => sa_laload bad many
  | .baload => fun R nw bad many fin ih => sa_baload bad many
  | .aaload => fun R nw bad many fin ih => sa_aaload bad many
  | .iastore => fun R nw bad many fin ih => sa_iastore bad many ih
  | .lastore => fun R nw bad many fin ih => sa_lastore bad many ih
  | .bastore => fun R nw bad many fin ih => sa_bastore bad many ih
  | .aastore => fun R nw bad many fin ih => sa_aastore bad many ih
  | .arraylength => fun R nw bad many fin ih => sa_arraylength bad
  | .newarray .int => fun R nw bad many fin ih => sa_newarray_int bad many ih
  | .newarray .long => fun R nw bad many fin ih => sa_newarray_long bad many ih
  | .newarray .boolean => fun R nw bad many fin ih => sa_newarray_boolean bad many ih
  | .anewarray k => fun R nw bad many fin ih => sa_anewarray bad many ih k
  | .new k => fun R nw bad many fin ih => sa_new R nw bad fin ih k
  | .checkcast k => fun R nw bad many fin ih => sa_checkcast bad k
  | .invokevirtual k => fun R nw bad many fin ih => sa_invokevirtual R bad ih k
  | .invokespecial k => fun R nw bad many fin ih => sa_invokespecial R bad ih k
  | .invokestatic k => fun R nw bad many fin ih => sa_invokestatic R bad many ih k
  | .return_ => fun R nw bad many fin ih => sa_return bad fin ih
  | .ireturn => fun R nw bad many fin ih => sa_ireturn bad fin ih
  | .lreturn => fun R nw bad many fin ih => sa_lreturn bad fin ih
  | .freturn => fun R nw bad many fin ih => sa_freturn bad fin ih
  | .dreturn => fun R nw bad many fin ih => sa_dreturn bad fin ih
  | .areturn => fun R nw bad many fin ih => sa_areturn bad fin ih
  | _ => fun _ _ bad _ _ _ _ _ _ _ _ _ _ _ _ _ _ _ _ => bad
noncomputable def sinst (sn : Nat) (G : Nat → List (Option SV) → List SV → β) (A : SE → β) (e : SE) (h : SH) (n sl mi pc : Nat) (r : XRec) (ls : List (Option SV)) (st : List SV) (fs : List SF) (i : Instr) : β := sdisp β i R nw bad many fin ih sn G A e h n sl mi pc r ls st fs
noncomputable def sinst2 (sn : Nat) (G : Nat → List (Option SV) → List SV → β) (A : SE → β) (e : SE) (h : SH) (n sl mi pc : Nat) (r : XRec) (ls : List (Option SV)) (st : List SV) (fs : List SF) (i : Instr) : β := match i with
  | .aconst_null => sa_aconst_null sn G A e h n sl mi pc r ls st fs
  | .iconst k => sa_iconst k sn G A e h n sl mi pc r ls st fs
  | .bipush k => sa_bipush k sn G A e h n sl mi pc r ls st fs
  | .sipush k => sa_sipush k sn G A e h n sl mi pc r ls st fs
  | .lconst k => sa_lconst k sn G A e h n sl mi pc r ls st fs
  | .dconst k => sa_dconst bad k sn G A e h n sl mi pc r ls st fs
  | .ldc k => sa_ldc bad k sn G A e h n sl mi pc r ls st fs
  | .ldc_w k => sa_ldc_w bad k sn G A e h n sl mi pc r ls st fs
  | .ldc2_w k => sa_ldc2_w bad k sn G A e h n sl mi pc r ls st fs
  | .iload k => sa_iload bad k sn G A e h n sl mi pc r ls st fs
  | .iload_n k => sa_iload_n bad k sn G A e h n sl mi pc r ls st fs
  | .lload k => sa_lload bad k sn G A e h n sl mi pc r ls st fs
  | .lload_n k => sa_lload_n bad k sn G A e h n sl mi pc r ls st fs
  | .aload k => sa_aload bad k sn G A e h n sl mi pc r ls st fs
  | .aload_n k => sa_aload_n bad k sn G A e h n sl mi pc r ls st fs
  | .dload k => sa_dload bad k sn G A e h n sl mi pc r ls st fs
  | .dload_n k => sa_dload_n bad k sn G A e h n sl mi pc r ls st fs
  | .istore k => sa_istore bad k sn G A e h n sl mi pc r ls st fs
  | .istore_n k => sa_istore_n bad k sn G A e h n sl mi pc r ls st fs
  | .astore k => sa_astore bad k sn G A e h n sl mi pc r ls st fs
  | .astore_n k => sa_astore_n bad k sn G A e h n sl mi pc r ls st fs
  | .lstore k => sa_lstore bad k sn G A e h n sl mi pc r ls st fs
  | .lstore_n k => sa_lstore_n bad k sn G A e h n sl mi pc r ls st fs
  | .dstore k => sa_dstore bad k sn G A e h n sl mi pc r ls st fs
  | .dstore_n k => sa_dstore_n bad k sn G A e h n sl mi pc r ls st fs
  | .iinc k m => sa_iinc bad k m sn G A e h n sl mi pc r ls st fs
  | .dup => sa_dup bad sn G A e h n sl mi pc r ls st fs
  | .dup_x1 => sa_dup_x1 bad sn G A e h n sl mi pc r ls st fs
  | .dup2 => sa_dup2 bad sn G A e h n sl mi pc r ls st fs
  | .pop => sa_pop bad sn G A e h n sl mi pc r ls st fs
  | .iadd => sa_iadd bad many sn G A e h n sl mi pc r ls st fs
  | .isub => sa_isub bad many sn G A e h n sl mi pc r ls st fs
  | .imul => sa_imul bad many sn G A e h n sl mi pc r ls st fs
  | .iand => sa_iand bad many sn G A e h n sl mi pc r ls st fs
  | .ior => sa_ior bad many sn G A e h n sl mi pc r ls st fs
  | .ixor => sa_ixor bad many sn G A e h n sl mi pc r ls st fs
  | .ishr => sa_ishr bad many sn G A e h n sl mi pc r ls st fs
  | .iushr => sa_iushr bad many sn G A e h n sl mi pc r ls st fs
  | .irem => sa_irem bad many sn G A e h n sl mi pc r ls st fs
  | .ladd => sa_ladd bad sn G A e h n sl mi pc r ls st fs
  | .lsub => sa_lsub bad sn G A e h n sl mi pc r ls st fs
  | .land => sa_land bad sn G A e h n sl mi pc r ls st fs
  | .lor => sa_lor bad sn G A e h n sl mi pc r ls st fs
  | .lxor => sa_lxor bad sn G A e h n sl mi pc r ls st fs
  | .lshl => sa_lshl bad many sn G A e h n sl mi pc r ls st fs
  | .lshr => sa_lshr bad many sn G A e h n sl mi pc r ls st fs
  | .lushr => sa_lushr bad many sn G A e h n sl mi pc r ls st fs
  | .lcmp => sa_lcmp bad sn G A e h n sl mi pc r ls st fs
  | .i2l => sa_i2l bad many sn G A e h n sl mi pc r ls st fs
  | .l2i => sa_l2i bad sn G A e h n sl mi pc r ls st fs
  | .i2f => sa_i2f bad many sn G A e h n sl mi pc r ls st fs
  | .f2d => sa_f2d bad sn G A e h n sl mi pc r ls st fs
  | .fdiv => sa_fdiv bad sn G A e h n sl mi pc r ls st fs
  | .dcmp op => sa_dcmp bad op sn G A e h n sl mi pc r ls st fs
  | .ifCond c o => sa_ifCond bad many ih c o sn G A e h n sl mi pc r ls st fs
  | .if_icmp c o => sa_if_icmp bad many ih c o sn G A e h n sl mi pc r ls st fs
  | .ifnull o => sa_ifnull bad ih o sn G A e h n sl mi pc r ls st fs
  | .ifnonnull o => sa_ifnonnull bad ih o sn G A e h n sl mi pc r ls st fs
  | .if_acmp .eq o => sa_if_acmp_eq bad ih o sn G A e h n sl mi pc r ls st fs
  | .goto o => sa_goto bad ih o sn G A e h n sl mi pc r ls st fs
  | .tableswitch d lo hi offs => sa_tableswitch bad many ih d lo hi offs sn G A e h n sl mi pc r ls st fs
  | .getfield k => sa_getfield bad k sn G A e h n sl mi pc r ls st fs
  | .putfield k => sa_putfield bad ih k sn G A e h n sl mi pc r ls st fs
  | .getstatic k => sa_getstatic bad k sn G A e h n sl mi pc r ls st fs
  | .iaload => sa_iaload bad many sn G A e h n sl mi pc r ls st fs
  | .laload => sa_laload bad many sn G A e h n sl mi pc r ls st fs
  | .baload => sa_baload bad many sn G A e h n sl mi pc r ls st fs
  | .aaload => sa_aaload bad many sn G A e h n sl mi pc r ls st fs
  | .iastore => sa_iastore bad many ih sn G A e h n sl mi pc r ls st fs
  | .lastore => sa_lastore bad many ih sn G A e h n sl mi pc r ls st fs
  | .bastore => sa_bastore bad many ih sn G A e h n sl mi pc r ls st fs
  | .aastore => sa_aastore bad many ih sn G A e h n sl mi pc r ls st fs
  | .arraylength => sa_arraylength bad sn G A e h n sl mi pc r ls st fs
  | .newarray .int => sa_newarray_int bad many ih sn G A e h n sl mi pc r ls st fs
  | .newarray .long => sa_newarray_long bad many ih sn G A e h n sl mi pc r ls st fs
  | .newarray .boolean => sa_newarray_boolean bad many ih sn G A e h n sl mi pc r ls st fs
  | .anewarray k => sa_anewarray bad many ih k sn G A e h n sl mi pc r ls st fs
  | .new k => sa_new R nw bad fin ih k sn G A e h n sl mi pc r ls st fs
  | .checkcast k => sa_checkcast bad k sn G A e h n sl mi pc r ls st fs
  | .invokevirtual k => sa_invokevirtual R bad ih k sn G A e h n sl mi pc r ls st fs
  | .invokespecial k => sa_invokespecial R bad ih k sn G A e h n sl mi pc r ls st fs
  | .invokestatic k => sa_invokestatic R bad many ih k sn G A e h n sl mi pc r ls st fs
  | .return_ => sa_return bad fin ih sn G A e h n sl mi pc r ls st fs
  | .ireturn => sa_ireturn bad fin ih sn G A e h n sl mi pc r ls st fs
  | .lreturn => sa_lreturn bad fin ih sn G A e h n sl mi pc r ls st fs
  | .freturn => sa_freturn bad fin ih sn G A e h n sl mi pc r ls st fs
  | .dreturn => sa_dreturn bad fin ih sn G A e h n sl mi pc r ls st fs
  | .areturn => sa_areturn bad fin ih sn G A e h n sl mi pc r ls st fs
  | _ => bad
theorem sinst_eq (sn : Nat) (G : Nat → List (Option SV) → List SV → β) (A : SE → β) (e : SE) (h : SH) (n sl mi pc : Nat) (r : XRec) (ls : List (Option SV)) (st : List SV) (fs : List SF) (i : Instr) : sinst R nw bad many fin ih sn G A e h n sl mi pc r ls st fs i = sinst2 R nw bad many fin ih sn G A e h n sl mi pc r ls st fs i := by
  cases i <;> first
    | rfl
    | (rename_i a; cases a <;> rfl)
    | (rename_i a b; cases a <;> rfl)
noncomputable def sbody (sn : Nat) (e : SE) (h : SH) (n sl mi pc : Nat) (r : XRec) (ls : List (Option SV)) (st : List SV) (fs : List SF) : β := match qfind r.2.1 pc with
  | none => bad
  | some q => sinst R nw bad many fin ih sn (fun len ls2 st2 => frc (Nat.add pc len) fun pc2 => ih e h n sl mi pc2 r ls2 st2 fs) (fun e2 => ih e2 h n sl mi pc r ls st fs) e h n sl mi pc r ls st fs q.1
end SJ
