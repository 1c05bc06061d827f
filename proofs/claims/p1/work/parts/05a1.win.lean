/-! DECODING BY A WINDOW: where a window of the code decodes, the code decodes so at that place; the code is walked once -/
def xLoc (b w : ByteArray) (pc : Nat) {α : Type} (r1 r2 : Decoder α) : Prop := ∀ (p : Nat) (a : α) (q : Nat), Reader.runAt r1 w p = .ok (a, q) → Reader.runAt r2 b (pc + p) = .ok (a, pc + q)
def xWin (b w : ByteArray) (pc : Nat) : Prop := ∀ i : Nat, i < w.size → pc + i < b.size ∧ b.data[pc + i]? = w.data[i]?
section ZWIN
variable {b w : ByteArray} {pc : Nat} {α β : Type}
theorem xLoc_pure (a : α) : xLoc b w pc (pure a) (pure a) := by
  intro p x q h
  have h : (Except.ok (a, p) : Except DecodeError (α × Nat)) = .ok (x, q) := h
  cases h
  rfl
theorem xLoc_throw (e : DecodeError) (r : Decoder α) : xLoc b w pc (throw e) r := by
  intro p x q h
  have h : (Except.error e : Except DecodeError (α × Nat)) = .ok (x, q) := h
  cases h
theorem xLoc_bind0 {r1 r2 : Decoder α} {f g : α → Decoder β} (h : xLoc b w pc r1 r2) {p : Nat} {a : α} {s : Nat} (e1 : Reader.runAt r1 w p = .ok (a, s)) (hf : xLoc b w pc (f a) (g a)) : ∀ (x : β) (q : Nat), Reader.runAt (r1 >>= f) w p = .ok (x, q) → Reader.runAt (r2 >>= g) b (pc + p) = .ok (x, pc + q) := by
  intro x q e
  have e0 : Reader.runAt (r1 >>= f) w p = Except.bind (Reader.runAt r1 w p) (fun z => Reader.runAt (f z.1) w z.2) := rfl
  rw [e0, e1] at e
  have e : Reader.runAt (f a) w s = .ok (x, q) := e
  have e2 : Reader.runAt (r2 >>= g) b (pc + p) = Except.bind (Reader.runAt r2 b (pc + p)) (fun z => Reader.runAt (g z.1) b z.2) := rfl
  rw [e2, h p a s e1]
  exact hf s x q e
theorem xLoc_bind {r1 r2 : Decoder α} {f g : α → Decoder β} (h : xLoc b w pc r1 r2) (hf : ∀ a, xLoc b w pc (f a) (g a)) : xLoc b w pc (r1 >>= f) (r2 >>= g) := by
  intro p x q e
  cases e1 : Reader.runAt r1 w p with
  | error z =>
    have e0 : Reader.runAt (r1 >>= f) w p = Except.bind (Reader.runAt r1 w p) (fun z => Reader.runAt (f z.1) w z.2) := rfl
    rw [e0, e1] at e
    cases e
  | ok v =>
    obtain ⟨a, s⟩ := v
    exact xLoc_bind0 h e1 (hf a) x q e
theorem xLoc_map {r1 r2 : Decoder α} (f : α → β) (h : xLoc b w pc r1 r2) : xLoc b w pc (f <$> r1) (f <$> r2) := by
  intro p x q e
  have e0 : Reader.runAt (f <$> r1) w p = Except.bind (Reader.runAt r1 w p) (fun z => .ok (f z.1, z.2)) := rfl
  have e2 : Reader.runAt (f <$> r2) b (pc + p) = Except.bind (Reader.runAt r2 b (pc + p)) (fun z => .ok (f z.1, z.2)) := rfl
  cases e1 : Reader.runAt r1 w p with
  | error z =>
    rw [e0, e1] at e
    cases e
  | ok v =>
    obtain ⟨a, s⟩ := v
    rw [e0, e1] at e
    have e : (Except.ok (f a, s) : Except DecodeError (β × Nat)) = .ok (x, q) := e
    have e3 := Except.ok.inj e
    have e4 : f a = x := congrArg Prod.fst e3
    have e5 : s = q := congrArg Prod.snd e3
    rw [e2, h p a s e1, ← e4, ← e5]
    rfl
theorem xLoc_u1 (hw : xWin b w pc) : xLoc b w pc Reader.u1 Reader.u1 := by
  intro p x q e
  have e0 : Reader.runAt (Reader.u1 : Decoder Nat) w p = Reader.runAt (if h : p < w.size then (do set (p + 1); pure w[p].toNat) else throw (HasTruncated.truncated p) : Decoder Nat) w p := rfl
  have e2 : Reader.runAt (Reader.u1 : Decoder Nat) b (pc + p) = Reader.runAt (if h : pc + p < b.size then (do set (pc + p + 1); pure b[pc + p].toNat) else throw (HasTruncated.truncated (pc + p)) : Decoder Nat) b (pc + p) := rfl
  by_cases h : p < w.size
  · obtain ⟨h1, h2⟩ := hw p h
    rw [e0, dif_pos h] at e
    have e : (Except.ok (w[p].toNat, p + 1) : Except DecodeError (Nat × Nat)) = .ok (x, q) := e
    cases e
    rw [e2, dif_pos h1]
    have h3 : b.data[pc + p]? = some b.data[pc + p] := Array.getElem?_eq_getElem h1
    have h4 : w.data[p]? = some w.data[p] := Array.getElem?_eq_getElem h
    rw [h3, h4] at h2
    have h5 : b[pc + p] = w[p] := Option.some.inj h2
    show (Except.ok (b[pc + p].toNat, pc + p + 1) : Except DecodeError (Nat × Nat)) = .ok (w[p].toNat, pc + (p + 1))
    rw [h5]
    rfl
  · rw [e0, dif_neg h] at e
    cases e
theorem xLoc_u2 (hw : xWin b w pc) : xLoc b w pc Reader.u2 Reader.u2 := xLoc_bind (xLoc_u1 hw) fun _ => xLoc_bind (xLoc_u1 hw) fun _ => xLoc_pure _
theorem xLoc_s1 (hw : xWin b w pc) : xLoc b w pc Reader.s1 Reader.s1 := xLoc_map _ (xLoc_u1 hw)
theorem xLoc_s2 (hw : xWin b w pc) : xLoc b w pc Reader.s2 Reader.s2 := xLoc_map _ (xLoc_u2 hw)
theorem xLoc_newarray (hw : xWin b w pc) : xLoc b w pc (Decoder.newarray 0) (Decoder.newarray pc) := by
  unfold Decoder.newarray
  refine xLoc_bind (xLoc_u1 hw) fun a => ?_
  split <;> first | exact xLoc_throw _ _ | exact xLoc_pure _
/-- an opcode of one place: no switch, none that is longer than 3 bytes -/
def xgood (op : Nat) : Bool := Nat.blt op 170 || (Nat.blt 171 op && Nat.blt op 185) || Nat.beq op 187 || Nat.beq op 188 || Nat.beq op 189 || Nat.beq op 190 || Nat.beq op 191 || Nat.beq op 192 || Nat.beq op 198 || Nat.beq op 199
set_option maxHeartbeats 4000000 in
set_option maxRecDepth 100000 in
theorem xdec_win (hw : xWin b w pc) {op s : Nat} (h0 : Reader.runAt (Reader.u1 : Decoder Nat) w 0 = .ok (op, s)) (hop : xgood op = true) {i : Instr} {n : Nat} (h : decode w 0 = .ok (i, n)) : decode b pc = .ok (i, n) := by
  have key : ∀ (x : Instr) (q : Nat), Reader.runAt (Decoder.instr 0) w 0 = .ok (x, q) → Reader.runAt (Decoder.instr pc) b (pc + 0) = .ok (x, pc + q) := by
    unfold Decoder.instr
    refine xLoc_bind0 (xLoc_u1 hw) h0 ?_
    revert hop
    split <;> intro hop <;> first
      | exact xLoc_pure _
      | exact xLoc_throw _ _
      | exact xLoc_bind (xLoc_u2 hw) fun _ => xLoc_pure _
      | exact xLoc_bind (xLoc_u1 hw) fun _ => xLoc_pure _
      | exact xLoc_bind (xLoc_s2 hw) fun _ => xLoc_pure _
      | exact xLoc_bind (xLoc_s1 hw) fun _ => xLoc_pure _
      | exact xLoc_bind (xLoc_u1 hw) fun _ => xLoc_bind (xLoc_s1 hw) fun _ => xLoc_pure _
      | exact xLoc_newarray hw
      | (exact absurd hop (by decide))
  have e0 : decode w 0 = Except.bind (Reader.runAt (Decoder.instr 0) w 0) (fun z => .ok (z.1, z.2 - 0)) := rfl
  have e1 : decode b pc = Except.bind (Reader.runAt (Decoder.instr pc) b pc) (fun z => .ok (z.1, z.2 - pc)) := rfl
  cases e : Reader.runAt (Decoder.instr 0) w 0 with
  | error z =>
    rw [e0, e] at h
    cases h
  | ok v =>
    obtain ⟨x, q⟩ := v
    rw [e0, e] at h
    have h : (Except.ok (x, q - 0) : Except DecodeError (Instr × Nat)) = .ok (i, n) := h
    have k := key x q e
    rw [Nat.add_zero] at k
    rw [e1, k]
    show (Except.ok (x, pc + q - pc) : Except DecodeError (Instr × Nat)) = .ok (i, n)
    rw [Nat.add_sub_cancel_left]
    exact h
end ZWIN
theorem xwin_of (b : ByteArray) (pc n : Nat) : xWin b ⟨((b.data.toList.drop pc).take n).toArray⟩ pc := by
  intro i h
  have h : i < ((b.data.toList.drop pc).take n).length := h
  rw [List.length_take, List.length_drop] at h
  have h1 : pc + i < b.data.toList.length := by omega
  refine ⟨h1, ?_⟩
  have e : (((b.data.toList.drop pc).take n).toArray)[i]? = b.data.toList[pc + i]? := by rw [List.getElem?_toArray, List.getElem?_take_of_lt (by omega), List.getElem?_drop]
  show b.data[pc + i]? = (((b.data.toList.drop pc).take n).toArray)[i]?
  rw [e, Array.getElem?_toList]
def xsw : Instr → Bool
  | .tableswitch .. => true
  | .lookupswitch .. => true
  | _ => false
def xone (l : List UInt8) (i : Instr) (n : Nat) : Bool := match l with
  | [] => false
  | o :: _ => xgood o.toNat && decide (decode ⟨l.toArray⟩ 0 = .ok (i, n))
def xwalk (b : ByteArray) : List UInt8 → Nat → List (Nat × Instr × Nat) → Bool
  | _, _, [] => true
  | rest, pc0, (pc, i, n) :: t => Nat.ble pc0 pc && ((bif xsw i then decide (decode b pc = .ok (i, n)) else xone ((rest.drop (pc - pc0)).take n) i n) && (xlen i n && xwalk b ((rest.drop (pc - pc0)).drop n) (pc + n) t))
theorem xwalk_ok {b : ByteArray} : ∀ (t : List (Nat × Instr × Nat)) (rest : List UInt8) (pc0 : Nat), rest = b.data.toList.drop pc0 → xwalk b rest pc0 t = true → xchk1 b t = true := by
  intro t
  induction t with
  | nil => intro rest pc0 _ _; rfl
  | cons r t ih =>
    intro rest pc0 hr h
    obtain ⟨pc, i, n⟩ := r
    unfold xwalk at h
    simp only [Bool.and_eq_true] at h
    obtain ⟨h1, h2, h3, h4⟩ := h
    have h1 := Nat.le_of_ble_eq_true h1
    have hr : rest.drop (pc - pc0) = b.data.toList.drop pc := by rw [hr, List.drop_drop, Nat.add_sub_cancel' h1]
    have h5 := ih _ _ (by rw [hr, List.drop_drop]) h4
    have h6 : decode b pc = .ok (i, n) := by
      cases hs : xsw i with
      | true =>
        rw [hs] at h2
        exact of_decide_eq_true h2
      | false =>
        rw [hs] at h2
        have h2 : xone ((rest.drop (pc - pc0)).take n) i n = true := h2
        unfold xone at h2
        split at h2
        · cases h2
        · next o l e =>
          simp only [Bool.and_eq_true, decide_eq_true_eq] at h2
          refine xdec_win (op := o.toNat) (s := 1) (xwin_of b pc n) ?_ h2.1 ?_
          · rw [← hr, e]; rfl
          · rw [← hr]; exact h2.2
    show (decide (decode b pc = .ok (i, n)) && xlen i n && xchk1 b t) = true
    rw [h5, h3, decide_eq_true h6]
    rfl
theorem xwalk_of {b : ByteArray} {t : List (Nat × Instr × Nat)} (pc0 : Nat) (h : xwalk b (b.data.toList.drop pc0) pc0 t = true) : xchk1 b t = true := xwalk_ok t _ pc0 rfl h
theorem xchk_of {b : ByteArray} {t : XT (Instr × Nat)} (h : xwalk b b.data.toList 0 (t.flatMap Prod.snd) = true) : xchk b t = true := by
  have h1 := xwalk_ok _ _ 0 rfl h
  unfold xchk1 at h1
  rw [List.all_flatMap] at h1
  exact h1
