/-! THE START, AND THE CLAIM OUT OF SYMBOLIC RUNS -/
abbrev sJ0 : List (Nat × Nat × Nat) := [(392, 17, 25), (406, 16, 49), (172, 32, 40), (172, 103, 127)]
noncomputable def sH0 : SH := List.replicate 8 (List.replicate 8 (List.replicate 8 none))
noncomputable def sGo (sn k lo hi : Nat) : Bool := sexec xRecs xNews sJ0 sn 600004 7302244 k [(6, lo + 2147483648, hi + 2147483648)] sH0 2 12 0 0 (xm_L_law, xk_L_law, xs_L) [some (.inl (.ref 0)), none, none, none, none, none, none, none, none] [] []
theorem lget_rep {α : Type} {a : α} {n i : Nat} {b : α} (h : lget (List.replicate n a) i = some b) : b = a := by
  rw [lget_eq, List.getElem?_replicate] at h
  split at h
  · cases h; rfl
  · cases h
theorem sH0_none (k : Nat) : hget sH0 k = none := by
  unfold hget
  split
  · rfl
  · next a ha =>
    cases lget_rep ha
    split
    · rfl
    · next b hb =>
      cases lget_rep hb
      split
      · rfl
      · next c hc => exact lget_rep hc
theorem i32_and_le (x : Int32) (m : Nat) (hm : m < 2147483648) : (x &&& Int32.ofNat m).toUInt32.toNat ≤ m := by
  have h : (x &&& Int32.ofNat m).toUInt32.toNat = x.toUInt32.toNat &&& (Int32.ofNat m).toUInt32.toNat := UInt32.toNat_and ..
  rw [h, i32_of, Nat.mod_eq_of_lt (by omega)]
  exact Nat.and_le_right
theorem bia_small {x : Int32} {m : Nat} (hm : m < 2147483648) (h : x.toUInt32.toNat ≤ m) : bia x = x.toUInt32.toNat + 2147483648 := by
  unfold bia
  omega
theorem sev_ini {xs : Nat → Int32} {lo hi : Nat} (h1 : lo ≤ (xs 0 &&& 63).toUInt32.toNat) (h2 : (xs 0 &&& 63).toUInt32.toNat ≤ hi) : SEV (srho xs) [(6, lo + 2147483648, hi + 2147483648)] := by
  intro k
  rw [senv_cons]
  cases hk : Nat.beq 6 k with
  | true =>
    cases Nat.eq_of_beq_eq_true hk
    have e : bia (srho xs 6) = (xs 0 &&& 63).toUInt32.toNat + 2147483648 := bia_small (m := 63) (by decide) (i32_and_le (xs 0) 63 (by decide))
    rw [e]
    exact ⟨Nat.add_le_add_right h1 _, Nat.add_le_add_right h2 _⟩
  | false =>
    show (cond (Nat.ble 100 k && Nat.blt k 200) (2147483648, 2147483903) (0, 4294967295) : Nat × Nat).1 ≤ _ ∧ _ ≤ (cond (Nat.ble 100 k && Nat.blt k 200) (2147483648, 2147483903) (0, 4294967295) : Nat × Nat).2
    cases hb : (Nat.ble 100 k && Nat.blt k 200) with
    | true =>
      simp only [Bool.and_eq_true] at hb
      have b1 := Nat.le_of_ble_eq_true hb.1
      have b2 := Nat.blt_eq.mp hb.2
      have e : srho xs k = ssh xs (k - 100) &&& 255 := by
        unfold srho
        rw [if_neg (by omega), if_neg (by omega), if_pos (by omega)]
      have e2 := i32_and_le (ssh xs (k - 100)) 255 (by decide)
      have e3 : bia (srho xs k) = (ssh xs (k - 100) &&& Int32.ofNat 255).toUInt32.toNat + 2147483648 := by
        rw [e]
        exact bia_small (m := 255) (by decide) e2
      rw [e3]
      exact ⟨by show 2147483648 ≤ _; omega, by show _ ≤ 2147483903; omega⟩
    | false =>
      have := bia_lt (srho xs k)
      exact ⟨Nat.zero_le _, by show _ ≤ 4294967295; omega⟩
theorem xmain_of {L k lo hi : Nat} (hL : L ≤ 6) (hg : sGo L k lo hi = true) (xs : Nat → Int32) (h1 : lo ≤ (xs 0 &&& 63).toUInt32.toNat) (h2 : (xs 0 &&& 63).toUInt32.toNat ≤ hi) :
    ∃ (n : Nat) (h1 : XH), xrun xP (L, xs) n 1000 0 0 xl0 [] [none, none] = some (.inl (some (.int 1)), h1) ∧ h1.length ≤ 600002 + 2 ∧ xhs h1 ≤ 7302232 + xhs [none, none] := by
  have hr : xfind xRecs 0 = some (xm_L_law, xk_L_law, xs_L) := rfl
  have K := sexec_ok (R := xRecs) (nw := xNews) (xs := xs) (J := sJ0) (mc := 600004) (ms := 7302244) hL k _ _ _ _ _ _ _ _ _ _ hg (sev_ini h1 h2) [none, none] ⟨rfl, Nat.le_refl _, rfl, by decide, fun j c hj => by rw [sH0_none] at hj; cases hj⟩ hr (fun f hf => by cases hf)
  obtain ⟨n0, o, hh, a, b⟩ := K
  obtain ⟨rfl, b2, b3⟩ := b
  exact ⟨n0, hh, a n0 (Nat.le_refl _), b2, b3⟩
