/-! a run with the second word of the script bounded too -/
noncomputable def sGo1 (sn k lo hi a b : Nat) : Bool := sexec xRecs xNews sJ0 sn 600004 7302244 k [(1, a, b), (6, lo + 2147483648, hi + 2147483648)] sH0 2 12 0 0 (xm_L_law, xk_L_law, xs_L) [some (.inl (.ref 0)), none, none, none, none, none, none, none, none] [] []
theorem xmain_of1 {L k lo hi a b : Nat} (hL : L ≤ 6) (hg : sGo1 L k lo hi a b = true) (xs : Nat → Int32) (h1 : lo ≤ (xs 0 &&& 63).toUInt32.toNat) (h2 : (xs 0 &&& 63).toUInt32.toNat ≤ hi) (h3 : a ≤ bia (xs 1)) (h4 : bia (xs 1) ≤ b) :
    ∃ (n : Nat) (h1 : XH), xrun xP (L, xs) n 1000 0 0 xl0 [] [none, none] = some (.inl (some (.int 1)), h1) ∧ h1.length ≤ 600002 + 2 ∧ xhs h1 ≤ 7302232 + xhs [none, none] := by
  have hr : xfind xRecs 0 = some (xm_L_law, xk_L_law, xs_L) := rfl
  have K := sexec_ok (R := xRecs) (nw := xNews) (xs := xs) (J := sJ0) (mc := 600004) (ms := 7302244) hL k _ _ _ _ _ _ _ _ _ _ hg (sev_cons (k := 1) (sev_ini h1 h2) h3 h4) [none, none] ⟨rfl, Nat.le_refl _, rfl, by decide, fun j c hj => by rw [sH0_none] at hj; cases hj⟩ hr (fun f hf => by cases hf)
  obtain ⟨n0, o, hh, a, b⟩ := K
  obtain ⟨rfl, b2, b3⟩ := b
  exact ⟨n0, hh, a n0 (Nat.le_refl _), b2, b3⟩
set_option maxRecDepth 1000000 in
theorem sT_6_34a : sGo1 6 100000 34 34 0 2147483648 = true := by decide +kernel
