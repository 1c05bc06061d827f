/-! printed by dec.py: what each method wants, and that the machine keeps it -/ 
def w_X14_far (p0 : Int) (K : Int → XH → Prop) (h : XH) : Prop :=
  (∀ h1 : XH, h1 = sI h 437 5 0 → HT h1 → HX h h1 → w_X14_isPack p0 (fun x2 => rg x2 → (x2 = 0 ∨ x2 = 1) → (w_X14_refused x2 1 (fun x3 h4 => HT h4 → HX h1 h4 → rg x3 → (x3 = 0 ∨ x3 = 1) → (((x3 = 0 → (w_X14_goalSet (fun a5 h6 => HT h6 → HX h4 h6 → (w_X14_reach a5 (fun h7 => HT h7 → HX h6 h7 → ((0 ≤ p0 ∧ p0 < 12) ∧ K (hI h7 463 p0.toNat) h7)) h6)) h4)) ∧ (¬ (x3 = 0) → (K 0 h4))))) h1)) h1)
set_option maxHeartbeats 4000000 in
theorem a_X14_far {sc : Nat × (Nat → Int32)} {goal : XO → XH → Prop} {fs : List XF} {h : XH} (p0 : Int) {K : Int → XH → Prop} (hd : fs.length + 6 ≤ 1000) (rp0 : rg p0) (w : w_X14_far p0 K h) (t0 : HT h) (k : ∀ (r : Int) (h1 : XH), HT h1 → HX h h1 → rg r → K r h1 → XFin xP sc goal fs (.inl (some (.int (J r)))) h1) : RR sc goal fs 197 0 [some (rv 437), some (.int (J p0))] [] h := by
  unfold w_X14_far at w
  refine r_aldn (pc1 := 1) rfl rfl rfl ?_
  refine r_n (pc1 := 2) [.int (J 0), rv 437] _ rfl rfl ?_
  refine r_pfI (pc1 := 5) rfl rfl rfl t0 (lyk t0 rfl) rfl rfl rfl (fun h1 eh1 t1 u1 => ?_)
  have w := w h1 eh1 t1 u1
  have s1 := HX_trans (HX_refl h) u1
  refine r_aldn (pc1 := 6) rfl rfl rfl ?_
  refine r_aldn (pc1 := 7) rfl rfl rfl ?_
  refine r_n (pc1 := 8) [.int (J p0), rv 437, rv 437] _ rfl rfl ?_
  refine r_iv rfl rfl rfl rfl rfl rfl t1 (lyk t1 rfl) rfl (xe_of (xa_r (xa_i xa_0)) rfl rfl) (r_d0 hd rfl) (a_X14_isPack p0 (r_d1 hd rfl) rp0 w t1 (fun x2 rx2 vx2 w => ?_))
  refine r_fI (pc1 := 11) rfl ?_
  have w := w rx2 vx2
  refine r_n (pc1 := 12) [.int (J 1), .int (J x2), rv 437] _ rfl rfl ?_
  refine r_iv rfl rfl rfl rfl rfl rfl t1 (lyk t1 rfl) rfl (xe_of (xa_r (xa_i (xa_i xa_0))) rfl rfl) (r_d0 hd rfl) (a_X14_refused x2 1 (r_d1 hd rfl) rx2 (rgk rfl) w t1 (fun x3 h4 t4 u4 rx3 vx3 w => ?_))
  refine r_fI (pc1 := 15) rfl ?_
  have s4 := HX_trans s1 u4
  have w := w t4 u4
  have w := w rx3 vx3
  refine r_iz (t := 20) (pc1 := 18) rfl rfl rfl rx3 (fun c9 => ?_) (fun c9 => ?_)
  · have w := w.1 c9
    refine r_aldn (pc1 := 21) rfl rfl rfl ?_
    refine r_aldn (pc1 := 22) rfl rfl rfl ?_
    refine r_iv rfl rfl rfl rfl rfl rfl t4 (lyk t4 rfl) rfl (xe_of (xa_r xa_0) rfl rfl) (r_d0 hd rfl) (a_X14_goalSet  (r_d1 hd rfl)  w t4 (fun a5 h6 t6 u6 w => ?_))
    refine r_fR (pc1 := 25) rfl ?_
    have s6 := HX_trans s4 u6
    have w := w t6 u6
    refine r_iv rfl rfl rfl rfl rfl rfl t6 (lyk t6 rfl) rfl (xe_of (xa_r (xa_r xa_0)) rfl rfl) (r_d0 hd rfl) (a_X14_reach a5 (r_d1 hd rfl)  w t6 (fun h7 t7 u7 w => ?_))
    refine r_fV (pc1 := 28) rfl ?_
    have s7 := HX_trans s6 u7
    have w := w t7 u7
    refine r_aldn (pc1 := 29) rfl rfl rfl ?_
    refine r_gfC (pc1 := 32) (q := 463) rfl rfl rfl t7 (lyk t7 rfl) rfl rfl (lyR t7 rfl rfl) ?_
    refine r_n (pc1 := 33) [.int (J p0), rv 463] _ rfl rfl ?_
    obtain ⟨c8, w⟩ := w
    refine r_ial (pc1 := 34) rfl rfl t7 (lyk t7 rfl) rp0 c8.1 (lt_len (lyn t7 rfl) c8.2) ?_
    exact r_retI rfl rfl rfl (k _ _ t7 s7 (rgh _ _ _) w)
  · have w := w.2 c9
    refine r_n (pc1 := 19) [.int (J 0)] _ rfl rfl ?_
    exact r_retI rfl rfl rfl (k _ _ t4 s4 (rgk rfl) w)
def w_X12_core  (K : Int → XH → Prop) (h : XH) : Prop :=
  (w_X12_know 3 (fun h1 => HT h1 → HX h h1 → (K (hI h1 70 2) h1)) h)
set_option maxHeartbeats 4000000 in
theorem a_X12_core {sc : Nat × (Nat → Int32)} {goal : XO → XH → Prop} {fs : List XF} {h : XH}  {K : Int → XH → Prop} (hd : fs.length + 8 ≤ 1000) (w : w_X12_core  K h) (t0 : HT h) (k : ∀ (r : Int) (h1 : XH), HT h1 → HX h h1 → rg r → K r h1 → XFin xP sc goal fs (.inl (some (.int (J r)))) h1) : RR sc goal fs 99 0 [some (rv 2)] [] h := by
  unfold w_X12_core at w
  refine r_aldn (pc1 := 1) rfl rfl rfl ?_
  refine r_n (pc1 := 2) [.int (J 3), rv 2] _ rfl rfl ?_
  refine r_iv rfl rfl rfl rfl rfl rfl t0 (lyk t0 rfl) rfl (xe_of (xa_r (xa_i xa_0)) rfl rfl) (r_d0 hd rfl) (a_X12_know 3 (r_d1 hd rfl) (rgk rfl) w t0 (fun h1 t1 u1 w => ?_))
  refine r_fV (pc1 := 5) rfl ?_
  have s1 := HX_trans (HX_refl h) u1
  have w := w t1 u1
  refine r_aldn (pc1 := 6) rfl rfl rfl ?_
  refine r_gfC (pc1 := 9) (q := 70) rfl rfl rfl t1 (lyk t1 rfl) rfl rfl (lyR t1 rfl rfl) ?_
  refine r_gfI (pc1 := 12) rfl rfl rfl t1 (lyk t1 rfl) rfl rfl ?_
  exact r_retI rfl rfl rfl (k _ _ t1 s1 (rgh _ _ _) w)
def w_X14_findCore  (K : XH → Prop) (h : XH) : Prop :=
  (((¬ hI h 437 44 = hI h 437 4 → (∀ h1 : XH, h1 = sI h 437 44 (hI h 437 4) → HT h1 → HX h h1 → ∀ (a2 : Nat) (h3 : XH), a2 = h1.length → h3 = nA h1 0 0 → HT h3 → HX h1 h3 → hk h3 a2 = 100 → hn h3 a2 = 0 → ∀ h4 : XH, h4 = sR h3 437 45 a2 → HT h4 → HX h3 h4 → w_X14_fitsAny (fun x5 h6 => HT h6 → HX h4 h6 → rg x5 → (x5 = 0 ∨ x5 = 1) → (((x5 = 0 → (hk h6 (hR h6 437 31) = 102 ∧ (hn h6 (hR h6 437 31) : Int) < 2147483648 ∧ ∃ J10 : XH → Prop, (∀ (h9 : XH), HT h9 → HX h h9 → J10 h9 → ((∃ (I13 : Int → XH → Prop) (m13 : Int → XH → Nat), I13 0 h9 ∧ ∀ (x11 : Int) (h12 : XH), HT h12 → HX h h12 → rg x11 → I13 x11 h12 → (((hI h12 437 29 ≤ x11 → (∀ h14 : XH, h14 = sI h12 437 32 0 → HT h14 → HX h12 h14 → ∀ x15 : Int, x15 = hI h14 437 29 → rg x15 → ∀ x16 : Int, x16 = wr ((hI h14 437 29) - 1) → rg x16 → (∃ (I20 : Int → Int → XH → Prop) (m20 : Int → Int → XH → Nat), I20 x15 x16 h14 ∧ ∀ (x17 : Int) (x18 : Int) (h19 : XH), HT h19 → HX h h19 → rg x17 → rg x18 → I20 x17 x18 h19 → (((x18 < 0 → (∀ h21 : XH, h21 = sI h19 437 32 1 → HT h21 → HX h19 h21 → (0 ≤ x17 ∧ x17 < 67108864) ∧ ∀ (a23 : Nat) (h24 : XH), a23 = h21.length → h24 = nA h21 0 x17.toNat → HT h24 → HX h21 h24 → hk h24 a23 = 100 → hn h24 a23 = x17.toNat → ∀ h25 : XH, h25 = sR h24 437 45 a23 → HT h25 → HX h24 h25 → (∃ (I30 : Int → Int → XH → Prop) (m30 : Int → Int → XH → Nat), I30 0 0 h25 ∧ ∀ (x27 : Int) (x28 : Int) (h29 : XH), HT h29 → HX h h29 → rg x27 → rg x28 → I30 x27 x28 h29 → (((hI h29 437 29 ≤ x28 → (K h29)) ∧ (¬ (hI h29 437 29 ≤ x28) → (hk h29 (hR h29 437 31) = 102 ∧ (0 ≤ x28 ∧ x28 < (hn h29 (hR h29 437 31) : Int)) ∧ ∃ J36 : Int → XH → Prop, (∀ (x34 : Int) (h35 : XH), HT h35 → HX h h35 → rg x34 → J36 x34 h35 → (∀ x37 : Int, x37 = wr (x28 + 1) → rg x37 → (I30 x34 x37 h35 ∧ m30 x34 x37 h35 < m30 x27 x28 h29))) ∧ ((hI h29 (hR h29 437 31) x28.toNat = 0 → J36 x27 h29) ∧ (¬ (hI h29 (hR h29 437 31) x28.toNat = 0) → (hk h29 (hR h29 437 45) = 100 ∧ (0 ≤ x27 ∧ x27 < (hn h29 (hR h29 437 45) : Int)) ∧ ∀ h40 : XH, h40 = sI h29 (hR h29 437 45) x27.toNat x28 → HT h40 → HX h29 h40 → ∀ x41 : Int, x41 = wr (x27 + 1) → rg x41 → J36 x41 h40)))))))))) ∧ (¬ (x18 < 0) → (hk h19 (hR h19 437 31) = 102 ∧ (0 ≤ x18 ∧ x18 < (hn h19 (hR h19 437 31) : Int)) ∧ ∀ h46 : XH, h46 = sI h19 (hR h19 437 31) x18.toNat 0 → HT h46 → HX h19 h46 → w_X14_search (0#64) (0#64) (fun x47 h48 => HT h48 → HX h46 h48 → rg x47 → (x47 = 0 ∨ x47 = 1) → (∃ J51 : Int → XH → Prop, (∀ (x49 : Int) (h50 : XH), HT h50 → HX h h50 → rg x49 → J51 x49 h50 → (∀ x52 : Int, x52 = wr (x18 + (-1)) → rg x52 → (I20 x49 x52 h50 ∧ m20 x49 x52 h50 < m20 x17 x18 h19))) ∧ ((x47 = 0 → (∀ x53 : Int, x53 = wr (x17 + (-1)) → rg x53 → J51 x53 h48)) ∧ (¬ (x47 = 0) → (hk h48 (hR h48 437 31) = 102 ∧ (0 ≤ x18 ∧ x18 < (hn h48 (hR h48 437 31) : Int)) ∧ ∀ h56 : XH, h56 = sI h48 (hR h48 437 31) x18.toNat 1 → HT h56 → HX h48 h56 → J51 x17 h56))))) h46))))))) ∧ (¬ (hI h12 437 29 ≤ x11) → (hk h12 (hR h12 437 31) = 102 ∧ (0 ≤ x11 ∧ x11 < (hn h12 (hR h12 437 31) : Int)) ∧ ∀ h61 : XH, h61 = sI h12 (hR h12 437 31) x11.toNat 1 → HT h61 → HX h12 h61 → ∀ x62 : Int, x62 = wr (x11 + 1) → rg x62 → (I13 x62 h61 ∧ m13 x62 h61 < m13 x11 h12)))))))) ∧ ((hI h6 437 29 ≤ (hn h6 (hR h6 437 31) : Int) → J10 h6) ∧ (¬ (hI h6 437 29 ≤ (hn h6 (hR h6 437 31) : Int)) → (hk h6 (hR h6 437 24) = 101 ∧ (hn h6 (hR h6 437 24) : Int) < 2147483648 ∧ (0 ≤ (hn h6 (hR h6 437 24) : Int) ∧ (hn h6 (hR h6 437 24) : Int) < 67108864) ∧ ∀ (a67 : Nat) (h68 : XH), a67 = h6.length → h68 = nA h6 2 (hn h6 (hR h6 437 24) : Int).toNat → HT h68 → HX h6 h68 → hk h68 a67 = 102 → hn h68 a67 = (hn h6 (hR h6 437 24) : Int).toNat → ∀ h69 : XH, h69 = sR h68 437 31 a67 → HT h69 → HX h68 h69 → J10 h69))))) ∧ (¬ (x5 = 0) → (K h6))))) h4)) ∧ (¬ (¬ hI h 437 44 = hI h 437 4) → (K h))))
set_option maxHeartbeats 4000000 in
theorem a_X14_findCore {sc : Nat × (Nat → Int32)} {goal : XO → XH → Prop} {fs : List XF} {h : XH}  {K : XH → Prop} (hd : fs.length + 77 ≤ 1000) (w : w_X14_findCore  K h) (t0 : HT h) (k : ∀ (h1 : XH), HT h1 → HX h h1 → K h1 → XFin xP sc goal fs (.inl none) h1) : RR sc goal fs 200 0 [some (rv 437), none, none, none] [] h := by
  unfold w_X14_findCore at w
  refine r_aldn (pc1 := 1) rfl rfl rfl ?_
  refine r_gfI (pc1 := 4) rfl rfl rfl t0 (lyk t0 rfl) rfl rfl ?_
  refine r_aldn (pc1 := 5) rfl rfl rfl ?_
  refine r_gfI (pc1 := 8) rfl rfl rfl t0 (lyk t0 rfl) rfl rfl ?_
  refine r_ic (t := 12) (pc1 := 11) rfl rfl rfl (rgh _ _ _) (rgh _ _ _) (fun c72 => ?_) (fun c72 => ?_)
  · have w := w.1 c72
    refine r_aldn (pc1 := 13) rfl rfl rfl ?_
    refine r_aldn (pc1 := 14) rfl rfl rfl ?_
    refine r_gfI (pc1 := 17) rfl rfl rfl t0 (lyk t0 rfl) rfl rfl ?_
    refine r_pfI (pc1 := 20) rfl rfl rfl t0 (lyk t0 rfl) rfl rfl rfl (fun h1 eh1 t1 u1 => ?_)
    have w := w h1 eh1 t1 u1
    have s1 := HX_trans (HX_refl h) u1
    refine r_aldn (pc1 := 21) rfl rfl rfl ?_
    refine r_n (pc1 := 22) [.int (J 0), rv 437] _ rfl rfl ?_
    refine r_na (pc1 := 24) (u := 0) (m := 2) rfl rfl rfl t1 rfl (rgk rfl) (by decide) (by decide) (fun a2 h3 ea2 eh3 t3 u3 ca2 la2 => ?_)
    have w := w a2 h3 ea2 eh3 t3 u3 ca2 la2
    have s3 := HX_trans s1 u3
    refine r_pfA (pc1 := 27) rfl rfl rfl t3 (lyk t3 rfl) rfl rfl rfl (fun h4 eh4 t4 u4 => ?_)
    have w := w h4 eh4 t4 u4
    have s4 := HX_trans s3 u4
    refine r_aldn (pc1 := 28) rfl rfl rfl ?_
    refine r_iv rfl rfl rfl rfl rfl rfl t4 (lyk t4 rfl) rfl (xe_of (xa_r xa_0) rfl rfl) (r_d0 hd rfl) (a_X14_fitsAny  (r_d1 hd rfl)  w t4 (fun x5 h6 t6 u6 rx5 vx5 w => ?_))
    refine r_fI (pc1 := 31) rfl ?_
    have s6 := HX_trans s4 u6
    have w := w t6 u6
    have w := w rx5 vx5
    refine r_iz (t := 35) (pc1 := 34) rfl rfl rfl rx5 (fun c71 => ?_) (fun c71 => ?_)
    · have w := w.1 c71
      refine r_aldn (pc1 := 36) rfl rfl rfl ?_
      refine r_gfR (pc1 := 39) rfl rfl rfl t6 (lyk t6 rfl) rfl rfl ?_
      obtain ⟨c7, w⟩ := w
      obtain ⟨c8, w⟩ := w
      refine r_len (pc1 := 40) (u := 2) rfl rfl t6 c7 (by decide) (fun rc8 => ?_) c8
      refine r_aldn (pc1 := 41) rfl rfl rfl ?_
      refine r_gfI (pc1 := 44) rfl rfl rfl t6 (lyk t6 rfl) rfl rfl ?_
      obtain ⟨J10, j10, w⟩ := w
      have Q10 : ∀ (h9 : XH), HT h9 → HX h h9 → J10 h9 → RR sc goal fs 200 58 [some (rv 437), none, none, none] [] h9 := by
        intro h9 t9 s9 z10
        have w := j10 h9 t9 s9 z10
        refine r_n (pc1 := 59) [.int (J 0)] _ rfl rfl ?_
        refine r_istn (pc1 := 60) (ls1 := [some (rv 437), some (.int (J 0)), none, none]) rfl rfl rfl rfl ?_
        obtain ⟨I13, m13, w, y13⟩ := w
        have Q13 : ∀ (n : Nat)  (x11 : Int) (h12 : XH), HT h12 → HX h h12 → rg x11 → m13 x11 h12 < n → I13 x11 h12 → RR sc goal fs 200 60 [some (rv 437), some (.int (J x11)), none, none] [] h12 := by
          intro n
          induction n with
          | zero => intro x11 h12 t12 s12 rx11 q13 _; exact absurd q13 (Nat.not_lt_zero _)
          | succ n ih13 =>
            intro x11 h12 t12 s12 rx11 q13 z13
            have w := y13 x11 h12 t12 s12 rx11 z13
            refine r_n (pc1 := 61) [.int (J x11)] _ rfl rfl ?_
            refine r_aldn (pc1 := 62) rfl rfl rfl ?_
            refine r_gfI (pc1 := 65) rfl rfl rfl t12 (lyk t12 rfl) rfl rfl ?_
            refine r_ic (t := 81) (pc1 := 68) rfl rfl rfl rx11 (rgh _ _ _) (fun c63 => ?_) (fun c63 => ?_)
            · have w := w.1 c63
              refine r_aldn (pc1 := 82) rfl rfl rfl ?_
              refine r_n (pc1 := 83) [.int (J 0), rv 437] _ rfl rfl ?_
              refine r_pfB (pc1 := 86) rfl rfl rfl t12 (lyk t12 rfl) rfl rfl rfl (.inl rfl) (fun h14 eh14 t14 u14 => ?_)
              have w := w h14 eh14 t14 u14
              have s14 := HX_trans s12 u14
              refine r_aldn (pc1 := 87) rfl rfl rfl ?_
              refine r_gfI (pc1 := 90) rfl rfl rfl t14 (lyk t14 rfl) rfl rfl ?_
              refine r_vI (rgh _ _ _) (fun x15 ex15 rx15 => ?_)
              have w := w x15 ex15 rx15
              refine r_istn (pc1 := 91) (ls1 := [some (rv 437), some (.int (J x15)), none, none]) rfl rfl rfl rfl ?_
              refine r_aldn (pc1 := 92) rfl rfl rfl ?_
              refine r_gfI (pc1 := 95) rfl rfl rfl t14 (lyk t14 rfl) rfl rfl ?_
              refine r_n (pc1 := 96) [.int (J 1), .int (J (hI h14 437 29))] _ rfl rfl ?_
              refine r_isub (pc1 := 97) rfl rfl ?_
              refine r_vI (rgw _) (fun x16 ex16 rx16 => ?_)
              have w := w x16 ex16 rx16
              refine r_istn (pc1 := 98) (ls1 := [some (rv 437), some (.int (J x15)), some (.int (J x16)), none]) rfl rfl rfl rfl ?_
              obtain ⟨I20, m20, w, y20⟩ := w
              have Q20 : ∀ (n : Nat)  (x17 : Int) (x18 : Int) (h19 : XH), HT h19 → HX h h19 → rg x17 → rg x18 → m20 x17 x18 h19 < n → I20 x17 x18 h19 → RR sc goal fs 200 98 [some (rv 437), some (.int (J x17)), some (.int (J x18)), none] [] h19 := by
                intro n
                induction n with
                | zero => intro x17 x18 h19 t19 s19 rx17 rx18 q20 _; exact absurd q20 (Nat.not_lt_zero _)
                | succ n ih20 =>
                  intro x17 x18 h19 t19 s19 rx17 rx18 q20 z20
                  have w := y20 x17 x18 h19 t19 s19 rx17 rx18 z20
                  refine r_n (pc1 := 99) [.int (J x18)] _ rfl rfl ?_
                  refine r_iz (t := 137) (pc1 := 102) rfl rfl rfl rx18 (fun c58 => ?_) (fun c58 => ?_)
                  · have w := w.1 c58
                    refine r_aldn (pc1 := 138) rfl rfl rfl ?_
                    refine r_n (pc1 := 139) [.int (J 1), rv 437] _ rfl rfl ?_
                    refine r_pfB (pc1 := 142) rfl rfl rfl t19 (lyk t19 rfl) rfl rfl rfl (.inr rfl) (fun h21 eh21 t21 u21 => ?_)
                    have w := w h21 eh21 t21 u21
                    have s21 := HX_trans s19 u21
                    refine r_aldn (pc1 := 143) rfl rfl rfl ?_
                    refine r_n (pc1 := 144) [.int (J x17), rv 437] _ rfl rfl ?_
                    obtain ⟨c22, w⟩ := w
                    refine r_na (pc1 := 146) (u := 0) (m := 2) rfl rfl rfl t21 rfl rx17 c22.1 c22.2 (fun a23 h24 ea23 eh24 t24 u24 ca23 la23 => ?_)
                    have w := w a23 h24 ea23 eh24 t24 u24 ca23 la23
                    have s24 := HX_trans s21 u24
                    refine r_pfA (pc1 := 149) rfl rfl rfl t24 (lyk t24 rfl) rfl rfl rfl (fun h25 eh25 t25 u25 => ?_)
                    have w := w h25 eh25 t25 u25
                    have s25 := HX_trans s24 u25
                    refine r_n (pc1 := 150) [.int (J 0)] _ rfl rfl ?_
                    refine r_istn (pc1 := 151) (ls1 := [some (rv 437), some (.int (J x17)), some (.int (J 0)), none]) rfl rfl rfl rfl ?_
                    refine r_n (pc1 := 152) [.int (J 0)] _ rfl rfl ?_
                    refine r_istn (pc1 := 153) (ls1 := [some (rv 437), some (.int (J x17)), some (.int (J 0)), some (.int (J 0))]) rfl rfl rfl rfl ?_
                    obtain ⟨I30, m30, w, y30⟩ := w
                    have Q30 : ∀ (n : Nat) (d26 : Option Value) (x27 : Int) (x28 : Int) (h29 : XH), HT h29 → HX h h29 → rg x27 → rg x28 → m30 x27 x28 h29 < n → I30 x27 x28 h29 → RR sc goal fs 200 153 [some (rv 437), d26, some (.int (J x27)), some (.int (J x28))] [] h29 := by
                      intro n
                      induction n with
                      | zero => intro d26 x27 x28 h29 t29 s29 rx27 rx28 q30 _; exact absurd q30 (Nat.not_lt_zero _)
                      | succ n ih30 =>
                        intro d26 x27 x28 h29 t29 s29 rx27 rx28 q30 z30
                        have w := y30 x27 x28 h29 t29 s29 rx27 rx28 z30
                        refine r_n (pc1 := 154) [.int (J x28)] _ rfl rfl ?_
                        refine r_aldn (pc1 := 155) rfl rfl rfl ?_
                        refine r_gfI (pc1 := 158) rfl rfl rfl t29 (lyk t29 rfl) rfl rfl ?_
                        refine r_ic (t := 186) (pc1 := 161) rfl rfl rfl rx28 (rgh _ _ _) (fun c43 => ?_) (fun c43 => ?_)
                        · have w := w.1 c43
                          exact r_retV rfl rfl rfl (k _ t29 s29 w)
                        · have w := w.2 c43
                          refine r_aldn (pc1 := 162) rfl rfl rfl ?_
                          refine r_gfR (pc1 := 165) rfl rfl rfl t29 (lyk t29 rfl) rfl rfl ?_
                          refine r_n (pc1 := 166) [.int (J x28), rv (hR h29 437 31)] _ rfl rfl ?_
                          obtain ⟨c31, w⟩ := w
                          obtain ⟨c32, w⟩ := w
                          refine r_bal (pc1 := 167) rfl rfl t29 c31 rx28 c32.1 c32.2 ?_
                          obtain ⟨J36, j36, w⟩ := w
                          have Q36 : ∀ (d33 : Option Value) (x34 : Int) (h35 : XH), HT h35 → HX h h35 → rg x34 → J36 x34 h35 → RR sc goal fs 200 180 [some (rv 437), d33, some (.int (J x34)), some (.int (J x28))] [] h35 := by
                            intro d33 x34 h35 t35 s35 rx34 z36
                            have w := j36 x34 h35 t35 s35 rx34 z36
                            refine r_inc (pc1 := 183) (g := fun zz => [some (rv 437), d33, some (.int (J x34)), some (.int (J zz))]) rfl rfl rfl rfl (fun _ => rfl) (fun x37 ex37 rx37 => ?_)
                            have w := w x37 ex37 rx37
                            refine r_goto (t := 153) rfl rfl ?_
                            exact ih30 _ x34 x37 h35 t35 s35 rx34 rx37 (Nat.lt_of_lt_of_le w.2 (Nat.le_of_lt_succ q30)) w.1
                          refine r_iz (t := 180) (pc1 := 170) rfl rfl rfl (rgh _ _ _) (fun c42 => ?_) (fun c42 => ?_)
                          · have w := w.1 c42
                            exact Q36 _ x27 h29 t29 s29 rx27 w
                          · have w := w.2 c42
                            refine r_aldn (pc1 := 171) rfl rfl rfl ?_
                            refine r_gfR (pc1 := 174) rfl rfl rfl t29 (lyk t29 rfl) rfl rfl ?_
                            refine r_n (pc1 := 175) [.int (J x27), rv (hR h29 437 45)] _ rfl rfl ?_
                            refine r_n (pc1 := 176) [.int (J x28), .int (J x27), rv (hR h29 437 45)] _ rfl rfl ?_
                            obtain ⟨c38, w⟩ := w
                            obtain ⟨c39, w⟩ := w
                            refine r_iast (pc1 := 177) rfl rfl t29 c38 rx27 c39.1 c39.2 (fun h40 eh40 t40 u40 => ?_)
                            have w := w h40 eh40 t40 u40
                            have s40 := HX_trans s29 u40
                            refine r_inc (pc1 := 180) (g := fun zz => [some (rv 437), (dcl d26), some (.int (J zz)), some (.int (J x28))]) rfl rfl rfl rfl (fun _ => xput1_d rfl rfl) (fun x41 ex41 rx41 => ?_)
                            have w := w x41 ex41 rx41
                            exact Q36 _ x41 h40 t40 s40 rx41 w
                    exact Q30 _ _ 0 0 h25 t25 s25 (rgk rfl) (rgk rfl) (Nat.lt_succ_self _) w
                  · have w := w.2 c58
                    refine r_aldn (pc1 := 103) rfl rfl rfl ?_
                    refine r_gfR (pc1 := 106) rfl rfl rfl t19 (lyk t19 rfl) rfl rfl ?_
                    refine r_n (pc1 := 107) [.int (J x18), rv (hR h19 437 31)] _ rfl rfl ?_
                    refine r_n (pc1 := 108) [.int (J 0), .int (J x18), rv (hR h19 437 31)] _ rfl rfl ?_
                    obtain ⟨c44, w⟩ := w
                    obtain ⟨c45, w⟩ := w
                    refine r_bast (pc1 := 109) rfl rfl t19 c44 (.inl rfl) rx18 c45.1 c45.2 (fun h46 eh46 t46 u46 => ?_)
                    have w := w h46 eh46 t46 u46
                    have s46 := HX_trans s19 u46
                    refine r_aldn (pc1 := 110) rfl rfl rfl ?_
                    refine r_n (pc1 := 111) [.long (G (0#64)), rv 437] _ rfl rfl ?_
                    refine r_n (pc1 := 112) [.long (G (0#64)), .long (G (0#64)), rv 437] _ rfl rfl ?_
                    refine r_iv rfl rfl rfl rfl rfl rfl t46 (lyk t46 rfl) rfl (xe_of (xa_r (xa_l (xa_l xa_0))) rfl rfl) (r_d0 hd rfl) (a_X14_search (0#64) (0#64) (r_d1 hd rfl)  w t46 (fun x47 h48 t48 u48 rx47 vx47 w => ?_))
                    refine r_fI (pc1 := 115) rfl ?_
                    have s48 := HX_trans s46 u48
                    have w := w t48 u48
                    have w := w rx47 vx47
                    obtain ⟨J51, j51, w⟩ := w
                    have Q51 : ∀ (x49 : Int) (h50 : XH), HT h50 → HX h h50 → rg x49 → J51 x49 h50 → RR sc goal fs 200 131 [some (rv 437), some (.int (J x49)), some (.int (J x18)), none] [] h50 := by
                      intro x49 h50 t50 s50 rx49 z51
                      have w := j51 x49 h50 t50 s50 rx49 z51
                      refine r_inc (pc1 := 134) (g := fun zz => [some (rv 437), some (.int (J x49)), some (.int (J zz)), none]) rfl rfl rfl rfl (fun _ => rfl) (fun x52 ex52 rx52 => ?_)
                      have w := w x52 ex52 rx52
                      refine r_goto (t := 98) rfl rfl ?_
                      exact ih20  x49 x52 h50 t50 s50 rx49 rx52 (Nat.lt_of_lt_of_le w.2 (Nat.le_of_lt_succ q20)) w.1
                    refine r_iz (t := 128) (pc1 := 118) rfl rfl rfl rx47 (fun c57 => ?_) (fun c57 => ?_)
                    · have w := w.1 c57
                      refine r_inc (pc1 := 131) (g := fun zz => [some (rv 437), some (.int (J zz)), some (.int (J x18)), none]) rfl rfl rfl rfl (fun _ => rfl) (fun x53 ex53 rx53 => ?_)
                      have w := w x53 ex53 rx53
                      exact Q51  x53 h48 t48 s48 rx53 w
                    · have w := w.2 c57
                      refine r_aldn (pc1 := 119) rfl rfl rfl ?_
                      refine r_gfR (pc1 := 122) rfl rfl rfl t48 (lyk t48 rfl) rfl rfl ?_
                      refine r_n (pc1 := 123) [.int (J x18), rv (hR h48 437 31)] _ rfl rfl ?_
                      refine r_n (pc1 := 124) [.int (J 1), .int (J x18), rv (hR h48 437 31)] _ rfl rfl ?_
                      obtain ⟨c54, w⟩ := w
                      obtain ⟨c55, w⟩ := w
                      refine r_bast (pc1 := 125) rfl rfl t48 c54 (.inr rfl) rx18 c55.1 c55.2 (fun h56 eh56 t56 u56 => ?_)
                      have w := w h56 eh56 t56 u56
                      have s56 := HX_trans s48 u56
                      refine r_goto (t := 131) rfl rfl ?_
                      exact Q51  x17 h56 t56 s56 rx17 w
              exact Q20 _  x15 x16 h14 t14 s14 rx15 rx16 (Nat.lt_succ_self _) w
            · have w := w.2 c63
              refine r_aldn (pc1 := 69) rfl rfl rfl ?_
              refine r_gfR (pc1 := 72) rfl rfl rfl t12 (lyk t12 rfl) rfl rfl ?_
              refine r_n (pc1 := 73) [.int (J x11), rv (hR h12 437 31)] _ rfl rfl ?_
              refine r_n (pc1 := 74) [.int (J 1), .int (J x11), rv (hR h12 437 31)] _ rfl rfl ?_
              obtain ⟨c59, w⟩ := w
              obtain ⟨c60, w⟩ := w
              refine r_bast (pc1 := 75) rfl rfl t12 c59 (.inr rfl) rx11 c60.1 c60.2 (fun h61 eh61 t61 u61 => ?_)
              have w := w h61 eh61 t61 u61
              have s61 := HX_trans s12 u61
              refine r_inc (pc1 := 78) (g := fun zz => [some (rv 437), some (.int (J zz)), none, none]) rfl rfl rfl rfl (fun _ => rfl) (fun x62 ex62 rx62 => ?_)
              have w := w x62 ex62 rx62
              refine r_goto (t := 60) rfl rfl ?_
              exact ih13  x62 h61 t61 s61 rx62 (Nat.lt_of_lt_of_le w.2 (Nat.le_of_lt_succ q13)) w.1
        exact Q13 _  0 h9 t9 s9 (rgk rfl) (Nat.lt_succ_self _) w
      refine r_ic (t := 58) (pc1 := 47) rfl rfl rfl rc8 (rgh _ _ _) (fun c70 => ?_) (fun c70 => ?_)
      · have w := w.1 c70
        exact Q10   h6 t6 s6  w
      · have w := w.2 c70
        refine r_aldn (pc1 := 48) rfl rfl rfl ?_
        refine r_aldn (pc1 := 49) rfl rfl rfl ?_
        refine r_gfR (pc1 := 52) rfl rfl rfl t6 (lyk t6 rfl) rfl rfl ?_
        obtain ⟨c64, w⟩ := w
        obtain ⟨c65, w⟩ := w
        refine r_len (pc1 := 53) (u := 1) rfl rfl t6 c64 (by decide) (fun rc65 => ?_) c65
        obtain ⟨c66, w⟩ := w
        refine r_na (pc1 := 55) (u := 2) (m := 2) rfl rfl rfl t6 rfl rc65 c66.1 c66.2 (fun a67 h68 ea67 eh68 t68 u68 ca67 la67 => ?_)
        have w := w a67 h68 ea67 eh68 t68 u68 ca67 la67
        have s68 := HX_trans s6 u68
        refine r_pfA (pc1 := 58) rfl rfl rfl t68 (lyk t68 rfl) rfl rfl rfl (fun h69 eh69 t69 u69 => ?_)
        have w := w h69 eh69 t69 u69
        have s69 := HX_trans s68 u69
        exact Q10   h69 t69 s69  w
    · have w := w.2 c71
      exact r_retV rfl rfl rfl (k _ t6 s6 w)
  · have w := w.2 c72
    exact r_retV rfl rfl rfl (k _ t0 (HX_refl h) w)
def w_X14_core  (K : Int → XH → Prop) (h : XH) : Prop :=
  (∀ h1 : XH, h1 = sI h 437 5 0 → HT h1 → HX h h1 → w_X14_findCore (fun h2 => HT h2 → HX h1 h2 → (hk h2 (hR h2 437 45) = 100 ∧ (hn h2 (hR h2 437 45) : Int) < 2147483648 ∧ K (hn h2 (hR h2 437 45) : Int) h2)) h1)
set_option maxHeartbeats 4000000 in
theorem a_X14_core {sc : Nat × (Nat → Int32)} {goal : XO → XH → Prop} {fs : List XF} {h : XH}  {K : Int → XH → Prop} (hd : fs.length + 78 ≤ 1000) (w : w_X14_core  K h) (t0 : HT h) (k : ∀ (r : Int) (h1 : XH), HT h1 → HX h h1 → rg r → K r h1 → XFin xP sc goal fs (.inl (some (.int (J r)))) h1) : RR sc goal fs 187 0 [some (rv 437)] [] h := by
  unfold w_X14_core at w
  refine r_aldn (pc1 := 1) rfl rfl rfl ?_
  refine r_n (pc1 := 2) [.int (J 0), rv 437] _ rfl rfl ?_
  refine r_pfI (pc1 := 5) rfl rfl rfl t0 (lyk t0 rfl) rfl rfl rfl (fun h1 eh1 t1 u1 => ?_)
  have w := w h1 eh1 t1 u1
  have s1 := HX_trans (HX_refl h) u1
  refine r_aldn (pc1 := 6) rfl rfl rfl ?_
  refine r_iv rfl rfl rfl rfl rfl rfl t1 (lyk t1 rfl) rfl (xe_of (xa_r xa_0) rfl rfl) (r_d0 hd rfl) (a_X14_findCore  (r_d1 hd rfl)  w t1 (fun h2 t2 u2 w => ?_))
  refine r_fV (pc1 := 9) rfl ?_
  have s2 := HX_trans s1 u2
  have w := w t2 u2
  refine r_aldn (pc1 := 10) rfl rfl rfl ?_
  refine r_gfR (pc1 := 13) rfl rfl rfl t2 (lyk t2 rfl) rfl rfl ?_
  obtain ⟨c3, w⟩ := w
  obtain ⟨c4, w⟩ := w
  refine r_len (pc1 := 14) (u := 0) rfl rfl t2 c3 (by decide) (fun rc4 => ?_) c4
  exact r_retI rfl rfl rfl (k _ _ t2 s2 rc4 w)
def w_X14_coreAt (p0 : Int) (p1 : Int) (K : Int → XH → Prop) (h : XH) : Prop :=
  (∀ h1 : XH, h1 = sI h 437 5 0 → HT h1 → HX h h1 → w_X14_findCore (fun h2 => HT h2 → HX h1 h2 → (hk h2 (hR h2 437 45) = 100 ∧ (hn h2 (hR h2 437 45) : Int) < 2147483648 ∧ w_X14_within p0 0 (wr ((hn h2 (hR h2 437 45) : Int) - 1)) (fun x5 => rg x5 → (x5 = 0 ∨ x5 = 1) → (w_X14_refused x5 1 (fun x6 h7 => HT h7 → HX h2 h7 → rg x6 → (x6 = 0 ∨ x6 = 1) → (∃ J9 : XH → Prop, (∀ (h8 : XH), HT h8 → HX h h8 → J9 h8 → (K 0 h8)) ∧ ((¬ x6 = 0 → J9 h7) ∧ (¬ (¬ x6 = 0) → (w_X14_within p1 0 4 (fun x10 => rg x10 → (x10 = 0 ∨ x10 = 1) → (w_X14_refused x10 2 (fun x11 h12 => HT h12 → HX h7 h12 → rg x11 → (x11 = 0 ∨ x11 = 1) → (((x11 = 0 → (hk h12 (hR h12 437 45) = 100 ∧ (0 ≤ p0 ∧ p0 < (hn h12 (hR h12 437 45) : Int)) ∧ ∀ x15 : Int, x15 = hI h12 (hR h12 437 45) p0.toNat → rg x15 → ((p1 < 0 ∨ 3 < p1 → (hk h12 (hR h12 437 24) = 101 ∧ (0 ≤ x15 ∧ x15 < (hn h12 (hR h12 437 24) : Int)) ∧ w_J13_bitCount_95d88 (hL h12 (hR h12 437 24) x15.toNat) (fun x19 => rg x19 → (hk h12 (hR h12 437 25) = 101 ∧ (0 ≤ x15 ∧ x15 < (hn h12 (hR h12 437 25) : Int)) ∧ w_J13_bitCount_95d88 (hL h12 (hR h12 437 25) x15.toNat) (fun x22 => rg x22 → (K (wr (x19 + x22)) h12)) h12)) h12)) ∧ (p1 = 0 → (K x15 h12)) ∧ (p1 = 1 → (hk h12 (hR h12 437 26) = 100 ∧ (0 ≤ x15 ∧ x15 < (hn h12 (hR h12 437 26) : Int)) ∧ K (hI h12 (hR h12 437 26) x15.toNat) h12)) ∧ (p1 = 2 → (hk h12 (hR h12 437 27) = 100 ∧ (0 ≤ x15 ∧ x15 < (hn h12 (hR h12 437 27) : Int)) ∧ K (hI h12 (hR h12 437 27) x15.toNat) h12)) ∧ (p1 = 3 → (hk h12 (hR h12 437 28) = 100 ∧ (0 ≤ x15 ∧ x15 < (hn h12 (hR h12 437 28) : Int)) ∧ K (hI h12 (hR h12 437 28) x15.toNat) h12))))) ∧ (¬ (x11 = 0) → J9 h12)))) h7)) h7))))) h2)) h2)) h1)
set_option maxHeartbeats 4000000 in
theorem a_X14_coreAt {sc : Nat × (Nat → Int32)} {goal : XO → XH → Prop} {fs : List XF} {h : XH} (p0 : Int) (p1 : Int) {K : Int → XH → Prop} (hd : fs.length + 78 ≤ 1000) (rp0 : rg p0) (rp1 : rg p1) (w : w_X14_coreAt p0 p1 K h) (t0 : HT h) (k : ∀ (r : Int) (h1 : XH), HT h1 → HX h h1 → rg r → K r h1 → XFin xP sc goal fs (.inl (some (.int (J r)))) h1) : RR sc goal fs 188 0 [some (rv 437), some (.int (J p0)), some (.int (J p1)), none] [] h := by
  unfold w_X14_coreAt at w
  refine r_aldn (pc1 := 1) rfl rfl rfl ?_
  refine r_n (pc1 := 2) [.int (J 0), rv 437] _ rfl rfl ?_
  refine r_pfI (pc1 := 5) rfl rfl rfl t0 (lyk t0 rfl) rfl rfl rfl (fun h1 eh1 t1 u1 => ?_)
  have w := w h1 eh1 t1 u1
  have s1 := HX_trans (HX_refl h) u1
  refine r_aldn (pc1 := 6) rfl rfl rfl ?_
  refine r_iv rfl rfl rfl rfl rfl rfl t1 (lyk t1 rfl) rfl (xe_of (xa_r xa_0) rfl rfl) (r_d0 hd rfl) (a_X14_findCore  (r_d1 hd rfl)  w t1 (fun h2 t2 u2 w => ?_))
  refine r_fV (pc1 := 9) rfl ?_
  have s2 := HX_trans s1 u2
  have w := w t2 u2
  refine r_aldn (pc1 := 10) rfl rfl rfl ?_
  refine r_n (pc1 := 11) [.int (J p0), rv 437] _ rfl rfl ?_
  refine r_n (pc1 := 12) [.int (J 0), .int (J p0), rv 437] _ rfl rfl ?_
  refine r_aldn (pc1 := 13) rfl rfl rfl ?_
  refine r_gfR (pc1 := 16) rfl rfl rfl t2 (lyk t2 rfl) rfl rfl ?_
  obtain ⟨c3, w⟩ := w
  obtain ⟨c4, w⟩ := w
  refine r_len (pc1 := 17) (u := 0) rfl rfl t2 c3 (by decide) (fun rc4 => ?_) c4
  refine r_n (pc1 := 18) [.int (J 1), .int (J (hn h2 (hR h2 437 45) : Int)), .int (J 0), .int (J p0), rv 437] _ rfl rfl ?_
  refine r_isub (pc1 := 19) rfl rfl ?_
  refine r_iq rfl rfl rfl rfl rfl rfl (xe_of (xa_i (xa_i (xa_i xa_0))) rfl rfl) (r_d0 hd rfl) (a_X14_within p0 0 (wr ((hn h2 (hR h2 437 45) : Int) - 1)) (r_d1 hd rfl) rp0 (rgk rfl) (rgw _) w t2 (fun x5 rx5 vx5 w => ?_))
  refine r_fI (pc1 := 22) rfl ?_
  have w := w rx5 vx5
  refine r_n (pc1 := 23) [.int (J 1), .int (J x5), rv 437] _ rfl rfl ?_
  refine r_iv rfl rfl rfl rfl rfl rfl t2 (lyk t2 rfl) rfl (xe_of (xa_r (xa_i (xa_i xa_0))) rfl rfl) (r_d0 hd rfl) (a_X14_refused x5 1 (r_d1 hd rfl) rx5 (rgk rfl) w t2 (fun x6 h7 t7 u7 rx6 vx6 w => ?_))
  refine r_fI (pc1 := 26) rfl ?_
  have s7 := HX_trans s2 u7
  have w := w t7 u7
  have w := w rx6 vx6
  obtain ⟨J9, j9, w⟩ := w
  have Q9 : ∀ (h8 : XH), HT h8 → HX h h8 → J9 h8 → RR sc goal fs 188 43 [some (rv 437), some (.int (J p0)), some (.int (J p1)), none] [] h8 := by
    intro h8 t8 s8 z9
    have w := j9 h8 t8 s8 z9
    refine r_n (pc1 := 44) [.int (J 0)] _ rfl rfl ?_
    exact r_retI rfl rfl rfl (k _ _ t8 s8 (rgk rfl) w)
  refine r_iz (t := 43) (pc1 := 29) rfl rfl rfl rx6 (fun c30 => ?_) (fun c30 => ?_)
  · have w := w.1 c30
    exact Q9   h7 t7 s7  w
  · have w := w.2 c30
    refine r_aldn (pc1 := 30) rfl rfl rfl ?_
    refine r_n (pc1 := 31) [.int (J p1), rv 437] _ rfl rfl ?_
    refine r_n (pc1 := 32) [.int (J 0), .int (J p1), rv 437] _ rfl rfl ?_
    refine r_n (pc1 := 33) [.int (J 4), .int (J 0), .int (J p1), rv 437] _ rfl rfl ?_
    refine r_iq rfl rfl rfl rfl rfl rfl (xe_of (xa_i (xa_i (xa_i xa_0))) rfl rfl) (r_d0 hd rfl) (a_X14_within p1 0 4 (r_d1 hd rfl) rp1 (rgk rfl) (rgk rfl) w t7 (fun x10 rx10 vx10 w => ?_))
    refine r_fI (pc1 := 36) rfl ?_
    have w := w rx10 vx10
    refine r_n (pc1 := 37) [.int (J 2), .int (J x10), rv 437] _ rfl rfl ?_
    refine r_iv rfl rfl rfl rfl rfl rfl t7 (lyk t7 rfl) rfl (xe_of (xa_r (xa_i (xa_i xa_0))) rfl rfl) (r_d0 hd rfl) (a_X14_refused x10 2 (r_d1 hd rfl) rx10 (rgk rfl) w t7 (fun x11 h12 t12 u12 rx11 vx11 w => ?_))
    refine r_fI (pc1 := 40) rfl ?_
    have s12 := HX_trans s7 u12
    have w := w t12 u12
    have w := w rx11 vx11
    refine r_iz (t := 45) (pc1 := 43) rfl rfl rfl rx11 (fun c29 => ?_) (fun c29 => ?_)
    · have w := w.1 c29
      refine r_aldn (pc1 := 46) rfl rfl rfl ?_
      refine r_gfR (pc1 := 49) rfl rfl rfl t12 (lyk t12 rfl) rfl rfl ?_
      refine r_n (pc1 := 50) [.int (J p0), rv (hR h12 437 45)] _ rfl rfl ?_
      obtain ⟨c13, w⟩ := w
      obtain ⟨c14, w⟩ := w
      refine r_ial (pc1 := 51) rfl rfl t12 c13 rp0 c14.1 c14.2 ?_
      refine r_vI (rgh _ _ _) (fun x15 ex15 rx15 => ?_)
      have w := w x15 ex15 rx15
      refine r_istn (pc1 := 52) (ls1 := [some (rv 437), some (.int (J p0)), some (.int (J p1)), some (.int (J x15))]) rfl rfl rfl rfl ?_
      refine r_n (pc1 := 53) [.int (J p1)] _ rfl rfl ?_
      refine r_tsw (t0 := 107) rfl rp1 rfl rfl (fun c16 => ?_) ?_
      · have w := w.1 c16
        refine r_aldn (pc1 := 108) rfl rfl rfl ?_
        refine r_gfR (pc1 := 111) rfl rfl rfl t12 (lyk t12 rfl) rfl rfl ?_
        refine r_n (pc1 := 112) [.int (J x15), rv (hR h12 437 24)] _ rfl rfl ?_
        obtain ⟨c17, w⟩ := w
        obtain ⟨c18, w⟩ := w
        refine r_lal (pc1 := 113) rfl rfl t12 c17 rx15 c18.1 c18.2 ?_
        refine r_iq rfl rfl rfl rfl rfl rfl (xe_of (xa_l xa_0) rfl rfl) (r_d0 hd rfl) (a_J13_bitCount_95d88 (hL h12 (hR h12 437 24) x15.toNat) (r_d1 hd rfl)  w t12 (fun x19 rx19 w => ?_))
        refine r_fI (pc1 := 116) rfl ?_
        have w := w rx19
        refine r_aldn (pc1 := 117) rfl rfl rfl ?_
        refine r_gfR (pc1 := 120) rfl rfl rfl t12 (lyk t12 rfl) rfl rfl ?_
        refine r_n (pc1 := 121) [.int (J x15), rv (hR h12 437 25), .int (J x19)] _ rfl rfl ?_
        obtain ⟨c20, w⟩ := w
        obtain ⟨c21, w⟩ := w
        refine r_lal (pc1 := 122) rfl rfl t12 c20 rx15 c21.1 c21.2 ?_
        refine r_iq rfl rfl rfl rfl rfl rfl (xe_of (xa_l xa_0) rfl rfl) (r_d0 hd rfl) (a_J13_bitCount_95d88 (hL h12 (hR h12 437 25) x15.toNat) (r_d1 hd rfl)  w t12 (fun x22 rx22 w => ?_))
        refine r_fI (pc1 := 125) rfl ?_
        have w := w rx22
        refine r_iadd (pc1 := 126) rfl rfl ?_
        exact r_retI rfl rfl rfl (k _ _ t12 s12 (rgw _) w)
      have w := w.2
      refine ⟨fun c16 => ⟨84, rfl, ?_⟩, ⟨fun c16 => ⟨86, rfl, ?_⟩, ⟨fun c16 => ⟨93, rfl, ?_⟩, ⟨fun c16 => ⟨100, rfl, ?_⟩, trivial⟩⟩⟩⟩
      · have w := w.1 c16
        refine r_n (pc1 := 85) [.int (J x15)] _ rfl rfl ?_
        exact r_retI rfl rfl rfl (k _ _ t12 s12 rx15 w)
      · have w := w.2.1 c16
        refine r_aldn (pc1 := 87) rfl rfl rfl ?_
        refine r_gfR (pc1 := 90) rfl rfl rfl t12 (lyk t12 rfl) rfl rfl ?_
        refine r_n (pc1 := 91) [.int (J x15), rv (hR h12 437 26)] _ rfl rfl ?_
        obtain ⟨c23, w⟩ := w
        obtain ⟨c24, w⟩ := w
        refine r_ial (pc1 := 92) rfl rfl t12 c23 rx15 c24.1 c24.2 ?_
        exact r_retI rfl rfl rfl (k _ _ t12 s12 (rgh _ _ _) w)
      · have w := w.2.2.1 c16
        refine r_aldn (pc1 := 94) rfl rfl rfl ?_
        refine r_gfR (pc1 := 97) rfl rfl rfl t12 (lyk t12 rfl) rfl rfl ?_
        refine r_n (pc1 := 98) [.int (J x15), rv (hR h12 437 27)] _ rfl rfl ?_
        obtain ⟨c25, w⟩ := w
        obtain ⟨c26, w⟩ := w
        refine r_ial (pc1 := 99) rfl rfl t12 c25 rx15 c26.1 c26.2 ?_
        exact r_retI rfl rfl rfl (k _ _ t12 s12 (rgh _ _ _) w)
      · have w := w.2.2.2 c16
        refine r_aldn (pc1 := 101) rfl rfl rfl ?_
        refine r_gfR (pc1 := 104) rfl rfl rfl t12 (lyk t12 rfl) rfl rfl ?_
        refine r_n (pc1 := 105) [.int (J x15), rv (hR h12 437 28)] _ rfl rfl ?_
        obtain ⟨c27, w⟩ := w
        obtain ⟨c28, w⟩ := w
        refine r_ial (pc1 := 106) rfl rfl t12 c27 rx15 c28.1 c28.2 ?_
        exact r_retI rfl rfl rfl (k _ _ t12 s12 (rgh _ _ _) w)
    · have w := w.2 c29
      exact Q9   h12 t12 s12  w
def w_X12_proof  (K : Int → XH → Prop) (h : XH) : Prop :=
  (w_X12_know 4 (fun h1 => HT h1 → HX h h1 → (K (hI h1 70 5) h1)) h)
set_option maxHeartbeats 4000000 in
theorem a_X12_proof {sc : Nat × (Nat → Int32)} {goal : XO → XH → Prop} {fs : List XF} {h : XH}  {K : Int → XH → Prop} (hd : fs.length + 8 ≤ 1000) (w : w_X12_proof  K h) (t0 : HT h) (k : ∀ (r : Int) (h1 : XH), HT h1 → HX h h1 → rg r → K r h1 → XFin xP sc goal fs (.inl (some (.int (J r)))) h1) : RR sc goal fs 141 0 [some (rv 2)] [] h := by
  unfold w_X12_proof at w
  refine r_aldn (pc1 := 1) rfl rfl rfl ?_
  refine r_n (pc1 := 2) [.int (J 4), rv 2] _ rfl rfl ?_
  refine r_iv rfl rfl rfl rfl rfl rfl t0 (lyk t0 rfl) rfl (xe_of (xa_r (xa_i xa_0)) rfl rfl) (r_d0 hd rfl) (a_X12_know 4 (r_d1 hd rfl) (rgk rfl) w t0 (fun h1 t1 u1 w => ?_))
  refine r_fV (pc1 := 5) rfl ?_
  have s1 := HX_trans (HX_refl h) u1
  have w := w t1 u1
  refine r_aldn (pc1 := 6) rfl rfl rfl ?_
  refine r_gfC (pc1 := 9) (q := 70) rfl rfl rfl t1 (lyk t1 rfl) rfl rfl (lyR t1 rfl rfl) ?_
  refine r_gfI (pc1 := 12) rfl rfl rfl t1 (lyk t1 rfl) rfl rfl ?_
  exact r_retI rfl rfl rfl (k _ _ t1 s1 (rgh _ _ _) w)
def w_X14_hasAll (p0 : BitVec 64) (p1 : BitVec 64) (p2 : BitVec 64) (p3 : BitVec 64) (K : Int → Prop) (h : XH) : Prop :=
  (∃ J2 : Int → Prop, (∀ (x1 : Int), rg x1 → J2 x1 → ((x1 = 0 ∨ x1 = 1) ∧ K x1)) ∧ ∃ J4 : Prop, (J4 → (J2 0)) ∧ ((¬ p2 &&& (p0 ^^^ (18446744073709551615#64)) = (0#64) → J4) ∧ (¬ (¬ p2 &&& (p0 ^^^ (18446744073709551615#64)) = (0#64)) → (((¬ p3 &&& (p1 ^^^ (18446744073709551615#64)) = (0#64) → J4) ∧ (¬ (¬ p3 &&& (p1 ^^^ (18446744073709551615#64)) = (0#64)) → (J2 1)))))))
set_option maxHeartbeats 4000000 in
theorem a_X14_hasAll {sc : Nat × (Nat → Int32)} {goal : XO → XH → Prop} {fs : List XF} {h : XH} (p0 : BitVec 64) (p1 : BitVec 64) (p2 : BitVec 64) (p3 : BitVec 64) {K : Int → Prop} (hd : fs.length + 0 ≤ 1000) (w : w_X14_hasAll p0 p1 p2 p3 K h) (t0 : HT h) (k : ∀ (r : Int), rg r → (r = 0 ∨ r = 1) → K r → XFin xP sc goal fs (.inl (some (.int (J r)))) h) : RR sc goal fs 213 0 [some (.long (G p0)), none, some (.long (G p1)), none, some (.long (G p2)), none, some (.long (G p3)), none] [] h := by
  unfold w_X14_hasAll at w
  refine r_n (pc1 := 2) [.long (G p2)] _ rfl rfl ?_
  refine r_n (pc1 := 3) [.long (G p0), .long (G p2)] _ rfl rfl ?_
  refine r_n (pc1 := 6) [.long (G (18446744073709551615#64)), .long (G p0), .long (G p2)] _ rfl rfl ?_
  refine r_lxor (pc1 := 7) rfl rfl ?_
  refine r_land (pc1 := 8) rfl rfl ?_
  refine r_n (pc1 := 9) [.long (G (0#64)), .long (G (p2 &&& (p0 ^^^ (18446744073709551615#64))))] _ rfl rfl ?_
  obtain ⟨J2, j2, w⟩ := w
  have Q2 : ∀ (x1 : Int), rg x1 → J2 x1 → RR sc goal fs 213 31 [some (.long (G p0)), none, some (.long (G p1)), none, some (.long (G p2)), none, some (.long (G p3)), none] [.int (J x1)] h := by
    intro x1 rx1 z2
    have w := j2 x1 rx1 z2
    obtain ⟨c3, w⟩ := w
    exact r_retB rfl rfl rfl c3 (k _ rx1 c3 w)
  obtain ⟨J4, j4, w⟩ := w
  have Q4 : J4 → RR sc goal fs 213 30 [some (.long (G p0)), none, some (.long (G p1)), none, some (.long (G p2)), none, some (.long (G p3)), none] [] h := by
    intro z4
    have w := j4 z4
    refine r_n (pc1 := 31) [.int (J 0)] _ rfl rfl ?_
    exact Q2  0  (rgk rfl) w
  refine r_lc (pc2 := 10) (t := 30) (pc1 := 13) rfl rfl rfl rfl rfl (fun c6 => ?_) (fun c6 => ?_)
  · have w := w.1 c6
    exact Q4     w
  · have w := w.2 c6
    refine r_n (pc1 := 15) [.long (G p3)] _ rfl rfl ?_
    refine r_n (pc1 := 16) [.long (G p1), .long (G p3)] _ rfl rfl ?_
    refine r_n (pc1 := 19) [.long (G (18446744073709551615#64)), .long (G p1), .long (G p3)] _ rfl rfl ?_
    refine r_lxor (pc1 := 20) rfl rfl ?_
    refine r_land (pc1 := 21) rfl rfl ?_
    refine r_n (pc1 := 22) [.long (G (0#64)), .long (G (p3 &&& (p1 ^^^ (18446744073709551615#64))))] _ rfl rfl ?_
    refine r_lc (pc2 := 23) (t := 30) (pc1 := 26) rfl rfl rfl rfl rfl (fun c5 => ?_) (fun c5 => ?_)
    · have w := w.1 c5
      exact Q4     w
    · have w := w.2 c5
      refine r_n (pc1 := 27) [.int (J 1)] _ rfl rfl ?_
      refine r_goto (t := 31) rfl rfl ?_
      exact Q2  1  (rgk rfl) w
def w_X14_addPair (p0 : Int) (p1 : Int) (K : XH → Prop) (h : XH) : Prop :=
  ((0 ≤ p0 ∧ p0 < 200) ∧ (0 ≤ p1 ∧ p1 < 200) ∧ ∀ b3 : BitVec 64, b3 = ((hL h 454 p0.toNat) &&& (hL h 455 p1.toNat)) ||| ((hL h 455 p0.toNat) &&& (hL h 454 p1.toNat)) → w_J13_bitCount_95d88 b3 (fun x4 => rg x4 → (((x4 = 1 → (∀ b5 : BitVec 64, b5 = ((hL h 454 p0.toNat) ||| (hL h 454 p1.toNat)) &&& (b3 ^^^ (18446744073709551615#64)) → ∀ b6 : BitVec 64, b6 = ((hL h 455 p0.toNat) ||| (hL h 455 p1.toNat)) &&& (b3 ^^^ (18446744073709551615#64)) → (∃ (I8 : Int → Prop) (m8 : Int → Nat), I8 0 ∧ ∀ (x7 : Int), rg x7 → I8 x7 → (((hI h 437 47 ≤ x7 → (hk h (hR h 437 52) = 101 ∧ (hn h (hR h 437 52) : Int) < 2147483648 ∧ ∃ J16 : XH → Prop, (∀ (h15 : XH), HT h15 → HX h h15 → J16 h15 → (hk h15 (hR h15 437 52) = 101 ∧ (0 ≤ hI h15 437 56 ∧ hI h15 437 56 < (hn h15 (hR h15 437 52) : Int)) ∧ ∀ h19 : XH, h19 = sL h15 (hR h15 437 52) (hI h15 437 56).toNat b5 → HT h19 → HX h15 h19 → hk h19 (hR h19 437 53) = 101 ∧ (0 ≤ hI h19 437 56 ∧ hI h19 437 56 < (hn h19 (hR h19 437 53) : Int)) ∧ ∀ h22 : XH, h22 = sL h19 (hR h19 437 53) (hI h19 437 56).toNat b6 → HT h22 → HX h19 h22 → hk h22 (hR h22 437 54) = 100 ∧ (0 ≤ hI h22 437 56 ∧ hI h22 437 56 < (hn h22 (hR h22 437 54) : Int)) ∧ ∀ h25 : XH, h25 = sI h22 (hR h22 437 54) (hI h22 437 56).toNat p0 → HT h25 → HX h22 h25 → hk h25 (hR h25 437 55) = 100 ∧ (0 ≤ hI h25 437 56 ∧ hI h25 437 56 < (hn h25 (hR h25 437 55) : Int)) ∧ ∀ h28 : XH, h28 = sI h25 (hR h25 437 55) (hI h25 437 56).toNat p1 → HT h28 → HX h25 h28 → ∀ h29 : XH, h29 = sI h28 437 56 (wr ((hI h28 437 56) + 1)) → HT h29 → HX h28 h29 → K h29)) ∧ ((¬ hI h 437 56 = (hn h (hR h 437 52) : Int) → J16 h) ∧ (¬ (¬ hI h 437 56 = (hn h (hR h 437 52) : Int)) → ((0 ≤ wr (2 * (hI h 437 56)) ∧ wr (2 * (hI h 437 56)) < 67108864) ∧ ∀ (a31 : Nat) (h32 : XH), a31 = h.length → h32 = nA h 1 (wr (2 * (hI h 437 56))).toNat → HT h32 → HX h h32 → hk h32 a31 = 101 → hn h32 a31 = (wr (2 * (hI h 437 56))).toNat → (0 ≤ wr (2 * (hI h32 437 56)) ∧ wr (2 * (hI h32 437 56)) < 67108864) ∧ ∀ (a34 : Nat) (h35 : XH), a34 = h32.length → h35 = nA h32 1 (wr (2 * (hI h32 437 56))).toNat → HT h35 → HX h32 h35 → hk h35 a34 = 101 → hn h35 a34 = (wr (2 * (hI h32 437 56))).toNat → (0 ≤ wr (2 * (hI h35 437 56)) ∧ wr (2 * (hI h35 437 56)) < 67108864) ∧ ∀ (a37 : Nat) (h38 : XH), a37 = h35.length → h38 = nA h35 0 (wr (2 * (hI h35 437 56))).toNat → HT h38 → HX h35 h38 → hk h38 a37 = 100 → hn h38 a37 = (wr (2 * (hI h35 437 56))).toNat → (0 ≤ wr (2 * (hI h38 437 56)) ∧ wr (2 * (hI h38 437 56)) < 67108864) ∧ ∀ (a40 : Nat) (h41 : XH), a40 = h38.length → h41 = nA h38 0 (wr (2 * (hI h38 437 56))).toNat → HT h41 → HX h38 h41 → hk h41 a40 = 100 → hn h41 a40 = (wr (2 * (hI h38 437 56))).toNat → hk h41 (hR h41 437 52) = 101 ∧ (¬ hR h41 437 52 = a31 ∧ (0 : Int) ≤ 0 ∧ (0 : Int) ≤ 0 ∧ (0 : Int) ≤ hI h41 437 56 ∧ ((0 + (hI h41 437 56) : Int)) ≤ (hn h41 (hR h41 437 52) : Int) ∧ ((0 + (hI h41 437 56) : Int)) ≤ (hn h41 a31 : Int)) ∧ ∀ h44 : XH, h44 = cA h41 (hR h41 437 52) 0 a31 0 (hI h41 437 56).toNat → HT h44 → HX h41 h44 → hk h44 (hR h44 437 53) = 101 ∧ (¬ hR h44 437 53 = a34 ∧ (0 : Int) ≤ 0 ∧ (0 : Int) ≤ 0 ∧ (0 : Int) ≤ hI h44 437 56 ∧ ((0 + (hI h44 437 56) : Int)) ≤ (hn h44 (hR h44 437 53) : Int) ∧ ((0 + (hI h44 437 56) : Int)) ≤ (hn h44 a34 : Int)) ∧ ∀ h47 : XH, h47 = cA h44 (hR h44 437 53) 0 a34 0 (hI h44 437 56).toNat → HT h47 → HX h44 h47 → hk h47 (hR h47 437 54) = 100 ∧ (¬ hR h47 437 54 = a37 ∧ (0 : Int) ≤ 0 ∧ (0 : Int) ≤ 0 ∧ (0 : Int) ≤ hI h47 437 56 ∧ ((0 + (hI h47 437 56) : Int)) ≤ (hn h47 (hR h47 437 54) : Int) ∧ ((0 + (hI h47 437 56) : Int)) ≤ (hn h47 a37 : Int)) ∧ ∀ h50 : XH, h50 = cA h47 (hR h47 437 54) 0 a37 0 (hI h47 437 56).toNat → HT h50 → HX h47 h50 → hk h50 (hR h50 437 55) = 100 ∧ (¬ hR h50 437 55 = a40 ∧ (0 : Int) ≤ 0 ∧ (0 : Int) ≤ 0 ∧ (0 : Int) ≤ hI h50 437 56 ∧ ((0 + (hI h50 437 56) : Int)) ≤ (hn h50 (hR h50 437 55) : Int) ∧ ((0 + (hI h50 437 56) : Int)) ≤ (hn h50 a40 : Int)) ∧ ∀ h53 : XH, h53 = cA h50 (hR h50 437 55) 0 a40 0 (hI h50 437 56).toNat → HT h53 → HX h50 h53 → ∀ h54 : XH, h54 = sR h53 437 52 a31 → HT h54 → HX h53 h54 → ∀ h55 : XH, h55 = sR h54 437 53 a34 → HT h55 → HX h54 h55 → ∀ h56 : XH, h56 = sR h55 437 54 a37 → HT h56 → HX h55 h56 → ∀ h57 : XH, h57 = sR h56 437 55 a40 → HT h57 → HX h56 h57 → J16 h57))))) ∧ (¬ (hI h 437 47 ≤ x7) → ((0 ≤ x7 ∧ x7 < 200) ∧ w_X14_hasAll b5 b6 (hL h 454 x7.toNat) (hL h 455 x7.toNat) (fun x60 => rg x60 → (x60 = 0 ∨ x60 = 1) → (((x60 = 0 → (∀ x61 : Int, x61 = wr (x7 + 1) → rg x61 → (I8 x61 ∧ m8 x61 < m8 x7))) ∧ (¬ (x60 = 0) → (K h))))) h))))))) ∧ (¬ (x4 = 1) → (K h))))) h)
set_option maxHeartbeats 4000000 in
theorem a_X14_addPair {sc : Nat × (Nat → Int32)} {goal : XO → XH → Prop} {fs : List XF} {h : XH} (p0 : Int) (p1 : Int) {K : XH → Prop} (hd : fs.length + 1 ≤ 1000) (rp0 : rg p0) (rp1 : rg p1) (w : w_X14_addPair p0 p1 K h) (t0 : HT h) (k : ∀ (h1 : XH), HT h1 → HX h h1 → K h1 → XFin xP sc goal fs (.inl none) h1) : RR sc goal fs 169 0 [some (rv 437), some (.int (J p0)), some (.int (J p1)), none, none, none, none, none, none, none, none, none, none] [] h := by
  unfold w_X14_addPair at w
  refine r_aldn (pc1 := 1) rfl rfl rfl ?_
  refine r_gfC (pc1 := 4) (q := 454) rfl rfl rfl t0 (lyk t0 rfl) rfl rfl (lyR t0 rfl rfl) ?_
  refine r_n (pc1 := 5) [.int (J p0), rv 454] _ rfl rfl ?_
  obtain ⟨c1, w⟩ := w
  refine r_lal (pc1 := 6) rfl rfl t0 (lyk t0 rfl) rp0 c1.1 (lt_len (lyn t0 rfl) c1.2) ?_
  refine r_aldn (pc1 := 7) rfl rfl rfl ?_
  refine r_gfC (pc1 := 10) (q := 455) rfl rfl rfl t0 (lyk t0 rfl) rfl rfl (lyR t0 rfl rfl) ?_
  refine r_n (pc1 := 11) [.int (J p1), rv 455, .long (G (hL h 454 p0.toNat))] _ rfl rfl ?_
  obtain ⟨c2, w⟩ := w
  refine r_lal (pc1 := 12) rfl rfl t0 (lyk t0 rfl) rp1 c2.1 (lt_len (lyn t0 rfl) c2.2) ?_
  refine r_land (pc1 := 13) rfl rfl ?_
  refine r_aldn (pc1 := 14) rfl rfl rfl ?_
  refine r_gfC (pc1 := 17) (q := 455) rfl rfl rfl t0 (lyk t0 rfl) rfl rfl (lyR t0 rfl rfl) ?_
  refine r_n (pc1 := 18) [.int (J p0), rv 455, .long (G ((hL h 454 p0.toNat) &&& (hL h 455 p1.toNat)))] _ rfl rfl ?_
  refine r_lal (pc1 := 19) rfl rfl t0 (lyk t0 rfl) rp0 c1.1 (lt_len (lyn t0 rfl) c1.2) ?_
  refine r_aldn (pc1 := 20) rfl rfl rfl ?_
  refine r_gfC (pc1 := 23) (q := 454) rfl rfl rfl t0 (lyk t0 rfl) rfl rfl (lyR t0 rfl rfl) ?_
  refine r_n (pc1 := 24) [.int (J p1), rv 454, .long (G (hL h 455 p0.toNat)), .long (G ((hL h 454 p0.toNat) &&& (hL h 455 p1.toNat)))] _ rfl rfl ?_
  refine r_lal (pc1 := 25) rfl rfl t0 (lyk t0 rfl) rp1 c2.1 (lt_len (lyn t0 rfl) c2.2) ?_
  refine r_land (pc1 := 26) rfl rfl ?_
  refine r_lor (pc1 := 27) rfl rfl ?_
  refine r_vL (fun b3 eb3 => ?_)
  have w := w b3 eb3
  refine r_lstn (pc1 := 28) (ls1 := [some (rv 437), some (.int (J p0)), some (.int (J p1)), some (.long (G b3)), none, none, none, none, none, none, none, none, none]) rfl rfl rfl rfl ?_
  refine r_n (pc1 := 29) [.long (G b3)] _ rfl rfl ?_
  refine r_iq rfl rfl rfl rfl rfl rfl (xe_of (xa_l xa_0) rfl rfl) (r_d0 hd rfl) (a_J13_bitCount_95d88 b3 (r_d1 hd rfl)  w t0 (fun x4 rx4 w => ?_))
  refine r_fI (pc1 := 32) rfl ?_
  have w := w rx4
  refine r_n (pc1 := 33) [.int (J 1), .int (J x4)] _ rfl rfl ?_
  refine r_ic (t := 37) (pc1 := 36) rfl rfl rfl rx4 (rgk rfl) (fun c64 => ?_) (fun c64 => ?_)
  · have w := w.1 c64
    refine r_aldn (pc1 := 38) rfl rfl rfl ?_
    refine r_gfC (pc1 := 41) (q := 454) rfl rfl rfl t0 (lyk t0 rfl) rfl rfl (lyR t0 rfl rfl) ?_
    refine r_n (pc1 := 42) [.int (J p0), rv 454] _ rfl rfl ?_
    refine r_lal (pc1 := 43) rfl rfl t0 (lyk t0 rfl) rp0 c1.1 (lt_len (lyn t0 rfl) c1.2) ?_
    refine r_aldn (pc1 := 44) rfl rfl rfl ?_
    refine r_gfC (pc1 := 47) (q := 454) rfl rfl rfl t0 (lyk t0 rfl) rfl rfl (lyR t0 rfl rfl) ?_
    refine r_n (pc1 := 48) [.int (J p1), rv 454, .long (G (hL h 454 p0.toNat))] _ rfl rfl ?_
    refine r_lal (pc1 := 49) rfl rfl t0 (lyk t0 rfl) rp1 c2.1 (lt_len (lyn t0 rfl) c2.2) ?_
    refine r_lor (pc1 := 50) rfl rfl ?_
    refine r_n (pc1 := 51) [.long (G b3), .long (G ((hL h 454 p0.toNat) ||| (hL h 454 p1.toNat)))] _ rfl rfl ?_
    refine r_n (pc1 := 54) [.long (G (18446744073709551615#64)), .long (G b3), .long (G ((hL h 454 p0.toNat) ||| (hL h 454 p1.toNat)))] _ rfl rfl ?_
    refine r_lxor (pc1 := 55) rfl rfl ?_
    refine r_land (pc1 := 56) rfl rfl ?_
    refine r_vL (fun b5 eb5 => ?_)
    have w := w b5 eb5
    refine r_lst (pc1 := 58) (ls1 := [some (rv 437), some (.int (J p0)), some (.int (J p1)), some (.long (G b3)), none, some (.long (G b5)), none, none, none, none, none, none, none]) rfl rfl rfl rfl ?_
    refine r_aldn (pc1 := 59) rfl rfl rfl ?_
    refine r_gfC (pc1 := 62) (q := 455) rfl rfl rfl t0 (lyk t0 rfl) rfl rfl (lyR t0 rfl rfl) ?_
    refine r_n (pc1 := 63) [.int (J p0), rv 455] _ rfl rfl ?_
    refine r_lal (pc1 := 64) rfl rfl t0 (lyk t0 rfl) rp0 c1.1 (lt_len (lyn t0 rfl) c1.2) ?_
    refine r_aldn (pc1 := 65) rfl rfl rfl ?_
    refine r_gfC (pc1 := 68) (q := 455) rfl rfl rfl t0 (lyk t0 rfl) rfl rfl (lyR t0 rfl rfl) ?_
    refine r_n (pc1 := 69) [.int (J p1), rv 455, .long (G (hL h 455 p0.toNat))] _ rfl rfl ?_
    refine r_lal (pc1 := 70) rfl rfl t0 (lyk t0 rfl) rp1 c2.1 (lt_len (lyn t0 rfl) c2.2) ?_
    refine r_lor (pc1 := 71) rfl rfl ?_
    refine r_n (pc1 := 72) [.long (G b3), .long (G ((hL h 455 p0.toNat) ||| (hL h 455 p1.toNat)))] _ rfl rfl ?_
    refine r_n (pc1 := 75) [.long (G (18446744073709551615#64)), .long (G b3), .long (G ((hL h 455 p0.toNat) ||| (hL h 455 p1.toNat)))] _ rfl rfl ?_
    refine r_lxor (pc1 := 76) rfl rfl ?_
    refine r_land (pc1 := 77) rfl rfl ?_
    refine r_vL (fun b6 eb6 => ?_)
    have w := w b6 eb6
    refine r_lst (pc1 := 79) (ls1 := [some (rv 437), some (.int (J p0)), some (.int (J p1)), some (.long (G b3)), none, some (.long (G b5)), none, some (.long (G b6)), none, none, none, none, none]) rfl rfl rfl rfl ?_
    refine r_n (pc1 := 80) [.int (J 0)] _ rfl rfl ?_
    refine r_ist (pc1 := 82) (ls1 := [some (rv 437), some (.int (J p0)), some (.int (J p1)), some (.long (G b3)), none, some (.long (G b5)), none, some (.long (G b6)), none, some (.int (J 0)), none, none, none]) rfl rfl rfl rfl ?_
    obtain ⟨I8, m8, w, y8⟩ := w
    have Q8 : ∀ (n : Nat)  (x7 : Int), rg x7 → m8 x7 < n → I8 x7 → RR sc goal fs 169 82 [some (rv 437), some (.int (J p0)), some (.int (J p1)), some (.long (G b3)), none, some (.long (G b5)), none, some (.long (G b6)), none, some (.int (J x7)), none, none, none] [] h := by
      intro n
      induction n with
      | zero => intro x7 rx7 q8 _; exact absurd q8 (Nat.not_lt_zero _)
      | succ n ih8 =>
        intro x7 rx7 q8 z8
        have w := y8 x7 rx7 z8
        refine r_n (pc1 := 84) [.int (J x7)] _ rfl rfl ?_
        refine r_aldn (pc1 := 85) rfl rfl rfl ?_
        refine r_gfI (pc1 := 88) rfl rfl rfl t0 (lyk t0 rfl) rfl rfl ?_
        refine r_ic (t := 122) (pc1 := 91) rfl rfl rfl rx7 (rgh _ _ _) (fun c63 => ?_) (fun c63 => ?_)
        · have w := w.1 c63
          refine r_aldn (pc1 := 123) rfl rfl rfl ?_
          refine r_gfI (pc1 := 126) rfl rfl rfl t0 (lyk t0 rfl) rfl rfl ?_
          refine r_aldn (pc1 := 127) rfl rfl rfl ?_
          refine r_gfR (pc1 := 130) rfl rfl rfl t0 (lyk t0 rfl) rfl rfl ?_
          obtain ⟨c9, w⟩ := w
          obtain ⟨c10, w⟩ := w
          refine r_len (pc1 := 131) (u := 1) rfl rfl t0 c9 (by decide) (fun rc10 => ?_) c10
          obtain ⟨J16, j16, w⟩ := w
          have Q16 : ∀ (d11 : Option Value) (d12 : Option Value) (d13 : Option Value) (d14 : Option Value) (h15 : XH), HT h15 → HX h h15 → J16 h15 → RR sc goal fs 169 258 [some (rv 437), some (.int (J p0)), some (.int (J p1)), some (.long (G b3)), none, some (.long (G b5)), none, some (.long (G b6)), none, d11, d12, d13, d14] [] h15 := by
            intro d11 d12 d13 d14 h15 t15 s15 z16
            have w := j16 h15 t15 s15 z16
            refine r_aldn (pc1 := 259) rfl rfl rfl ?_
            refine r_gfR (pc1 := 262) rfl rfl rfl t15 (lyk t15 rfl) rfl rfl ?_
            refine r_aldn (pc1 := 263) rfl rfl rfl ?_
            refine r_gfI (pc1 := 266) rfl rfl rfl t15 (lyk t15 rfl) rfl rfl ?_
            refine r_n (pc1 := 268) [.long (G b5), .int (J (hI h15 437 56)), rv (hR h15 437 52)] _ rfl rfl ?_
            obtain ⟨c17, w⟩ := w
            obtain ⟨c18, w⟩ := w
            refine r_last (pc1 := 269) rfl rfl t15 c17 (rgh _ _ _) c18.1 c18.2 (fun h19 eh19 t19 u19 => ?_)
            have w := w h19 eh19 t19 u19
            have s19 := HX_trans s15 u19
            refine r_aldn (pc1 := 270) rfl rfl rfl ?_
            refine r_gfR (pc1 := 273) rfl rfl rfl t19 (lyk t19 rfl) rfl rfl ?_
            refine r_aldn (pc1 := 274) rfl rfl rfl ?_
            refine r_gfI (pc1 := 277) rfl rfl rfl t19 (lyk t19 rfl) rfl rfl ?_
            refine r_n (pc1 := 279) [.long (G b6), .int (J (hI h19 437 56)), rv (hR h19 437 53)] _ rfl rfl ?_
            obtain ⟨c20, w⟩ := w
            obtain ⟨c21, w⟩ := w
            refine r_last (pc1 := 280) rfl rfl t19 c20 (rgh _ _ _) c21.1 c21.2 (fun h22 eh22 t22 u22 => ?_)
            have w := w h22 eh22 t22 u22
            have s22 := HX_trans s19 u22
            refine r_aldn (pc1 := 281) rfl rfl rfl ?_
            refine r_gfR (pc1 := 284) rfl rfl rfl t22 (lyk t22 rfl) rfl rfl ?_
            refine r_aldn (pc1 := 285) rfl rfl rfl ?_
            refine r_gfI (pc1 := 288) rfl rfl rfl t22 (lyk t22 rfl) rfl rfl ?_
            refine r_n (pc1 := 289) [.int (J p0), .int (J (hI h22 437 56)), rv (hR h22 437 54)] _ rfl rfl ?_
            obtain ⟨c23, w⟩ := w
            obtain ⟨c24, w⟩ := w
            refine r_iast (pc1 := 290) rfl rfl t22 c23 (rgh _ _ _) c24.1 c24.2 (fun h25 eh25 t25 u25 => ?_)
            have w := w h25 eh25 t25 u25
            have s25 := HX_trans s22 u25
            refine r_aldn (pc1 := 291) rfl rfl rfl ?_
            refine r_gfR (pc1 := 294) rfl rfl rfl t25 (lyk t25 rfl) rfl rfl ?_
            refine r_aldn (pc1 := 295) rfl rfl rfl ?_
            refine r_gfI (pc1 := 298) rfl rfl rfl t25 (lyk t25 rfl) rfl rfl ?_
            refine r_n (pc1 := 299) [.int (J p1), .int (J (hI h25 437 56)), rv (hR h25 437 55)] _ rfl rfl ?_
            obtain ⟨c26, w⟩ := w
            obtain ⟨c27, w⟩ := w
            refine r_iast (pc1 := 300) rfl rfl t25 c26 (rgh _ _ _) c27.1 c27.2 (fun h28 eh28 t28 u28 => ?_)
            have w := w h28 eh28 t28 u28
            have s28 := HX_trans s25 u28
            refine r_aldn (pc1 := 301) rfl rfl rfl ?_
            refine r_dupR (pc1 := 302) rfl rfl ?_
            refine r_gfI (pc1 := 305) rfl rfl rfl t28 (lyk t28 rfl) rfl rfl ?_
            refine r_n (pc1 := 306) [.int (J 1), .int (J (hI h28 437 56)), rv 437] _ rfl rfl ?_
            refine r_iadd (pc1 := 307) rfl rfl ?_
            refine r_pfI (pc1 := 310) rfl rfl rfl t28 (lyk t28 rfl) rfl rfl rfl (fun h29 eh29 t29 u29 => ?_)
            have w := w h29 eh29 t29 u29
            have s29 := HX_trans s28 u29
            exact r_retV rfl rfl rfl (k _ t29 s29 w)
          refine r_ic (t := 258) (pc1 := 134) rfl rfl rfl (rgh _ _ _) rc10 (fun c58 => ?_) (fun c58 => ?_)
          · have w := w.1 c58
            exact Q16 _ _ _ _  h t0 (HX_refl h)  w
          · have w := w.2 c58
            refine r_n (pc1 := 135) [.int (J 2)] _ rfl rfl ?_
            refine r_aldn (pc1 := 136) rfl rfl rfl ?_
            refine r_gfI (pc1 := 139) rfl rfl rfl t0 (lyk t0 rfl) rfl rfl ?_
            refine r_imul (pc1 := 140) rfl rfl ?_
            obtain ⟨c30, w⟩ := w
            refine r_na (pc1 := 142) (u := 1) (m := 2) rfl rfl rfl t0 rfl (rgw _) c30.1 c30.2 (fun a31 h32 ea31 eh32 t32 u32 ca31 la31 => ?_)
            have w := w a31 h32 ea31 eh32 t32 u32 ca31 la31
            have s32 := HX_trans (HX_refl h) u32
            refine r_ast (pc1 := 144) (ls1 := [some (rv 437), some (.int (J p0)), some (.int (J p1)), some (.long (G b3)), none, some (.long (G b5)), none, some (.long (G b6)), none, some (rv a31), none, none, none]) rfl rfl rfl rfl ?_
            refine r_n (pc1 := 145) [.int (J 2)] _ rfl rfl ?_
            refine r_aldn (pc1 := 146) rfl rfl rfl ?_
            refine r_gfI (pc1 := 149) rfl rfl rfl t32 (lyk t32 rfl) rfl rfl ?_
            refine r_imul (pc1 := 150) rfl rfl ?_
            obtain ⟨c33, w⟩ := w
            refine r_na (pc1 := 152) (u := 1) (m := 2) rfl rfl rfl t32 rfl (rgw _) c33.1 c33.2 (fun a34 h35 ea34 eh35 t35 u35 ca34 la34 => ?_)
            have w := w a34 h35 ea34 eh35 t35 u35 ca34 la34
            have s35 := HX_trans s32 u35
            refine r_ast (pc1 := 154) (ls1 := [some (rv 437), some (.int (J p0)), some (.int (J p1)), some (.long (G b3)), none, some (.long (G b5)), none, some (.long (G b6)), none, some (rv a31), some (rv a34), none, none]) rfl rfl rfl (xput1_rv rfl rfl) ?_
            refine r_n (pc1 := 155) [.int (J 2)] _ rfl rfl ?_
            refine r_aldn (pc1 := 156) rfl rfl rfl ?_
            refine r_gfI (pc1 := 159) rfl rfl rfl t35 (lyk t35 rfl) rfl rfl ?_
            refine r_imul (pc1 := 160) rfl rfl ?_
            obtain ⟨c36, w⟩ := w
            refine r_na (pc1 := 162) (u := 0) (m := 2) rfl rfl rfl t35 rfl (rgw _) c36.1 c36.2 (fun a37 h38 ea37 eh38 t38 u38 ca37 la37 => ?_)
            have w := w a37 h38 ea37 eh38 t38 u38 ca37 la37
            have s38 := HX_trans s35 u38
            refine r_ast (pc1 := 164) (ls1 := [some (rv 437), some (.int (J p0)), some (.int (J p1)), some (.long (G b3)), none, some (.long (G b5)), none, some (.long (G b6)), none, some (rv a31), some (rv a34), some (rv a37), none]) rfl rfl rfl (xput1_rv rfl rfl) ?_
            refine r_n (pc1 := 165) [.int (J 2)] _ rfl rfl ?_
            refine r_aldn (pc1 := 166) rfl rfl rfl ?_
            refine r_gfI (pc1 := 169) rfl rfl rfl t38 (lyk t38 rfl) rfl rfl ?_
            refine r_imul (pc1 := 170) rfl rfl ?_
            obtain ⟨c39, w⟩ := w
            refine r_na (pc1 := 172) (u := 0) (m := 2) rfl rfl rfl t38 rfl (rgw _) c39.1 c39.2 (fun a40 h41 ea40 eh41 t41 u41 ca40 la40 => ?_)
            have w := w a40 h41 ea40 eh41 t41 u41 ca40 la40
            have s41 := HX_trans s38 u41
            refine r_ast (pc1 := 174) (ls1 := [some (rv 437), some (.int (J p0)), some (.int (J p1)), some (.long (G b3)), none, some (.long (G b5)), none, some (.long (G b6)), none, some (rv a31), some (rv a34), some (rv a37), some (rv a40)]) rfl rfl rfl (xput1_rv rfl rfl) ?_
            refine r_aldn (pc1 := 175) rfl rfl rfl ?_
            refine r_gfR (pc1 := 178) rfl rfl rfl t41 (lyk t41 rfl) rfl rfl ?_
            refine r_n (pc1 := 179) [.int (J 0), rv (hR h41 437 52)] _ rfl rfl ?_
            refine r_ald (pc1 := 181) rfl rfl rfl ?_
            refine r_n (pc1 := 182) [.int (J 0), rv a31, .int (J 0), rv (hR h41 437 52)] _ rfl rfl ?_
            refine r_aldn (pc1 := 183) rfl rfl rfl ?_
            refine r_gfI (pc1 := 186) rfl rfl rfl t41 (lyk t41 rfl) rfl rfl ?_
            obtain ⟨c42, w⟩ := w
            obtain ⟨c43, w⟩ := w
            refine r_cp (pc1 := 189) (u := 1) rfl rfl rfl rfl t41 c42 (HXk u41 (HXk u38 (HXk u35 ca31 rfl) rfl) rfl) (by decide) (rgk rfl) (rgk rfl) (rgh _ _ _) rfl rfl c43 (fun h44 eh44 t44 u44 => ?_)
            have w := w h44 eh44 t44 u44
            have s44 := HX_trans s41 u44
            refine r_aldn (pc1 := 190) rfl rfl rfl ?_
            refine r_gfR (pc1 := 193) rfl rfl rfl t44 (lyk t44 rfl) rfl rfl ?_
            refine r_n (pc1 := 194) [.int (J 0), rv (hR h44 437 53)] _ rfl rfl ?_
            refine r_ald (pc1 := 196) rfl rfl rfl ?_
            refine r_n (pc1 := 197) [.int (J 0), rv a34, .int (J 0), rv (hR h44 437 53)] _ rfl rfl ?_
            refine r_aldn (pc1 := 198) rfl rfl rfl ?_
            refine r_gfI (pc1 := 201) rfl rfl rfl t44 (lyk t44 rfl) rfl rfl ?_
            obtain ⟨c45, w⟩ := w
            obtain ⟨c46, w⟩ := w
            refine r_cp (pc1 := 204) (u := 1) rfl rfl rfl rfl t44 c45 (HXk u44 (HXk u41 (HXk u38 ca34 rfl) rfl) rfl) (by decide) (rgk rfl) (rgk rfl) (rgh _ _ _) rfl rfl c46 (fun h47 eh47 t47 u47 => ?_)
            have w := w h47 eh47 t47 u47
            have s47 := HX_trans s44 u47
            refine r_aldn (pc1 := 205) rfl rfl rfl ?_
            refine r_gfR (pc1 := 208) rfl rfl rfl t47 (lyk t47 rfl) rfl rfl ?_
            refine r_n (pc1 := 209) [.int (J 0), rv (hR h47 437 54)] _ rfl rfl ?_
            refine r_ald (pc1 := 211) rfl rfl rfl ?_
            refine r_n (pc1 := 212) [.int (J 0), rv a37, .int (J 0), rv (hR h47 437 54)] _ rfl rfl ?_
            refine r_aldn (pc1 := 213) rfl rfl rfl ?_
            refine r_gfI (pc1 := 216) rfl rfl rfl t47 (lyk t47 rfl) rfl rfl ?_
            obtain ⟨c48, w⟩ := w
            obtain ⟨c49, w⟩ := w
            refine r_cp (pc1 := 219) (u := 0) rfl rfl rfl rfl t47 c48 (HXk u47 (HXk u44 (HXk u41 ca37 rfl) rfl) rfl) (by decide) (rgk rfl) (rgk rfl) (rgh _ _ _) rfl rfl c49 (fun h50 eh50 t50 u50 => ?_)
            have w := w h50 eh50 t50 u50
            have s50 := HX_trans s47 u50
            refine r_aldn (pc1 := 220) rfl rfl rfl ?_
            refine r_gfR (pc1 := 223) rfl rfl rfl t50 (lyk t50 rfl) rfl rfl ?_
            refine r_n (pc1 := 224) [.int (J 0), rv (hR h50 437 55)] _ rfl rfl ?_
            refine r_ald (pc1 := 226) rfl rfl rfl ?_
            refine r_n (pc1 := 227) [.int (J 0), rv a40, .int (J 0), rv (hR h50 437 55)] _ rfl rfl ?_
            refine r_aldn (pc1 := 228) rfl rfl rfl ?_
            refine r_gfI (pc1 := 231) rfl rfl rfl t50 (lyk t50 rfl) rfl rfl ?_
            obtain ⟨c51, w⟩ := w
            obtain ⟨c52, w⟩ := w
            refine r_cp (pc1 := 234) (u := 0) rfl rfl rfl rfl t50 c51 (HXk u50 (HXk u47 (HXk u44 ca40 rfl) rfl) rfl) (by decide) (rgk rfl) (rgk rfl) (rgh _ _ _) rfl rfl c52 (fun h53 eh53 t53 u53 => ?_)
            have w := w h53 eh53 t53 u53
            have s53 := HX_trans s50 u53
            refine r_aldn (pc1 := 235) rfl rfl rfl ?_
            refine r_ald (pc1 := 237) rfl rfl rfl ?_
            refine r_pfA (pc1 := 240) rfl rfl rfl t53 (lyk t53 rfl) rfl rfl rfl (fun h54 eh54 t54 u54 => ?_)
            have w := w h54 eh54 t54 u54
            have s54 := HX_trans s53 u54
            refine r_aldn (pc1 := 241) rfl rfl rfl ?_
            refine r_ald (pc1 := 243) rfl rfl rfl ?_
            refine r_pfA (pc1 := 246) rfl rfl rfl t54 (lyk t54 rfl) rfl rfl rfl (fun h55 eh55 t55 u55 => ?_)
            have w := w h55 eh55 t55 u55
            have s55 := HX_trans s54 u55
            refine r_aldn (pc1 := 247) rfl rfl rfl ?_
            refine r_ald (pc1 := 249) rfl rfl rfl ?_
            refine r_pfA (pc1 := 252) rfl rfl rfl t55 (lyk t55 rfl) rfl rfl rfl (fun h56 eh56 t56 u56 => ?_)
            have w := w h56 eh56 t56 u56
            have s56 := HX_trans s55 u56
            refine r_aldn (pc1 := 253) rfl rfl rfl ?_
            refine r_ald (pc1 := 255) rfl rfl rfl ?_
            refine r_pfA (pc1 := 258) rfl rfl rfl t56 (lyk t56 rfl) rfl rfl rfl (fun h57 eh57 t57 u57 => ?_)
            have w := w h57 eh57 t57 u57
            have s57 := HX_trans s56 u57
            exact Q16 _ _ _ _  h57 t57 s57  w
        · have w := w.2 c63
          refine r_n (pc1 := 93) [.long (G b5)] _ rfl rfl ?_
          refine r_n (pc1 := 95) [.long (G b6), .long (G b5)] _ rfl rfl ?_
          refine r_aldn (pc1 := 96) rfl rfl rfl ?_
          refine r_gfC (pc1 := 99) (q := 454) rfl rfl rfl t0 (lyk t0 rfl) rfl rfl (lyR t0 rfl rfl) ?_
          refine r_n (pc1 := 101) [.int (J x7), rv 454, .long (G b6), .long (G b5)] _ rfl rfl ?_
          obtain ⟨c59, w⟩ := w
          refine r_lal (pc1 := 102) rfl rfl t0 (lyk t0 rfl) rx7 c59.1 (lt_len (lyn t0 rfl) c59.2) ?_
          refine r_aldn (pc1 := 103) rfl rfl rfl ?_
          refine r_gfC (pc1 := 106) (q := 455) rfl rfl rfl t0 (lyk t0 rfl) rfl rfl (lyR t0 rfl rfl) ?_
          refine r_n (pc1 := 108) [.int (J x7), rv 455, .long (G (hL h 454 x7.toNat)), .long (G b6), .long (G b5)] _ rfl rfl ?_
          refine r_lal (pc1 := 109) rfl rfl t0 (lyk t0 rfl) rx7 c59.1 (lt_len (lyn t0 rfl) c59.2) ?_
          refine r_iq rfl rfl rfl rfl rfl rfl (xe_of (xa_l (xa_l (xa_l (xa_l xa_0)))) rfl rfl) (r_d0 hd rfl) (a_X14_hasAll b5 b6 (hL h 454 x7.toNat) (hL h 455 x7.toNat) (r_d1 hd rfl)  w t0 (fun x60 rx60 vx60 w => ?_))
          refine r_fI (pc1 := 112) rfl ?_
          have w := w rx60 vx60
          refine r_iz (t := 116) (pc1 := 115) rfl rfl rfl rx60 (fun c62 => ?_) (fun c62 => ?_)
          · have w := w.1 c62
            refine r_inc (pc1 := 119) (g := fun zz => [some (rv 437), some (.int (J p0)), some (.int (J p1)), some (.long (G b3)), none, some (.long (G b5)), none, some (.long (G b6)), none, some (.int (J zz)), none, none, none]) rfl rfl rfl rfl (fun _ => rfl) (fun x61 ex61 rx61 => ?_)
            have w := w x61 ex61 rx61
            refine r_goto (t := 82) rfl rfl ?_
            exact ih8  x61  rx61 (Nat.lt_of_lt_of_le w.2 (Nat.le_of_lt_succ q8)) w.1
          · have w := w.2 c62
            exact r_retV rfl rfl rfl (k _ t0 (HX_refl h) w)
    exact Q8 _  0  (rgk rfl) (Nat.lt_succ_self _) w
  · have w := w.2 c64
    exact r_retV rfl rfl rfl (k _ t0 (HX_refl h) w)
def w_X14_addRow (p0 : BitVec 64) (p1 : BitVec 64) (p2 : Int) (p3 : Int) (K : XH → Prop) (h : XH) : Prop :=
  ((0 ≤ hI h 437 47 ∧ hI h 437 47 < 200) ∧ ∀ h2 : XH, h2 = sL h 454 (hI h 437 47).toNat p0 → HT h2 → HX h h2 → (0 ≤ hI h2 437 47 ∧ hI h2 437 47 < 200) ∧ ∀ h4 : XH, h4 = sL h2 455 (hI h2 437 47).toNat p1 → HT h4 → HX h2 h4 → (0 ≤ hI h4 437 47 ∧ hI h4 437 47 < 200) ∧ ∀ h6 : XH, h6 = sI h4 456 (hI h4 437 47).toNat p2 → HT h6 → HX h4 h6 → (0 ≤ hI h6 437 47 ∧ hI h6 437 47 < 200) ∧ ∀ h8 : XH, h8 = sI h6 457 (hI h6 437 47).toNat p3 → HT h8 → HX h6 h8 → ∀ h9 : XH, h9 = sI h8 437 47 (wr ((hI h8 437 47) + 1)) → HT h9 → HX h8 h9 → (∃ (I14 : Int → Int → XH → Prop) (m14 : Int → Int → XH → Nat), I14 0 0 h9 ∧ ∀ (x11 : Int) (x12 : Int) (h13 : XH), HT h13 → HX h h13 → rg x11 → rg x12 → I14 x11 x12 h13 → (((hI h13 437 56 ≤ x12 → (∀ h15 : XH, h15 = sI h13 437 56 x11 → HT h15 → HX h13 h15 → (∃ (I19 : Int → XH → Prop) (m19 : Int → XH → Nat), I19 0 h15 ∧ ∀ (x17 : Int) (h18 : XH), HT h18 → HX h h18 → rg x17 → I19 x17 h18 → (((wr ((hI h18 437 47) - 1) ≤ x17 → (K h18)) ∧ (¬ (wr ((hI h18 437 47) - 1) ≤ x17) → (w_X14_addPair x17 (wr ((hI h18 437 47) - 1)) (fun h20 => HT h20 → HX h18 h20 → (∀ x21 : Int, x21 = wr (x17 + 1) → rg x21 → (I19 x21 h20 ∧ m19 x21 h20 < m19 x17 h18))) h18))))))) ∧ (¬ (hI h13 437 56 ≤ x12) → (hk h13 (hR h13 437 52) = 101 ∧ (0 ≤ x12 ∧ x12 < (hn h13 (hR h13 437 52) : Int)) ∧ hk h13 (hR h13 437 53) = 101 ∧ (0 ≤ x12 ∧ x12 < (hn h13 (hR h13 437 53) : Int)) ∧ w_X14_hasAll (hL h13 (hR h13 437 52) x12.toNat) (hL h13 (hR h13 437 53) x12.toNat) p0 p1 (fun x27 => rg x27 → (x27 = 0 ∨ x27 = 1) → (∃ J31 : Int → XH → Prop, (∀ (x29 : Int) (h30 : XH), HT h30 → HX h h30 → rg x29 → J31 x29 h30 → (∀ x32 : Int, x32 = wr (x12 + 1) → rg x32 → (I14 x29 x32 h30 ∧ m14 x29 x32 h30 < m14 x11 x12 h13))) ∧ ((¬ x27 = 0 → J31 x11 h13) ∧ (¬ (¬ x27 = 0) → ((0 ≤ x11 ∧ x11 < (hn h13 (hR h13 437 52) : Int)) ∧ ∀ h34 : XH, h34 = sL h13 (hR h13 437 52) x11.toNat (hL h13 (hR h13 437 52) x12.toNat) → HT h34 → HX h13 h34 → hk h34 (hR h34 437 53) = 101 ∧ (0 ≤ x12 ∧ x12 < (hn h34 (hR h34 437 53) : Int)) ∧ (0 ≤ x11 ∧ x11 < (hn h34 (hR h34 437 53) : Int)) ∧ ∀ h38 : XH, h38 = sL h34 (hR h34 437 53) x11.toNat (hL h34 (hR h34 437 53) x12.toNat) → HT h38 → HX h34 h38 → hk h38 (hR h38 437 54) = 100 ∧ (0 ≤ x12 ∧ x12 < (hn h38 (hR h38 437 54) : Int)) ∧ (0 ≤ x11 ∧ x11 < (hn h38 (hR h38 437 54) : Int)) ∧ ∀ h42 : XH, h42 = sI h38 (hR h38 437 54) x11.toNat (hI h38 (hR h38 437 54) x12.toNat) → HT h42 → HX h38 h42 → hk h42 (hR h42 437 55) = 100 ∧ (0 ≤ x12 ∧ x12 < (hn h42 (hR h42 437 55) : Int)) ∧ (0 ≤ x11 ∧ x11 < (hn h42 (hR h42 437 55) : Int)) ∧ ∀ h46 : XH, h46 = sI h42 (hR h42 437 55) x11.toNat (hI h42 (hR h42 437 55) x12.toNat) → HT h46 → HX h42 h46 → ∀ x47 : Int, x47 = wr (x11 + 1) → rg x47 → J31 x47 h46))))) h13))))))
set_option maxHeartbeats 4000000 in
theorem a_X14_addRow {sc : Nat × (Nat → Int32)} {goal : XO → XH → Prop} {fs : List XF} {h : XH} (p0 : BitVec 64) (p1 : BitVec 64) (p2 : Int) (p3 : Int) {K : XH → Prop} (hd : fs.length + 2 ≤ 1000) (rp2 : rg p2) (rp3 : rg p3) (w : w_X14_addRow p0 p1 p2 p3 K h) (t0 : HT h) (k : ∀ (h1 : XH), HT h1 → HX h h1 → K h1 → XFin xP sc goal fs (.inl none) h1) : RR sc goal fs 170 0 [some (rv 437), some (.long (G p0)), none, some (.long (G p1)), none, some (.int (J p2)), some (.int (J p3)), none, none] [] h := by
  unfold w_X14_addRow at w
  refine r_aldn (pc1 := 1) rfl rfl rfl ?_
  refine r_gfC (pc1 := 4) (q := 454) rfl rfl rfl t0 (lyk t0 rfl) rfl rfl (lyR t0 rfl rfl) ?_
  refine r_aldn (pc1 := 5) rfl rfl rfl ?_
  refine r_gfI (pc1 := 8) rfl rfl rfl t0 (lyk t0 rfl) rfl rfl ?_
  refine r_n (pc1 := 9) [.long (G p0), .int (J (hI h 437 47)), rv 454] _ rfl rfl ?_
  obtain ⟨c1, w⟩ := w
  refine r_last (pc1 := 10) rfl rfl t0 (lyk t0 rfl) (rgh _ _ _) c1.1 (lt_len (lyn t0 rfl) c1.2) (fun h2 eh2 t2 u2 => ?_)
  have w := w h2 eh2 t2 u2
  have s2 := HX_trans (HX_refl h) u2
  refine r_aldn (pc1 := 11) rfl rfl rfl ?_
  refine r_gfC (pc1 := 14) (q := 455) rfl rfl rfl t2 (lyk t2 rfl) rfl rfl (lyR t2 rfl rfl) ?_
  refine r_aldn (pc1 := 15) rfl rfl rfl ?_
  refine r_gfI (pc1 := 18) rfl rfl rfl t2 (lyk t2 rfl) rfl rfl ?_
  refine r_n (pc1 := 19) [.long (G p1), .int (J (hI h2 437 47)), rv 455] _ rfl rfl ?_
  obtain ⟨c3, w⟩ := w
  refine r_last (pc1 := 20) rfl rfl t2 (lyk t2 rfl) (rgh _ _ _) c3.1 (lt_len (lyn t2 rfl) c3.2) (fun h4 eh4 t4 u4 => ?_)
  have w := w h4 eh4 t4 u4
  have s4 := HX_trans s2 u4
  refine r_aldn (pc1 := 21) rfl rfl rfl ?_
  refine r_gfC (pc1 := 24) (q := 456) rfl rfl rfl t4 (lyk t4 rfl) rfl rfl (lyR t4 rfl rfl) ?_
  refine r_aldn (pc1 := 25) rfl rfl rfl ?_
  refine r_gfI (pc1 := 28) rfl rfl rfl t4 (lyk t4 rfl) rfl rfl ?_
  refine r_n (pc1 := 30) [.int (J p2), .int (J (hI h4 437 47)), rv 456] _ rfl rfl ?_
  obtain ⟨c5, w⟩ := w
  refine r_iast (pc1 := 31) rfl rfl t4 (lyk t4 rfl) (rgh _ _ _) c5.1 (lt_len (lyn t4 rfl) c5.2) (fun h6 eh6 t6 u6 => ?_)
  have w := w h6 eh6 t6 u6
  have s6 := HX_trans s4 u6
  refine r_aldn (pc1 := 32) rfl rfl rfl ?_
  refine r_gfC (pc1 := 35) (q := 457) rfl rfl rfl t6 (lyk t6 rfl) rfl rfl (lyR t6 rfl rfl) ?_
  refine r_aldn (pc1 := 36) rfl rfl rfl ?_
  refine r_gfI (pc1 := 39) rfl rfl rfl t6 (lyk t6 rfl) rfl rfl ?_
  refine r_n (pc1 := 41) [.int (J p3), .int (J (hI h6 437 47)), rv 457] _ rfl rfl ?_
  obtain ⟨c7, w⟩ := w
  refine r_iast (pc1 := 42) rfl rfl t6 (lyk t6 rfl) (rgh _ _ _) c7.1 (lt_len (lyn t6 rfl) c7.2) (fun h8 eh8 t8 u8 => ?_)
  have w := w h8 eh8 t8 u8
  have s8 := HX_trans s6 u8
  refine r_aldn (pc1 := 43) rfl rfl rfl ?_
  refine r_dupR (pc1 := 44) rfl rfl ?_
  refine r_gfI (pc1 := 47) rfl rfl rfl t8 (lyk t8 rfl) rfl rfl ?_
  refine r_n (pc1 := 48) [.int (J 1), .int (J (hI h8 437 47)), rv 437] _ rfl rfl ?_
  refine r_iadd (pc1 := 49) rfl rfl ?_
  refine r_pfI (pc1 := 52) rfl rfl rfl t8 (lyk t8 rfl) rfl rfl rfl (fun h9 eh9 t9 u9 => ?_)
  have w := w h9 eh9 t9 u9
  have s9 := HX_trans s8 u9
  refine r_n (pc1 := 53) [.int (J 0)] _ rfl rfl ?_
  refine r_ist (pc1 := 55) (ls1 := [some (rv 437), some (.long (G p0)), none, some (.long (G p1)), none, some (.int (J p2)), some (.int (J p3)), some (.int (J 0)), none]) rfl rfl rfl rfl ?_
  refine r_n (pc1 := 56) [.int (J 0)] _ rfl rfl ?_
  refine r_ist (pc1 := 58) (ls1 := [some (rv 437), some (.long (G p0)), none, some (.long (G p1)), none, some (.int (J p2)), some (.int (J p3)), some (.int (J 0)), some (.int (J 0))]) rfl rfl rfl rfl ?_
  obtain ⟨I14, m14, w, y14⟩ := w
  have Q14 : ∀ (n : Nat) (d10 : Option Value) (x11 : Int) (x12 : Int) (h13 : XH), HT h13 → HX h h13 → rg x11 → rg x12 → m14 x11 x12 h13 < n → I14 x11 x12 h13 → RR sc goal fs 170 58 [some (rv 437), some (.long (G p0)), none, some (.long (G p1)), none, some (.int (J p2)), d10, some (.int (J x11)), some (.int (J x12))] [] h13 := by
    intro n
    induction n with
    | zero => intro d10 x11 x12 h13 t13 s13 rx11 rx12 q14 _; exact absurd q14 (Nat.not_lt_zero _)
    | succ n ih14 =>
      intro d10 x11 x12 h13 t13 s13 rx11 rx12 q14 z14
      have w := y14 x11 x12 h13 t13 s13 rx11 rx12 z14
      refine r_n (pc1 := 60) [.int (J x12)] _ rfl rfl ?_
      refine r_aldn (pc1 := 61) rfl rfl rfl ?_
      refine r_gfI (pc1 := 64) rfl rfl rfl t13 (lyk t13 rfl) rfl rfl ?_
      refine r_ic (t := 154) (pc1 := 67) rfl rfl rfl rx12 (rgh _ _ _) (fun c49 => ?_) (fun c49 => ?_)
      · have w := w.1 c49
        refine r_aldn (pc1 := 155) rfl rfl rfl ?_
        refine r_n (pc1 := 157) [.int (J x11), rv 437] _ rfl rfl ?_
        refine r_pfI (pc1 := 160) rfl rfl rfl t13 (lyk t13 rfl) rfl rfl rfl (fun h15 eh15 t15 u15 => ?_)
        have w := w h15 eh15 t15 u15
        have s15 := HX_trans s13 u15
        refine r_n (pc1 := 161) [.int (J 0)] _ rfl rfl ?_
        refine r_ist (pc1 := 163) (ls1 := [some (rv 437), some (.long (G p0)), none, some (.long (G p1)), none, some (.int (J p2)), d10, some (.int (J x11)), some (.int (J 0))]) rfl rfl rfl rfl ?_
        obtain ⟨I19, m19, w, y19⟩ := w
        have Q19 : ∀ (n : Nat) (d16 : Option Value) (x17 : Int) (h18 : XH), HT h18 → HX h h18 → rg x17 → m19 x17 h18 < n → I19 x17 h18 → RR sc goal fs 170 163 [some (rv 437), some (.long (G p0)), none, some (.long (G p1)), none, some (.int (J p2)), d10, d16, some (.int (J x17))] [] h18 := by
          intro n
          induction n with
          | zero => intro d16 x17 h18 t18 s18 rx17 q19 _; exact absurd q19 (Nat.not_lt_zero _)
          | succ n ih19 =>
            intro d16 x17 h18 t18 s18 rx17 q19 z19
            have w := y19 x17 h18 t18 s18 rx17 z19
            refine r_n (pc1 := 165) [.int (J x17)] _ rfl rfl ?_
            refine r_aldn (pc1 := 166) rfl rfl rfl ?_
            refine r_gfI (pc1 := 169) rfl rfl rfl t18 (lyk t18 rfl) rfl rfl ?_
            refine r_n (pc1 := 170) [.int (J 1), .int (J (hI h18 437 47)), .int (J x17)] _ rfl rfl ?_
            refine r_isub (pc1 := 171) rfl rfl ?_
            refine r_ic (t := 192) (pc1 := 174) rfl rfl rfl rx17 (rgw _) (fun c22 => ?_) (fun c22 => ?_)
            · have w := w.1 c22
              exact r_retV rfl rfl rfl (k _ t18 s18 w)
            · have w := w.2 c22
              refine r_aldn (pc1 := 175) rfl rfl rfl ?_
              refine r_n (pc1 := 177) [.int (J x17), rv 437] _ rfl rfl ?_
              refine r_aldn (pc1 := 178) rfl rfl rfl ?_
              refine r_gfI (pc1 := 181) rfl rfl rfl t18 (lyk t18 rfl) rfl rfl ?_
              refine r_n (pc1 := 182) [.int (J 1), .int (J (hI h18 437 47)), .int (J x17), rv 437] _ rfl rfl ?_
              refine r_isub (pc1 := 183) rfl rfl ?_
              refine r_iv rfl rfl rfl rfl rfl rfl t18 (lyk t18 rfl) rfl (xe_of (xa_r (xa_i (xa_i xa_0))) rfl rfl) (r_d0 hd rfl) (a_X14_addPair x17 (wr ((hI h18 437 47) - 1)) (r_d1 hd rfl) rx17 (rgw _) w t18 (fun h20 t20 u20 w => ?_))
              refine r_fV (pc1 := 186) rfl ?_
              have s20 := HX_trans s18 u20
              have w := w t20 u20
              refine r_inc (pc1 := 189) (g := fun zz => [some (rv 437), some (.long (G p0)), none, some (.long (G p1)), none, some (.int (J p2)), d10, (dcl d16), some (.int (J zz))]) rfl rfl rfl rfl (fun _ => xput1_d rfl rfl) (fun x21 ex21 rx21 => ?_)
              have w := w x21 ex21 rx21
              refine r_goto (t := 163) rfl rfl ?_
              exact ih19 _ x21 h20 t20 s20 rx21 (Nat.lt_of_lt_of_le w.2 (Nat.le_of_lt_succ q19)) w.1
        exact Q19 _ _ 0 h15 t15 s15 (rgk rfl) (Nat.lt_succ_self _) w
      · have w := w.2 c49
        refine r_aldn (pc1 := 68) rfl rfl rfl ?_
        refine r_gfR (pc1 := 71) rfl rfl rfl t13 (lyk t13 rfl) rfl rfl ?_
        refine r_n (pc1 := 73) [.int (J x12), rv (hR h13 437 52)] _ rfl rfl ?_
        obtain ⟨c23, w⟩ := w
        obtain ⟨c24, w⟩ := w
        refine r_lal (pc1 := 74) rfl rfl t13 c23 rx12 c24.1 c24.2 ?_
        refine r_aldn (pc1 := 75) rfl rfl rfl ?_
        refine r_gfR (pc1 := 78) rfl rfl rfl t13 (lyk t13 rfl) rfl rfl ?_
        refine r_n (pc1 := 80) [.int (J x12), rv (hR h13 437 53), .long (G (hL h13 (hR h13 437 52) x12.toNat))] _ rfl rfl ?_
        obtain ⟨c25, w⟩ := w
        obtain ⟨c26, w⟩ := w
        refine r_lal (pc1 := 81) rfl rfl t13 c25 rx12 c26.1 c26.2 ?_
        refine r_n (pc1 := 82) [.long (G p0), .long (G (hL h13 (hR h13 437 53) x12.toNat)), .long (G (hL h13 (hR h13 437 52) x12.toNat))] _ rfl rfl ?_
        refine r_n (pc1 := 83) [.long (G p1), .long (G p0), .long (G (hL h13 (hR h13 437 53) x12.toNat)), .long (G (hL h13 (hR h13 437 52) x12.toNat))] _ rfl rfl ?_
        refine r_iq rfl rfl rfl rfl rfl rfl (xe_of (xa_l (xa_l (xa_l (xa_l xa_0)))) rfl rfl) (r_d0 hd rfl) (a_X14_hasAll (hL h13 (hR h13 437 52) x12.toNat) (hL h13 (hR h13 437 53) x12.toNat) p0 p1 (r_d1 hd rfl)  w t13 (fun x27 rx27 vx27 w => ?_))
        refine r_fI (pc1 := 86) rfl ?_
        have w := w rx27 vx27
        obtain ⟨J31, j31, w⟩ := w
        have Q31 : ∀ (d28 : Option Value) (x29 : Int) (h30 : XH), HT h30 → HX h h30 → rg x29 → J31 x29 h30 → RR sc goal fs 170 148 [some (rv 437), some (.long (G p0)), none, some (.long (G p1)), none, some (.int (J p2)), d28, some (.int (J x29)), some (.int (J x12))] [] h30 := by
          intro d28 x29 h30 t30 s30 rx29 z31
          have w := j31 x29 h30 t30 s30 rx29 z31
          refine r_inc (pc1 := 151) (g := fun zz => [some (rv 437), some (.long (G p0)), none, some (.long (G p1)), none, some (.int (J p2)), d28, some (.int (J x29)), some (.int (J zz))]) rfl rfl rfl rfl (fun _ => rfl) (fun x32 ex32 rx32 => ?_)
          have w := w x32 ex32 rx32
          refine r_goto (t := 58) rfl rfl ?_
          exact ih14 _ x29 x32 h30 t30 s30 rx29 rx32 (Nat.lt_of_lt_of_le w.2 (Nat.le_of_lt_succ q14)) w.1
        refine r_iz (t := 148) (pc1 := 89) rfl rfl rfl rx27 (fun c48 => ?_) (fun c48 => ?_)
        · have w := w.1 c48
          exact Q31 _ x11 h13 t13 s13 rx11 w
        · have w := w.2 c48
          refine r_aldn (pc1 := 90) rfl rfl rfl ?_
          refine r_gfR (pc1 := 93) rfl rfl rfl t13 (lyk t13 rfl) rfl rfl ?_
          refine r_n (pc1 := 95) [.int (J x11), rv (hR h13 437 52)] _ rfl rfl ?_
          refine r_aldn (pc1 := 96) rfl rfl rfl ?_
          refine r_gfR (pc1 := 99) rfl rfl rfl t13 (lyk t13 rfl) rfl rfl ?_
          refine r_n (pc1 := 101) [.int (J x12), rv (hR h13 437 52), .int (J x11), rv (hR h13 437 52)] _ rfl rfl ?_
          refine r_lal (pc1 := 102) rfl rfl t13 c23 rx12 c24.1 c24.2 ?_
          obtain ⟨c33, w⟩ := w
          refine r_last (pc1 := 103) rfl rfl t13 c23 rx11 c33.1 c33.2 (fun h34 eh34 t34 u34 => ?_)
          have w := w h34 eh34 t34 u34
          have s34 := HX_trans s13 u34
          refine r_aldn (pc1 := 104) rfl rfl rfl ?_
          refine r_gfR (pc1 := 107) rfl rfl rfl t34 (lyk t34 rfl) rfl rfl ?_
          refine r_n (pc1 := 109) [.int (J x11), rv (hR h34 437 53)] _ rfl rfl ?_
          refine r_aldn (pc1 := 110) rfl rfl rfl ?_
          refine r_gfR (pc1 := 113) rfl rfl rfl t34 (lyk t34 rfl) rfl rfl ?_
          refine r_n (pc1 := 115) [.int (J x12), rv (hR h34 437 53), .int (J x11), rv (hR h34 437 53)] _ rfl rfl ?_
          obtain ⟨c35, w⟩ := w
          obtain ⟨c36, w⟩ := w
          refine r_lal (pc1 := 116) rfl rfl t34 c35 rx12 c36.1 c36.2 ?_
          obtain ⟨c37, w⟩ := w
          refine r_last (pc1 := 117) rfl rfl t34 c35 rx11 c37.1 c37.2 (fun h38 eh38 t38 u38 => ?_)
          have w := w h38 eh38 t38 u38
          have s38 := HX_trans s34 u38
          refine r_aldn (pc1 := 118) rfl rfl rfl ?_
          refine r_gfR (pc1 := 121) rfl rfl rfl t38 (lyk t38 rfl) rfl rfl ?_
          refine r_n (pc1 := 123) [.int (J x11), rv (hR h38 437 54)] _ rfl rfl ?_
          refine r_aldn (pc1 := 124) rfl rfl rfl ?_
          refine r_gfR (pc1 := 127) rfl rfl rfl t38 (lyk t38 rfl) rfl rfl ?_
          refine r_n (pc1 := 129) [.int (J x12), rv (hR h38 437 54), .int (J x11), rv (hR h38 437 54)] _ rfl rfl ?_
          obtain ⟨c39, w⟩ := w
          obtain ⟨c40, w⟩ := w
          refine r_ial (pc1 := 130) rfl rfl t38 c39 rx12 c40.1 c40.2 ?_
          obtain ⟨c41, w⟩ := w
          refine r_iast (pc1 := 131) rfl rfl t38 c39 rx11 c41.1 c41.2 (fun h42 eh42 t42 u42 => ?_)
          have w := w h42 eh42 t42 u42
          have s42 := HX_trans s38 u42
          refine r_aldn (pc1 := 132) rfl rfl rfl ?_
          refine r_gfR (pc1 := 135) rfl rfl rfl t42 (lyk t42 rfl) rfl rfl ?_
          refine r_n (pc1 := 137) [.int (J x11), rv (hR h42 437 55)] _ rfl rfl ?_
          refine r_aldn (pc1 := 138) rfl rfl rfl ?_
          refine r_gfR (pc1 := 141) rfl rfl rfl t42 (lyk t42 rfl) rfl rfl ?_
          refine r_n (pc1 := 143) [.int (J x12), rv (hR h42 437 55), .int (J x11), rv (hR h42 437 55)] _ rfl rfl ?_
          obtain ⟨c43, w⟩ := w
          obtain ⟨c44, w⟩ := w
          refine r_ial (pc1 := 144) rfl rfl t42 c43 rx12 c44.1 c44.2 ?_
          obtain ⟨c45, w⟩ := w
          refine r_iast (pc1 := 145) rfl rfl t42 c43 rx11 c45.1 c45.2 (fun h46 eh46 t46 u46 => ?_)
          have w := w h46 eh46 t46 u46
          have s46 := HX_trans s42 u46
          refine r_inc (pc1 := 148) (g := fun zz => [some (rv 437), some (.long (G p0)), none, some (.long (G p1)), none, some (.int (J p2)), (dcl d10), some (.int (J zz)), some (.int (J x12))]) rfl rfl rfl rfl (fun _ => xput1_d rfl rfl) (fun x47 ex47 rx47 => ?_)
          have w := w x47 ex47 rx47
          exact Q31 _ x47 h46 t46 s46 rx47 w
  exact Q14 _ _ 0 0 h9 t9 s9 (rgk rfl) (rgk rfl) (Nat.lt_succ_self _) w
def w_X14_bestPair  (K : Int → Prop) (h : XH) : Prop :=
  ((∃ (I6 : Int → Int → Int → Prop) (m6 : Int → Int → Int → Nat), I6 (-1) 0 0 ∧ ∀ (x1 : Int) (x2 : Int) (x3 : Int), rg x1 → rg x2 → rg x3 → I6 x1 x2 x3 → (((hI h 437 56 ≤ x3 → (K x1)) ∧ (¬ (hI h 437 56 ≤ x3) → (hk h (hR h 437 52) = 101 ∧ (0 ≤ x3 ∧ x3 < (hn h (hR h 437 52) : Int)) ∧ w_J13_bitCount_95d88 (hL h (hR h 437 52) x3.toNat) (fun x9 => rg x9 → (hk h (hR h 437 53) = 101 ∧ (0 ≤ x3 ∧ x3 < (hn h (hR h 437 53) : Int)) ∧ w_J13_bitCount_95d88 (hL h (hR h 437 53) x3.toNat) (fun x12 => rg x12 → (∀ x13 : Int, x13 = wr (x9 + x12) → rg x13 → ∃ J15 : Int → Prop, (∀ (x14 : Int), rg x14 → J15 x14 → (∃ J17 : Int → Prop, (∀ (x16 : Int), rg x16 → J17 x16 → (∃ J20 : Int → Int → Prop, (∀ (x18 : Int) (x19 : Int), rg x18 → rg x19 → J20 x18 x19 → (∀ x21 : Int, x21 = wr (x3 + 1) → rg x21 → (I6 x18 x19 x21 ∧ m6 x18 x19 x21 < m6 x1 x2 x3))) ∧ ((x16 = 0 → J20 x1 x2) ∧ (¬ (x16 = 0) → (J20 x3 x13))))) ∧ ((x1 = (-1) → J17 x14) ∧ (¬ (x1 = (-1)) → (((¬ x13 = x2 → J17 x14) ∧ (¬ (¬ x13 = x2) → (hk h (hR h 437 55) = 100 ∧ (0 ≤ x3 ∧ x3 < (hn h (hR h 437 55) : Int)) ∧ (0 ≤ x1 ∧ x1 < (hn h (hR h 437 55) : Int)) ∧ ∃ J27 : Int → Prop, (∀ (x26 : Int), rg x26 → J27 x26 → (J17 x26)) ∧ ∃ J28 : Prop, (J28 → (J27 1)) ∧ ((hI h (hR h 437 55) x3.toNat < hI h (hR h 437 55) x1.toNat → J28) ∧ (¬ (hI h (hR h 437 55) x3.toNat < hI h (hR h 437 55) x1.toNat) → (∃ J29 : Prop, (J29 → (J27 0)) ∧ ((¬ hI h (hR h 437 55) x3.toNat = hI h (hR h 437 55) x1.toNat → J29) ∧ (¬ (¬ hI h (hR h 437 55) x3.toNat = hI h (hR h 437 55) x1.toNat) → (hk h (hR h 437 54) = 100 ∧ (0 ≤ x3 ∧ x3 < (hn h (hR h 437 54) : Int)) ∧ (0 ≤ x1 ∧ x1 < (hn h (hR h 437 54) : Int)) ∧ ((hI h (hR h 437 54) x1.toNat ≤ hI h (hR h 437 54) x3.toNat → J29) ∧ (¬ (hI h (hR h 437 54) x1.toNat ≤ hI h (hR h 437 54) x3.toNat) → J28)))))))))))))))) ∧ ∃ J38 : Prop, (J38 → (J15 1)) ∧ ((x1 = (-1) → J38) ∧ (¬ (x1 = (-1)) → (((x2 ≤ x13 → (J15 0)) ∧ (¬ (x2 ≤ x13) → J38))))))) h)) h))))))
set_option maxHeartbeats 4000000 in
theorem a_X14_bestPair {sc : Nat × (Nat → Int32)} {goal : XO → XH → Prop} {fs : List XF} {h : XH}  {K : Int → Prop} (hd : fs.length + 1 ≤ 1000) (w : w_X14_bestPair  K h) (t0 : HT h) (k : ∀ (r : Int), rg r → K r → XFin xP sc goal fs (.inl (some (.int (J r)))) h) : RR sc goal fs 176 0 [some (rv 437), none, none, none, none, none] [] h := by
  unfold w_X14_bestPair at w
  refine r_n (pc1 := 1) [.int (J (-1))] _ rfl rfl ?_
  refine r_istn (pc1 := 2) (ls1 := [some (rv 437), some (.int (J (-1))), none, none, none, none]) rfl rfl rfl rfl ?_
  refine r_n (pc1 := 3) [.int (J 0)] _ rfl rfl ?_
  refine r_istn (pc1 := 4) (ls1 := [some (rv 437), some (.int (J (-1))), some (.int (J 0)), none, none, none]) rfl rfl rfl rfl ?_
  refine r_n (pc1 := 5) [.int (J 0)] _ rfl rfl ?_
  refine r_istn (pc1 := 6) (ls1 := [some (rv 437), some (.int (J (-1))), some (.int (J 0)), some (.int (J 0)), none, none]) rfl rfl rfl rfl ?_
  obtain ⟨I6, m6, w, y6⟩ := w
  have Q6 : ∀ (n : Nat) (d4 : Option Value) (d5 : Option Value) (x1 : Int) (x2 : Int) (x3 : Int), rg x1 → rg x2 → rg x3 → m6 x1 x2 x3 < n → I6 x1 x2 x3 → RR sc goal fs 176 6 [some (rv 437), some (.int (J x1)), some (.int (J x2)), some (.int (J x3)), d4, d5] [] h := by
    intro n
    induction n with
    | zero => intro d4 d5 x1 x2 x3 rx1 rx2 rx3 q6 _; exact absurd q6 (Nat.not_lt_zero _)
    | succ n ih6 =>
      intro d4 d5 x1 x2 x3 rx1 rx2 rx3 q6 z6
      have w := y6 x1 x2 x3 rx1 rx2 rx3 z6
      refine r_n (pc1 := 7) [.int (J x3)] _ rfl rfl ?_
      refine r_aldn (pc1 := 8) rfl rfl rfl ?_
      refine r_gfI (pc1 := 11) rfl rfl rfl t0 (lyk t0 rfl) rfl rfl ?_
      refine r_ic (t := 132) (pc1 := 14) rfl rfl rfl rx3 (rgh _ _ _) (fun c41 => ?_) (fun c41 => ?_)
      · have w := w.1 c41
        refine r_n (pc1 := 133) [.int (J x1)] _ rfl rfl ?_
        exact r_retI rfl rfl rfl (k _ rx1 w)
      · have w := w.2 c41
        refine r_aldn (pc1 := 15) rfl rfl rfl ?_
        refine r_gfR (pc1 := 18) rfl rfl rfl t0 (lyk t0 rfl) rfl rfl ?_
        refine r_n (pc1 := 19) [.int (J x3), rv (hR h 437 52)] _ rfl rfl ?_
        obtain ⟨c7, w⟩ := w
        obtain ⟨c8, w⟩ := w
        refine r_lal (pc1 := 20) rfl rfl t0 c7 rx3 c8.1 c8.2 ?_
        refine r_iq rfl rfl rfl rfl rfl rfl (xe_of (xa_l xa_0) rfl rfl) (r_d0 hd rfl) (a_J13_bitCount_95d88 (hL h (hR h 437 52) x3.toNat) (r_d1 hd rfl)  w t0 (fun x9 rx9 w => ?_))
        refine r_fI (pc1 := 23) rfl ?_
        have w := w rx9
        refine r_aldn (pc1 := 24) rfl rfl rfl ?_
        refine r_gfR (pc1 := 27) rfl rfl rfl t0 (lyk t0 rfl) rfl rfl ?_
        refine r_n (pc1 := 28) [.int (J x3), rv (hR h 437 53), .int (J x9)] _ rfl rfl ?_
        obtain ⟨c10, w⟩ := w
        obtain ⟨c11, w⟩ := w
        refine r_lal (pc1 := 29) rfl rfl t0 c10 rx3 c11.1 c11.2 ?_
        refine r_iq rfl rfl rfl rfl rfl rfl (xe_of (xa_l xa_0) rfl rfl) (r_d0 hd rfl) (a_J13_bitCount_95d88 (hL h (hR h 437 53) x3.toNat) (r_d1 hd rfl)  w t0 (fun x12 rx12 w => ?_))
        refine r_fI (pc1 := 32) rfl ?_
        have w := w rx12
        refine r_iadd (pc1 := 33) rfl rfl ?_
        refine r_vI (rgw _) (fun x13 ex13 rx13 => ?_)
        have w := w x13 ex13 rx13
        refine r_ist (pc1 := 35) (ls1 := [some (rv 437), some (.int (J x1)), some (.int (J x2)), some (.int (J x3)), some (.int (J x13)), d5]) rfl rfl rfl rfl ?_
        refine r_n (pc1 := 36) [.int (J x1)] _ rfl rfl ?_
        refine r_n (pc1 := 37) [.int (J (-1)), .int (J x1)] _ rfl rfl ?_
        obtain ⟨J15, j15, w⟩ := w
        have Q15 : ∀ (x14 : Int), rg x14 → J15 x14 → RR sc goal fs 176 51 [some (rv 437), some (.int (J x1)), some (.int (J x2)), some (.int (J x3)), some (.int (J x13)), d5] [.int (J x14)] h := by
          intro x14 rx14 z15
          have w := j15 x14 rx14 z15
          refine r_ist (pc1 := 53) (ls1 := [some (rv 437), some (.int (J x1)), some (.int (J x2)), some (.int (J x3)), some (.int (J x13)), some (.int (J x14))]) rfl rfl rfl rfl ?_
          refine r_n (pc1 := 54) [.int (J x1)] _ rfl rfl ?_
          refine r_n (pc1 := 55) [.int (J (-1)), .int (J x1)] _ rfl rfl ?_
          obtain ⟨J17, j17, w⟩ := w
          have Q17 : ∀ (x16 : Int), rg x16 → J17 x16 → RR sc goal fs 176 116 [some (rv 437), some (.int (J x1)), some (.int (J x2)), some (.int (J x3)), some (.int (J x13)), some (.int (J x16))] [] h := by
            intro x16 rx16 z17
            have w := j17 x16 rx16 z17
            refine r_n (pc1 := 118) [.int (J x16)] _ rfl rfl ?_
            obtain ⟨J20, j20, w⟩ := w
            have Q20 : ∀ (x18 : Int) (x19 : Int), rg x18 → rg x19 → J20 x18 x19 → RR sc goal fs 176 126 [some (rv 437), some (.int (J x18)), some (.int (J x19)), some (.int (J x3)), some (.int (J x13)), some (.int (J x16))] [] h := by
              intro x18 x19 rx18 rx19 z20
              have w := j20 x18 x19 rx18 rx19 z20
              refine r_inc (pc1 := 129) (g := fun zz => [some (rv 437), some (.int (J x18)), some (.int (J x19)), some (.int (J zz)), some (.int (J x13)), some (.int (J x16))]) rfl rfl rfl rfl (fun _ => rfl) (fun x21 ex21 rx21 => ?_)
              have w := w x21 ex21 rx21
              refine r_goto (t := 6) rfl rfl ?_
              exact ih6 _ _ x18 x19 x21  rx18 rx19 rx21 (Nat.lt_of_lt_of_le w.2 (Nat.le_of_lt_succ q6)) w.1
            refine r_iz (t := 126) (pc1 := 121) rfl rfl rfl rx16 (fun c22 => ?_) (fun c22 => ?_)
            · have w := w.1 c22
              exact Q20  x1 x2  rx1 rx2 w
            · have w := w.2 c22
              refine r_n (pc1 := 122) [.int (J x3)] _ rfl rfl ?_
              refine r_istn (pc1 := 123) (ls1 := [some (rv 437), some (.int (J x3)), some (.int (J x2)), some (.int (J x3)), some (.int (J x13)), some (.int (J x16))]) rfl rfl rfl rfl ?_
              refine r_n (pc1 := 125) [.int (J x13)] _ rfl rfl ?_
              refine r_istn (pc1 := 126) (ls1 := [some (rv 437), some (.int (J x3)), some (.int (J x13)), some (.int (J x3)), some (.int (J x13)), some (.int (J x16))]) rfl rfl rfl rfl ?_
              exact Q20  x3 x13  rx3 rx13 w
          refine r_ic (t := 116) (pc1 := 58) rfl rfl rfl rx1 (rgk rfl) (fun c37 => ?_) (fun c37 => ?_)
          · have w := w.1 c37
            exact Q17  x14  rx14 w
          · have w := w.2 c37
            refine r_n (pc1 := 60) [.int (J x13)] _ rfl rfl ?_
            refine r_n (pc1 := 61) [.int (J x2), .int (J x13)] _ rfl rfl ?_
            refine r_ic (t := 116) (pc1 := 64) rfl rfl rfl rx13 rx2 (fun c36 => ?_) (fun c36 => ?_)
            · have w := w.1 c36
              exact Q17  x14  rx14 w
            · have w := w.2 c36
              refine r_aldn (pc1 := 65) rfl rfl rfl ?_
              refine r_gfR (pc1 := 68) rfl rfl rfl t0 (lyk t0 rfl) rfl rfl ?_
              refine r_n (pc1 := 69) [.int (J x3), rv (hR h 437 55)] _ rfl rfl ?_
              obtain ⟨c23, w⟩ := w
              obtain ⟨c24, w⟩ := w
              refine r_ial (pc1 := 70) rfl rfl t0 c23 rx3 c24.1 c24.2 ?_
              refine r_aldn (pc1 := 71) rfl rfl rfl ?_
              refine r_gfR (pc1 := 74) rfl rfl rfl t0 (lyk t0 rfl) rfl rfl ?_
              refine r_n (pc1 := 75) [.int (J x1), rv (hR h 437 55), .int (J (hI h (hR h 437 55) x3.toNat))] _ rfl rfl ?_
              obtain ⟨c25, w⟩ := w
              refine r_ial (pc1 := 76) rfl rfl t0 c23 rx1 c25.1 c25.2 ?_
              obtain ⟨J27, j27, w⟩ := w
              have Q27 : ∀ (x26 : Int), rg x26 → J27 x26 → RR sc goal fs 176 114 [some (rv 437), some (.int (J x1)), some (.int (J x2)), some (.int (J x3)), some (.int (J x13)), some (.int (J x14))] [.int (J x26)] h := by
                intro x26 rx26 z27
                have w := j27 x26 rx26 z27
                refine r_ist (pc1 := 116) (ls1 := [some (rv 437), some (.int (J x1)), some (.int (J x2)), some (.int (J x3)), some (.int (J x13)), some (.int (J x26))]) rfl rfl rfl rfl ?_
                exact Q17  x26  rx26 w
              obtain ⟨J28, j28, w⟩ := w
              have Q28 : J28 → RR sc goal fs 176 109 [some (rv 437), some (.int (J x1)), some (.int (J x2)), some (.int (J x3)), some (.int (J x13)), some (.int (J x14))] [] h := by
                intro z28
                have w := j28 z28
                refine r_n (pc1 := 110) [.int (J 1)] _ rfl rfl ?_
                refine r_goto (t := 114) rfl rfl ?_
                exact Q27  1  (rgk rfl) w
              refine r_ic (t := 109) (pc1 := 79) rfl rfl rfl (rgh _ _ _) (rgh _ _ _) (fun c35 => ?_) (fun c35 => ?_)
              · have w := w.1 c35
                exact Q28     w
              · have w := w.2 c35
                refine r_aldn (pc1 := 80) rfl rfl rfl ?_
                refine r_gfR (pc1 := 83) rfl rfl rfl t0 (lyk t0 rfl) rfl rfl ?_
                refine r_n (pc1 := 84) [.int (J x3), rv (hR h 437 55)] _ rfl rfl ?_
                refine r_ial (pc1 := 85) rfl rfl t0 c23 rx3 c24.1 c24.2 ?_
                refine r_aldn (pc1 := 86) rfl rfl rfl ?_
                refine r_gfR (pc1 := 89) rfl rfl rfl t0 (lyk t0 rfl) rfl rfl ?_
                refine r_n (pc1 := 90) [.int (J x1), rv (hR h 437 55), .int (J (hI h (hR h 437 55) x3.toNat))] _ rfl rfl ?_
                refine r_ial (pc1 := 91) rfl rfl t0 c23 rx1 c25.1 c25.2 ?_
                obtain ⟨J29, j29, w⟩ := w
                have Q29 : J29 → RR sc goal fs 176 113 [some (rv 437), some (.int (J x1)), some (.int (J x2)), some (.int (J x3)), some (.int (J x13)), some (.int (J x14))] [] h := by
                  intro z29
                  have w := j29 z29
                  refine r_n (pc1 := 114) [.int (J 0)] _ rfl rfl ?_
                  exact Q27  0  (rgk rfl) w
                refine r_ic (t := 113) (pc1 := 94) rfl rfl rfl (rgh _ _ _) (rgh _ _ _) (fun c34 => ?_) (fun c34 => ?_)
                · have w := w.1 c34
                  exact Q29     w
                · have w := w.2 c34
                  refine r_aldn (pc1 := 95) rfl rfl rfl ?_
                  refine r_gfR (pc1 := 98) rfl rfl rfl t0 (lyk t0 rfl) rfl rfl ?_
                  refine r_n (pc1 := 99) [.int (J x3), rv (hR h 437 54)] _ rfl rfl ?_
                  obtain ⟨c30, w⟩ := w
                  obtain ⟨c31, w⟩ := w
                  refine r_ial (pc1 := 100) rfl rfl t0 c30 rx3 c31.1 c31.2 ?_
                  refine r_aldn (pc1 := 101) rfl rfl rfl ?_
                  refine r_gfR (pc1 := 104) rfl rfl rfl t0 (lyk t0 rfl) rfl rfl ?_
                  refine r_n (pc1 := 105) [.int (J x1), rv (hR h 437 54), .int (J (hI h (hR h 437 54) x3.toNat))] _ rfl rfl ?_
                  obtain ⟨c32, w⟩ := w
                  refine r_ial (pc1 := 106) rfl rfl t0 c30 rx1 c32.1 c32.2 ?_
                  refine r_ic (t := 113) (pc1 := 109) rfl rfl rfl (rgh _ _ _) (rgh _ _ _) (fun c33 => ?_) (fun c33 => ?_)
                  · have w := w.1 c33
                    exact Q29     w
                  · have w := w.2 c33
                    exact Q28     w
        obtain ⟨J38, j38, w⟩ := w
        have Q38 : J38 → RR sc goal fs 176 46 [some (rv 437), some (.int (J x1)), some (.int (J x2)), some (.int (J x3)), some (.int (J x13)), d5] [] h := by
          intro z38
          have w := j38 z38
          refine r_n (pc1 := 47) [.int (J 1)] _ rfl rfl ?_
          refine r_goto (t := 51) rfl rfl ?_
          exact Q15  1  (rgk rfl) w
        refine r_ic (t := 46) (pc1 := 40) rfl rfl rfl rx1 (rgk rfl) (fun c40 => ?_) (fun c40 => ?_)
        · have w := w.1 c40
          exact Q38     w
        · have w := w.2 c40
          refine r_n (pc1 := 42) [.int (J x13)] _ rfl rfl ?_
          refine r_n (pc1 := 43) [.int (J x2), .int (J x13)] _ rfl rfl ?_
          refine r_ic (t := 50) (pc1 := 46) rfl rfl rfl rx13 rx2 (fun c39 => ?_) (fun c39 => ?_)
          · have w := w.1 c39
            refine r_n (pc1 := 51) [.int (J 0)] _ rfl rfl ?_
            exact Q15  0  (rgk rfl) w
          · have w := w.2 c39
            exact Q38     w
  exact Q6 _ _ _ (-1) 0 0  (rgk rfl) (rgk rfl) (rgk rfl) (Nat.lt_succ_self _) w
def w_X14_leaveOut  (K : XH → Prop) (h : XH) : Prop :=
  ((0 ≤ hI h 437 47 ∧ hI h 437 47 < 67108864) ∧ ∀ (a2 : Nat) (h3 : XH), a2 = h.length → h3 = nA h 2 (hI h 437 47).toNat → HT h3 → HX h h3 → hk h3 a2 = 102 → hn h3 a2 = (hI h 437 47).toNat → (0 ≤ wr ((hI h3 437 47) - 1) ∧ wr ((hI h3 437 47) - 1) < (hn h3 a2 : Int)) ∧ ∀ h5 : XH, h5 = sI h3 a2 (wr ((hI h3 437 47) - 1)).toNat 1 → HT h5 → HX h3 h5 → ∀ x6 : Int, x6 = wr ((hI h5 437 47) - 1) → rg x6 → (∃ (I9 : Int → XH → Prop) (m9 : Int → XH → Nat), I9 x6 h5 ∧ ∀ (x7 : Int) (h8 : XH), HT h8 → HX h h8 → rg x7 → I9 x7 h8 → (((x7 < 0 → ((0 ≤ hI h8 437 47 ∧ hI h8 437 47 < 67108864) ∧ ∀ (a11 : Nat) (h12 : XH), a11 = h8.length → h12 = nA h8 0 (hI h8 437 47).toNat → HT h12 → HX h8 h12 → hk h12 a11 = 100 → hn h12 a11 = (hI h8 437 47).toNat → (∃ (I16 : Int → Int → XH → Prop) (m16 : Int → Int → XH → Nat), I16 0 0 h12 ∧ ∀ (x13 : Int) (x14 : Int) (h15 : XH), HT h15 → HX h h15 → rg x13 → rg x14 → I16 x13 x14 h15 → (((hI h15 437 47 ≤ x14 → (∀ h17 : XH, h17 = sI h15 437 47 x13 → HT h17 → HX h15 h17 → K h17)) ∧ (¬ (hI h15 437 47 ≤ x14) → (hk h15 a11 = 100 ∧ (0 ≤ x14 ∧ x14 < (hn h15 a11 : Int)) ∧ ∀ h20 : XH, h20 = sI h15 a11 x14.toNat x13 → HT h20 → HX h15 h20 → hk h20 a2 = 102 ∧ (0 ≤ x14 ∧ x14 < (hn h20 a2 : Int)) ∧ ∃ J25 : Int → XH → Prop, (∀ (x23 : Int) (h24 : XH), HT h24 → HX h h24 → rg x23 → J25 x23 h24 → (∀ x26 : Int, x26 = wr (x14 + 1) → rg x26 → (I16 x23 x26 h24 ∧ m16 x23 x26 h24 < m16 x13 x14 h15))) ∧ ((hI h20 a2 x14.toNat = 0 → J25 x13 h20) ∧ (¬ (hI h20 a2 x14.toNat = 0) → ((0 ≤ x14 ∧ x14 < 200) ∧ (0 ≤ x13 ∧ x13 < 200) ∧ ∀ h29 : XH, h29 = sL h20 454 x13.toNat (hL h20 454 x14.toNat) → HT h29 → HX h20 h29 → ∀ h30 : XH, h30 = sL h29 455 x13.toNat (hL h29 455 x14.toNat) → HT h30 → HX h29 h30 → ∃ J32 : Int → Prop, (∀ (x31 : Int), rg x31 → J32 x31 → (∀ h33 : XH, h33 = sI h30 456 x13.toNat x31 → HT h33 → HX h30 h33 → ∃ J35 : Int → Prop, (∀ (x34 : Int), rg x34 → J35 x34 → (∀ h36 : XH, h36 = sI h33 457 x13.toNat x34 → HT h36 → HX h33 h36 → ∀ x37 : Int, x37 = wr (x13 + 1) → rg x37 → J25 x37 h36)) ∧ ((¬ hI h33 457 x14.toNat = (-1) → (∀ x38 : Int, x38 = hI h33 457 x14.toNat → rg x38 → (0 ≤ x38 ∧ x38 < (hn h33 a11 : Int)) ∧ J35 (hI h33 a11 x38.toNat))) ∧ (¬ (¬ hI h33 457 x14.toNat = (-1)) → (J35 (-1)))))) ∧ ((¬ hI h30 456 x14.toNat = (-1) → (∀ x41 : Int, x41 = hI h30 456 x14.toNat → rg x41 → (0 ≤ x41 ∧ x41 < (hn h30 a11 : Int)) ∧ J32 (hI h30 a11 x41.toNat))) ∧ (¬ (¬ hI h30 456 x14.toNat = (-1)) → (J32 (-1)))))))))))))) ∧ (¬ (x7 < 0) → (hk h8 a2 = 102 ∧ (0 ≤ x7 ∧ x7 < (hn h8 a2 : Int)) ∧ ∃ J49 : XH → Prop, (∀ (h48 : XH), HT h48 → HX h h48 → J49 h48 → (∀ x50 : Int, x50 = wr (x7 + (-1)) → rg x50 → (I9 x50 h48 ∧ m9 x50 h48 < m9 x7 h8))) ∧ ((hI h8 a2 x7.toNat = 0 → J49 h8) ∧ (¬ (hI h8 a2 x7.toNat = 0) → ((0 ≤ x7 ∧ x7 < 200) ∧ ((hI h8 456 x7.toNat = (-1) → J49 h8) ∧ (¬ (hI h8 456 x7.toNat = (-1)) → ((0 ≤ hI h8 456 x7.toNat ∧ hI h8 456 x7.toNat < (hn h8 a2 : Int)) ∧ ∀ h53 : XH, h53 = sI h8 a2 (hI h8 456 x7.toNat).toNat 1 → HT h53 → HX h8 h53 → (0 ≤ hI h53 457 x7.toNat ∧ hI h53 457 x7.toNat < (hn h53 a2 : Int)) ∧ ∀ h55 : XH, h55 = sI h53 a2 (hI h53 457 x7.toNat).toNat 1 → HT h55 → HX h53 h55 → J49 h55))))))))))))
set_option maxHeartbeats 4000000 in
theorem a_X14_leaveOut {sc : Nat × (Nat → Int32)} {goal : XO → XH → Prop} {fs : List XF} {h : XH}  {K : XH → Prop} (hd : fs.length + 0 ≤ 1000) (w : w_X14_leaveOut  K h) (t0 : HT h) (k : ∀ (h1 : XH), HT h1 → HX h h1 → K h1 → XFin xP sc goal fs (.inl none) h1) : RR sc goal fs 246 0 [some (rv 437), none, none, none, none] [] h := by
  unfold w_X14_leaveOut at w
  refine r_aldn (pc1 := 1) rfl rfl rfl ?_
  refine r_gfI (pc1 := 4) rfl rfl rfl t0 (lyk t0 rfl) rfl rfl ?_
  obtain ⟨c1, w⟩ := w
  refine r_na (pc1 := 6) (u := 2) (m := 2) rfl rfl rfl t0 rfl (rgh _ _ _) c1.1 c1.2 (fun a2 h3 ea2 eh3 t3 u3 ca2 la2 => ?_)
  have w := w a2 h3 ea2 eh3 t3 u3 ca2 la2
  have s3 := HX_trans (HX_refl h) u3
  refine r_astn (pc1 := 7) (ls1 := [some (rv 437), some (rv a2), none, none, none]) rfl rfl rfl rfl ?_
  refine r_aldn (pc1 := 8) rfl rfl rfl ?_
  refine r_aldn (pc1 := 9) rfl rfl rfl ?_
  refine r_gfI (pc1 := 12) rfl rfl rfl t3 (lyk t3 rfl) rfl rfl ?_
  refine r_n (pc1 := 13) [.int (J 1), .int (J (hI h3 437 47)), rv a2] _ rfl rfl ?_
  refine r_isub (pc1 := 14) rfl rfl ?_
  refine r_n (pc1 := 15) [.int (J 1), .int (J (wr ((hI h3 437 47) - 1))), rv a2] _ rfl rfl ?_
  obtain ⟨c4, w⟩ := w
  refine r_bast (pc1 := 16) rfl rfl t3 ca2 (.inr rfl) (rgw _) c4.1 c4.2 (fun h5 eh5 t5 u5 => ?_)
  have w := w h5 eh5 t5 u5
  have s5 := HX_trans s3 u5
  refine r_aldn (pc1 := 17) rfl rfl rfl ?_
  refine r_gfI (pc1 := 20) rfl rfl rfl t5 (lyk t5 rfl) rfl rfl ?_
  refine r_n (pc1 := 21) [.int (J 1), .int (J (hI h5 437 47))] _ rfl rfl ?_
  refine r_isub (pc1 := 22) rfl rfl ?_
  refine r_vI (rgw _) (fun x6 ex6 rx6 => ?_)
  have w := w x6 ex6 rx6
  refine r_istn (pc1 := 23) (ls1 := [some (rv 437), some (rv a2), some (.int (J x6)), none, none]) rfl rfl rfl (xput1_rv rfl rfl) ?_
  obtain ⟨I9, m9, w, y9⟩ := w
  have Q9 : ∀ (n : Nat)  (x7 : Int) (h8 : XH), HT h8 → HX h h8 → rg x7 → m9 x7 h8 < n → I9 x7 h8 → RR sc goal fs 246 23 [some (rv 437), some (rv a2), some (.int (J x7)), none, none] [] h8 := by
    intro n
    induction n with
    | zero => intro x7 h8 t8 s8 rx7 q9 _; exact absurd q9 (Nat.not_lt_zero _)
    | succ n ih9 =>
      intro x7 h8 t8 s8 rx7 q9 z9
      have w := y9 x7 h8 t8 s8 rx7 z9
      refine r_n (pc1 := 24) [.int (J x7)] _ rfl rfl ?_
      refine r_iz (t := 67) (pc1 := 27) rfl rfl rfl rx7 (fun c58 => ?_) (fun c58 => ?_)
      · have w := w.1 c58
        refine r_aldn (pc1 := 68) rfl rfl rfl ?_
        refine r_gfI (pc1 := 71) rfl rfl rfl t8 (lyk t8 rfl) rfl rfl ?_
        obtain ⟨c10, w⟩ := w
        refine r_na (pc1 := 73) (u := 0) (m := 2) rfl rfl rfl t8 rfl (rgh _ _ _) c10.1 c10.2 (fun a11 h12 ea11 eh12 t12 u12 ca11 la11 => ?_)
        have w := w a11 h12 ea11 eh12 t12 u12 ca11 la11
        have s12 := HX_trans s8 u12
        refine r_astn (pc1 := 74) (ls1 := [some (rv 437), some (rv a2), some (rv a11), none, none]) rfl rfl rfl (xput1_rv rfl rfl) ?_
        refine r_n (pc1 := 75) [.int (J 0)] _ rfl rfl ?_
        refine r_istn (pc1 := 76) (ls1 := [some (rv 437), some (rv a2), some (rv a11), some (.int (J 0)), none]) rfl rfl rfl (xput1_rv rfl rfl) ?_
        refine r_n (pc1 := 77) [.int (J 0)] _ rfl rfl ?_
        refine r_ist (pc1 := 79) (ls1 := [some (rv 437), some (rv a2), some (rv a11), some (.int (J 0)), some (.int (J 0))]) rfl rfl rfl rfl ?_
        obtain ⟨I16, m16, w, y16⟩ := w
        have Q16 : ∀ (n : Nat)  (x13 : Int) (x14 : Int) (h15 : XH), HT h15 → HX h h15 → rg x13 → rg x14 → m16 x13 x14 h15 < n → I16 x13 x14 h15 → RR sc goal fs 246 79 [some (rv 437), some (rv a2), some (rv a11), some (.int (J x13)), some (.int (J x14))] [] h15 := by
          intro n
          induction n with
          | zero => intro x13 x14 h15 t15 s15 rx13 rx14 q16 _; exact absurd q16 (Nat.not_lt_zero _)
          | succ n ih16 =>
            intro x13 x14 h15 t15 s15 rx13 rx14 q16 z16
            have w := y16 x13 x14 h15 t15 s15 rx13 rx14 z16
            refine r_n (pc1 := 81) [.int (J x14)] _ rfl rfl ?_
            refine r_aldn (pc1 := 82) rfl rfl rfl ?_
            refine r_gfI (pc1 := 85) rfl rfl rfl t15 (lyk t15 rfl) rfl rfl ?_
            refine r_ic (t := 195) (pc1 := 88) rfl rfl rfl rx14 (rgh _ _ _) (fun c45 => ?_) (fun c45 => ?_)
            · have w := w.1 c45
              refine r_aldn (pc1 := 196) rfl rfl rfl ?_
              refine r_n (pc1 := 197) [.int (J x13), rv 437] _ rfl rfl ?_
              refine r_pfI (pc1 := 200) rfl rfl rfl t15 (lyk t15 rfl) rfl rfl rfl (fun h17 eh17 t17 u17 => ?_)
              have w := w h17 eh17 t17 u17
              have s17 := HX_trans s15 u17
              exact r_retV rfl rfl rfl (k _ t17 s17 w)
            · have w := w.2 c45
              refine r_aldn (pc1 := 89) rfl rfl rfl ?_
              refine r_n (pc1 := 91) [.int (J x14), rv a11] _ rfl rfl ?_
              refine r_n (pc1 := 92) [.int (J x13), .int (J x14), rv a11] _ rfl rfl ?_
              obtain ⟨c18, w⟩ := w
              obtain ⟨c19, w⟩ := w
              refine r_iast (pc1 := 93) rfl rfl t15 c18 rx14 c19.1 c19.2 (fun h20 eh20 t20 u20 => ?_)
              have w := w h20 eh20 t20 u20
              have s20 := HX_trans s15 u20
              refine r_aldn (pc1 := 94) rfl rfl rfl ?_
              refine r_n (pc1 := 96) [.int (J x14), rv a2] _ rfl rfl ?_
              obtain ⟨c21, w⟩ := w
              obtain ⟨c22, w⟩ := w
              refine r_bal (pc1 := 97) rfl rfl t20 c21 rx14 c22.1 c22.2 ?_
              obtain ⟨J25, j25, w⟩ := w
              have Q25 : ∀ (x23 : Int) (h24 : XH), HT h24 → HX h h24 → rg x23 → J25 x23 h24 → RR sc goal fs 246 189 [some (rv 437), some (rv a2), some (rv a11), some (.int (J x23)), some (.int (J x14))] [] h24 := by
                intro x23 h24 t24 s24 rx23 z25
                have w := j25 x23 h24 t24 s24 rx23 z25
                refine r_inc (pc1 := 192) (g := fun zz => [some (rv 437), some (rv a2), some (rv a11), some (.int (J x23)), some (.int (J zz))]) rfl rfl rfl rfl (fun _ => rfl) (fun x26 ex26 rx26 => ?_)
                have w := w x26 ex26 rx26
                refine r_goto (t := 79) rfl rfl ?_
                exact ih16  x23 x26 h24 t24 s24 rx23 rx26 (Nat.lt_of_lt_of_le w.2 (Nat.le_of_lt_succ q16)) w.1
              refine r_iz (t := 189) (pc1 := 100) rfl rfl rfl (rgh _ _ _) (fun c44 => ?_) (fun c44 => ?_)
              · have w := w.1 c44
                exact Q25  x13 h20 t20 s20 rx13 w
              · have w := w.2 c44
                refine r_aldn (pc1 := 101) rfl rfl rfl ?_
                refine r_gfC (pc1 := 104) (q := 454) rfl rfl rfl t20 (lyk t20 rfl) rfl rfl (lyR t20 rfl rfl) ?_
                refine r_n (pc1 := 105) [.int (J x13), rv 454] _ rfl rfl ?_
                refine r_aldn (pc1 := 106) rfl rfl rfl ?_
                refine r_gfC (pc1 := 109) (q := 454) rfl rfl rfl t20 (lyk t20 rfl) rfl rfl (lyR t20 rfl rfl) ?_
                refine r_n (pc1 := 111) [.int (J x14), rv 454, .int (J x13), rv 454] _ rfl rfl ?_
                obtain ⟨c27, w⟩ := w
                refine r_lal (pc1 := 112) rfl rfl t20 (lyk t20 rfl) rx14 c27.1 (lt_len (lyn t20 rfl) c27.2) ?_
                obtain ⟨c28, w⟩ := w
                refine r_last (pc1 := 113) rfl rfl t20 (lyk t20 rfl) rx13 c28.1 (lt_len (lyn t20 rfl) c28.2) (fun h29 eh29 t29 u29 => ?_)
                have w := w h29 eh29 t29 u29
                have s29 := HX_trans s20 u29
                refine r_aldn (pc1 := 114) rfl rfl rfl ?_
                refine r_gfC (pc1 := 117) (q := 455) rfl rfl rfl t29 (lyk t29 rfl) rfl rfl (lyR t29 rfl rfl) ?_
                refine r_n (pc1 := 118) [.int (J x13), rv 455] _ rfl rfl ?_
                refine r_aldn (pc1 := 119) rfl rfl rfl ?_
                refine r_gfC (pc1 := 122) (q := 455) rfl rfl rfl t29 (lyk t29 rfl) rfl rfl (lyR t29 rfl rfl) ?_
                refine r_n (pc1 := 124) [.int (J x14), rv 455, .int (J x13), rv 455] _ rfl rfl ?_
                refine r_lal (pc1 := 125) rfl rfl t29 (lyk t29 rfl) rx14 c27.1 (lt_len (lyn t29 rfl) c27.2) ?_
                refine r_last (pc1 := 126) rfl rfl t29 (lyk t29 rfl) rx13 c28.1 (lt_len (lyn t29 rfl) c28.2) (fun h30 eh30 t30 u30 => ?_)
                have w := w h30 eh30 t30 u30
                have s30 := HX_trans s29 u30
                refine r_aldn (pc1 := 127) rfl rfl rfl ?_
                refine r_gfC (pc1 := 130) (q := 456) rfl rfl rfl t30 (lyk t30 rfl) rfl rfl (lyR t30 rfl rfl) ?_
                refine r_n (pc1 := 131) [.int (J x13), rv 456] _ rfl rfl ?_
                refine r_aldn (pc1 := 132) rfl rfl rfl ?_
                refine r_gfC (pc1 := 135) (q := 456) rfl rfl rfl t30 (lyk t30 rfl) rfl rfl (lyR t30 rfl rfl) ?_
                refine r_n (pc1 := 137) [.int (J x14), rv 456, .int (J x13), rv 456] _ rfl rfl ?_
                refine r_ial (pc1 := 138) rfl rfl t30 (lyk t30 rfl) rx14 c27.1 (lt_len (lyn t30 rfl) c27.2) ?_
                refine r_n (pc1 := 139) [.int (J (-1)), .int (J (hI h30 456 x14.toNat)), .int (J x13), rv 456] _ rfl rfl ?_
                obtain ⟨J32, j32, w⟩ := w
                have Q32 : ∀ (x31 : Int), rg x31 → J32 x31 → RR sc goal fs 246 155 [some (rv 437), some (rv a2), some (rv a11), some (.int (J x13)), some (.int (J x14))] [.int (J x31), .int (J x13), rv 456] h30 := by
                  intro x31 rx31 z32
                  have w := j32 x31 rx31 z32
                  refine r_iast (pc1 := 156) rfl rfl t30 (lyk t30 rfl) rx13 c28.1 (lt_len (lyn t30 rfl) c28.2) (fun h33 eh33 t33 u33 => ?_)
                  have w := w h33 eh33 t33 u33
                  have s33 := HX_trans s30 u33
                  refine r_aldn (pc1 := 157) rfl rfl rfl ?_
                  refine r_gfC (pc1 := 160) (q := 457) rfl rfl rfl t33 (lyk t33 rfl) rfl rfl (lyR t33 rfl rfl) ?_
                  refine r_n (pc1 := 161) [.int (J x13), rv 457] _ rfl rfl ?_
                  refine r_aldn (pc1 := 162) rfl rfl rfl ?_
                  refine r_gfC (pc1 := 165) (q := 457) rfl rfl rfl t33 (lyk t33 rfl) rfl rfl (lyR t33 rfl rfl) ?_
                  refine r_n (pc1 := 167) [.int (J x14), rv 457, .int (J x13), rv 457] _ rfl rfl ?_
                  refine r_ial (pc1 := 168) rfl rfl t33 (lyk t33 rfl) rx14 c27.1 (lt_len (lyn t33 rfl) c27.2) ?_
                  refine r_n (pc1 := 169) [.int (J (-1)), .int (J (hI h33 457 x14.toNat)), .int (J x13), rv 457] _ rfl rfl ?_
                  obtain ⟨J35, j35, w⟩ := w
                  have Q35 : ∀ (x34 : Int), rg x34 → J35 x34 → RR sc goal fs 246 185 [some (rv 437), some (rv a2), some (rv a11), some (.int (J x13)), some (.int (J x14))] [.int (J x34), .int (J x13), rv 457] h33 := by
                    intro x34 rx34 z35
                    have w := j35 x34 rx34 z35
                    refine r_iast (pc1 := 186) rfl rfl t33 (lyk t33 rfl) rx13 c28.1 (lt_len (lyn t33 rfl) c28.2) (fun h36 eh36 t36 u36 => ?_)
                    have w := w h36 eh36 t36 u36
                    have s36 := HX_trans s33 u36
                    refine r_inc (pc1 := 189) (g := fun zz => [some (rv 437), some (rv a2), some (rv a11), some (.int (J zz)), some (.int (J x14))]) rfl rfl rfl rfl (fun _ => xput1_rv rfl rfl) (fun x37 ex37 rx37 => ?_)
                    have w := w x37 ex37 rx37
                    exact Q25  x37 h36 t36 s36 rx37 w
                  refine r_ic (t := 176) (pc1 := 172) rfl rfl rfl (rgh _ _ _) (rgk rfl) (fun c40 => ?_) (fun c40 => ?_)
                  · have w := w.1 c40
                    refine r_aldn (pc1 := 177) rfl rfl rfl ?_
                    refine r_aldn (pc1 := 178) rfl rfl rfl ?_
                    refine r_gfC (pc1 := 181) (q := 457) rfl rfl rfl t33 (lyk t33 rfl) rfl rfl (lyR t33 rfl rfl) ?_
                    refine r_n (pc1 := 183) [.int (J x14), rv 457, rv a11, .int (J x13), rv 457] _ rfl rfl ?_
                    refine r_ial (pc1 := 184) rfl rfl t33 (lyk t33 rfl) rx14 c27.1 (lt_len (lyn t33 rfl) c27.2) ?_
                    refine r_vI (rgh _ _ _) (fun x38 ex38 rx38 => ?_)
                    have w := w x38 ex38 rx38
                    obtain ⟨c39, w⟩ := w
                    refine r_ial (pc1 := 185) rfl rfl t33 (HXk u33 (HXk u30 (HXk u29 (HXk u20 c18 rfl) rfl) rfl) rfl) rx38 c39.1 c39.2 ?_
                    exact Q35  (hI h33 a11 x38.toNat)  (rgh _ _ _) w
                  · have w := w.2 c40
                    refine r_n (pc1 := 173) [.int (J (-1)), .int (J x13), rv 457] _ rfl rfl ?_
                    refine r_goto (t := 185) rfl rfl ?_
                    exact Q35  (-1)  (rgk rfl) w
                refine r_ic (t := 146) (pc1 := 142) rfl rfl rfl (rgh _ _ _) (rgk rfl) (fun c43 => ?_) (fun c43 => ?_)
                · have w := w.1 c43
                  refine r_aldn (pc1 := 147) rfl rfl rfl ?_
                  refine r_aldn (pc1 := 148) rfl rfl rfl ?_
                  refine r_gfC (pc1 := 151) (q := 456) rfl rfl rfl t30 (lyk t30 rfl) rfl rfl (lyR t30 rfl rfl) ?_
                  refine r_n (pc1 := 153) [.int (J x14), rv 456, rv a11, .int (J x13), rv 456] _ rfl rfl ?_
                  refine r_ial (pc1 := 154) rfl rfl t30 (lyk t30 rfl) rx14 c27.1 (lt_len (lyn t30 rfl) c27.2) ?_
                  refine r_vI (rgh _ _ _) (fun x41 ex41 rx41 => ?_)
                  have w := w x41 ex41 rx41
                  obtain ⟨c42, w⟩ := w
                  refine r_ial (pc1 := 155) rfl rfl t30 (HXk u30 (HXk u29 (HXk u20 c18 rfl) rfl) rfl) rx41 c42.1 c42.2 ?_
                  exact Q32  (hI h30 a11 x41.toNat)  (rgh _ _ _) w
                · have w := w.2 c43
                  refine r_n (pc1 := 143) [.int (J (-1)), .int (J x13), rv 456] _ rfl rfl ?_
                  refine r_goto (t := 155) rfl rfl ?_
                  exact Q32  (-1)  (rgk rfl) w
        exact Q16 _  0 0 h12 t12 s12 (rgk rfl) (rgk rfl) (Nat.lt_succ_self _) w
      · have w := w.2 c58
        refine r_aldn (pc1 := 28) rfl rfl rfl ?_
        refine r_n (pc1 := 29) [.int (J x7), rv a2] _ rfl rfl ?_
        obtain ⟨c46, w⟩ := w
        obtain ⟨c47, w⟩ := w
        refine r_bal (pc1 := 30) rfl rfl t8 c46 rx7 c47.1 c47.2 ?_
        obtain ⟨J49, j49, w⟩ := w
        have Q49 : ∀ (h48 : XH), HT h48 → HX h h48 → J49 h48 → RR sc goal fs 246 61 [some (rv 437), some (rv a2), some (.int (J x7)), none, none] [] h48 := by
          intro h48 t48 s48 z49
          have w := j49 h48 t48 s48 z49
          refine r_inc (pc1 := 64) (g := fun zz => [some (rv 437), some (rv a2), some (.int (J zz)), none, none]) rfl rfl rfl rfl (fun _ => xput1_rv rfl rfl) (fun x50 ex50 rx50 => ?_)
          have w := w x50 ex50 rx50
          refine r_goto (t := 23) rfl rfl ?_
          exact ih9  x50 h48 t48 s48 rx50 (Nat.lt_of_lt_of_le w.2 (Nat.le_of_lt_succ q9)) w.1
        refine r_iz (t := 61) (pc1 := 33) rfl rfl rfl (rgh _ _ _) (fun c57 => ?_) (fun c57 => ?_)
        · have w := w.1 c57
          exact Q49   h8 t8 s8  w
        · have w := w.2 c57
          refine r_aldn (pc1 := 34) rfl rfl rfl ?_
          refine r_gfC (pc1 := 37) (q := 456) rfl rfl rfl t8 (lyk t8 rfl) rfl rfl (lyR t8 rfl rfl) ?_
          refine r_n (pc1 := 38) [.int (J x7), rv 456] _ rfl rfl ?_
          obtain ⟨c51, w⟩ := w
          refine r_ial (pc1 := 39) rfl rfl t8 (lyk t8 rfl) rx7 c51.1 (lt_len (lyn t8 rfl) c51.2) ?_
          refine r_n (pc1 := 40) [.int (J (-1)), .int (J (hI h8 456 x7.toNat))] _ rfl rfl ?_
          refine r_ic (t := 61) (pc1 := 43) rfl rfl rfl (rgh _ _ _) (rgk rfl) (fun c56 => ?_) (fun c56 => ?_)
          · have w := w.1 c56
            exact Q49   h8 t8 s8  w
          · have w := w.2 c56
            refine r_aldn (pc1 := 44) rfl rfl rfl ?_
            refine r_aldn (pc1 := 45) rfl rfl rfl ?_
            refine r_gfC (pc1 := 48) (q := 456) rfl rfl rfl t8 (lyk t8 rfl) rfl rfl (lyR t8 rfl rfl) ?_
            refine r_n (pc1 := 49) [.int (J x7), rv 456, rv a2] _ rfl rfl ?_
            refine r_ial (pc1 := 50) rfl rfl t8 (lyk t8 rfl) rx7 c51.1 (lt_len (lyn t8 rfl) c51.2) ?_
            refine r_n (pc1 := 51) [.int (J 1), .int (J (hI h8 456 x7.toNat)), rv a2] _ rfl rfl ?_
            obtain ⟨c52, w⟩ := w
            refine r_bast (pc1 := 52) rfl rfl t8 c46 (.inr rfl) (rgh _ _ _) c52.1 c52.2 (fun h53 eh53 t53 u53 => ?_)
            have w := w h53 eh53 t53 u53
            have s53 := HX_trans s8 u53
            refine r_aldn (pc1 := 53) rfl rfl rfl ?_
            refine r_aldn (pc1 := 54) rfl rfl rfl ?_
            refine r_gfC (pc1 := 57) (q := 457) rfl rfl rfl t53 (lyk t53 rfl) rfl rfl (lyR t53 rfl rfl) ?_
            refine r_n (pc1 := 58) [.int (J x7), rv 457, rv a2] _ rfl rfl ?_
            refine r_ial (pc1 := 59) rfl rfl t53 (lyk t53 rfl) rx7 c51.1 (lt_len (lyn t53 rfl) c51.2) ?_
            refine r_n (pc1 := 60) [.int (J 1), .int (J (hI h53 457 x7.toNat)), rv a2] _ rfl rfl ?_
            obtain ⟨c54, w⟩ := w
            refine r_bast (pc1 := 61) rfl rfl t53 (HXk u53 c46 rfl) (.inr rfl) (rgh _ _ _) c54.1 c54.2 (fun h55 eh55 t55 u55 => ?_)
            have w := w h55 eh55 t55 u55
            have s55 := HX_trans s53 u55
            exact Q49   h55 t55 s55  w
  exact Q9 _  x6 h5 t5 s5 rx6 (Nat.lt_succ_self _) w
