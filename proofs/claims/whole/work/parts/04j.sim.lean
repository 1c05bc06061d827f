/-! THE SIMULATION: every run of the abstract machine is a run of the JVM -/
theorem xnews_ok {P : XP} (HN : ∀ ci fs, P.news ci = some fs → ∀ v ∈ fs, ∀ k, ¬ v = .ref k) (ad : Nat → Nat) : ∀ ci fs, P.news ci = some fs → ∀ v ∈ fs, xcv ad v = v := by
  intro ci fs h v hv
  cases v with
  | ref k => exact absurd rfl (HN ci fs h _ hv k)
  | _ => rfl
set_option maxHeartbeats 4000000 in
theorem xsim {P : XP} {D : va_G} {tc : Nat → ClassId} {b dA : Nat} {sc : Nat × (Nat → Int32)} {B : Heap} (HP : xTabOK P) (HN : ∀ ci fs, P.news ci = some fs → ∀ v ∈ fs, ∀ k, ¬ v = .ref k) :
    ∀ (n d mi pc : Nat) (l : XL) (st : List Value) (h : XH) (o : XO) (h1 : XH), xrun P sc n d mi pc l st h = some (o, h1) → ∀ (M : XM), P.meth mi = some M →
    ∀ (p : Program) (lch : Launch) (e : Env) (Rm : Room) (s : State) (m : MethodId) (args : Array Value) (below : List Frame) (meth : Method) (c : Code) (H : Heap) (locs : List Loc) (cells slots : Nat) (ls : Array Slot) (mc ms : Nat),
    xC M p lch s m args meth c → xG D tc b dA sc B s → xRp D tc b dA B h H → s.heap.size ≤ H.size → (∀ q ∈ locs, B.size ≤ q.base) → xLH (xad b dA B.size) ls M.maxL l →
    cells + (h1.length - h.length) ≤ mc → slots + (xhs h1 - xhs h) ≤ ms → mc ≤ Rm.cells → ms ≤ Rm.slots → d + 8 ≤ Rm.frames → 64 * d + 200 ≤ Rm.locals →
    W p lch e Rm s m args below meth c H locs cells slots (vx_MQ below (xQc D tc b dA B o h1) (xXC D tc b dA B o h1) args s mc ms (fun q => B.size ≤ q)) (F0 m pc ls (st.map (xcv (xad b dA B.size)))) := by
  intro n
  induction n with
  | zero => intro d mi pc l st h o h1 hrun; cases hrun
  | succ n ih =>
    intro d mi pc l st h o h1 hrun M hM p lch e Rm s m args below meth c H locs cells slots ls mc ms C G R hsz hl L hmc hms hRc hRs hfr hlo
    have hS := (HP mi M hM).2.2.2
    have dec : ∀ pc i k, P.code mi pc = some i → (∀ z, xlen i z = true → z = k) → decode M.bytes pc = .ok (i, k) := by
      intro pc i k hc hk
      obtain ⟨z, h1, h2⟩ := (HP mi M hM).2.2.1 pc i hc
      rw [hk z h2] at h1
      exact h1
    unfold xrun at hrun
    split at hrun
    · cases hrun
    · next i hi =>
      split at hrun
      · cases hrun
      · next pc1 l1 st1 h2 hs =>
        have m1 := xstep_mono hs
        have m2 := xrun_mono _ _ _ _ _ _ _ _ _ hrun
        have m3 := m1.1; have m4 := m1.2; have m5 := m2.1; have m6 := m2.2
        dsimp only at m3 m4
        refine xnext HP hM hi hs C G (xnews_ok HN _) R hsz hl L (by omega) (by omega) (by omega) (by omega) fun H1 locs1 ls1 cells1 slots1 R1 hz hl1 L1 hc1 hs1 => ?_
        exact ih _ _ _ _ _ _ _ _ hrun M hM p lch e Rm s m args below meth c H1 locs1 cells1 slots1 ls1 mc ms C G R1 (Nat.le_trans hsz hz) hl1 L1 (by omega) (by omega) hRc hRs hfr hlo
      · next v hs =>
        split at hrun
        · next M9 hM9 =>
          cases (Option.some.inj (hM9.symm.trans hM))
          split at hrun
          · next hok =>
            cases hrun
            obtain ⟨hi9, rfl⟩ := xstep_ret hs
            refine x_ret C (dec pc i 1 hi ?_) hi9 hok R hl (by omega) (by omega)
            intro z hz
            cases i <;> first | (exact eq_of_beq hz) | (cases v <;> cases hi9)
          · cases hrun
        · cases hrun
      · next x hs =>
        cases hrun
        obtain ⟨k, ic, ty, v, M9, is_, S6, rfl, hk, hM9, hh9, h8, h6, hd, hcode⟩ := xstep_throw hs
        cases (Option.some.inj (hM9.symm.trans hM))
        obtain ⟨hx, hb, hml, hr, hts, hown, hlocks, hnm, htab, htr⟩ := C
        obtain ⟨names, ix, rx, n0, n1, n2, n3, n4, n5, n6, n7⟩ := (hS _ _ hk).2.2.2.2.2.1 rfl
        obtain ⟨text, n8⟩ := (hS _ _ h6).2.2.2.2.2.2.1 rfl
        obtain ⟨sa, n9⟩ := n8 s G.2.1
        have hempty : ∀ pc, ∀ z ∈ c.exceptionTable.toList, covers z pc = false := by
          intro pc z hz
          rw [htab, List.isEmpty_iff.mp hh9] at hz
          cases hz
        have hcell : cells + 1 ≤ mc := by rw [xlen_app1] at hmc; exact hmc
        have hslot : slots + 6 ≤ ms := by rw [xhs_app1] at hms; exact hms
        have d0 := dec pc (.new k) 3 hi (fun z hz => eq_of_beq hz)
        have d3 := dec _ .dup 1 hd (fun z hz => eq_of_beq hz)
        have hxx : ∀ t : State, s.vm.Alike t.vm → t.heap.size = H.size + 1 → (∀ q : Nat, q < H.size → t.heap[q]? = H[q]?) → xXC D tc b dA B (.inr x) (h ++ [none]) (xname x) s t := fun t _ hz hq => ⟨x, rfl, rfl, R.pushN hz hq⟩
        have hsum : ((st.map (xcv (xad b dA B.size))).map fun v => v.category).sum ≤ 8 := by rw [xsum_cv]; exact h8
        rcases hcode with ⟨hc4, hc6, hc9⟩ | ⟨hc4, hc7, hc10⟩
        · exact xx_throwS n0 hx hb htr hown n2 n3 (hts _ n4) (hts _ n5) n9 (n6 args s hts G.2.1) n7 G.2.2.1.2.2.1 G.2.2.1.2.2.2 (R.S G hsz hl) (L.1.trans hml.symm) d0 d3 (dec _ (.ldc is_) 2 hc4 (fun z hz => eq_of_beq hz)) (dec _ (.invokespecial ic) 3 hc6 (fun z hz => eq_of_beq hz)) (dec _ .athrow 1 hc9 (fun z hz => eq_of_beq hz)) (hempty _) (by omega) (by omega) (by omega) (by omega) hlocks hxx hl hcell hslot
        · exact xx_throwSW n0 hx hb htr hown n2 n3 (hts _ n4) (hts _ n5) n9 (n6 args s hts G.2.1) n7 G.2.2.1.2.2.1 G.2.2.1.2.2.2 (R.S G hsz hl) (L.1.trans hml.symm) d0 d3 (dec _ (.ldc_w is_) 3 hc4 (fun z hz => eq_of_beq hz)) (dec _ (.invokespecial ic) 3 hc7 (fun z hz => eq_of_beq hz)) (dec _ .athrow 1 hc10 (fun z hz => eq_of_beq hz)) (hempty _) (by omega) (by omega) (by omega) (by omega) hlocks hxx hl hcell hslot
      · next mj av r hs =>
        obtain ⟨idx, code, ty, v9, rfl, hsite, hcall⟩ := xstep_call hs
        obtain ⟨M2, hM2, hav, rfl, h8, hrec⟩ := xcall_inv hcall
        split at hrun
        · next d M9 M8 hM9 hM8 =>
          cases (Option.some.inj (hM9.symm.trans hM))
          cases (Option.some.inj (hM8.symm.trans hM2))
          split at hrun
          · cases hrun
          · next l0 hl0 =>
            obtain ⟨M7, hM7, hmaxL, hOK⟩ := (hS _ _ hsite).2.1 rfl
            cases (Option.some.inj (hM7.symm.trans hM2))
            have hCs := C
            obtain ⟨hx, hb, hml, hr, hts, hown, hlocks, hnm, htab, htr⟩ := C
            have hdg : decode M.bytes pc = .ok (xinv code idx, 3) := dec pc _ 3 hi (fun z hz => by
              match code with
              | 0 => exact eq_of_beq hz
              | 1 => exact eq_of_beq hz
              | k + 2 => exact eq_of_beq hz)
            have met : ∀ (r1 : XO) (h2 : XH), xrun P sc n d mj 0 l0 [] h = some (r1, h2) → vx_Met lch M2.y (xws M2) (xroom d (h2.length - h.length) (xhs h2 - xhs h)) (xPc D tc b dA sc B av h) (xQc D tc b dA B r1 h2) (xXC D tc b dA B r1 h2) (h2.length - h.length) (xhs h2 - xhs h) (fun q => B.size ≤ q) := by
              intro r1 h2 hr2
              obtain ⟨g1, g2, g3, g4⟩ := HP mj M2 hM2
              obtain ⟨hle, hL0⟩ := xLH_entry (ad := xad b dA B.size) hl0
              cases hhh : M2.hh with
              | nil =>
                refine vx_ofWF (cc := M2.bytes) (maxL := M2.maxL) (ret := M2.ret) (ws' := wsK) g1 (xws_nil hhh) ?_
                intro p e s m args below meth c s₁ Bd hml9 hnx hv
                obtain ⟨rfl, hRp, hG⟩ := hv
                have hts0 := atoms_spec (ws := xws M2) Bd.pre
                rw [xws_nil hhh] at hts0
                rw [lg_entry_eq]
                refine ih d mj 0 l0 [] h r1 h2 hr2 M2 hM2 p lch e _ s m _ below meth c s.heap [] 0 0 _ _ _ ⟨Bd.exec, Bd.bytes, hml9, Bd.returns, fun w hw => hts0 w (List.mem_cons_of_mem _ hw), by rw [← g2]; exact findClass_of_methodNamed Bd.named, Bd.notSynchronized, (name_of_methodNamed Bd.named Bd.method).1, ?_, htr⟩ hG hRp (Nat.le_refl _) (fun q hq => by cases hq) hL0 (by omega) (by omega) (Nat.le_refl _) (Nat.le_refl _) (Nat.le_refl _) (Nat.le_refl _)
                rw [hhh]
                exact List.eq_nil_iff_forall_not_mem.mpr hnx
              | cons q0 qs =>
                refine vx_ofWHF (cc := M2.bytes) (maxL := M2.maxL) (ret := M2.ret) (hh := M2.hh) (ws' := wsK) g1 (xws_cons hhh) ?_
                intro p e s m args below meth c s₁ Bd hml9 hv
                obtain ⟨rfl, hRp, hG⟩ := hv
                have hts0 := atoms_spec (ws := xws M2) Bd.pre
                rw [xws_cons hhh] at hts0
                have htab9 := vx_table (x := M2.y) Bd (hts0 _ List.mem_cons_self)
                rw [lg_entry_eq]
                exact ih d mj 0 l0 [] h r1 h2 hr2 M2 hM2 p lch e _ s m _ below meth c s.heap [] 0 0 _ _ _ ⟨Bd.exec, Bd.bytes, hml9, Bd.returns, fun w hw => hts0 w (List.mem_cons_of_mem _ hw), by rw [← g2]; exact findClass_of_methodNamed Bd.named, Bd.notSynchronized, (name_of_methodNamed Bd.named Bd.method).1, htab9, htr⟩ hG hRp (Nat.le_refl _) (fun q hq => by cases hq) hL0 (by omega) (by omega) (Nat.le_refl _) (Nat.le_refl _) (Nat.le_refl _) (Nat.le_refl _)
            have hstk : (av.reverse ++ r).map (xcv (xad b dA B.size)) = (av.map (xcv (xad b dA B.size))).reverse ++ r.map (xcv (xad b dA B.size)) := by rw [List.map_append, List.map_reverse]
            have run : ∀ (r1 : XO) (h2 : XH), xrun P sc n d mj 0 l0 [] h = some (r1, h2) → cells + (h2.length - h.length) ≤ Rm.cells → slots + (xhs h2 - xhs h) ≤ Rm.slots →
                vx_Run p lch e Rm s m args below meth c H locs cells slots (h2.length - h.length) (xhs h2 - xhs h) (F0 m pc ls ((av.map (xcv (xad b dA B.size))).reverse ++ r.map (xcv (xad b dA B.size)))) (r.map (xcv (xad b dA B.size))) (xQc D tc b dA B r1 h2 (av.map (xcv (xad b dA B.size))).toArray) (xXC D tc b dA B r1 h2) (fun q => B.size ≤ q) := by
              intro r1 h2 hr2 hc2 hs2
              refine hOK p lch e Rm s m args below meth c H locs cells slots pc ls (av.map (xcv (xad b dA B.size))) (r.map (xcv (xad b dA B.size))) _ _ _ _ d _ _ hx hb (hml.trans L.1.symm) hown hts G.2.1 hdg (met r1 h2 hr2) (by omega) (by omega) xPc_blind (fun U hU hW => ⟨rfl, by rw [hU]; exact R, G.at R hU hW⟩) (by rw [List.length_map]; exact hav) (by rw [xsum_cv]; exact h8) ⟨hc2, hs2⟩ ?_
              rcases hrec with h0 | ⟨k, As, rfl, hrec⟩
              · exact Or.inl h0
              · refine Or.inr ⟨_, _, rfl, fun z => ?_⟩
                obtain ⟨vs, hvs⟩ := hrec z
                obtain ⟨r9, q1, q2, cell, q3, q4, q5, -⟩ := R.cell (xcell_at hvs)
                exact ⟨r9, q1, cell, q3, by rw [q5]; rfl, by rw [q4]; exact (G.1.1 _ _ q1).2.1⟩
            split at hrun
            · cases hrun
            · next v h2 hr2 =>
              have m1 := xrun_mono _ _ _ _ _ _ _ _ _ hr2
              have m2 := xrun_mono _ _ _ _ _ _ _ _ _ hrun
              have m3 := m1.1; have m4 := m1.2; have m5 := m2.1; have m6 := m2.2
              rw [hstk]
              refine x_after (run _ _ hr2 (by omega) (by omega)) (fun v9 st9 t9 H1 L9 hq ht hL9 => ?_) (fun q st9 t9 H1 L9 E ce hxc ht hL9 hce hcv hcl => ?_)
              · obtain ⟨v8, e1, e2, e3⟩ := hq
                cases e1
                cases e2
                rw [ht] at e3
                have hst : (v.map (xcv (xad b dA B.size))).toList ++ r.map (xcv (xad b dA B.size)) = (v.toList ++ r).map (xcv (xad b dA B.size)) := by cases v <;> rfl
                rw [hst]
                have hz : H.size ≤ H1.size := by have z1 := R.2.2.2.1; have z2 := e3.2.2.2.1; omega
                exact ih _ _ _ _ _ _ _ _ hrun M hM p lch e Rm s m args below meth c H1 (locs ++ L9) _ _ ls mc ms hCs G e3 (Nat.le_trans hsz hz) (fun q hq => (List.mem_append.mp hq).elim (hl q) (hL9 q)) L (by omega) (by omega) hRc hRs hfr hlo
              · obtain ⟨x9, e1, -⟩ := hxc
                cases e1
            · next x h2 hr2 =>
              have m1 := xrun_mono _ _ _ _ _ _ _ _ _ hr2
              have m3 := m1.1; have m4 := m1.2
              have hh12 : h1 = h2 := by
                split at hrun
                · cases hrun; rfl
                · split at hrun
                  · split at hrun
                    · cases hrun; rfl
                    · cases hrun
                  · cases hrun
              subst hh12
              rw [hstk]
              refine x_after (run _ _ hr2 (by omega) (by omega)) (fun v9 st9 t9 H1 L9 hq ht hL9 => ?_) (fun q st9 t9 H1 L9 E ce hxc ht hL9 hce hcv hcl => ?_)
              · obtain ⟨v8, e1, -⟩ := hq
                cases e1
              · obtain ⟨x9, e1, e2, e3⟩ := hxc
                cases e1
                subst e2
                rw [ht] at e3
                split at hrun
                · next hhh =>
                  cases hrun
                  refine vx_out (fun z hz => by rw [htab, hhh] at hz; cases hz) hlocks hce hcv hcl (fun t ht9 _ => ⟨x, rfl, rfl, by rw [ht9]; exact e3⟩) (fun q hq => (List.mem_append.mp hq).elim (hl q) (hL9 q)) (by omega) (by omega)
                · next q0 qs hhh =>
                  split at hrun
                  · next k hk =>
                    split at hrun
                    · next hokr =>
                      cases hrun
                      obtain ⟨q9, as, bs, S2, S3, S4, z9, f1, f2, f3, f4, f5, f6⟩ := xhand_inv hk
                      obtain ⟨g0, g1, g2⟩ := (hS _ _ f4).2.2.2.2.2.2.2.2.2.2.2 rfl
                      simp only [Nat.add_sub_cancel] at g0 g2
                      have hsplit : c.exceptionTable.toList = tableOf as ++ (⟨q9.1, q9.2.1, q9.2.2.1, q9.2.2.2⟩ : ExceptionTableEntry) :: tableOf bs := by rw [htab, f1]; unfold tableOf; rw [List.map_append, List.map_cons]
                      refine vx_catch hown (tableOf as) _ (tableOf bs) hsplit (fun z hz => ?_) f3 g0 (hts _ g2) (va_Nw.use rfl (xcc G.2.1 x g1)) hce hcv hcl ?_
                      · obtain ⟨a9, ha9, rfl⟩ := List.mem_map.mp hz
                        have f2a := f2 a9 ha9
                        by_cases hcov : (decide (a9.1 ≤ pc) && decide (pc < a9.2.1)) = true
                        · rw [hcov, Bool.true_and] at f2a
                          split at f2a
                          · next x2 _ _ _ hs2 =>
                            obtain ⟨k0, k1, k2⟩ := (hS _ _ hs2).2.2.2.2.2.2.2.2.2.2.2 rfl
                            simp only [Nat.add_sub_cancel] at k0 k2
                            refine Or.inr ⟨k0, _, hts _ k2, xnc G.2.1 x x2 g1 k1 (fun z => ?_)⟩
                            subst z
                            exact f2a (beq_self_eq_true _)
                          · exact absurd rfl f2a
                        · exact Or.inl (Bool.eq_false_iff.mpr hcov)
                      · have hfin : ∀ (pc9 : Nat) (ls9 : Array Slot), decode M.bytes pc9 = .ok (.iconst z9, 1) → decode M.bytes (pc9 + 1) = .ok (.ireturn, 1) → W p lch e Rm s m args below meth c H1 (locs ++ L9) (cells + (h1.length - h.length)) (slots + (xhs h1 - xhs h)) (vx_MQ below (xQc D tc b dA B (.inl (some (.int k))) h1) (xXC D tc b dA B (.inl (some (.int k))) h1) args s mc ms (fun q => B.size ≤ q)) (F0 m pc9 ls9 []) := by
                          intro pc9 ls9 k1 k2
                          refine lv_iconst (v := k) hx hb k1 f5.symm ?_
                          exact x_ret (i := .ireturn) (v := some (.int k)) hCs k2 rfl hokr e3 (fun q hq => (List.mem_append.mp hq).elim (hl q) (hL9 q)) (by omega) (by omega)
                        have hll := L.2.2.1
                        rcases f6 with ⟨j, j1, j2, j3, j4⟩ | ⟨j, j1, j2, j3, j4⟩
                        · exact lv_astore_n hx hb (dec _ (.astore_n j) 1 j2 (fun z hz => eq_of_beq hz)) rfl L.has (by rw [← hll]; exact j1) rfl (fun ls9 _ => hfin _ ls9 (dec _ (.iconst z9) 1 j3 (fun z hz => eq_of_beq hz)) (dec _ .ireturn 1 j4 (fun z hz => eq_of_beq hz)))
                        · exact lv_astore hx hb (dec _ (.astore j) 2 j2 (fun z hz => eq_of_beq hz)) L.has (by rw [← hll]; exact j1) rfl (fun ls9 _ => hfin _ ls9 (dec _ (.iconst z9) 1 j3 (fun z hz => eq_of_beq hz)) (dec _ .ireturn 1 j4 (fun z hz => eq_of_beq hz)))
                    · cases hrun
                  · cases hrun
        · cases hrun
