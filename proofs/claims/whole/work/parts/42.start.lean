theorem nw_L_7 : NewOK RL 7 10 := ⟨RX10, TX10, 14, tyX10, rfl, by decide, rfl, tyX10_ok, by decide +kernel, tbl_t1 20 rfl rfl, tbl_t1 21 rfl rfl, tbl_t1 1 rfl rfl⟩
theorem nw_L_10 : NewOK RL 10 11 := ⟨RX11, TX11, 33, tyX11, rfl, by decide, rfl, tyX11_ok, by decide +kernel, tbl_t4 211 rfl rfl, tbl_t4 212 rfl rfl, tbl_t1 12 rfl rfl⟩
theorem made_facts {Γ : Cn} {b q : Nat} {τ σ : Mm} {H H1 : Heap} {E : va_E} (hw : Wp Γ b τ σ H) (hbk : bkc (SH (pq (nn σ))).1 = b) (hE : E = cel Γ.B Γ.cy (nw σ) (pq (nn σ))) (hP : va_P Γ.D vwCl (wld Γ.B Γ.cy σ τ b (nn σ) ++ [(q, E)]) H1) (hD : va_D Γ.A (wld Γ.B Γ.cy σ τ b (nn σ) ++ [(q, E)])) (hs : H1.size ≤ H.size + 1) : q = Γ.B + nn σ ∧ Wp Γ b τ (nw σ) H1 := by
  have hlast : (wld Γ.B Γ.cy σ τ b (nn σ) ++ [(q, E)])[nn σ]? = some (q, E) := by
    rw [List.getElem?_append_right (by rw [wld_len]; exact Nat.le_refl _), wld_len, Nat.sub_self]; rfl
  have hq1 : q < H1.size := (hP _ _ hlast).lt
  have hqB : Γ.B ≤ q := hD.2 _ _ hlast
  have hH : H.size = Γ.B + nn σ := hw.1
  have hqn : ¬ q < Γ.B + nn σ := by
    intro hlt
    have ho : q - Γ.B < nn σ := by omega
    have h2 : ∃ e, (wld Γ.B Γ.cy σ τ b (nn σ) ++ [(q, E)])[q - Γ.B]? = some (q, e) := by
      rw [List.getElem?_append_left (by rw [wld_len]; exact ho)]
      unfold wld
      rw [List.getElem?_map, List.getElem?_range ho]
      refine ⟨cel Γ.B Γ.cy (if bkc (SH (pq (q - Γ.B))).1 = b then σ else τ) (pq (q - Γ.B)), ?_⟩
      simp only [Option.map_some]
      rw [show Γ.B + (q - Γ.B) = q by omega]
    obtain ⟨e2, h2⟩ := h2
    have := hD.1 _ _ _ _ h2 hlast rfl
    omega
  have hq : q = Γ.B + nn σ := by omega
  subst hq
  refine ⟨rfl, by rw [nn_nw]; omega, ?_⟩
  rw [nn_nw, ← wld_push hbk, ← hE]
  exact hP
theorem new_fs {Γ : Cn} {σ : Mm} {c N : Nat} {ty : Nat → FieldType} (hN : nsl c = N) (hdef : ∀ j, j < N → defaultValue (ty j) = if isr c j = true then .null else .int 0) : ∀ j, j < N → defaultValue (ty j) = vp_V ((List.range (nsl c)).map (fldv Γ.B (nw σ) (pq (nn σ)) c)) j := by
  intro j hj
  unfold vp_V
  rw [List.getD_eq_getElem?_getD, fld_at hN hj, hdef j hj]
  unfold fldv
  rw [rv_nw, iv_nw]
  by_cases hr : isr c j = true
  · simp [hr, va_rf]
  · simp [hr]
/-- behind a constructor -/
theorem lg_afterV {Γ : Cn} {b0 k n pc : Nat} {st : List Value} {p : Program} {e : Env} {s : State} {m : MethodId} {a : Array Value} {below : List Frame} {meth : Method} {c : Code} {H : Heap} {locs : List Loc} {ls : Array Slot} {mc ms b : Nat} {st0 : List Value} {τ1 r : Mm}
    (hr : va_Run p Γ.1 e room_1 s m #[Value.ref b0] below meth c H locs k n mc ms (F0 m pc ls st0) st (QQ Γ b τ1 (PV r) a) Γ.A) (hS : va_S Γ.A s.heap H locs)
    (h : ∀ (H1 : Heap) (locs1 : List Loc), Wp Γ b τ1 r H1 → va_S Γ.A s.heap H1 locs1 → W p Γ.1 e room_1 s m #[Value.ref b0] below meth c H1 locs1 (k + mc) (n + ms) (lw_Z below #[Value.ref b0] s) (F0 m (pc + 3) ls st)) :
    W p Γ.1 e room_1 s m #[Value.ref b0] below meth c H locs k n (lw_Z below #[Value.ref b0] s) (F0 m pc ls st0) := by
  intro T hT X
  obtain ⟨v, st₀, t, T', Ll, h0, X', hL, e1, e2, ⟨⟨v', σ2, hv, hp, hw1⟩, hz1, hk1⟩, stp⟩ := hr T hT X
  cases hv
  obtain ⟨rfl, rfl⟩ := hp
  rw [h0] at hz1 hk1
  obtain ⟨t2, a1, b1⟩ := h t.heap (locs ++ Ll) hw1 ⟨Nat.le_trans hS.1 hz1, fun q h1 h2 => by rw [hk1 q (Nat.lt_of_lt_of_le h1 hS.1) h2]; exact hS.2.1 q h1 h2, fun q hq => by
      rcases List.mem_append.mp hq with h | h
      · exact hS.2.2 q h
      · exact hL q h⟩ T' e1 X'
  exact ⟨t2, stp t2 a1, b1⟩
def mm0 : Mm := (fun _ _ => 0, fun _ _ => 0, fun _ _ => none, 0)
theorem wp_swap2 {Γ : Cn} {σ τ : Mm} {H : Heap} (h : Wp Γ 100 σ τ H) : Wp Γ 0 τ (setn σ (nn τ)) H := by
  refine ⟨by rw [nn_setn]; exact h.1, ?_⟩
  rw [wld_swap (M := nn τ), setn_self, nn_setn]
  have h2 := h.2
  unfold wld at h2 ⊢
  have e1 : (List.range (nn τ)).map (fun o => (Γ.B + o, cel Γ.B Γ.cy (if bkc (SH (pq o)).1 = 100 then τ else setn σ (nn τ)) (pq o))) = (List.range (nn τ)).map (fun o => (Γ.B + o, cel Γ.B Γ.cy (if bkc (SH (pq o)).1 = 100 then τ else σ) (pq o))) := by
    apply List.map_congr_left
    intro o _
    by_cases hb : bkc (SH (pq o)).1 = 100
    · simp only [hb, if_true]
    · simp only [hb, if_false]
      rw [cel_cong (σ := σ) (σ' := setn σ (nn τ)) rfl rfl rfl]
  rw [e1]
  exact h2
set_option maxRecDepth 4000 in
set_option maxHeartbeats 4000000 in
/-- the law from its entry, out of what the functions do -/
theorem law_from {Γ : Cn} {p : Program} {e : Env} {s : State} {m : MethodId} {below : List Frame} {meth : Method} {c : Code} {b0 L : Nat} {xs : Nat → Int32} {N : Nat} {Inv : Mm → Mm → Prop} (hL : L ≤ 3584) (g : LGc Γ b0 L xs p s m meth c) (hG : Good N Inv) (hI : ∀ σ τ, Inv σ τ → 65 < nn σ)
    {σ1 τ1 : Mm} (h1 : f_X10_init N 0 (nw mm0) = some σ1) (hn1 : nn σ1 = 65) (h2 : f_X11_init N 63 (nw (setn mm0 65)) = some τ1) (hn2 : nn τ1 = 85) (h0 : Inv (setn σ1 85) τ1) :
    W p Γ.1 e room_1 s m #[Value.ref b0] below meth c s.heap [] 0 0 (lw_Z below #[Value.ref b0] s) (entryFrame m ([Value.ref b0] : List Value).toArray 4) := by
  have S := lgF g
  have hts := S.2.2.2.2
  obtain ⟨hx, hb, hml, hown, -⟩ := id S
  have hK := g.2.1
  have hSx := g.2.2.1
  have hBe := g.2.2.2
  have hA : ∀ q : Nat, s.heap.size ≤ q → Γ.A q := fun q h => by show Γ.B ≤ q; omega
  have hlv := lv_entry ([.ref b0]) (n := 4) (Nat.le_of_ble_eq_true rfl)
  rw [lg_entry_eq]
  generalize (lg_sl ([.ref b0]) ++ List.replicate (4 - (lg_sl ([.ref b0])).length) Slot.unset).toArray = ls at hlv ⊢
  have hlv : lv_has ls 4 [(0, .ref b0)] := hlv
  have hw0 : Wp Γ 0 mm0 mm0 s.heap := ⟨hBe.symm, fun k q h => by simp [wld, mm0, nn] at h⟩
  obtain ⟨C, T, Nn, ty, hcl, hc, hN, hty, hdef, w1, w2, w3⟩ := nw_L_7
  refine va_new (D := Γ.D) (A := Γ.A) (H0 := s.heap) (ci := 10) (C := C) (T := T) (N := Nn) (fs := (List.range (nsl 10)).map (fldv Γ.B (nw mm0) (pq (nn mm0)) 10)) hx hb hts (clin 10 _ hcl) ty hty hown (hts _ w1) (hts _ w2) (hts _ w3) hK hw0.2 wld_D va_S.rf hA hcl (new_fs hN hdef) (by show 0 + 1 ≤ 600000; decide) (by rw [← hN]; decide) dL_law_0 fun q H1 hP1 hD1 hS1 => ?_
  refine W.szd fun hs => ?_
  obtain ⟨rfl, hw1⟩ := made_facts hw0 rfl (by rw [cel_o (c := 10) rfl (by decide)]) hP1 hD1 hs
  refine lv_dup hx hb dL_law_3 rfl ?_
  have hC1 : Ct Γ M_X10_init yX10_init 0 mm0 [.ref (Γ.B + pp 0)] (nw mm0) (PV σ1) := c_X10_init h1
  obtain ⟨⟨k1, k2, k3, k4⟩, k5, k6, k7⟩ := moi_X10_init
  subst hN
  refine lg_afterV (mc := 64) (ms := 5735) (va_runI (b := Γ.B + pp 0) (As := []) (rest := [.ref (Γ.B + pp 0)]) (n := 0) S hC1 ⟨callB_of 0 hts (tbl_in k2) rfl rfl rfl (hts _ k1) (hts _ (tbl_t1 22 rfl rfl)) ⟨k3.1, k3.2, k4⟩ ⟨Nat.le_of_ble_eq_true rfl, Nat.le_of_ble_eq_true rfl⟩, k6, hts _ k5⟩ ⟨ct_blind (y := yX10_init) (M' := M_X10_init), ct_pre hK hSx (Nat.le_of_eq hBe) hw1 hS1⟩ rfl rfl hlv.1 rfl (lv_room (Nat.le_of_ble_eq_true rfl)) dL_law_4 ⟨by decide, by decide⟩) hS1 fun H2 locs2 hw2 hS2 => ?_
  refine lv_astore_n (lv' := [(1, .ref (Γ.B + pp 0)), (0, .ref b0)]) hx hb dL_law_7 rfl hlv (by decide) rfl fun ls hlv => ?_
  have hw2' := wp_swap hw2
  rw [hn1] at hw2'
  obtain ⟨C, T, Nn, ty, hcl, hc, hN, hty, hdef, w1, w2, w3⟩ := nw_L_10
  have hH2 : H2.size = Γ.B + 65 := by rw [hw2.1, hn1]
  refine va_new (D := Γ.D) (A := Γ.A) (H0 := s.heap) (ci := 11) (C := C) (T := T) (N := Nn) (fs := (List.range (nsl 11)).map (fldv Γ.B (nw (setn mm0 65)) (pq (nn (setn mm0 65))) 11)) hx hb hts (clin 11 _ hcl) ty hty hown (hts _ w1) (hts _ w2) (hts _ w3) hK hw2'.2 wld_D hS2 hA hcl (new_fs hN hdef) (by show 0 + 1 + 64 + 1 ≤ 600000; decide) (by rw [← hN]; decide) dL_law_8 fun q H3 hP3 hD3 hS3 => ?_
  refine W.szd fun hs3 => ?_
  obtain ⟨rfl, hw3⟩ := made_facts hw2' rfl (by rw [cel_o (c := 11) rfl (by decide)]) hP3 hD3 (by omega)
  refine lv_dup hx hb dL_law_11 rfl ?_
  have hC2 : Ct Γ M_X11_init yX11_init 100 σ1 [.ref (Γ.B + pp 63)] (nw (setn mm0 65)) (PV τ1) := c_X11_init h2
  obtain ⟨⟨k1, k2, k3, k4⟩, k5, k6, k7⟩ := moi_X11_init
  subst hN
  refine lg_afterV (mc := 19) (ms := 4542) (va_runI (b := Γ.B + pp 63) (As := []) (rest := [.ref (Γ.B + pp 63)]) (n := 0) S hC2 ⟨callB_of 0 hts (tbl_in k2) rfl rfl rfl (hts _ k1) (hts _ (tbl_t4 213 rfl rfl)) ⟨k3.1, k3.2, k4⟩ ⟨Nat.le_of_ble_eq_true rfl, Nat.le_of_ble_eq_true rfl⟩, k6, hts _ k5⟩ ⟨ct_blind (y := yX11_init) (M' := M_X11_init), ct_pre hK hSx (Nat.le_of_eq hBe) hw3 hS3⟩ rfl rfl hlv.1 rfl (lv_room (Nat.le_of_ble_eq_true rfl)) dL_law_12 ⟨by decide, by decide⟩) hS3 fun H4 locs4 hw4 hS4 => ?_
  refine lv_astore_n (lv' := [(2, .ref (Γ.B + pp 63)), (1, .ref (Γ.B + pp 0)), (0, .ref b0)]) hx hb dL_law_15 rfl hlv (by decide) rfl fun ls hlv => ?_
  refine lv_iconst (v := 0) hx hb dL_law_16 (by decide) ?_
  refine lv_istore_n (lv' := [(3, .int 0), (2, .ref (Γ.B + pp 63)), (1, .ref (Γ.B + pp 0)), (0, .ref b0)]) hx hb dL_law_17 rfl hlv (by decide) rfl fun ls hlv => ?_
  have hw5 := wp_swap2 hw4
  rw [hn2] at hw5
  exact law_loop hL hG hI (L / 7 + 2) 0 _ _ (setn σ1 85) τ1 (by omega) (Nat.zero_le _) (by decide) (by decide) h0 p e s m below meth c H4 locs4 ls g (lv_sub hlv [0, 3, 2, 1] rfl) hw5 hS4
