section SLw
variable {N : Nat}
theorem RelL.fr' {σ σ' τ τ' : Mm} {v w : Nat} (h : RelL σ τ v) (hv : v < w) (e1 : iv σ' (51 + 2 * v) = iv σ (51 + 2 * v)) (e2 : iv σ' (52 + 2 * v) = iv σ (52 + 2 * v)) (h65 : ∀ i, i < 400 * w → iv τ' 65 i = iv τ 65 i) (h67 : ∀ i, i < 48 * w → iv τ' 67 i = iv τ 67 i) (h68 : ∀ i, i < w → iv τ' 68 i = iv τ 68 i) : RelL σ' τ' v := by
  obtain ⟨cls, L, a1, a2, a3, a4⟩ := h
  refine ⟨cls, L, ?_, by rw [h68 v hv]; exact a2, fun i hi => ?_, fun k c hk => ?_⟩
  · rw [e1, e2]; exact a1
  · have := L.2.2.1
    rw [h65 _ (by omega)]; exact a3 i hi
  · have hk' := (List.getElem?_eq_some_iff.1 hk).1
    have := L.1
    rw [h67 _ (by omega), h67 _ (by omega), h67 _ (by omega), h67 _ (by omega)]
    exact a4 k c hk
theorem st_law (hN : 500 ≤ N) : StepI Inv (f_X10_law N 0) (f_X11_law N 63) := by
  refine step_n fun σ τ hi => ?_
  have hi0 := hi
  obtain ⟨hc, hm, hnn, hT, hL, ⟨m, hw, hr, hs⟩, hI⟩ := hi
  obtain ⟨w, l1, l2, l3, l4⟩ := hL
  unfold f_X10_law f_X11_law
  rw [k_i0 hc, Option.bind_some, l2, m_gI hm, Option.bind_some, l3]
  by_cases w6 : w = 6
  · rw [if_neg (show ¬ nI w < 6 by rw [w6]; decide), if_pos (show nI w = 6 by rw [w6]; rfl)]
    exact ⟨_, σ, τ, rfl, rfl, rfl, rfl, hi0⟩
  have hw6 : w < 6 := by omega
  rw [if_pos (show nI w < 6 by rw [show (6 : Int32) = nI 6 from rfl]; exact nI_lt hw6 (by decide)), if_neg (show ¬ nI w = 6 from nIk (s := w) (k := 6) (by omega) (by decide) w6)]
  obtain ⟨b, t, tp, ct, mt⟩ := hT.mk
  obtain ⟨n, s1, x1, x2, x3, x4⟩ := e_cut (N := N) hN tp hc ct
  have c1 := x2.wc hc
  -- the class
  obtain ⟨s2, e2⟩ : ∃ s, s = si s1 1 1 0 := ⟨_, rfl⟩
  have c2 : WFc s2 := by rw [e2]; exact c1
  obtain ⟨s5, e5⟩ : ∃ s, s = si (si s2 83 1 0) 8 2 0 := ⟨_, rfl⟩
  have c5 : WFc s5 := by rw [e5]; exact c2
  have iv5 : ∀ o, o ≠ 1 → o ≠ 8 → o ≠ 83 → iv s5 o = iv s1 o := fun o h1 h2 h3 => by
    rw [e5, iv_row _ _ _ h2, iv_row _ _ _ h3, e2, iv_row _ _ _ h1]
  have rv5 : ∀ o, rv s5 o = rv σ o := fun o => by
    rw [e5]
    show rv s2 o = _
    rw [e2]
    exact x2.2.1 o
  have nn5 : nn s5 = nn σ := by rw [e5]; show nn s2 = _; rw [e2]; exact x2.1
  have K5 : LC s5 b t n w 0 0 [] := by
    refine ⟨⟨c5, x3.cong (by rw [iv5 3 (by decide) (by decide) (by omega)]) (iv5 4 (by decide) (by decide) (by omega)) (iv5 5 (by decide) (by decide) (by omega)) (iv5 6 (by decide) (by decide) (by omega)), by rw [iv5 3 (by decide) (by decide) (by omega)]; exact x4, Nat.zero_le _⟩, ?_, ?_, ?_, fun i hi => absurd hi (Nat.not_lt_zero _)⟩
    · exact c5.2.1 (8, 1, 83) (by decide)
    · rw [e5, iv_si, if_pos ⟨rfl, rfl⟩]; rfl
    · rw [e5, iv_row _ _ _ (by omega), iv_si, if_pos ⟨rfl, rfl⟩]; rfl
  have i08 : iv s2 0 8 = nI w := by rw [e2, iv_row _ _ _ (by decide), x2.2.2 0 (by decide)]; exact l2
  -- the model
  obtain ⟨t1, g1⟩ : ∃ s, s = si τ 63 15 (nI w) := ⟨_, rfl⟩
  have m1 : WFm t1 := by rw [g1]; exact hm
  obtain ⟨t2, g2⟩ : ∃ s, s = si t1 68 w 0 := ⟨_, rfl⟩
  have m2 : WFm t2 := by rw [g2]; exact m1
  obtain ⟨t3, g3⟩ : ∃ s, s = si t2 66 w 0 := ⟨_, rfl⟩
  have m3 : WFm t3 := by rw [g3]; exact m2
  obtain ⟨t7, g7⟩ : ∃ s, s = si (si (si (si t3 63 18 0) 63 12 0) 63 13 0) 63 16 0 := ⟨_, rfl⟩
  have m7 : WFm t7 := by rw [g7]; exact m3
  have f15 : iv t2 63 15 = nI w := by rw [g2, iv_row _ _ _ (by decide), g1, iv_si, if_pos ⟨rfl, rfl⟩]
  have rm7 : ∀ o, o ≠ 63 → o ≠ 66 → o ≠ 68 → iv t7 o = iv τ o := fun o h1 h2 h3 => by
    rw [g7, iv_row _ _ _ h1, iv_row _ _ _ h1, iv_row _ _ _ h1, iv_row _ _ _ h1, g3, iv_row _ _ _ h2, g2, iv_row _ _ _ h3, g1, iv_row _ _ _ h1]
  have r68 : ∀ i, i ≠ w → iv t7 68 i = iv τ 68 i := fun i hi => by
    rw [g7, iv_row _ _ _ (by decide), iv_row _ _ _ (by decide), iv_row _ _ _ (by decide), iv_row _ _ _ (by decide), g3, iv_row _ _ _ (by decide), g2, iv_si, if_neg (fun z => hi z.2), g1, iv_row _ _ _ (by decide)]
  have r63 : ∀ j, j ≠ 18 → j ≠ 12 → j ≠ 13 → j ≠ 16 → j ≠ 15 → iv t7 63 j = iv τ 63 j := fun j h1 h2 h3 h4 h5 => by
    rw [g7, iv_si, if_neg (fun z => h4 z.2), iv_si, if_neg (fun z => h3 z.2), iv_si, if_neg (fun z => h2 z.2), iv_si, if_neg (fun z => h1 z.2), g3, iv_row _ _ _ (by decide), g2, iv_row _ _ _ (by decide), g1, iv_si, if_neg (fun z => h5 z.2)]
  have n7 : nn t7 = nn τ := by rw [g7]; show nn t3 = _; rw [g3]; show nn t2 = _; rw [g2]; show nn t1 = _; rw [g1]; rfl
  have v7 : ∀ o, rv t7 o = rv τ o := fun o => by rw [g7]; show rv t3 o = _; rw [g3]; show rv t2 o = _; rw [g2]; show rv t1 o = _; rw [g1]; rfl
  have K7 : LM t7 b t w 0 0 [] := by
    refine ⟨⟨m7, ⟨by rw [r63 1 (by decide) (by decide) (by decide) (by decide) (by decide)]; exact mt.1, by rw [rm7 64 (by decide) (by decide) (by decide)]; exact mt.2⟩, ?_, 0, Nat.zero_le _, ?_, rfl⟩, ?_, ?_, ?_, fun i hi => absurd hi (Nat.not_lt_zero _)⟩
    · rw [g7, iv_si, if_neg (by decide), iv_si, if_pos ⟨rfl, rfl⟩]
    · rw [g7, iv_si, if_neg (by decide), iv_si, if_neg (by decide), iv_si, if_pos ⟨rfl, rfl⟩]; rfl
    · rw [g7, iv_si, if_neg (by decide), iv_si, if_neg (by decide), iv_si, if_neg (by decide), iv_si, if_neg (by decide), g3, iv_row _ _ _ (by decide)]; exact f15
    · rw [g7, iv_si, if_pos ⟨rfl, rfl⟩]; rfl
    · rw [g7, iv_row _ _ _ (by decide), iv_row _ _ _ (by decide), iv_row _ _ _ (by decide), iv_row _ _ _ (by decide), g3, iv_si, if_pos ⟨rfl, rfl⟩]; rfl
  have F18 : iv t7 63 18 = nI 0 := by
    rw [g7, iv_si, if_neg (by decide), iv_si, if_neg (by decide), iv_si, if_neg (by decide), iv_si, if_pos ⟨rfl, rfl⟩]; rfl
  have R7 : MR t7 w ([] : Cls) := by
    refine ⟨?_, fun k c hk => by cases hk⟩
    rw [g7, iv_row _ _ _ (by decide), iv_row _ _ _ (by decide), iv_row _ _ _ (by decide), iv_row _ _ _ (by decide), g3, iv_row _ _ _ (by decide), g2, iv_si, if_pos ⟨rfl, rfl⟩]; rfl
  obtain ⟨M, hM⟩ : ∃ M, N = M + 1 := ⟨N - 1, by omega⟩
  have CR : f_X3_reads N 8 (51 + 2 * w) s2 = f_X3_reads_27 N N 8 (51 + 2 * w) (nI 0) s5 := by
    unfold f_X3_reads f_X2_clear
    have c4 : WFc (si s2 83 1 0) := c2
    rw [k_8_1 c2, Option.bind_some, k_o83 c2, Option.bind_some, k_p83 c2, Option.bind_some, Option.bind_some, k_p8 c4, Option.bind_some, ← e5]
    rfl
  have MR' : f_X11_readsAll N 63 t2 = (f_X11_clauseHere N 63 t7).bind (fun q8 => f_X11_readsAll_35 N (M + 1) 63 q8.1 q8.2) := by
    unfold f_X11_readsAll
    rw [m_g4 m2, Option.bind_some, m_gI m2, Option.bind_some, f15, m_sI m2 (a := 66) (n := 7) (c := w) (by decide) rfl rfl (by omega) (by decide), Option.bind_some, ← g3, m_pI m3, Option.bind_some, m_pI (show WFm (si t3 63 18 0) from m3), Option.bind_some, m_pI (show WFm (si (si t3 63 18 0) 63 12 0) from m3), Option.bind_some, m_pI (show WFm (si (si (si t3 63 18 0) 63 12 0) 63 13 0) from m3), Option.bind_some, ← g7, m_ob m7, Option.bind_some, hM]
  -- what stays
  have old : ∀ {σ' τ' : Mm}, RS (lwL w) s5 σ' → LD w t7 τ' → ∀ v, v < w → RelL σ' τ' v := fun a1 a2 v hv => (l4 v hv).fr' hv (by
      rw [a1.2.2 _ (by simp; omega), iv5 _ (by omega) (by omega) (by omega), x2.2.2 _ (by simp; omega)]) (by
      rw [a1.2.2 _ (by simp; omega), iv5 _ (by omega) (by omega) (by omega), x2.2.2 _ (by simp; omega)]) (fun i hi => by rw [a2.2.2.2.2.2.1 i hi, rm7 65 (by decide) (by decide) (by decide)]) (fun i hi => by rw [a2.2.2.2.2.2.2.1 i hi, rm7 67 (by decide) (by decide) (by decide)]) (fun i hi => by rw [a2.2.2.2.2.2.2.2 i hi, r68 i (by omega)])
  have keepN : ∀ {σ' τ' : Mm}, RS (lwL w) s5 σ' → LD w t7 τ' → RelV σ' 9 m ∧ ∀ i, i < 156 → iv τ' 75 i = nI (m i) := fun a1 a2 => ⟨hr.cong (fun i hi => by rw [a1.2.2 _ (by simp; omega), iv5 _ (by omega) (by omega) (by omega), x2.2.2 _ (by simp; omega)]), fun i hi => by rw [a2.2.2.1 75 (by decide) (by decide) (by decide), rm7 75 (by decide) (by decide) (by decide)]; exact hs i hi⟩
  have keepI : ∀ {σ' τ' : Mm}, RS (lwL w) s5 σ' → LD w t7 τ' → InvI σ' τ' := fun a1 a2 => hI.fr (by rw [a1.1, nn5]) (fun o _ => by rw [a1.2.1, rv5 o]) (fun o ho => by rw [a1.2.2 o (by simp; omega), iv5 o (by omega) (by omega) (by omega), x2.2.2 o (by simp; omega)]) (by rw [a2.2.2.1 81 (by decide) (by decide) (by decide), rm7 81 (by decide) (by decide) (by decide)]) (by rw [a2.2.2.1 82 (by decide) (by decide) (by decide), rm7 82 (by decide) (by decide) (by decide)])
  have i11 : ∀ {σ' : Mm}, RS (lwL w) s5 σ' → iv σ' 1 1 = 0 := fun a1 => by
    rw [a1.2.2 1 (by simp; omega), e5, iv_row _ _ _ (by decide), iv_row _ _ _ (by omega), e2, iv_si, if_pos ⟨rfl, rfl⟩]
  have l08 : ∀ {σ' : Mm}, RS (lwL w) s5 σ' → iv σ' 0 8 = nI w := fun a1 => by
    rw [a1.2.2 0 (by simp; omega), iv5 0 (by decide) (by decide) (by omega), x2.2.2 0 (by decide)]; exact l2
  have l63 : ∀ {τ' : Mm}, LD w t7 τ' → iv τ' 63 2 = nI w := fun a2 => by rw [a2.2.2.2.2.1, r63 2 (by decide) (by decide) (by decide) (by decide) (by decide)]; exact l3
  rw [k_0_1 hc, Option.bind_some, k_0_0 hc, Option.bind_some, k_o3 hc, Option.bind_some, x1, Option.bind_some, k_0_0 c1, Option.bind_some, k_p1 c1, Option.bind_some, ← e2, k_0_3 c2, Option.bind_some, k_0_7 c2, Option.bind_some, k_i0 c2, Option.bind_some, i08, k_law c2 hw6, Option.bind_some, k_o8 c2, Option.bind_some, CR]
  rw [Option.bind_some, m_pI hm, Option.bind_some, ← g1, m_g6 m1, Option.bind_some, m_gI m1, Option.bind_some, show iv t1 63 15 = nI w by rw [g1, iv_si, if_pos ⟨rfl, rfl⟩], m_sI m1 (a := 68) (n := 6) (c := w) (by decide) rfl rfl hw6 (by decide), Option.bind_some, ← g2, m_ob m2, Option.bind_some, MR']
  rcases lloop (N := N) hN tp hw6 12 N M [] s5 t7 0 0 (by rfl) (by omega) (by omega) (fun c hc => absurd hc (by simp)) K5 K7 R7 F18 (by decide) (by decide) (by decide) (by decide) with ⟨σ', τ', F, i1, i2, i3, i4, i5, i6⟩ | ⟨σ', τ', i1, i2, i3, i4, i5⟩
  · have c9 := i3.wc c5
    have m9 : WFm τ' := m7.rvc i4.1 i4.2.1
    refine ⟨-2 - F, σ', τ', ?_, ?_, by rw [i3.1, nn5], by rw [i4.1, n7], c9, m9, by rw [i3.1, nn5, i4.1, n7]; exact hnn, InvT.nil (i11 i3) i4.2.2.2.1, ⟨w, l1, l08 i3, l63 i4, old i3 i4⟩, ⟨m, hw, keepN i3 i4⟩, keepI i3 i4⟩
    · rw [show f_X3_reads_27 N N 8 (51 + 2 * w) (nI 0) s5 = _ from i1, Option.bind_some, if_pos rfl, k_0_1 c9, Option.bind_some, k_i3 c9, Option.bind_some, i5]
    · rw [i2, Option.bind_some, if_pos rfl, m_gI m9, Option.bind_some, i6]
  · have c9 := i3.wc c5
    have m9 : WFm τ' := m7.rvc i4.1 i4.2.1
    obtain ⟨sA, eA⟩ : ∃ s, s = si σ' 0 8 (nI (w + 1)) := ⟨_, rfl⟩
    obtain ⟨tA, fA⟩ : ∃ s, s = si τ' 63 2 (nI (w + 1)) := ⟨_, rfl⟩
    have cA : WFc sA := by rw [eA]; exact c9
    have mA : WFm tA := by rw [fA]; exact m9
    have iA : ∀ o, o ≠ 0 → iv sA o = iv σ' o := fun o ho => by rw [eA, iv_row _ _ _ ho]
    have jA : ∀ o, o ≠ 63 → iv tA o = iv τ' o := fun o ho => by rw [fA, iv_row _ _ _ ho]
    refine ⟨nI w, sA, tA, ?_, ?_, by rw [eA]; show nn σ' = _; rw [i3.1, nn5], by rw [fA]; show nn τ' = _; rw [i4.1, n7], cA, mA, by rw [eA, fA]; show nn σ' = nn τ'; rw [i3.1, nn5, i4.1, n7]; exact hnn, ?_, ?_, ⟨m, hw, ?_, ?_⟩, ?_⟩
    · rw [show f_X3_reads_27 N N 8 (51 + 2 * w) (nI 0) s5 = _ from i1, Option.bind_some, if_neg z1, k_i0 c9, Option.bind_some, l08 i3, nI_1, k_p0 c9, Option.bind_some, ← eA, k_i0 cA, Option.bind_some, show iv sA 0 8 = nI (w + 1) by rw [eA, iv_si, if_pos ⟨rfl, rfl⟩], show (1 : Int32) = nI 1 from rfl, pk_sub (by omega), show w + 1 - 1 = w by omega]
    · rw [i2, Option.bind_some, if_neg z1, m_gI m9, Option.bind_some, l63 i4, nI_1, m_pI m9, Option.bind_some, ← fA, m_gI mA, Option.bind_some, show iv tA 63 2 = nI (w + 1) by rw [fA, iv_si, if_pos ⟨rfl, rfl⟩], show (1 : Int32) = nI 1 from rfl, pk_sub (by omega), show w + 1 - 1 = w by omega]
    · exact InvT.nil (by rw [iA 1 (by decide)]; exact i11 i3) (by rw [fA, iv_si, if_neg (by decide)]; exact i4.2.2.2.1)
    · refine ⟨w + 1, by omega, by rw [eA, iv_si, if_pos ⟨rfl, rfl⟩], by rw [fA, iv_si, if_pos ⟨rfl, rfl⟩], fun v hv => ?_⟩
      have base : RelL σ' τ' v := by
        by_cases y : v = w
        · rw [y]; exact i5
        · exact old i3 i4 v (by omega)
      exact base.cong (iA _ (by omega)) (iA _ (by omega)) (jA _ (by decide)) (jA _ (by decide)) (jA _ (by decide))
    · exact (keepN i3 i4).1.cong (fun i hi => iA _ (by omega))
    · intro i hi
      rw [jA 75 (by decide)]; exact (keepN i3 i4).2 i hi
    · exact (keepI i3 i4).fr (by rw [eA]; rfl) (fun o _ => by rw [eA]; rfl) (fun o ho => iA o (by omega)) (jA 81 (by decide)) (jA 82 (by decide))
end SLw
