section SV2
variable {N : Nat}
theorem GD.wm {τ τ' : Mm} (h : GD τ τ') (hm : WFm τ) : WFm τ' := hm.rvc h.1 h.2.1
theorem st_valley (hN : 500 ≤ N) : StepI Inv (f_X10_valley N 0) (f_X11_valley N 63) := by
  refine step_n fun σ τ hi => ?_
  obtain ⟨hc, hm, hnn, hT, hL, ⟨m, hw, hr, hs⟩, hI⟩ := hi
  obtain ⟨b, t, tp, ct, mt⟩ := hT.mk
  obtain ⟨n, s1, x1, x2, x3, x4⟩ := e_cut (N := N) hN tp hc ct
  have c1 := x2.wc hc
  -- the class
  obtain ⟨s2, e2⟩ : ∃ s, s = si s1 1 1 0 := ⟨_, rfl⟩
  have c2 : WFc s2 := by rw [e2]; exact c1
  obtain ⟨s3, e3⟩ : ∃ s, s = si (si (si s2 20 0 0) 20 8 0) 20 11 0 := ⟨_, rfl⟩
  have c3 : WFc s3 := by rw [e3]; exact c2
  obtain ⟨s4, y1, y2, y3⟩ := clr17 (N := N) 32 0 N s3 (by omega) (by omega) c3 (fun x hx => absurd hx (Nat.not_lt_zero _))
  have c4 := y2.wc c3
  have r14 : ∀ o, o ≠ 1 → ¬ (20 ≤ o ∧ o ≤ 30) → iv s4 o = iv s1 o := fun o h1 h2 => by
    rw [y2.2.2 o (by omega), e3, iv_row _ _ _ (by omega), iv_row _ _ _ (by omega), iv_row _ _ _ (by omega), e2, iv_row _ _ _ h1]
  have K4 : RDc s4 b t n 0 := ⟨c4, x3.cong (by rw [r14 3 (by decide) (by decide)]) (r14 4 (by decide) (by decide)) (r14 5 (by decide) (by decide)) (r14 6 (by decide) (by decide)), by rw [r14 3 (by decide) (by decide)]; exact x4, Nat.zero_le _⟩
  have z20 : iv s4 20 0 = 0 ∧ iv s4 20 8 = 0 ∧ iv s4 20 11 = 0 := by
    rw [y2.2.2 20 (by decide), e3]
    refine ⟨?_, ?_, ?_⟩
    · rw [iv_si, if_neg (by decide), iv_si, if_neg (by decide), iv_si, if_pos ⟨rfl, rfl⟩]
    · rw [iv_si, if_neg (by decide), iv_si, if_pos ⟨rfl, rfl⟩]
    · rw [iv_si, if_pos ⟨rfl, rfl⟩]
  -- the model
  obtain ⟨t1, g1⟩ : ∃ s, s = si (si (si τ 63 15 6) 63 7 0) 63 8 0 := ⟨_, rfl⟩
  have m1 : WFm t1 := by rw [g1]; exact hm
  obtain ⟨t2, u1, u2, u3⟩ := v18 (N := N) 32 0 N t1 (by omega) (by omega) m1 (fun x hx => absurd hx (Nat.not_lt_zero _))
  have m2 := u2.wm m1
  obtain ⟨t3, g3⟩ : ∃ s, s = si t2 66 6 0 := ⟨_, rfl⟩
  have m3 : WFm t3 := by rw [g3]; exact m2
  obtain ⟨t7, g7⟩ : ∃ s, s = si (si (si (si t3 63 18 0) 63 12 0) 63 13 0) 63 16 0 := ⟨_, rfl⟩
  have m7 : WFm t7 := by rw [g7]; exact m3
  have f15 : iv t2 63 15 = nI 6 := by
    rw [u2.2.2 63 (by decide), g1, iv_si, if_neg (by decide), iv_si, if_neg (by decide), iv_si, if_pos ⟨rfl, rfl⟩]; rfl
  have rm7 : ∀ o, o ≠ 63 → o ≠ 66 → o ≠ 71 → iv t7 o = iv τ o := fun o h1 h2 h3 => by
    rw [g7, iv_row _ _ _ h1, iv_row _ _ _ h1, iv_row _ _ _ h1, iv_row _ _ _ h1, g3, iv_row _ _ _ h2, u2.2.2 o h3, g1, iv_row _ _ _ h1, iv_row _ _ _ h1, iv_row _ _ _ h1]
  have r63 : ∀ j, j ≠ 18 → j ≠ 12 → j ≠ 13 → j ≠ 16 → j ≠ 15 → j ≠ 7 → j ≠ 8 → iv t7 63 j = iv τ 63 j := fun j h1 h2 h3 h4 h5 h6 h7 => by
    rw [g7, iv_si, if_neg (fun z => h4 z.2), iv_si, if_neg (fun z => h3 z.2), iv_si, if_neg (fun z => h2 z.2), iv_si, if_neg (fun z => h1 z.2), g3, iv_row _ _ _ (by decide), u2.2.2 63 (by decide), g1, iv_si, if_neg (fun z => h7 z.2), iv_si, if_neg (fun z => h6 z.2), iv_si, if_neg (fun z => h5 z.2)]
  have n7 : nn t7 = nn τ := by rw [g7]; show nn t3 = _; rw [g3]; show nn t2 = _; rw [u2.1, g1]; rfl
  have v7 : ∀ o, rv t7 o = rv τ o := fun o => by rw [g7]; show rv t3 o = _; rw [g3]; show rv t2 o = _; rw [u2.2.1, g1]; rfl
  have K7 : RDm t7 b t 0 := by
    refine ⟨m7, ⟨by rw [r63 1 (by decide) (by decide) (by decide) (by decide) (by decide) (by decide) (by decide)]; exact mt.1, by rw [rm7 64 (by decide) (by decide) (by decide)]; exact mt.2⟩, ?_, 0, Nat.zero_le _, ?_, rfl⟩
    · rw [g7, iv_si, if_neg (by decide), iv_si, if_pos ⟨rfl, rfl⟩]
    · rw [g7, iv_si, if_neg (by decide), iv_si, if_neg (by decide), iv_si, if_pos ⟨rfl, rfl⟩]; rfl
  have F15 : iv t7 63 15 = nI 6 := by
    rw [g7, iv_si, if_neg (by decide), iv_si, if_neg (by decide), iv_si, if_neg (by decide), iv_si, if_neg (by decide), g3, iv_row _ _ _ (by decide)]; exact f15
  have F18 : iv t7 63 18 = nI 0 := by
    rw [g7, iv_si, if_neg (by decide), iv_si, if_neg (by decide), iv_si, if_neg (by decide), iv_si, if_pos ⟨rfl, rfl⟩]; rfl
  have F7 : ∀ j, j = 7 ∨ j = 8 → iv t7 63 j = 0 := fun j hj => by
    rw [g7, iv_si, if_neg (by omega), iv_si, if_neg (by omega), iv_si, if_neg (by omega), iv_si, if_neg (by omega), g3, iv_row _ _ _ (by decide), u2.2.2 63 (by decide), g1, iv_si]
    rcases hj with rfl | rfl
    · rw [if_neg (by decide), iv_si, if_pos ⟨rfl, rfl⟩]
    · rw [if_pos ⟨rfl, rfl⟩]
  have D0 : DR s4 t7 0 0 := by
    refine ⟨by decide, by decide, z20.1, z20.2.1, z20.2.2, F7 7 (Or.inl rfl), F7 8 (Or.inr rfl), fun c k h => absurd h (Nat.not_lt_zero _), fun c k h => absurd h (Nat.not_lt_zero _), fun j hj => ?_⟩
    have a1 : iv t7 71 j = 0 := by rw [g7, iv_row _ _ _ (by decide), iv_row _ _ _ (by decide), iv_row _ _ _ (by decide), iv_row _ _ _ (by decide), g3, iv_row _ _ _ (by decide)]; exact u3 j hj
    rw [a1, y3 j hj]
    exact ⟨rfl, 0, by decide, rfl⟩
  obtain ⟨M, hM⟩ : ∃ M, N = M + 1 := ⟨N - 1, by omega⟩
  have CR : f_X8_reads N 7 20 s2 = f_X8_reads_6 N N 7 20 (nI 0) s4 := by
    unfold f_X8_reads f_X7_clear
    rw [v_o c2.2.2.2, Option.bind_some, v_p c2.2.2.2, Option.bind_some, v_p (show VW (si s2 20 0 0) 20 from c2.2.2.2), Option.bind_some, v_p (show VW (si (si s2 20 0 0) 20 8 0) 20 from c2.2.2.2), Option.bind_some, ← e3, show (0 : Int32) = nI 0 from rfl, y1, Option.bind_some]
  have MR : f_X11_readsAll N 63 t2 = (f_X11_clauseHere N 63 t7).bind (fun q8 => f_X11_readsAll_35 N (M + 1) 63 q8.1 q8.2) := by
    unfold f_X11_readsAll
    rw [m_g4 m2, Option.bind_some, m_gI m2, Option.bind_some, f15, m_sI m2 (a := 66) (n := 7) (c := 6) (by decide) rfl rfl (by decide) (by decide), Option.bind_some, ← g3, m_pI m3, Option.bind_some, m_pI (show WFm (si t3 63 18 0) from m3), Option.bind_some, m_pI (show WFm (si (si t3 63 18 0) 63 12 0) from m3), Option.bind_some, m_pI (show WFm (si (si (si t3 63 18 0) 63 12 0) 63 13 0) from m3), Option.bind_some, ← g7, m_ob m7, Option.bind_some, hM]
  -- what stays, whatever is told
  have keepL : ∀ {σ' τ' : Mm}, (∀ o, 51 ≤ o → o ≤ 62 → iv σ' o = iv s4 o) → iv σ' 0 8 = iv s4 0 8 → (∀ o, o = 65 ∨ o = 67 ∨ o = 68 → iv τ' o = iv t7 o) → iv τ' 63 2 = iv t7 63 2 → InvL σ' τ' := fun a1 a2 a3 a4 => hL.fr (by rw [a2, r14 0 (by decide) (by decide), x2.2.2 0 (by decide)]) (fun o o1 o2 => by rw [a1 o o1 o2, r14 o (by omega) (by omega), x2.2.2 o (by simp; omega)]) (by rw [a4, r63 2 (by decide) (by decide) (by decide) (by decide) (by decide) (by decide) (by decide)]) (by rw [a3 65 (by decide), rm7 65 (by decide) (by decide) (by decide)]) (by rw [a3 67 (by decide), rm7 67 (by decide) (by decide) (by decide)]) (by rw [a3 68 (by decide), rm7 68 (by decide) (by decide) (by decide)])
  have n4 : nn s4 = nn σ := by rw [y2.1, e3]; show nn s2 = _; rw [e2]; exact x2.1
  have v4 : ∀ o, rv s4 o = rv σ o := fun o => by rw [y2.2.1, e3]; show rv s2 o = _; rw [e2]; exact x2.2.1 o
  have keepI : ∀ {σ' τ' : Mm}, nn σ' = nn s4 → (∀ o, rv σ' o = rv s4 o) → (∀ o, 85 ≤ o → iv σ' o = iv s4 o) → iv τ' 81 = iv t7 81 → iv τ' 82 = iv t7 82 → InvI σ' τ' := fun a1 a2 a3 a4 a5 => hI.fr (by rw [a1, n4]) (fun o _ => by rw [a2, v4]) (fun o ho => by rw [a3 o ho, r14 o (by omega) (by omega), x2.2.2 o (by simp; omega)]) (by rw [a4, rm7 81 (by decide) (by decide) (by decide)]) (by rw [a5, rm7 82 (by decide) (by decide) (by decide)])
  have i11 : iv s4 1 1 = 0 := by rw [y2.2.2 1 (by decide), e3, iv_row _ _ _ (by decide), iv_row _ _ _ (by decide), iv_row _ _ _ (by decide), e2, iv_si, if_pos ⟨rfl, rfl⟩]
  have r9 : RelV s4 9 m := hr.cong (fun i hi => by rw [r14 _ (by omega) (by omega), x2.2.2 _ (by simp; omega)])
  unfold f_X10_valley f_X11_valley
  rw [k_0_1 hc, Option.bind_some, k_0_0 hc, Option.bind_some, k_o3 hc, Option.bind_some, x1, Option.bind_some, k_0_0 c1, Option.bind_some, k_p1 c1, Option.bind_some, ← e2, k_0_2 c2, Option.bind_some, k_0_5 c2, Option.bind_some, k_o7 c2, Option.bind_some, CR]
  rw [m_pI hm, Option.bind_some, m_pI (show WFm (si τ 63 15 6) from hm), Option.bind_some, m_pI (show WFm (si (si τ 63 15 6) 63 7 0) from hm), Option.bind_some, ← g1, show f_X11_valley_18 N N 63 (0 : Int32) t1 = _ from u1, MR]
  rcases vloop (N := N) hN tp 40 0 N M s4 t7 0 0 0 (by omega) (by omega) (by omega) K4 K7 D0 F15 F18 with ⟨σ', τ', F, i1, i2, i3, i4, i5, i6⟩ | ⟨σ', τ', nc, nt, i1, i2, i3, i4, i5, i5', i6, i7⟩
  · have c5 := i3.wc c4
    have m5 := i4.wm m7
    have nE : nn σ' = nn τ' := by rw [i3.1, n4, i4.1, n7]; exact hnn
    refine ⟨-2 - F, σ', τ', ?_, ?_, by rw [i3.1, n4], by rw [i4.1, n7], c5, m5, nE, ?_, ?_, ⟨m, hw, ?_, ?_⟩, ?_⟩
    · rw [i1, Option.bind_some, if_pos rfl, k_0_1 c5, Option.bind_some, k_i3 c5, Option.bind_some, i5]
    · rw [i2, Option.bind_some, if_pos rfl, m_gI m5, Option.bind_some, i6]
    · exact InvT.nil (by rw [i3.2.2 1 (by decide)]; exact i11) i4.2.2.2.1
    · exact keepL (fun o o1 o2 => i3.2.2 o (by simp; omega)) (by rw [i3.2.2 0 (by decide)]) (fun o ho => i4.2.2.1 o (by omega) (by omega)) (i4.2.2.2.2 2 (by decide))
    · exact r9.cong (fun i hi => i3.2.2 _ (by simp; omega))
    · intro i hi
      rw [i4.2.2.1 75 (by decide) (by decide), rm7 75 (by decide) (by decide) (by decide)]; exact hs i hi
    · exact keepI i3.1 i3.2.1 (fun o ho => i3.2.2 o (by simp; omega)) (i4.2.2.1 81 (by decide) (by decide)) (i4.2.2.1 82 (by decide) (by decide))
  · -- it is taken over
    have nc12 := i7.1
    have nt12 := i7.2.1
    have h75 : ∀ i, i < 156 → iv τ' 75 i = nI (m i) := fun i hi => by
      rw [i4.2.2.1 75 (by decide) (by decide), rm7 75 (by decide) (by decide) (by decide)]; exact hs i hi
    have h13 : iv σ' 9 13 = nI (m 2) := by rw [i3.2.2 9 (by decide)]; exact r9.2.2.1
    obtain ⟨w1, j1⟩ : ∃ s, s = si (si τ' 75 0 (nI nc)) 75 1 (nI nt) := ⟨_, rfl⟩
    have mw1 : WFm w1 := by rw [j1]; exact i5'
    have rw1 : RO 75 τ' w1 := by rw [j1]; exact (RO.si 75 _ _ _).tr (RO.si 75 _ _ _)
    obtain ⟨w2, a1, a2, a3⟩ := v74 (N := N) hN nc12 nc 0 N w1 (by omega) (by omega) mw1 (by rw [rw1.2.2 63 (by decide)]; exact i7.2.2.2.2.2.1)
    have rw2 := rw1.tr a2
    obtain ⟨w3, b1, b2, b3⟩ := v153 (N := N) hN nt12 nt 0 N w2 (by omega) (by omega) (a2.wm mw1) (by rw [rw2.2.2 63 (by decide)]; exact i7.2.2.2.2.2.2.1)
    have rw3 := rw2.tr b2
    obtain ⟨w4, d1, d2, d3⟩ := v219 (N := N) 32 0 N w3 (by omega) (by omega) (rw3.wm i5')
    have rw4 := rw3.tr d2
    obtain ⟨m', ws', e0, R', S'⟩ := taken (u4 := w4) hw h75 h13 i7 (fun x => by
      rw [d3 x, rw3.2.2 71 (by decide), b3 x, rw2.2.2 70 (by decide), a3 x, rw1.2.2 69 (by decide), j1, iv_si, iv_si]
      simp only [Nat.mul_zero, Nat.add_zero, true_and])
    obtain ⟨s5, k1⟩ : ∃ s, s = cpy σ' 26 0 27 0 12 := ⟨_, rfl⟩
    have r5 : RO 27 σ' s5 := by rw [k1]; exact RO.cpy _ _ _ _
    have c5 := r5.wc i5
    obtain ⟨s6, k2⟩ : ∃ s, s = si s5 20 13 (nI (m 2)) := ⟨_, rfl⟩
    have c6 : WFc s6 := by rw [k2]; exact c5
    have R6 : RelV s6 20 m' := by rw [k2, k1]; exact R'
    obtain ⟨s7, f1, f2, f3, f4, f5⟩ := e_become (N := N) c6.2.2.1 c6.2.2.2 (Or.inl (by decide))
    have R7 := f5 m' ws' R6
    have c7 : WFc s7 := c6.rvc f2 f3
    have fr7 : ∀ o, ¬ (9 ≤ o ∧ o ≤ 30) → iv s7 o = iv σ' o := fun o ho => by
      rw [f4 o (by omega), k2, iv_row _ _ _ (by omega), r5.2.2 o (by omega)]
    have n7' : nn s7 = nn s4 := by rw [f2, k2]; show nn s5 = _; rw [r5.1, i3.1]
    have v7' : ∀ o, rv s7 o = rv s4 o := fun o => by rw [f3, k2]; show rv s5 o = _; rw [r5.2.1, i3.2.1]
    have m4' := rw4.wm i5'
    refine ⟨nI nc, s7, w4, ?_, ?_, by rw [n7', n4], by rw [rw4.1, i4.1, n7], c7, m4', by rw [n7', n4, rw4.1, i4.1, n7]; exact hnn, ?_, ?_, ⟨m', ws', R7, S'⟩, ?_⟩
    · rw [i1, Option.bind_some, if_neg z1, k_0_5 i5, Option.bind_some, v_o i5.2.2.2, Option.bind_some]
      unfold f_X7_keepMorning
      have cp : cpA 13 σ' (20 + 6) 0 (20 + 7) 0 12 = some s5 := by
        rw [k1]
        unfold cpA
        rw [show SH (20 + 6) = (13, 12) from rfl, show SH (20 + 7) = (13, 12) from rfl, if_pos ⟨⟨⟨pp_lt (by have := i5.1; omega) i5.1, rfl⟩, pp_lt (by have := i5.1; omega) i5.1, rfl⟩, ⟨by decide, by decide, by decide⟩, by decide, by decide⟩]
        rfl
      rw [v_g6 i5.2.2.2, Option.bind_some, v_g7 i5.2.2.2, Option.bind_some, cp, Option.bind_some, Option.bind_some, k_0_5 c5, Option.bind_some, k_0_4 c5, Option.bind_some, v_i c5.2.2.1, Option.bind_some, r5.2.2 9 (by decide), h13, v_p c5.2.2.2, Option.bind_some, ← k2, k_0_4 c6, Option.bind_some, k_0_5 c6, Option.bind_some, v_o c6.2.2.1, Option.bind_some, f1, Option.bind_some, k_0_4 c7, Option.bind_some, v_i c7.2.2.1, Option.bind_some, R7.1, e0]
    · rw [i2, Option.bind_some, if_neg z1, m_g24 i5', Option.bind_some, m_gI i5', Option.bind_some, i7.2.2.2.2.2.1, m_sI i5' (a := 75) (n := 156) (i := 0) (c := 0) (by decide) rfl rfl (by decide) (by decide), Option.bind_some, m_g24 (show WFm (si τ' 75 0 (nI nc)) from i5'), Option.bind_some, m_gI (show WFm (si τ' 75 0 (nI nc)) from i5'), Option.bind_some, iv_row _ _ _ (show 63 ≠ 75 by decide), i7.2.2.2.2.2.2.1, m_sI (show WFm (si τ' 75 0 (nI nc)) from i5') (a := 75) (n := 156) (i := 1) (c := 1) (by decide) rfl rfl (by decide) (by decide), Option.bind_some, ← j1, show f_X11_valley_74 N N 63 (0 : Int32) w1 = _ from a1, show f_X11_valley_153 N N 63 (0 : Int32) w2 = _ from b1, show f_X11_valley_219 N N 63 (0 : Int32) w3 = _ from d1, rw3.2.2 63 (by decide), i7.2.2.2.2.2.1]
    · exact InvT.nil (by rw [fr7 1 (by decide), i3.2.2 1 (by decide)]; exact i11) (by rw [rw4.2.2 63 (by decide)]; exact i4.2.2.2.1)
    · exact keepL (fun o o1 o2 => by rw [fr7 o (by omega)]; exact i3.2.2 o (by simp; omega)) (by rw [fr7 0 (by decide), i3.2.2 0 (by decide)]) (fun o ho => by rw [rw4.2.2 o (by omega)]; exact i4.2.2.1 o (by omega) (by omega)) (by rw [rw4.2.2 63 (by decide)]; exact i4.2.2.2.2 2 (by decide))
    · exact keepI n7' v7' (fun o ho => by rw [fr7 o (by omega)]; exact i3.2.2 o (by simp; omega)) (by rw [rw4.2.2 81 (by decide)]; exact i4.2.2.1 81 (by decide) (by decide)) (by rw [rw4.2.2 82 (by decide)]; exact i4.2.2.1 82 (by decide) (by decide))
end SV2
