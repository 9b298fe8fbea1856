/-! clauses of a VALLEY -/
section VC2
variable {N : Nat} {b : Nat → Nat} {t n : Nat}
def TS (σ τ : Mm) (nc nt j : Nat) : Prop := DR σ τ nc nt ∧ ∀ i, i < j → iv σ (20 + (8 + i)) nt = iv τ 70 (2 * nt + i) ∧ BD (iv τ 70 (2 * nt + i)) 9
theorem tstep (hN : 500 ≤ N) (hb : TP b t) {σ τ : Mm} {k nc nt j fu : Nat} (hj : j < 2) (hnt : nt < 12) (hc : RDc σ b t n k) (hm : RDm τ b t k) (hS : TS σ τ nc nt j) : FV vL σ τ (f_X8_readsInto N 7 (20 + (8 + j)) (nI nt) (nI 9) σ) (f_X11_isTreeHere_22 N (fu + 1) 63 (nI j) τ) ∨ ∃ σ' τ', f_X8_readsInto N 7 (20 + (8 + j)) (nI nt) (nI 9) σ = some (1, σ') ∧ f_X11_isTreeHere_22 N (fu + 1) 63 (nI j) τ = f_X11_isTreeHere_22 N fu 63 (nI (j + 1)) τ' ∧ RS vL σ σ' ∧ GF τ τ' ∧ iv τ' 63 18 = iv τ 63 18 ∧ RDc σ' b t n (k + 1) ∧ RDm τ' b t (k + 1) ∧ TS σ' τ' nc nt (j + 1) := by
  have d20 : VW σ 20 := hc.1.2.2.2
  unfold f_X8_readsInto f_X8_readsInto_27
  rw [k_o7 hc.1, Option.bind_some, f_X11_isTreeHere_22, if_neg (by rw [show (2 : Int32) = nI 2 from rfl]; exact nI_ge hj (by decide)), m_ob hm.1, Option.bind_some]
  rcases rdN hN hb hc hm (show 9 ≤ 99 by decide) with ⟨σ', τ', F, g1, g2, g3, g4, g5, g6, g7⟩ | ⟨v, σ', τ', g0, g1, g2, g3, g4, g5, g6, g7, g8⟩
  · left
    refine ⟨σ', τ', F, ?_, ?_, g3.mono (by decide), g4.gf (by decide), g5, g6, g7⟩
    · rw [g1, Option.bind_some, if_pos rfl]
    · rw [show f_X11_numberHere N 63 (0 : Int32) (9 : Int32) τ = some (0, τ') from g2, Option.bind_some, if_pos rfl]
  · right
    have c1 := g7.1
    have d21 : VW σ' 20 := c1.2.2.2
    have m1 := g8.1
    obtain ⟨s1, e1⟩ : ∃ s, s = si σ' (20 + (8 + j)) nt (nI v) := ⟨_, rfl⟩
    obtain ⟨t1, e2⟩ : ∃ s, s = si τ' 70 (2 * nt + j) (nI v) := ⟨_, rfl⟩
    have i7 : iv τ' 63 8 = nI nt := by rw [g4.2.2.2 8 (by decide)]; exact hS.1.2.2.2.2.2.2.1
    refine ⟨s1, t1, ?_, ?_, ?_, ?_, ?_, ?_, ?_, ?_⟩
    · rw [g1, Option.bind_some, if_neg z1, if_neg (nI_pos (by omega)), show ln 0 (1, σ').2 (20 + (8 + j)) = some (nI 12) from by
        show ln 0 σ' (20 + (8 + j)) = some (nI 12)
        exact k_ln c1 (by omega) (d21.sh.2.1 (8 + j) (by omega) (by omega)), Option.bind_some, if_neg (nI_ge hnt (by decide)), k_i7 c1, Option.bind_some, g5, v_s d21 rfl (by omega) (by omega) hnt, Option.bind_some, ← e1]
    · rw [show f_X11_numberHere N 63 (0 : Int32) (9 : Int32) τ = some (1, τ') from g2, Option.bind_some, if_neg z1, m_g10 m1, Option.bind_some, m_gI m1, Option.bind_some, i7, m_gI m1, Option.bind_some, g6, show (2 : Int32) = nI 2 from rfl, pk_mul, nI_add, m_sI m1 (a := 70) (n := 24) (c := 2 * nt + j) (by decide) rfl rfl (by omega) (by decide), Option.bind_some, ← e2, nI_1]
    · rw [e1]
      exact (g3.mono (by decide)).tr ((RO.si _ _ _ _).rs (by
        have : ∀ j, j < 2 → 20 + (8 + j) ∈ vL := by decide
        exact this j hj))
    · rw [e2]; exact (g4.gf (by decide)).tr (GF.row (by decide))
    · rw [e2, iv_row _ _ _ (by decide), g4.2.2.2 18 (by decide)]
    · rw [e1]; exact g7.fr (l := [20 + (8 + j)]) ((RO.si _ _ _ _).rs (by simp)) (by intro x hx; have := List.mem_singleton.1 hx; omega)
    · rw [e2]; exact g8.row (by decide)
    · have hD : DR σ' τ' nc nt := hS.1.fr (fun o o1 o2 => g3.2.2 o (by simp; omega)) (g4.2.2.1 69 (by decide)) (g4.2.2.1 70 (by decide)) (g4.2.2.1 71 (by decide)) (g4.2.2.2 7 (by decide)) (g4.2.2.2 8 (by decide))
      obtain ⟨q1, q2, q3, q4, q5, q6, q7, q8, q9, q10⟩ := hD
      refine ⟨⟨q1, q2, ?_, ?_, ?_, ?_, ?_, fun c x hcx hx => ?_, fun u x hu hx => ?_, fun x hx => ?_⟩, fun i hi => ?_⟩
      · rw [e1, iv_row _ _ _ (by omega)]; exact q3
      · rw [e1, iv_row _ _ _ (by omega)]; exact q4
      · rw [e1, iv_row _ _ _ (by omega)]; exact q5
      · rw [e2, iv_row _ _ _ (by decide)]; exact q6
      · rw [e2, iv_row _ _ _ (by decide)]; exact q7
      · rw [e1, e2, iv_row _ _ _ (by omega), iv_row _ _ _ (by decide)]; exact q8 c x hcx hx
      · rw [e1, e2, iv_si, if_neg (by omega), iv_si, if_neg (by omega)]; exact q9 u x hu hx
      · rw [e1, e2, iv_row _ _ _ (by omega), iv_row _ _ _ (by decide)]; exact q10 x hx
      · rw [e1, e2, iv_si, iv_si]
        by_cases y : i = j
        · rw [if_pos ⟨by omega, rfl⟩, if_pos ⟨rfl, by omega⟩]; exact ⟨rfl, v, g0, rfl⟩
        · rw [if_neg (by omega), if_neg (by omega), g3.2.2 _ (by
            have : ∀ i, i < 2 → 20 + (8 + i) ∉ [3, 7] := by decide
            exact this i (by omega)), g4.2.2.1 70 (by decide)]
          exact hS.2 i (by omega)
theorem treeB (hN : 500 ≤ N) (hb : TP b t) {σ τ : Mm} {k nc nt : Nat} (hnt : nt < 12) (hc : RDc σ b t n k) (hm : RDm τ b t k) (hD : DR σ τ nc nt) : FV vL σ τ (f_X8_readsTree N 7 20 σ) (f_X11_isTreeHere_22 N N 63 (0 : Int32) τ) ∨ OKV vL b t n k σ τ (f_X8_readsTree N 7 20 σ) (f_X11_isTreeHere_22 N N 63 (0 : Int32) τ) := by
  obtain ⟨M, rfl⟩ : ∃ M, N = M + 3 := ⟨N - 3, by omega⟩
  obtain ⟨N, hNN⟩ : ∃ N, N = M + 3 := ⟨_, rfl⟩
  rw [← hNN] at hN ⊢
  unfold f_X8_readsTree f_X8_readsTree_34
  have d0 : VW σ 20 := hc.1.2.2.2
  rw [v_g9 d0, Option.bind_some, v_i d0, Option.bind_some, hD.2.2.2.1, k_o7 hc.1, Option.bind_some]
  have e0 : f_X11_isTreeHere_22 N N 63 (0 : Int32) τ = f_X11_isTreeHere_22 N (M + 2 + 1) 63 (nI 0) τ := by rw [hNN]; rfl
  rw [e0]
  rcases tstep hN hb (j := 0) (fu := M + 2) (by decide) hnt hc hm ⟨hD, fun i hi => absurd hi (Nat.not_lt_zero _)⟩ with hF | ⟨s1, t1, a1, a2, a3, a4, a5, a6, a7, a8⟩
  · left
    obtain ⟨σ', τ', F, h1, h2, h3⟩ := hF
    exact ⟨σ', τ', F, by rw [show f_X8_readsInto N 7 (20 + 8) (nI nt) 9 σ = some (0, σ') from h1, Option.bind_some, if_pos rfl], h2, h3⟩
  rw [show f_X8_readsInto N 7 (20 + 8) (nI nt) 9 σ = some (1, s1) from a1, Option.bind_some, if_neg z1, a2, v_g10 a6.1.2.2.2, Option.bind_some, v_i a6.1.2.2.2, Option.bind_some, a8.1.2.2.2.1, k_o7 a6.1, Option.bind_some]
  rcases tstep hN hb (j := 1) (fu := M + 1) (by decide) hnt a6 a7 a8 with hF | ⟨s2, t2, b1, b2, b3, b4, b5, b6, b7, b8⟩
  · left
    obtain ⟨σ', τ', F, h1, h2, h3⟩ := hF
    exact FV.pre ⟨σ', τ', F, rfl, h2, h3⟩ a3 a4 (by rw [show f_X8_readsInto N 7 (20 + 9) (nI nt) 9 s1 = some (0, σ') from h1, Option.bind_some, if_pos rfl]) rfl
  have a3 := a3.tr b3
  have a4 := a4.tr b4
  have d6' : VW s2 20 := b6.1.2.2.2
  obtain ⟨D, Cc⟩ := b8
  obtain ⟨q1, q2, q3, q4, q5, q6, q7, q8, q9, q10⟩ := D
  rw [show f_X8_readsInto N 7 (20 + 9) (nI nt) 9 s1 = some (1, s2) from b1, Option.bind_some, if_neg z1, show f_X11_isTreeHere_22 N (M + 2) 63 (nI (0 + 1)) t1 = f_X11_isTreeHere_22 N (M + 1) 63 (nI (1 + 1)) t2 from b2, v_i d6', Option.bind_some, q4, nI_1, v_p d6', Option.bind_some, f_X11_isTreeHere_22, if_pos (show (2 : Int32) ≤ nI (1 + 1) from by decide), m_gI b7.1, Option.bind_some, q7, nI_1, m_pI b7.1, Option.bind_some]
  right
  refine ⟨_, _, k + 2, nc, nt + 1, rfl, rfl, a3.tr ((RO.si 20 _ _ _).rs (by decide)), a4.tr (GF.fld (by decide)), ?_, by omega, ?_, b7.fld (by decide), ?_⟩
  · rw [iv_si, if_neg (by decide), b5, a5]
  · exact RDc.fr (l := [20]) b6 ((RO.si _ _ _ _).rs (by decide)) (by decide)
  · refine ⟨q1, by omega, by rw [iv_si, if_neg (by decide)]; exact q3, by rw [iv_si, if_pos ⟨rfl, rfl⟩], by rw [iv_si, if_neg (by decide)]; exact q5, by rw [iv_si, if_neg (by decide)]; exact q6, by rw [iv_si, if_pos ⟨rfl, rfl⟩], fun c x hcx hx => ?_, fun u x hu hx => ?_, fun x hx => ?_⟩
    · rw [iv_row _ _ _ (by omega), iv_row _ _ _ (by decide)]; exact q8 c x hcx hx
    · rw [iv_row _ _ _ (by omega), iv_row _ _ _ (by decide)]
      by_cases y : u = nt
      · rw [y]; exact Cc x hx
      · exact q9 u x (by omega) hx
    · rw [iv_row _ _ _ (by decide), iv_row _ _ _ (by decide)]; exact q10 x hx
theorem worthB (hN : 500 ≤ N) (hb : TP b t) {σ τ τ0 : Mm} {k nc nt : Nat} (hp : f_X11_passWord N 63 τ0 = some τ) (hm0 : WFm τ0) (hc : RDc σ b t n k) (hm : RDm τ b t k) (hD : DR σ τ nc nt) : FV vL σ τ (f_X8_readsWorth N 7 20 σ) (f_X11_isWorthHere N 63 τ0) ∨ OKV vL b t n k σ τ (f_X8_readsWorth N 7 20 σ) (f_X11_isWorthHere N 63 τ0) := by
  unfold f_X8_readsWorth f_X11_isWorthHere
  rw [k_o7 hc.1, Option.bind_some, m_ob hm0, Option.bind_some, hp, Option.bind_some, m_ob hm.1, Option.bind_some]
  rcases rdN hN hb hc hm (show 3 ≤ 99 by decide) with ⟨σ', τ', F, g1, g2, g3, g4, g5, g6, g7⟩ | ⟨v, s1, t1, a0, a1, a2, a3, a4, a5, a6, a7, a8⟩
  · left
    exact ⟨σ', τ', F, by rw [show f_X8_readsNumber N 7 (3 : Int32) σ = some (0, σ') from g1, Option.bind_some, if_pos rfl], by rw [show f_X11_numberHere N 63 (0 : Int32) (3 : Int32) τ = some (0, τ') from g2, Option.bind_some, if_pos rfl], g3.mono (by decide), g4.gf (by decide), g5, g6, g7⟩
  rw [show f_X8_readsNumber N 7 (3 : Int32) σ = some (1, s1) from a1, Option.bind_some, if_neg z1, show f_X11_numberHere N 63 (0 : Int32) (3 : Int32) τ = some (1, t1) from a2, Option.bind_some, if_neg z1, k_i7 a7.1, Option.bind_some, a5, k_o7 a7.1, Option.bind_some, m_gI a8.1, Option.bind_some, a6, m_ob a8.1, Option.bind_some]
  have A3 : RS vL σ s1 := a3.mono (by decide)
  have A4 : GF τ t1 := a4.gf (by decide)
  rcases rdN hN hb a7 a8 (show 7 ≤ 99 by decide) with ⟨σ', τ', F, g1, g2, g3, g4, g5, g6, g7⟩ | ⟨w, s2, t2, b0, b1, b2, b3, b4, b5, b6, b7, b8⟩
  · left
    exact ⟨σ', τ', F, by rw [show f_X8_readsNumber N 7 (7 : Int32) s1 = some (0, σ') from g1, Option.bind_some, if_pos rfl], by rw [show f_X11_numberHere N 63 (0 : Int32) (7 : Int32) t1 = some (0, τ') from g2, Option.bind_some, if_pos rfl], A3.tr (g3.mono (by decide)), A4.tr (g4.gf (by decide)), g5, g6, g7⟩
  rw [show f_X8_readsNumber N 7 (7 : Int32) s1 = some (1, s2) from b1, Option.bind_some, if_neg z1, show f_X11_numberHere N 63 (0 : Int32) (7 : Int32) t1 = some (1, t2) from b2, Option.bind_some, if_neg z1, k_i7 b7.1, Option.bind_some, b5, k_o7 b7.1, Option.bind_some, m_gI b8.1, Option.bind_some, b6, m_ob b8.1, Option.bind_some]
  have A3 : RS vL σ s2 := A3.tr (b3.mono (by decide))
  have A4 : GF τ t2 := A4.tr (b4.gf (by decide))
  rcases rdN hN hb b7 b8 (show 99 ≤ 99 by decide) with ⟨σ', τ', F, g1, g2, g3, g4, g5, g6, g7⟩ | ⟨u, s3, t3, c0, c1, c2, c3, c4, c5, c6, c7, c8⟩
  · left
    exact ⟨σ', τ', F, by rw [show f_X8_readsNumber N 7 (99 : Int32) s2 = some (0, σ') from g1, Option.bind_some, if_pos rfl], by rw [show f_X11_numberHere N 63 (0 : Int32) (99 : Int32) t2 = some (0, τ') from g2, Option.bind_some, if_pos rfl], A3.tr (g3.mono (by decide)), A4.tr (g4.gf (by decide)), g5, g6, g7⟩
  have A3 : RS vL σ s3 := A3.tr (c3.mono (by decide))
  have A4 : GF τ t3 := A4.tr (c4.gf (by decide))
  have d3 : VW s3 20 := c7.1.2.2.2
  have hD3 : DR s3 t3 nc nt := by
    have D1 := hD.fr (σ' := s1) (τ' := t1) (fun o o1 o2 => a3.2.2 o (by simp; omega)) (a4.2.2.1 69 (by decide)) (a4.2.2.1 70 (by decide)) (a4.2.2.1 71 (by decide)) (a4.2.2.2 7 (by decide)) (a4.2.2.2 8 (by decide))
    have D2 := D1.fr (σ' := s2) (τ' := t2) (fun o o1 o2 => b3.2.2 o (by simp; omega)) (b4.2.2.1 69 (by decide)) (b4.2.2.1 70 (by decide)) (b4.2.2.1 71 (by decide)) (b4.2.2.2 7 (by decide)) (b4.2.2.2 8 (by decide))
    exact D2.fr (σ' := s3) (τ' := t3) (fun o o1 o2 => c3.2.2 o (by simp; omega)) (c4.2.2.1 69 (by decide)) (c4.2.2.1 70 (by decide)) (c4.2.2.1 71 (by decide)) (c4.2.2.2 7 (by decide)) (c4.2.2.2 8 (by decide))
  obtain ⟨q1, q2, q3, q4, q5, q6, q7, q8, q9, q10⟩ := hD3
  right
  refine ⟨si s3 (20 + 10) (8 * v + w) (nI u), si t3 71 (8 * v + w) (nI u), k + 3, nc, nt, ?_, ?_, A3.tr ((RO.si 30 _ _ _).rs (by decide)), A4.tr (GF.row (by decide)), ?_, by omega, RDc.fr (l := [30]) c7 ((RO.si _ _ _ _).rs (by decide)) (by decide), c8.row (by decide), ?_⟩
  · rw [show f_X8_readsNumber N 7 (99 : Int32) s2 = some (1, s3) from c1, Option.bind_some, if_neg z1, k_i7 c7.1, Option.bind_some, c5, v_o d3, Option.bind_some]
    unfold f_X7_setGain f_X7_setGain_29
    rw [e_isBelow, Option.bind_some, bi_y ⟨nI_pos' (by omega), by rw [show (4 : Int32) = nI 4 from rfl]; exact nI_lt (by omega) (by decide)⟩, if_neg z1, e_isBelow, Option.bind_some, bi_y ⟨nI_pos' (by omega), by rw [i8]; exact nI_lt (by omega) (by decide)⟩, if_neg z1, v_g12 d3, Option.bind_some, i8, pk_mul, nI_add, show v * 8 + w = 8 * v + w by omega, v_s10 d3 rfl (by omega), Option.bind_some, Option.bind_some]
  · rw [show f_X11_numberHere N 63 (0 : Int32) (99 : Int32) t2 = some (1, t3) from c2, Option.bind_some, if_neg z1, m_g11 c8.1, Option.bind_some, m_gI c8.1, Option.bind_some, c6, i8, pk_mul, nI_add, m_sI c8.1 (a := 71) (n := 32) (c := 8 * v + w) (by decide) rfl rfl (by omega) (by decide), Option.bind_some]
  · rw [iv_row _ _ _ (by decide), c4.2.2.2 18 (by decide), b4.2.2.2 18 (by decide), a4.2.2.2 18 (by decide)]
  · refine ⟨q1, q2, by rw [iv_row _ _ _ (by decide)]; exact q3, by rw [iv_row _ _ _ (by decide)]; exact q4, by rw [iv_row _ _ _ (by decide)]; exact q5, by rw [iv_row _ _ _ (by decide)]; exact q6, by rw [iv_row _ _ _ (by decide)]; exact q7, fun c x hcx hx => ?_, fun y x hu hx => ?_, fun x hx => ?_⟩
    · rw [iv_row _ _ _ (by omega), iv_row _ _ _ (by decide)]; exact q8 c x hcx hx
    · rw [iv_row _ _ _ (by omega), iv_row _ _ _ (by decide)]; exact q9 y x hu hx
    · rw [iv_si, iv_si]
      by_cases y : x = 8 * v + w
      · rw [if_pos ⟨rfl, y⟩, if_pos ⟨rfl, y⟩]; exact ⟨rfl, u, c0, rfl⟩
      · rw [if_neg (fun z => y z.2), if_neg (fun z => y z.2)]; exact q10 x hx
end VC2
