/-! both read a VALLEY -/
def BD (x : Int32) (h : Nat) : Prop := ∃ v, v ≤ h ∧ x = nI v
def lim (k : Nat) : Nat := ([9, 9, 9, 99, 3, 7] : List Nat).getD k 0
theorem lim_le : ∀ k, k < 6 → lim k ≤ 99 := by decide
def DR (σ τ : Mm) (nc nt : Nat) : Prop := nc ≤ 12 ∧ nt ≤ 12 ∧ iv σ 20 0 = nI nc ∧ iv σ 20 8 = nI nt ∧ iv σ 20 11 = 0 ∧ iv τ 63 7 = nI nc ∧ iv τ 63 8 = nI nt ∧ (∀ c k, c < nc → k < 6 → iv σ (20 + (1 + k)) c = iv τ 69 (6 * c + k) ∧ BD (iv τ 69 (6 * c + k)) (lim k)) ∧ (∀ u k, u < nt → k < 2 → iv σ (20 + (8 + k)) u = iv τ 70 (2 * u + k) ∧ BD (iv τ 70 (2 * u + k)) 9) ∧ ∀ j, j < 32 → iv σ 30 j = iv τ 71 j ∧ BD (iv τ 71 j) 99
theorem DR.fr {σ σ' τ τ' : Mm} {nc nt : Nat} (h : DR σ τ nc nt) (hc : ∀ o, 20 ≤ o → o ≤ 30 → iv σ' o = iv σ o) (h69 : iv τ' 69 = iv τ 69) (h70 : iv τ' 70 = iv τ 70) (h71 : iv τ' 71 = iv τ 71) (h7 : iv τ' 63 7 = iv τ 63 7) (h8 : iv τ' 63 8 = iv τ 63 8) : DR σ' τ' nc nt := by
  obtain ⟨g1, g2, g3, g4, g5, g6, g7, g8, g9, g10⟩ := h
  have e20 := hc 20 (by decide) (by decide)
  refine ⟨g1, g2, by rw [e20]; exact g3, by rw [e20]; exact g4, by rw [e20]; exact g5, by rw [h7]; exact g6, by rw [h8]; exact g7, fun c k hck hk => ?_, fun u k hu hk => ?_, ?_⟩
  · rw [hc _ (by omega) (by omega), h69]; exact g8 c k hck hk
  · rw [hc _ (by omega) (by omega), h70]; exact g9 u k hu hk
  · rw [hc 30 (by decide) (by decide), h71]; exact g10
abbrev vL : List Nat := [3, 4, 5, 6, 7, 20, 21, 22, 23, 24, 25, 26, 27, 28, 29, 30]
def GF (τ τ' : Mm) : Prop := nn τ' = nn τ ∧ (∀ o, rv τ' o = rv τ o) ∧ (∀ o, o ≠ 63 → ¬ (69 ≤ o ∧ o ≤ 72) → iv τ' o = iv τ o) ∧ ∀ j, j = 1 ∨ j = 2 ∨ j = 15 → iv τ' 63 j = iv τ 63 j
theorem GF.rf (τ : Mm) : GF τ τ := ⟨rfl, fun _ => rfl, fun _ _ _ => rfl, fun _ _ => rfl⟩
theorem GF.tr {a c d : Mm} (h : GF a c) (g : GF c d) : GF a d := ⟨g.1.trans h.1, fun x => (g.2.1 x).trans (h.2.1 x), fun x q r => (g.2.2.1 x q r).trans (h.2.2.1 x q r), fun x q => (g.2.2.2 x q).trans (h.2.2.2 x q)⟩
theorem KF.gf {l : List Nat} {τ τ' : Mm} (h : KF l τ τ') (hl : 1 ∉ l ∧ 2 ∉ l ∧ 15 ∉ l) : GF τ τ' := ⟨h.1, h.2.1, fun o q _ => h.2.2.1 o q, fun j q => h.2.2.2 j (by rcases q with rfl | rfl | rfl <;> first | exact hl.1 | exact hl.2.1 | exact hl.2.2)⟩
theorem GF.row {τ : Mm} {o k : Nat} {v : Int32} (h : 69 ≤ o ∧ o ≤ 72) : GF τ (si τ o k v) := ⟨rfl, fun _ => rfl, fun x _ q => iv_row τ _ _ (fun e => q (by rw [e]; exact h)), fun j _ => by rw [iv_row τ _ _ (by omega)]⟩
theorem GF.fld {τ : Mm} {k : Nat} {v : Int32} (h : k ≠ 1 ∧ k ≠ 2 ∧ k ≠ 15) : GF τ (si τ 63 k v) := ⟨rfl, fun _ => rfl, fun x q _ => iv_row τ _ _ q, fun j q => by rw [iv_si, if_neg (by omega)]⟩
/-- both fail alike -/
def FV (l : List Nat) (σ τ : Mm) (rc rm : Option (Int32 × Mm)) : Prop := ∃ σ' τ' F, rc = some (0, σ') ∧ rm = some (0, τ') ∧ RS l σ σ' ∧ GF τ τ' ∧ iv σ' 3 5 = F ∧ iv τ' 63 13 = F ∧ ¬ F = 0
section VR
variable {N : Nat} {b : Nat → Nat} {t n : Nat}
theorem RDm.row {τ : Mm} {k o i : Nat} {v : Int32} (h : RDm τ b t k) (ho : o ≠ 63 ∧ o ≠ 64) : RDm (si τ o i v) b t k := h.fr rfl (fun _ => rfl) (iv_row τ _ _ (Ne.symm ho.2)) (fun j _ => by rw [iv_row τ _ _ (Ne.symm ho.1)])
theorem RDm.fld {τ : Mm} {k i : Nat} {v : Int32} (h : RDm τ b t k) (hi : i ≠ 1 ∧ i ≠ 12 ∧ i ≠ 13) : RDm (si τ 63 i v) b t k := h.fr rfl (fun _ => rfl) (iv_row τ _ _ (by decide)) (fun j q => by rw [iv_si, if_neg (by omega)])
theorem most_of {τ : Mm} : ∀ j, j < 6 → f_X11_mostOf N (nI j) τ = some (nI (lim j), τ) := by
  intro j hj
  have : j = 0 ∨ j = 1 ∨ j = 2 ∨ j = 3 ∨ j = 4 ∨ j = 5 := by omega
  rcases this with rfl | rfl | rfl | rfl | rfl | rfl <;> rfl
def CS (σ τ : Mm) (nc nt j : Nat) : Prop := DR σ τ nc nt ∧ ∀ i, i < j → iv σ (20 + (1 + i)) nc = iv τ 69 (6 * nc + i) ∧ BD (iv τ 69 (6 * nc + i)) (lim i)
theorem cstep (hN : 500 ≤ N) (hb : TP b t) {σ τ : Mm} {k nc nt j fu : Nat} (hj : j < 6) (hnc : nc < 12) (hc : RDc σ b t n k) (hm : RDm τ b t k) (hS : CS σ τ nc nt j) : FV vL σ τ (f_X8_readsInto N 7 (20 + (1 + j)) (nI nc) (nI (lim j)) σ) (f_X11_isCockHere_22 N (fu + 1) 63 (nI j) τ) ∨ ∃ σ' τ', f_X8_readsInto N 7 (20 + (1 + j)) (nI nc) (nI (lim j)) σ = some (1, σ') ∧ f_X11_isCockHere_22 N (fu + 1) 63 (nI j) τ = f_X11_isCockHere_22 N fu 63 (nI (j + 1)) τ' ∧ RS vL σ σ' ∧ GF τ τ' ∧ iv τ' 63 18 = iv τ 63 18 ∧ RDc σ' b t n (k + 1) ∧ RDm τ' b t (k + 1) ∧ CS σ' τ' nc nt (j + 1) := by
  have d20 : VW σ 20 := hc.1.2.2.2
  unfold f_X8_readsInto f_X8_readsInto_27
  rw [k_o7 hc.1, Option.bind_some, f_X11_isCockHere_22, if_neg (by rw [show (6 : Int32) = nI 6 from rfl]; exact nI_ge hj (by decide)), most_of j hj, Option.bind_some, m_ob hm.1, Option.bind_some]
  rcases rdN hN hb hc hm (lim_le j hj) with ⟨σ', τ', F, g1, g2, g3, g4, g5, g6, g7⟩ | ⟨v, σ', τ', g0, g1, g2, g3, g4, g5, g6, g7, g8⟩
  · left
    refine ⟨σ', τ', F, ?_, ?_, g3.mono (by decide), g4.gf (by decide), g5, g6, g7⟩
    · rw [g1, Option.bind_some, if_pos rfl]
    · rw [show (0 : Int32) = nI 0 from rfl, g2, Option.bind_some, if_pos (show (0 : Int32) = nI 0 from rfl)]
  · right
    have c1 := g7.1
    have d21 : VW σ' 20 := c1.2.2.2
    have m1 := g8.1
    obtain ⟨s1, e1⟩ : ∃ s, s = si σ' (20 + (1 + j)) nc (nI v) := ⟨_, rfl⟩
    obtain ⟨t1, e2⟩ : ∃ s, s = si τ' 69 (6 * nc + j) (nI v) := ⟨_, rfl⟩
    have i7 : iv τ' 63 7 = nI nc := by rw [g4.2.2.2 7 (by decide)]; exact hS.1.2.2.2.2.2.1
    refine ⟨s1, t1, ?_, ?_, ?_, ?_, ?_, ?_, ?_, ?_⟩
    · rw [g1, Option.bind_some, if_neg z1, if_neg (nI_pos (by omega)), show ln 0 (1, σ').2 (20 + (1 + j)) = some (nI 12) from by
        show ln 0 σ' (20 + (1 + j)) = some (nI 12)
        exact k_ln c1 (by omega) (d21.sh.2.1 (1 + j) (by omega) (by omega)), Option.bind_some, if_neg (nI_ge hnc (by decide)), k_i7 c1, Option.bind_some, g5, v_s d21 rfl (by omega) (by omega) hnc, Option.bind_some, ← e1]
    · rw [show (0 : Int32) = nI 0 from rfl, g2, Option.bind_some, if_neg (show ¬ (1 : Int32) = nI 0 from z1), m_g9 m1, Option.bind_some, m_gI m1, Option.bind_some, i7, m_gI m1, Option.bind_some, g6, show (6 : Int32) = nI 6 from rfl, pk_mul, nI_add, m_sI m1 (a := 69) (n := 72) (c := 6 * nc + j) (by decide) rfl rfl (by omega) (by decide), Option.bind_some, ← e2, nI_1]
    · rw [e1]
      exact (g3.mono (by decide)).tr ((RO.si _ _ _ _).rs (by
        have : ∀ j, j < 6 → 20 + (1 + j) ∈ vL := by decide
        exact this j hj))
    · rw [e2]; exact (g4.gf (by decide)).tr (GF.row (by decide))
    · rw [e2, iv_row _ _ _ (by decide), g4.2.2.2 18 (by decide)]
    · rw [e1]; exact g7.fr (l := [20 + (1 + j)]) ((RO.si _ _ _ _).rs (by simp)) (by intro x hx; have := List.mem_singleton.1 hx; omega)
    · rw [e2]; exact g8.row (by decide)
    · have hD : DR σ' τ' nc nt := hS.1.fr (fun o o1 o2 => g3.2.2 o (by simp; omega)) (g4.2.2.1 69 (by decide)) (g4.2.2.1 70 (by decide)) (g4.2.2.1 71 (by decide)) (g4.2.2.2 7 (by decide)) (g4.2.2.2 8 (by decide))
      obtain ⟨q1, q2, q3, q4, q5, q6, q7, q8, q9, q10⟩ := hD
      refine ⟨⟨q1, q2, ?_, ?_, ?_, ?_, ?_, fun c x hcx hx => ?_, fun u x hu hx => ?_, fun x hx => ?_⟩, fun i hi => ?_⟩
      · rw [e1, iv_row _ _ _ (by omega)]; exact q3
      · rw [e1, iv_row _ _ _ (by omega)]; exact q4
      · rw [e1, iv_row _ _ _ (by omega)]; exact q5
      · rw [e2, iv_row _ _ _ (by decide)]; exact q6
      · rw [e2, iv_row _ _ _ (by decide)]; exact q7
      · rw [e1, e2, iv_si, if_neg (by omega), iv_si, if_neg (by omega)]; exact q8 c x hcx hx
      · rw [e1, e2, iv_row _ _ _ (by omega), iv_row _ _ _ (by decide)]; exact q9 u x hu hx
      · rw [e1, e2, iv_row _ _ _ (by omega), iv_row _ _ _ (by decide)]; exact q10 x hx
      · rw [e1, e2, iv_si, iv_si]
        by_cases y : i = j
        · rw [if_pos ⟨by omega, rfl⟩, if_pos ⟨rfl, by omega⟩, y]; exact ⟨rfl, v, g0, rfl⟩
        · rw [if_neg (by omega), if_neg (by omega), g3.2.2 _ (by
            have : ∀ i, i < 6 → 20 + (1 + i) ∉ [3, 7] := by decide
            exact this i (by omega)), g4.2.2.1 69 (by decide)]
          exact hS.2 i (by omega)
theorem FV.pre {l : List Nat} {σ σ1 τ τ1 : Mm} {rc rm rc' rm' : Option (Int32 × Mm)} (h : FV l σ1 τ1 rc rm) (r : RS l σ σ1) (g : GF τ τ1) (e1 : rc' = rc) (e2 : rm' = rm) : FV l σ τ rc' rm' := by
  obtain ⟨σ', τ', F, h1, h2, h3, h4, h5, h6, h7⟩ := h
  exact ⟨σ', τ', F, e1.trans h1, e2.trans h2, r.tr h3, g.tr h4, h5, h6, h7⟩
/-- a clause is read by both -/
def OKV (l : List Nat) (b : Nat → Nat) (t n k : Nat) (σ τ : Mm) (rc rm : Option (Int32 × Mm)) : Prop := ∃ σ' τ' k' nc nt, rc = some (1, σ') ∧ rm = some (1, τ') ∧ RS l σ σ' ∧ GF τ τ' ∧ iv τ' 63 18 = iv τ 63 18 ∧ k < k' ∧ RDc σ' b t n k' ∧ RDm τ' b t k' ∧ DR σ' τ' nc nt
theorem cockB (hN : 500 ≤ N) (hb : TP b t) {σ τ : Mm} {k nc nt : Nat} (hnc : nc < 12) (hc : RDc σ b t n k) (hm : RDm τ b t k) (hD : DR σ τ nc nt) : FV vL σ τ (f_X8_readsCock N 7 20 σ) (f_X11_isCockHere_22 N N 63 (0 : Int32) τ) ∨ OKV vL b t n k σ τ (f_X8_readsCock N 7 20 σ) (f_X11_isCockHere_22 N N 63 (0 : Int32) τ) := by
  obtain ⟨M, rfl⟩ : ∃ M, N = M + 7 := ⟨N - 7, by omega⟩
  obtain ⟨N, hNN⟩ : ∃ N, N = M + 7 := ⟨_, rfl⟩
  rw [← hNN] at hN ⊢
  unfold f_X8_readsCock f_X8_readsCock_88
  have d0 : VW σ 20 := hc.1.2.2.2
  rw [v_i d0, Option.bind_some, hD.2.2.1, v_g1 d0, Option.bind_some, k_o7 hc.1, Option.bind_some]
  have e0 : f_X11_isCockHere_22 N N 63 (0 : Int32) τ = f_X11_isCockHere_22 N (M + 6 + 1) 63 (nI 0) τ := by rw [hNN]; rfl
  rw [e0]
  rcases cstep hN hb (j := 0) (fu := M + 6) (by decide) hnc hc hm ⟨hD, fun i hi => absurd hi (Nat.not_lt_zero _)⟩ with hF | ⟨s1, t1, a1, a2, a3, a4, a5, a6, a7, a8⟩
  · left
    obtain ⟨σ', τ', F, h1, h2, h3⟩ := hF
    exact ⟨σ', τ', F, by rw [show f_X8_readsInto N 7 (20 + 1) (nI nc) 9 σ = some (0, σ') from h1, Option.bind_some, if_pos rfl], h2, h3⟩
  rw [show f_X8_readsInto N 7 (20 + 1) (nI nc) 9 σ = some (1, s1) from a1, Option.bind_some, if_neg z1, a2, v_g2 a6.1.2.2.2, Option.bind_some, k_o7 a6.1, Option.bind_some]
  rcases cstep hN hb (j := 1) (fu := M + 5) (by decide) hnc a6 a7 a8 with hF | ⟨s2, t2, b1, b2, b3, b4, b5, b6, b7, b8⟩
  · left
    obtain ⟨σ', τ', F, h1, h2, h3⟩ := hF
    exact FV.pre ⟨σ', τ', F, rfl, h2, h3⟩ a3 a4 (by rw [show f_X8_readsInto N 7 (20 + 2) (nI nc) 9 s1 = some (0, σ') from h1, Option.bind_some, if_pos rfl]) rfl
  rw [show f_X8_readsInto N 7 (20 + 2) (nI nc) 9 s1 = some (1, s2) from b1, Option.bind_some, if_neg z1, show f_X11_isCockHere_22 N (M + 6) 63 (nI (0 + 1)) t1 = f_X11_isCockHere_22 N (M + 5) 63 (nI (1 + 1)) t2 from b2, v_g3 b6.1.2.2.2, Option.bind_some, k_o7 b6.1, Option.bind_some]
  have a3 := a3.tr b3
  have a4 := a4.tr b4
  rcases cstep hN hb (j := 2) (fu := M + 4) (by decide) hnc b6 b7 b8 with hF | ⟨s3, t3, c1, c2, c3, c4, c5, c6, c7, c8⟩
  · left
    obtain ⟨σ', τ', F, h1, h2, h3⟩ := hF
    exact FV.pre ⟨σ', τ', F, rfl, h2, h3⟩ a3 a4 (by rw [show f_X8_readsInto N 7 (20 + 3) (nI nc) 9 s2 = some (0, σ') from h1, Option.bind_some, if_pos rfl]) rfl
  rw [show f_X8_readsInto N 7 (20 + 3) (nI nc) 9 s2 = some (1, s3) from c1, Option.bind_some, if_neg z1, show f_X11_isCockHere_22 N (M + 5) 63 (nI (1 + 1)) t2 = f_X11_isCockHere_22 N (M + 4) 63 (nI (2 + 1)) t3 from c2, v_g4 c6.1.2.2.2, Option.bind_some, k_o7 c6.1, Option.bind_some]
  have a3 := a3.tr c3
  have a4 := a4.tr c4
  rcases cstep hN hb (j := 3) (fu := M + 3) (by decide) hnc c6 c7 c8 with hF | ⟨s4, t4, d1, d2, d3, d4, d5, d6, d7, d8⟩
  · left
    obtain ⟨σ', τ', F, h1, h2, h3⟩ := hF
    exact FV.pre ⟨σ', τ', F, rfl, h2, h3⟩ a3 a4 (by rw [show f_X8_readsInto N 7 (20 + 4) (nI nc) 99 s3 = some (0, σ') from h1, Option.bind_some, if_pos rfl]) rfl
  rw [show f_X8_readsInto N 7 (20 + 4) (nI nc) 99 s3 = some (1, s4) from d1, Option.bind_some, if_neg z1, show f_X11_isCockHere_22 N (M + 4) 63 (nI (2 + 1)) t3 = f_X11_isCockHere_22 N (M + 3) 63 (nI (3 + 1)) t4 from d2, v_g5 d6.1.2.2.2, Option.bind_some, k_o7 d6.1, Option.bind_some]
  have a3 := a3.tr d3
  have a4 := a4.tr d4
  rcases cstep hN hb (j := 4) (fu := M + 2) (by decide) hnc d6 d7 d8 with hF | ⟨s5, t5, f1, f2, f3, f4, f5, f6, f7, f8⟩
  · left
    obtain ⟨σ', τ', F, h1, h2, h3⟩ := hF
    exact FV.pre ⟨σ', τ', F, rfl, h2, h3⟩ a3 a4 (by rw [show f_X8_readsInto N 7 (20 + 5) (nI nc) 3 s4 = some (0, σ') from h1, Option.bind_some, if_pos rfl]) rfl
  rw [show f_X8_readsInto N 7 (20 + 5) (nI nc) 3 s4 = some (1, s5) from f1, Option.bind_some, if_neg z1, show f_X11_isCockHere_22 N (M + 3) 63 (nI (3 + 1)) t4 = f_X11_isCockHere_22 N (M + 2) 63 (nI (4 + 1)) t5 from f2, v_g6 f6.1.2.2.2, Option.bind_some, k_o7 f6.1, Option.bind_some]
  have a3 := a3.tr f3
  have a4 := a4.tr f4
  rcases cstep hN hb (j := 5) (fu := M + 1) (by decide) hnc f6 f7 f8 with hF | ⟨s6, t6, g1, g2, g3, g4, g5, g6, g7, g8⟩
  · left
    obtain ⟨σ', τ', F, h1, h2, h3⟩ := hF
    exact FV.pre ⟨σ', τ', F, rfl, h2, h3⟩ a3 a4 (by rw [show f_X8_readsInto N 7 (20 + 6) (nI nc) 7 s5 = some (0, σ') from h1, Option.bind_some, if_pos rfl]) rfl
  have a3 := a3.tr g3
  have a4 := a4.tr g4
  have d6' : VW s6 20 := g6.1.2.2.2
  obtain ⟨D, Cc⟩ := g8
  obtain ⟨q1, q2, q3, q4, q5, q6, q7, q8, q9, q10⟩ := D
  rw [show f_X8_readsInto N 7 (20 + 6) (nI nc) 7 s5 = some (1, s6) from g1, Option.bind_some, if_neg z1, show f_X11_isCockHere_22 N (M + 2) 63 (nI (4 + 1)) t5 = f_X11_isCockHere_22 N (M + 1) 63 (nI (5 + 1)) t6 from g2, v_i d6', Option.bind_some, q3, nI_1, v_p d6', Option.bind_some, f_X11_isCockHere_22, if_pos (show (6 : Int32) ≤ nI (5 + 1) from by decide), m_gI g7.1, Option.bind_some, q6, nI_1, m_pI g7.1, Option.bind_some]
  right
  refine ⟨_, _, k + 6, nc + 1, nt, rfl, rfl, a3.tr ((RO.si 20 _ _ _).rs (by decide)), a4.tr (GF.fld (by decide)), ?_, by omega, ?_, g7.fld (by decide), ?_⟩
  · rw [iv_si, if_neg (by decide), g5, f5, d5, c5, b5, a5]
  · exact RDc.fr (l := [20]) g6 ((RO.si _ _ _ _).rs (by decide)) (by decide)
  · refine ⟨by omega, q2, by rw [iv_si, if_pos ⟨rfl, rfl⟩], by rw [iv_si, if_neg (by decide)]; exact q4, by rw [iv_si, if_neg (by decide)]; exact q5, by rw [iv_si, if_pos ⟨rfl, rfl⟩], by rw [iv_si, if_neg (by decide)]; exact q7, fun c x hcx hx => ?_, fun u x hu hx => ?_, fun x hx => ?_⟩
    · rw [iv_row _ _ _ (by omega), iv_row _ _ _ (by decide)]
      by_cases y : c = nc
      · rw [y]; exact Cc x hx
      · exact q8 c x (by omega) hx
    · rw [iv_row _ _ _ (by omega), iv_row _ _ _ (by decide)]; exact q9 u x hu hx
    · rw [iv_row _ _ _ (by decide), iv_row _ _ _ (by decide)]; exact q10 x hx
end VR
