/-! a VALLEY is told: the whole of it -/
section VU
variable {N : Nat} {b : Nat → Nat} {t n : Nat}
/-- the model is done with its tape -/
def GD (τ τ' : Mm) : Prop := nn τ' = nn τ ∧ (∀ o, rv τ' o = rv τ o) ∧ (∀ o, o ≠ 63 → ¬ (69 ≤ o ∧ o ≤ 72) → iv τ' o = iv τ o) ∧ iv τ' 63 1 = 0 ∧ ∀ j, j = 2 ∨ j = 15 → iv τ' 63 j = iv τ 63 j
theorem r118 {τ : Mm} (hm : WFm τ) : f_X11_readsAll_118 N 63 τ = some (bi (iv τ 63 13 = 0), si τ 63 1 0) := by
  have m1 : WFm (si τ 63 1 0) := hm
  rw [f_X11_readsAll_118, m_pI hm, Option.bind_some, m_gI m1, Option.bind_some, iv_si, if_neg (show ¬ (63 = 63 ∧ 13 = 1) by decide)]
  by_cases q : iv τ 63 13 = 0
  · rw [if_pos q, f_X11_readsAll_135, if_pos (Or.inr rfl), bi_y q]
  · rw [if_neg q, f_X11_readsAll_135, if_pos (Or.inl rfl), bi_n q]
theorem GF.done {τ τ' : Mm} (h : GF τ τ') : GD τ (si τ' 63 1 0) := ⟨h.1, h.2.1, fun o q r => by rw [iv_row _ _ _ q]; exact h.2.2.1 o q r, by rw [iv_si, if_pos ⟨rfl, rfl⟩], fun j q => by rw [iv_si, if_neg (by omega)]; exact h.2.2.2 j (by omega)⟩
theorem bad35 {τ : Mm} {fu : Nat} (hm : WFm τ) (hF : ¬ iv τ 63 13 = 0) : f_X11_readsAll_35 N (fu + 1) 63 (0 : Int32) τ = some (0, si τ 63 1 0) := by
  rw [f_X11_readsAll_35, if_pos rfl, f_X11_readsAll_66, if_pos rfl, f_X11_readsAll_88, if_pos rfl, r118 hm, bi_n hF]
theorem vloop (hN : 500 ≤ N) (hb : TP b t) : ∀ d c fu fu' σ τ k nc nt, c + d = 40 → d < fu → d < fu' → RDc σ b t n k → RDm τ b t k → DR σ τ nc nt → iv τ 63 15 = nI 6 → iv τ 63 18 = nI c → (∃ σ' τ' F, f_X8_reads_6 N fu 7 20 (nI c) σ = some (0, σ') ∧ (f_X11_clauseHere N 63 τ).bind (fun q8 => f_X11_readsAll_35 N (fu' + 1) 63 q8.1 q8.2) = some (0, τ') ∧ RS vL σ σ' ∧ GD τ τ' ∧ iv σ' 3 5 = F ∧ iv τ' 63 13 = F) ∨
    ∃ σ' τ' nc' nt', f_X8_reads_6 N fu 7 20 (nI c) σ = some (1, σ') ∧ (f_X11_clauseHere N 63 τ).bind (fun q8 => f_X11_readsAll_35 N (fu' + 1) 63 q8.1 q8.2) = some (1, τ') ∧ RS vL σ σ' ∧ GD τ τ' ∧ WFc σ' ∧ WFm τ' ∧ 0 < nc' ∧ DR σ' τ' nc' nt' := by
  intro d
  induction d with
  | zero =>
    intro c fu fu' σ τ k nc nt h1 h2 h3 hc hm hD h15 h18
    obtain ⟨fu, rfl⟩ : ∃ q, fu = q + 1 := ⟨fu - 1, by omega⟩
    left
    rcases clauseV hN hb (c := c) (by omega) hc hm hD h15 h18 with ⟨σ', τ', F, g1, g2, g3, g4, g5, g6, g7⟩ | ⟨h, _⟩
    · refine ⟨σ', si τ' 63 1 0, F, ?_, ?_, g3, g4.done, g5, by rw [iv_si, if_neg (by decide)]; exact g6⟩
      · rw [f_X8_reads_6, if_neg (show ¬ (40 : Int32) < nI c by rw [show (40 : Int32) = nI 40 from rfl, nI_ltI (by decide) (by omega)]; omega), k_o7 hc.1, Option.bind_some, g1, Option.bind_some, if_pos rfl]
      · rw [g2, Option.bind_some]
        exact bad35 (hm.1.rvc g4.1 g4.2.1) (by rw [g6]; exact g7)
    · omega
  | succ d ih =>
    intro c fu fu' σ τ k nc nt h1 h2 h3 hc hm hD h15 h18
    obtain ⟨fu, rfl⟩ : ∃ q, fu = q + 1 := ⟨fu - 1, by omega⟩
    have head : ∀ {r : Int32} {s : Mm}, f_X8_readsClause N 7 20 (nI c) σ = some (r, s) → f_X8_reads_6 N (fu + 1) 7 20 (nI c) σ = if r = 0 then some (0, s) else (gN 8 0 s 7).bind fun a6 =>
          (ob 6 s a6).bind fun _ =>
          (f_X6_kind N a6 s).bind fun q7 =>
          if q7.1 = (1 : Int32) then (
            (gI 7 0 q7.2 20).bind fun x16 =>
            if 0 < x16 then (
              f_X8_reads_52 N q7.2) else (
              (gN 8 0 q7.2 7).bind fun a18 =>
              (ob 6 q7.2 a18).bind fun _ =>
              (f_X6_fails N a18 (0 : Int32) q7.2).bind fun q19 =>
              if q19.1 = 0 then (
                f_X8_reads_57 N (0 : Int32) q19.2) else (
                f_X8_reads_52 N q19.2))) else (
            (gN 8 0 q7.2 7).bind fun a9 =>
            (ob 6 q7.2 a9).bind fun _ =>
            (f_X6_kind N a9 q7.2).bind fun q10 =>
            if q10.1 = (4 : Int32) then (
              (gN 8 0 q10.2 7).bind fun a12 =>
              (ob 6 q10.2 a12).bind fun _ =>
              (f_X6_skip N a12 q10.2).bind fun q13 =>
              f_X8_reads_6 N fu 7 20 (nI c + (1 : Int32)) q13) else (
              (gN 8 0 q10.2 7).bind fun a14 =>
              (ob 6 q10.2 a14).bind fun _ =>
              (f_X6_fails N a14 (0 : Int32) q10.2).bind fun q15 =>
              if q15.1 = 0 ∨ q15.1 = 1 then some (q15.1, q15.2) else none)) := by
      intro r s e
      rw [f_X8_reads_6, if_neg (show ¬ (40 : Int32) < nI c by rw [show (40 : Int32) = nI 40 from rfl, nI_ltI (by decide) (by omega)]; omega), k_o7 hc.1, Option.bind_some, e, Option.bind_some]
    rcases clauseV hN hb (c := c) (by omega) hc hm hD h15 h18 with ⟨σ', τ', F, g1, g2, g3, g4, g5, g6, g7⟩ | ⟨h40, s1, t1, k1, nc1, nt1, g1, g2, g3, g4, g5, g6, g7, g8, g9⟩
    · left
      refine ⟨σ', si τ' 63 1 0, F, ?_, ?_, g3, g4.done, g5, by rw [iv_si, if_neg (by decide)]; exact g6⟩
      · rw [head g1, if_pos rfl]
      · rw [g2, Option.bind_some]
        exact bad35 (hm.1.rvc g4.1 g4.2.1) (by rw [g6]; exact g7)
    · obtain ⟨p, hp⟩ : ∃ p, p = pl b t k1 := ⟨_, rfl⟩
      obtain ⟨pt1, pt2, pt3, pt4, pt5⟩ := plt hb g7
      rw [← hp] at pt1 pt2 pt3 pt4
      obtain ⟨m1, m2, m3, x, x1, x2, x3⟩ := g8
      have see : f_X11_see N 63 t1 = some (seen b t p, ps' t1 p) := by rw [e_see hN hb x1 m1 m2 x2, x3, ← hp]
      have kind := e_kind (N := N) hb g7.1 g7.2.1 g7.2.2.1 g7.2.2.2
      rw [← hp] at kind
      have k40 := tK_31 b t p
      have t15 : iv t1 63 15 = nI 6 := by rw [g4.2.2.2 15 (by decide)]; exact h15
      have hmp : RDm (ps' t1 p) b t k1 := RDm.at hb ⟨m1, m2, m3, x, x1, x2, x3⟩ pt1 (by rw [pt4, hp])
      have gp : GF τ (ps' t1 p) := g4.tr (GF.fld (by decide))
      have s59 := seen_sg (p := p) hb (show 59 < 128 by decide)
      have k59 := tK_sg hb (p := p) (c := 59) (k := 4) (by decide)
      rw [head g1, if_neg z1, k_7_0 g7.1, Option.bind_some, k_o3 g7.1, Option.bind_some, kind, Option.bind_some, g2, Option.bind_some, f_X11_readsAll_35, if_neg z1, m_ob m1, Option.bind_some, see, Option.bind_some]
      simp only []
      by_cases K4 : tK b t p = 4
      · -- another clause
        have hb4 := k59.1 K4
        rw [if_neg (show ¬ nI (tK b t p) = 1 by rw [K4]; decide), k_7_0 g7.1, Option.bind_some, k_o3 g7.1, Option.bind_some, kind, Option.bind_some, if_pos (show nI (tK b t p) = 4 by rw [K4]; rfl), k_7_0 g7.1, Option.bind_some, k_o3 g7.1, Option.bind_some, e_skip g7.1 g7.2.2.1, Option.bind_some, nI_1, if_pos (show seen b t p = 59 from s59.2 hb4), m_gI hmp.1, Option.bind_some, iv_ps, nI_1, m_pI hmp.1, Option.bind_some]
        rw [show si (ps' t1 p) 63 12 (nI (p + 1)) = ps' t1 (p + 1) from si_si]
        have hmn : RDm (ps' t1 (p + 1)) b t (k1 + 1) := RDm.to hb ⟨m1, m2, m3, x, x1, x2, x3⟩ (by omega) (by
          rw [← tE_sg hb (c := 59) (k := 4) (by decide) hb4.2, hp]; rfl)
        rw [m_ob hmn.1, Option.bind_some]
        obtain ⟨fu', rfl⟩ : ∃ q, fu' = q + 1 := ⟨fu' - 1, by omega⟩
        have hDn : DR (si s1 3 4 (nI (k1 + 1))) (ps' t1 (p + 1)) nc1 nt1 := g9.fr (fun o o1 o2 => iv_row _ _ _ (by omega)) (iv_row _ _ _ (by decide)) (iv_row _ _ _ (by decide)) (iv_row _ _ _ (by decide)) (by rw [iv_si, if_neg (by decide)]) (by rw [iv_si, if_neg (by decide)])
        have gn : GF τ (ps' t1 (p + 1)) := g4.tr (GF.fld (by decide))
        have rn' : RS vL σ (si s1 3 4 (nI (k1 + 1))) := g3.tr ((RO.si 3 _ _ _).rs (by decide))
        have gdt : ∀ {τ'}, GD (ps' t1 (p + 1)) τ' → GD τ τ' := fun h => ⟨h.1.trans gn.1, fun o => (h.2.1 o).trans (gn.2.1 o), fun o q r => (h.2.2.1 o q r).trans (gn.2.2.1 o q r), h.2.2.2.1, fun j q => (h.2.2.2.2 j q).trans (gn.2.2.2 j (by omega))⟩
        rcases ih (c + 1) fu fu' (si s1 3 4 (nI (k1 + 1))) (ps' t1 (p + 1)) (k1 + 1) nc1 nt1 (by omega) (by omega) (by omega) (g7.skip (pt2 hb4.1)) hmn hDn (by rw [iv_si, if_neg (by decide)]; exact t15) (by rw [iv_si, if_neg (by decide)]; exact g5) with ⟨σ', τ', F, i1, i2, i3, i4, i5⟩ | ⟨σ', τ', nc', nt', i1, i2, i3, i4, i5⟩
        · left
          exact ⟨σ', τ', F, i1, i2, rn'.tr i3, gdt i4, i5⟩
        · right
          exact ⟨σ', τ', nc', nt', i1, i2, rn'.tr i3, gdt i4, i5⟩
      · have n59 : ¬ seen b t p = 59 := fun z => K4 (k59.2 (s59.1 z))
        have se2 : f_X11_see N 63 (ps' t1 p) = some (seen b t p, ps' t1 p) := by
          rw [e_see hN hb pt1 hmp.1 hmp.2.1 (iv_ps _ _), pt4, ps_id (iv_ps _ _)]
        rw [if_neg n59, f_X11_readsAll_66, if_neg z1, m_ob hmp.1, Option.bind_some, se2, Option.bind_some]
        simp only []
        have f13 : iv (ps' t1 p) 63 13 = 0 := hmp.2.2.1
        have i15 : iv (ps' t1 p) 63 15 = nI 6 := by rw [iv_si, if_neg (by decide)]; exact t15
        have i7 : iv (ps' t1 p) 63 7 = nI nc1 := by rw [iv_si, if_neg (by decide)]; exact g9.2.2.2.2.2.1
        have n12 := g9.1
        obtain ⟨q1, q2, q3, q4⟩ := failC (N := N) hb g7 (show 0 ≤ 7 by decide)
        rw [← hp] at q1 q2 q3 q4
        by_cases K1 : tK b t p = 1
        · have hpt := (tK_1 hb).1 K1
          rw [if_pos (show nI (tK b t p) = 1 by rw [K1]; rfl), if_pos (show seen b t p = -1 from if_neg (by omega)), f_X11_readsAll_88, if_neg z1, m_gI hmp.1, Option.bind_some, i15, if_pos (show nI 6 = 6 from rfl), m_gI hmp.1, Option.bind_some, i7, v_i g7.1.2.2.2, Option.bind_some, g9.2.2.1]
          by_cases n0 : nc1 = 0
          · left
            rw [if_neg (show ¬ 0 < nI nc1 by rw [n0]; decide), k_7_0 g7.1, Option.bind_some, k_o3 g7.1, Option.bind_some, show f_X6_fails N 3 (0 : Int32) s1 = some (0, si s1 3 5 (flt p 0)) from q1, Option.bind_some, if_pos rfl, f_X8_reads_57, if_pos (Or.inl rfl), if_pos (show nI nc1 = 0 by rw [n0]; rfl), m_gI hmp.1, Option.bind_some, iv_ps, m_ob hmp.1, Option.bind_some, show f_X11_fails N 63 (0 : Int32) (nI p) (ps' t1 p) = some (0, si (ps' t1 p) 63 13 (flt p 0)) from e_mfail hmp.1 f13, Option.bind_some, r118 (τ := si (ps' t1 p) 63 13 (flt p 0)) hmp.1, bi_n (by rw [iv_si, if_pos ⟨rfl, rfl⟩]; exact q4)]
            exact ⟨_, _, flt p 0, rfl, rfl, g3.tr q2, GF.done (gp.tr (GF.fld (by decide))), q3, by rw [iv_si, if_neg (by decide), iv_si, if_pos ⟨rfl, rfl⟩]⟩
          · right
            rw [if_pos (show 0 < nI nc1 from (pos_iff (by omega)).2 (by omega)), f_X8_reads_52, f_X8_reads_57, if_pos (Or.inr rfl), if_neg (show ¬ nI nc1 = 0 from nIk (by omega) (by decide) n0), r118 hmp.1, bi_y f13]
            exact ⟨_, _, nc1, nt1, rfl, rfl, g3, gp.done, g7.1, hmp.1, by omega, g9.fr (fun _ _ _ => rfl) (by rw [iv_row _ _ _ (by decide), iv_row _ _ _ (by decide)]) (by rw [iv_row _ _ _ (by decide), iv_row _ _ _ (by decide)]) (by rw [iv_row _ _ _ (by decide), iv_row _ _ _ (by decide)]) (by rw [iv_si, if_neg (by decide), iv_si, if_neg (by decide)]) (by rw [iv_si, if_neg (by decide), iv_si, if_neg (by decide)])⟩
        · left
          have hpt : p < t := by
            by_cases y : t ≤ p
            · exact absurd ((tK_1 hb).2 y) K1
            · omega
          have b256 := hb.2.1 p
          rw [if_neg (show ¬ nI (tK b t p) = 1 from nIk (by omega) (by decide) K1), k_7_0 g7.1, Option.bind_some, k_o3 g7.1, Option.bind_some, kind, Option.bind_some, if_neg (show ¬ nI (tK b t p) = 4 from nIk (by omega) (by decide) K4), k_7_0 g7.1, Option.bind_some, k_o3 g7.1, Option.bind_some, show f_X6_fails N 3 (0 : Int32) s1 = some (0, si s1 3 5 (flt p 0)) from q1, Option.bind_some, if_neg (show ¬ seen b t p = -1 by rw [show seen b t p = nI (b p) from if_pos hpt]; exact nI_ne1 (by omega)), m_gI hmp.1, Option.bind_some, iv_ps, m_ob hmp.1, Option.bind_some, show f_X11_fails N 63 (0 : Int32) (nI p) (ps' t1 p) = some (0, si (ps' t1 p) 63 13 (flt p 0)) from e_mfail hmp.1 f13, Option.bind_some, f_X11_readsAll_88, if_pos rfl, r118 (τ := si (ps' t1 p) 63 13 (flt p 0)) hmp.1, bi_n (by rw [iv_si, if_pos ⟨rfl, rfl⟩]; exact q4), if_pos (Or.inl rfl)]
          exact ⟨_, _, flt p 0, rfl, rfl, g3.tr q2, GF.done (gp.tr (GF.fld (by decide))), q3, by rw [iv_si, if_neg (by decide), iv_si, if_pos ⟨rfl, rfl⟩]⟩
/-! what is told is taken over -/
theorem v84 {c : Nat} (hc : c < 12) (r : Nat → Int32 → Mm → Option (Int32 × Mm)) : ∀ d i fu τ, i + d = 6 → d < fu → WFm τ → ∃ τ', f_X11_valley_84 N r fu 63 (nI c) (nI i) τ = r 63 (nI (c + 1)) τ' ∧ RO 75 τ τ' ∧ ∀ x, iv τ' 75 x = if 4 + 7 * c + i ≤ x ∧ x < 4 + 7 * c + 6 then iv τ 69 (6 * c + (x - (4 + 7 * c))) else if x = 4 + 7 * c + 6 then iv τ 69 (6 * c + 5) else iv τ 75 x := by
  intro d
  induction d with
  | zero =>
    intro i fu τ h1 h2 hm
    obtain ⟨fu, rfl⟩ : ∃ q, fu = q + 1 := ⟨fu - 1, by omega⟩
    refine ⟨si τ 75 (4 + 7 * c + 6) (iv τ 69 (6 * c + 5)), ?_, RO.si _ _ _ _, fun x => ?_⟩
    · rw [f_X11_valley_84, if_pos (by rw [show (6 : Int32) = nI 6 from rfl]; exact nI_le (by omega) (by omega)), m_g24 hm, Option.bind_some, m_g9 hm, Option.bind_some, show (6 : Int32) = nI 6 from rfl, pk_mul, show (5 : Int32) = nI 5 from rfl, nI_add, m_aI hm (a := 69) (n := 72) (c := 6 * c + 5) (by decide) rfl rfl (by omega) (by decide), Option.bind_some, show (4 : Int32) = nI 4 from rfl, show (7 : Int32) = nI 7 from rfl, pk_mul, nI_add, nI_add, m_sI hm (a := 75) (n := 156) (c := 4 + 7 * c + 6) (by decide) rfl rfl (by omega) (by decide), Option.bind_some, nI_1]
    · rw [iv_si, if_neg (show ¬ (4 + 7 * c + i ≤ x ∧ x < 4 + 7 * c + 6) by omega)]
      by_cases q : x = 4 + 7 * c + 6
      · rw [if_pos ⟨rfl, q⟩, if_pos q]
      · rw [if_neg (fun z => q z.2), if_neg q]
  | succ d ih =>
    intro i fu τ h1 h2 hm
    obtain ⟨fu, rfl⟩ : ∃ q, fu = q + 1 := ⟨fu - 1, by omega⟩
    obtain ⟨s1, e1⟩ : ∃ s, s = si τ 75 (4 + 7 * c + i) (iv τ 69 (6 * c + i)) := ⟨_, rfl⟩
    have r1 : RO 75 τ s1 := by rw [e1]; exact RO.si _ _ _ _
    obtain ⟨τ', f1, f2, f3⟩ := ih (i + 1) fu s1 (by omega) (by omega) (r1.wm hm)
    refine ⟨τ', ?_, r1.tr f2, fun x => ?_⟩
    · rw [f_X11_valley_84, if_neg (by rw [show (6 : Int32) = nI 6 from rfl]; exact nI_ge (by omega) (by decide)), m_g24 hm, Option.bind_some, m_g9 hm, Option.bind_some, show (6 : Int32) = nI 6 from rfl, pk_mul, nI_add, m_aI hm (a := 69) (n := 72) (c := 6 * c + i) (by decide) rfl rfl (by omega) (by decide), Option.bind_some, show (4 : Int32) = nI 4 from rfl, show (7 : Int32) = nI 7 from rfl, pk_mul, nI_add, nI_add, m_sI hm (a := 75) (n := 156) (c := 4 + 7 * c + i) (by decide) rfl rfl (by omega) (by decide), Option.bind_some, ← e1, nI_1]
      exact f1
    · rw [f3 x, r1.2.2 69 (by decide)]
      by_cases q : x = 4 + 7 * c + i
      · rw [if_neg (by omega), if_neg (by omega), if_pos (by omega), e1, iv_si, if_pos ⟨rfl, q⟩, show x - (4 + 7 * c) = i by omega]
      · by_cases q2 : 4 + 7 * c + (i + 1) ≤ x ∧ x < 4 + 7 * c + 6
        · rw [if_pos q2, if_pos (by omega)]
        · rw [if_neg q2, if_neg (show ¬ (4 + 7 * c + i ≤ x ∧ x < 4 + 7 * c + 6) by omega)]
          by_cases q3 : x = 4 + 7 * c + 6
          · rw [if_pos q3, if_pos q3]
          · rw [if_neg q3, if_neg q3, e1, iv_si, if_neg (fun z => q z.2)]
theorem v74 (hN : 500 ≤ N) {nc : Nat} (hnc : nc ≤ 12) : ∀ d c fu τ, c + d = nc → d < fu → WFm τ → iv τ 63 7 = nI nc → ∃ τ', f_X11_valley_74 N fu 63 (nI c) τ = f_X11_valley_153 N N 63 (0 : Int32) τ' ∧ RO 75 τ τ' ∧ ∀ x, iv τ' 75 x = if 4 + 7 * c ≤ x ∧ x < 4 + 7 * nc then iv τ 69 (6 * ((x - 4) / 7) + min ((x - 4) % 7) 5) else iv τ 75 x := by
  intro d
  induction d with
  | zero =>
    intro c fu τ h1 h2 hm h7
    obtain ⟨fu, rfl⟩ : ∃ q, fu = q + 1 := ⟨fu - 1, by omega⟩
    refine ⟨τ, ?_, RO.rf _ _, fun x => by rw [if_neg (by omega)]⟩
    rw [f_X11_valley_74, m_gI hm, Option.bind_some, h7, if_pos (nI_le (by omega) (by omega))]
  | succ d ih =>
    intro c fu τ h1 h2 hm h7
    obtain ⟨fu, rfl⟩ : ∃ q, fu = q + 1 := ⟨fu - 1, by omega⟩
    obtain ⟨s1, a1, a2, a3⟩ := v84 (N := N) (c := c) (by omega) (f_X11_valley_74 N fu) 6 0 N τ (by omega) (by omega) hm
    obtain ⟨τ', f1, f2, f3⟩ := ih (c + 1) fu s1 (by omega) (by omega) (a2.wm hm) (by rw [a2.2.2 63 (by decide)]; exact h7)
    refine ⟨τ', ?_, a2.tr f2, fun x => ?_⟩
    · rw [f_X11_valley_74, m_gI hm, Option.bind_some, h7, if_neg (nI_ge (by omega) (by omega)), show (0 : Int32) = nI 0 from rfl, a1]
      exact f1
    · rw [f3 x, a2.2.2 69 (by decide)]
      by_cases q : 4 + 7 * (c + 1) ≤ x ∧ x < 4 + 7 * nc
      · rw [if_pos q, if_pos (by omega)]
      · rw [if_neg q, a3 x]
        by_cases q2 : 4 + 7 * c + 0 ≤ x ∧ x < 4 + 7 * c + 6
        · rw [if_pos q2, if_pos (by omega), show (x - 4) / 7 = c by omega, show min ((x - 4) % 7) 5 = x - (4 + 7 * c) by omega]
        · rw [if_neg q2]
          by_cases q3 : x = 4 + 7 * c + 6
          · rw [if_pos q3, if_pos (by omega), show (x - 4) / 7 = c by omega, show min ((x - 4) % 7) 5 = 5 by omega]
          · rw [if_neg q3, if_neg (by omega)]
theorem v163 {u : Nat} (hu : u < 12) (r : Nat → Int32 → Mm → Option (Int32 × Mm)) : ∀ d i fu τ, i + d = 2 → d < fu → WFm τ → ∃ τ', f_X11_valley_163 N r fu 63 (nI u) (nI i) τ = r 63 (nI (u + 1)) τ' ∧ RO 75 τ τ' ∧ ∀ x, iv τ' 75 x = if 88 + 3 * u + i ≤ x ∧ x < 88 + 3 * u + 2 then iv τ 70 (2 * u + (x - (88 + 3 * u))) else if x = 88 + 3 * u + 2 then 0 else iv τ 75 x := by
  intro d
  induction d with
  | zero =>
    intro i fu τ h1 h2 hm
    obtain ⟨fu, rfl⟩ : ∃ q, fu = q + 1 := ⟨fu - 1, by omega⟩
    refine ⟨si τ 75 (88 + 3 * u + 2) 0, ?_, RO.si _ _ _ _, fun x => ?_⟩
    · rw [f_X11_valley_163, if_pos (by rw [show (2 : Int32) = nI 2 from rfl]; exact nI_le (by omega) (by omega)), m_g24 hm, Option.bind_some, show (88 : Int32) = nI 88 from rfl, show (3 : Int32) = nI 3 from rfl, pk_mul, nI_add, show (2 : Int32) = nI 2 from rfl, nI_add, m_sI hm (a := 75) (n := 156) (c := 88 + 3 * u + 2) (by decide) rfl rfl (by omega) (by decide), Option.bind_some, nI_1]
    · rw [iv_si, if_neg (show ¬ (88 + 3 * u + i ≤ x ∧ x < 88 + 3 * u + 2) by omega)]
      by_cases q : x = 88 + 3 * u + 2
      · rw [if_pos ⟨rfl, q⟩, if_pos q]
      · rw [if_neg (fun z => q z.2), if_neg q]
  | succ d ih =>
    intro i fu τ h1 h2 hm
    obtain ⟨fu, rfl⟩ : ∃ q, fu = q + 1 := ⟨fu - 1, by omega⟩
    obtain ⟨s1, e1⟩ : ∃ s, s = si τ 75 (88 + 3 * u + i) (iv τ 70 (2 * u + i)) := ⟨_, rfl⟩
    have r1 : RO 75 τ s1 := by rw [e1]; exact RO.si _ _ _ _
    obtain ⟨τ', f1, f2, f3⟩ := ih (i + 1) fu s1 (by omega) (by omega) (r1.wm hm)
    refine ⟨τ', ?_, r1.tr f2, fun x => ?_⟩
    · rw [f_X11_valley_163, if_neg (by rw [show (2 : Int32) = nI 2 from rfl]; exact nI_ge (by omega) (by decide)), m_g24 hm, Option.bind_some, m_g10 hm, Option.bind_some, show (2 : Int32) = nI 2 from rfl, pk_mul, nI_add, m_aI hm (a := 70) (n := 24) (c := 2 * u + i) (by decide) rfl rfl (by omega) (by decide), Option.bind_some, show (88 : Int32) = nI 88 from rfl, show (3 : Int32) = nI 3 from rfl, pk_mul, nI_add, nI_add, m_sI hm (a := 75) (n := 156) (c := 88 + 3 * u + i) (by decide) rfl rfl (by omega) (by decide), Option.bind_some, ← e1, nI_1]
      exact f1
    · rw [f3 x, r1.2.2 70 (by decide)]
      by_cases q : x = 88 + 3 * u + i
      · rw [if_neg (by omega), if_neg (by omega), if_pos (by omega), e1, iv_si, if_pos ⟨rfl, q⟩, show x - (88 + 3 * u) = i by omega]
      · by_cases q2 : 88 + 3 * u + (i + 1) ≤ x ∧ x < 88 + 3 * u + 2
        · rw [if_pos q2, if_pos (by omega)]
        · rw [if_neg q2, if_neg (show ¬ (88 + 3 * u + i ≤ x ∧ x < 88 + 3 * u + 2) by omega)]
          by_cases q3 : x = 88 + 3 * u + 2
          · rw [if_pos q3, if_pos q3]
          · rw [if_neg q3, if_neg q3, e1, iv_si, if_neg (fun z => q z.2)]
theorem v153 (hN : 500 ≤ N) {nt : Nat} (hnt : nt ≤ 12) : ∀ d u fu τ, u + d = nt → d < fu → WFm τ → iv τ 63 8 = nI nt → ∃ τ', f_X11_valley_153 N fu 63 (nI u) τ = f_X11_valley_219 N N 63 (0 : Int32) τ' ∧ RO 75 τ τ' ∧ ∀ x, iv τ' 75 x = if 88 + 3 * u ≤ x ∧ x < 88 + 3 * nt then (if (x - 88) % 3 = 2 then 0 else iv τ 70 (2 * ((x - 88) / 3) + (x - 88) % 3)) else iv τ 75 x := by
  intro d
  induction d with
  | zero =>
    intro u fu τ h1 h2 hm h7
    obtain ⟨fu, rfl⟩ : ∃ q, fu = q + 1 := ⟨fu - 1, by omega⟩
    refine ⟨τ, ?_, RO.rf _ _, fun x => by rw [if_neg (by omega)]⟩
    rw [f_X11_valley_153, m_gI hm, Option.bind_some, h7, if_pos (nI_le (by omega) (by omega))]
  | succ d ih =>
    intro u fu τ h1 h2 hm h7
    obtain ⟨fu, rfl⟩ : ∃ q, fu = q + 1 := ⟨fu - 1, by omega⟩
    obtain ⟨s1, a1, a2, a3⟩ := v163 (N := N) (u := u) (by omega) (f_X11_valley_153 N fu) 2 0 N τ (by omega) (by omega) hm
    obtain ⟨τ', f1, f2, f3⟩ := ih (u + 1) fu s1 (by omega) (by omega) (a2.wm hm) (by rw [a2.2.2 63 (by decide)]; exact h7)
    refine ⟨τ', ?_, a2.tr f2, fun x => ?_⟩
    · rw [f_X11_valley_153, m_gI hm, Option.bind_some, h7, if_neg (nI_ge (by omega) (by omega)), show (0 : Int32) = nI 0 from rfl, a1]
      exact f1
    · rw [f3 x, a2.2.2 70 (by decide)]
      by_cases q : 88 + 3 * (u + 1) ≤ x ∧ x < 88 + 3 * nt
      · rw [if_pos q, if_pos (show 88 + 3 * u ≤ x ∧ x < 88 + 3 * nt by omega)]
      · rw [if_neg q, a3 x]
        by_cases q2 : 88 + 3 * u + 0 ≤ x ∧ x < 88 + 3 * u + 2
        · rw [if_pos q2, if_pos (by omega), if_neg (by omega), show (x - 88) / 3 = u by omega, show (x - 88) % 3 = x - (88 + 3 * u) by omega]
        · rw [if_neg q2]
          by_cases q3 : x = 88 + 3 * u + 2
          · rw [if_pos q3, if_pos (by omega), if_pos (by omega)]
          · rw [if_neg q3, if_neg (by omega)]
theorem v219 : ∀ d j fu τ, j + d = 32 → d < fu → WFm τ → ∃ τ', f_X11_valley_219 N fu 63 (nI j) τ = some (iv τ 63 7, τ') ∧ RO 75 τ τ' ∧ ∀ x, iv τ' 75 x = if 124 + j ≤ x ∧ x < 156 then iv τ 71 (x - 124) else iv τ 75 x := by
  intro d
  induction d with
  | zero =>
    intro j fu τ h1 h2 hm
    obtain ⟨fu, rfl⟩ : ∃ q, fu = q + 1 := ⟨fu - 1, by omega⟩
    refine ⟨τ, ?_, RO.rf _ _, fun x => by rw [if_neg (by omega)]⟩
    rw [f_X11_valley_219, if_pos (by rw [show (32 : Int32) = nI 32 from rfl]; exact nI_le (by omega) (by omega)), m_gI hm, Option.bind_some]
  | succ d ih =>
    intro j fu τ h1 h2 hm
    obtain ⟨fu, rfl⟩ : ∃ q, fu = q + 1 := ⟨fu - 1, by omega⟩
    obtain ⟨s1, e1⟩ : ∃ s, s = si τ 75 (124 + j) (iv τ 71 j) := ⟨_, rfl⟩
    have r1 : RO 75 τ s1 := by rw [e1]; exact RO.si _ _ _ _
    obtain ⟨τ', f1, f2, f3⟩ := ih (j + 1) fu s1 (by omega) (by omega) (r1.wm hm)
    refine ⟨τ', ?_, r1.tr f2, fun x => ?_⟩
    · rw [f_X11_valley_219, if_neg (by rw [show (32 : Int32) = nI 32 from rfl]; exact nI_ge (by omega) (by decide)), m_g24 hm, Option.bind_some, m_g11 hm, Option.bind_some, m_aI hm (a := 71) (n := 32) (c := j) (by decide) rfl rfl (by omega) (by decide), Option.bind_some, show (124 : Int32) = nI 124 from rfl, nI_add, m_sI hm (a := 75) (n := 156) (c := 124 + j) (by decide) rfl rfl (by omega) (by decide), Option.bind_some, ← e1, nI_1, f1, r1.2.2 63 (by decide)]
    · rw [f3 x, r1.2.2 71 (by decide)]
      by_cases q : x = 124 + j
      · rw [if_neg (by omega), if_pos (by omega), e1, iv_si, if_pos ⟨rfl, q⟩, show x - 124 = j by omega]
      · by_cases q2 : 124 + (j + 1) ≤ x ∧ x < 156
        · rw [if_pos q2, if_pos (by omega)]
        · rw [if_neg q2, if_neg (by omega), e1, iv_si, if_neg (fun z => q z.2)]
end VU
