/-! both read a LAW: sums -/
section LS
variable {N : Nat} {b : Nat → Nat} {t n w : Nat}
theorem gN81 {σ : Mm} {k p : Nat} {c : List Int32} (h : LC σ b t n w k p c) : gN 3 1 σ 8 = some 83 := by
  unfold gN
  rw [if_pos ⟨pp_lt (by have := h.1.1.1; omega) h.1.1.1, rfl⟩]
  exact h.2.1
theorem lfail {σ : Mm} {k p f : Nat} {c : List Int32} (hb : TP b t) (h : LC σ b t n w k p c) (hf : f ≤ 7) : f_X6_fails N 3 (nI f) σ = some (0, si σ 3 5 (flt (pl b t k) f)) ∧ RS (lwL w) σ (si σ 3 5 (flt (pl b t k) f)) ∧ iv (si σ 3 5 (flt (pl b t k) f)) 3 5 = flt (pl b t k) f ∧ ¬ flt (pl b t k) f = 0 := by
  have := plt hb h.1
  have := hb.1
  exact ⟨e_tfail hb h.1.1 h.1.2.1 h.1.2.2.1 h.1.2.2.2, rsL (by omega), by rw [iv_si, if_pos ⟨rfl, rfl⟩], flt_ne (by omega) hf⟩
theorem e_lval (hN : 500 ≤ N) (hb : TP b t) (hw : w < 6) {σ τ : Mm} {k p : Nat} {cC : List Int32} {cM : List Nat} (hp60 : p ≤ 60) (hC : LC σ b t n w k p cC) (hM : LM τ b t w k p cM) (hl : cC.length < 400) (hl2 : cM.length < 400) :
    FLw w σ τ (f_X3_readsValue N 8 σ) (f_X11_value N 63 τ) ∨ ∃ v σ' τ', vT v ∧ p < 60 ∧ k < n ∧ f_X3_readsValue N 8 σ = some (1, σ') ∧ f_X11_value N 63 τ = some (1, τ') ∧ RS (lwL w) σ σ' ∧ VF w τ τ' ∧ LC σ' b t n w (k + 1) (p + 1) (cC ++ [clT v]) ∧ LM τ' b t w (k + 1) (p + 1) (cM ++ [v]) := by
  have hc := hC.1.1
  obtain ⟨q, hq⟩ : ∃ q, q = pl b t k := ⟨_, rfl⟩
  obtain ⟨pt1, pt2, pt3, pt4, pt5⟩ := plt hb hC.1
  rw [← hq] at pt1 pt2 pt3 pt4
  have kind := e_kind (N := N) hb hc hC.1.2.1 hC.1.2.2.1 hC.1.2.2.2
  have tval := e_tval (N := N) hb hc hC.1.2.1 hC.1.2.2.1 hC.1.2.2.2
  rw [← hq] at kind tval
  have k40 := tK_31 b t q
  obtain ⟨⟨m1, m2, m3, x, x1, x2, x3⟩, hM2⟩ := hM
  have see : f_X11_see N 63 τ = some (seen b t q, ps' τ q) := by rw [e_see hN hb x1 m1 m2 x2, x3, ← hq]
  have hMq : LM (ps' τ q) b t w k p cM := LM.at hb ⟨⟨m1, m2, m3, x, x1, x2, x3⟩, hM2⟩ pt1 (by rw [pt4, hq])
  have mq := hMq.1.1
  have Tq := hMq.1.2.1
  have h4 := hb.1
  have vq : VF w τ (ps' τ q) := VF.fld (Or.inl rfl)
  have head : f_X11_value N 63 τ = if bi (dg (b q) = true) = 0 then ((f_X11_wordHere N 63 (ps' τ q)).bind fun q6 =>
    if 0 ≤ q6.1 then (
      (ob 11 q6.2 63).bind fun _ =>
      (f_X11_makes N 63 (nI q) q6.2).bind fun q8 =>
      if q8.1 = 0 then (
        some ((0 : Int32), q8.2)) else (
        (ob 11 q8.2 63).bind fun _ =>
        (f_X11_passWord N 63 q8.2).bind fun q10 =>
        (ob 11 q10 63).bind fun _ =>
        (f_X11_puts N 63 (1 : Int32) q6.1 q10).bind fun q11 =>
        some ((1 : Int32), q11))) else (
      (ob 11 q6.2 63).bind fun _ =>
      (f_X11_fails N 63 (0 : Int32) (nI q) q6.2).bind fun q12 =>
      if q12.1 = 0 ∨ q12.1 = 1 then some (q12.1, q12.2) else none)) else (
    (f_X11_numberHere N 63 (0 : Int32) (99999 : Int32) (ps' τ q)).bind fun q13 =>
    if q13.1 = 0 then (
      some (0, q13.2)) else (
      (ob 11 q13.2 63).bind fun _ =>
      (f_X11_makes N 63 (nI q) q13.2).bind fun q15 =>
      if q15.1 = 0 then (
        some (0, q15.2)) else (
        (gI 11 14 q15.2 63).bind fun x17 =>
        (ob 11 q15.2 63).bind fun _ =>
        (f_X11_puts N 63 (0 : Int32) x17 q15.2).bind fun q18 =>
        some ((1 : Int32), q18)))) := by
    unfold f_X11_value f_X11_value_39
    rw [m_ob m1, Option.bind_some, see, Option.bind_some]
    simp only []
    rw [m_gI mq, Option.bind_some, iv_ps, Option.bind_some, m_ob mq, Option.bind_some, e_mDg hb mq Tq (by omega), Option.bind_some]
    by_cases y : bi (dg (b q) = true) = 0
    · rw [if_pos y, if_pos y]; simp only []; rw [m_ob mq, Option.bind_some]
    · rw [if_neg y, if_neg y]; simp only []; rw [m_ob mq, Option.bind_some]
  have c35 : f_X3_readsValue_35 N 8 σ = f_X6_fails N 3 (nI 0) σ := by
    rw [f_X3_readsValue_35, k_8_0 hc, Option.bind_some, k_o3 hc, Option.bind_some, show (0 : Int32) = nI 0 from rfl, (lfail (N := N) hb hC (show 0 ≤ 7 by decide)).1, Option.bind_some]
    rfl
  have c67f : ∀ l1 l2 : Int32, p = 60 → f_X3_readsValue_67 N 8 l1 l2 σ = f_X6_fails N 3 (nI 3) σ := by
    intro l1 l2 e
    rw [f_X3_readsValue_67, k_i8 hc, Option.bind_some, hC.2.2.1, if_neg (show ¬ nI p < 60 by rw [e]; decide), k_8_0 hc, Option.bind_some, k_o3 hc, Option.bind_some, show (3 : Int32) = nI 3 from rfl, (lfail (N := N) hb hC (show 3 ≤ 7 by decide)).1, Option.bind_some]
    rfl
  obtain ⟨s1, e1⟩ : ∃ s, s = si σ 8 2 (nI (p + 1)) := ⟨_, rfl⟩
  have hC1 : LC s1 b t n w k (p + 1) cC := by
    rw [e1]
    refine ⟨hC.1.fr (l := [8]) ((RO.si _ _ _ _).rs (by decide)) (by decide), hC.2.1, by rw [iv_si, if_pos ⟨rfl, rfl⟩], by rw [iv_row _ _ _ (by omega)]; exact hC.2.2.2.1, by rw [iv_row _ _ _ (by omega)]; exact hC.2.2.2.2⟩
  have r1 : RS (lwL w) σ s1 := by rw [e1]; exact rsL (by omega)
  have c67 : ∀ (l1 l2 : Int32) (v : Nat), p < 60 → k < n → ((l2 = 0 ∧ -l1 = clT v) ∨ (¬ l2 = 0 ∧ tV b t q = clT v)) → ∃ σ', f_X3_readsValue_67 N 8 l1 l2 σ = some (1, σ') ∧ RS (lwL w) σ σ' ∧ LC σ' b t n w (k + 1) (p + 1) (cC ++ [clT v]) := by
    intro l1 l2 v hp hk hv
    obtain ⟨s2, f1, f2, f3⟩ := e_ladd (N := N) (x := clT v) hw hC1 hl
    refine ⟨si s2 3 4 (nI (k + 1)), ?_, r1.tr (f2.tr (rsL (by omega))), f3.skip hk⟩
    have c115 : f_X3_readsValue_115 N 8 83 (clT v) s1 = some (1, si s2 3 4 (nI (k + 1))) := by
      rw [f_X3_readsValue_115, k_o83 hC1.1.1, Option.bind_some, f1, Option.bind_some, k_8_0 f3.1.1, Option.bind_some, k_o3 f3.1.1, Option.bind_some, e_skip f3.1.1 f3.1.2.2.1, Option.bind_some]
    rw [f_X3_readsValue_67, k_i8 hc, Option.bind_some, hC.2.2.1, if_pos (show nI p < 60 by rw [show (60 : Int32) = nI 60 from rfl]; exact nI_lt hp (by decide)), Option.bind_some, nI_1, k_p8 hc, Option.bind_some, ← e1, gN81 hC1, Option.bind_some]
    rcases hv with ⟨a1, a2⟩ | ⟨a1, a2⟩
    · rw [if_pos a1, a2, c115]
    · have tv1 := e_tval (N := N) hb hC1.1.1 hC1.1.2.1 hC1.1.2.2.1 hC1.1.2.2.2
      rw [← hq] at tv1
      rw [if_neg a1, k_8_0 hC1.1.1, Option.bind_some, k_o3 hC1.1.1, Option.bind_some, tv1, Option.bind_some, a2, c115]
  have FF : ∀ (f : Nat) (rc rm : Option (Int32 × Mm)) (τ' : Mm), f ≤ 7 → rc = f_X6_fails N 3 (nI f) σ → rm = some (0, τ') → VF w τ τ' → iv τ' 63 13 = flt q f → FLw w σ τ rc rm := by
    intro f rc rm τ' hf a1 a2 a3 a4
    obtain ⟨g1, g2, g3, g4⟩ := lfail (N := N) hb hC hf
    rw [← hq] at g1 g2 g3 g4
    exact ⟨_, τ', flt q f, a1.trans g1, a2, g2, a3, g3, a4, g4⟩
  by_cases d : dg (b q) = true
  · -- a number
    have hqt : q < t := (rE_y dg0 hb d).2
    have K3 : tK b t q = 3 := by rw [tK_lt hqt, d, if_pos rfl]
    have ch : f_X3_readsValue N 8 σ = if 0 ≤ tV b t q then f_X3_readsValue_67 N 8 (nI (tK b t q)) (1 : Int32) σ else f_X6_fails N 3 (nI 1) σ := by
      unfold f_X3_readsValue
      rw [k_8_0 hc, Option.bind_some, k_o3 hc, Option.bind_some, kind, Option.bind_some, if_pos (show nI (tK b t q) = 3 by rw [K3]; rfl), f_X3_readsValue_18, if_neg z1, f_X3_readsValue_44, if_neg z1, k_8_0 hc, Option.bind_some, k_o3 hc, Option.bind_some, tval, Option.bind_some]
      by_cases y : 0 ≤ tV b t q
      · rw [if_pos y, if_pos y]
      · rw [if_neg y, if_neg y, k_8_0 hc, Option.bind_some, k_o3 hc, Option.bind_some, show (1 : Int32) = nI 1 from rfl, (lfail (N := N) hb hC (show 1 ≤ 7 by decide)).1, Option.bind_some]
        rfl
    obtain ⟨e1', e2', e3'⟩ := e_mnum (N := N) hN hb (τ := ps' τ q) (x := q) (h := 99999) (by decide) pt1 mq Tq (iv_ps _ _) hMq.1.2.2.1
    rw [pt4] at e1' e2' e3'
    rw [head, bi_y d, if_neg z1, ch]
    rcases tV_b hb q with tv | ⟨v, hv, tv⟩
    · left
      obtain ⟨τ', f1, f2, f3⟩ := e2' K3 (Or.inl (by rw [tv]; decide))
      rw [if_neg (show ¬ 0 ≤ tV b t q by rw [tv]; decide)]
      refine FF 1 _ _ τ' (by decide) rfl ?_ (vq.tr (f2.mono (by decide)).vf) f3
      rw [show f_X11_numberHere N 63 (0 : Int32) (99999 : Int32) (ps' τ q) = some (0, τ') from f1, Option.bind_some, if_pos rfl]
    · obtain ⟨u, τ', f0, f1, f2, f3, f4, f5⟩ := e3' K3 (by rw [tv]; exact nI_pos (by omega)) (by rw [tv, nI_ltI (by decide) (by omega)]; omega)
      rw [if_pos (show 0 ≤ tV b t q by rw [tv]; exact nI_pos' (by omega)), show f_X11_numberHere N 63 (0 : Int32) (99999 : Int32) (ps' τ q) = some (1, τ') from f2, Option.bind_some, if_neg z1]
      have lt1 := tE_sp hb hqt
      have hM' : LM τ' b t w (k + 1) p cM := by
        refine ⟨⟨f3.wm mq, f3.mt (by decide) Tq, by rw [f3.2.2.2 13 (by decide)]; exact hMq.1.2.2.1, tE b t q, lt1.2, f5, by rw [hq]; rfl⟩, ?_, ?_, ?_, ?_⟩
        · rw [f3.2.2.2 15 (by decide)]; exact hMq.2.1
        · rw [f3.2.2.2 16 (by decide)]; exact hMq.2.2.1
        · rw [f3.2.2.1 66 (by decide)]; exact hMq.2.2.2.1
        · rw [f3.2.2.1 65 (by decide)]; exact hMq.2.2.2.2
      have vw : VF w τ τ' := vq.tr (f3.mono (l' := [12, 13, 14, 16]) (by decide)).vf
      obtain ⟨mk1, mk2⟩ := e_makes (N := N) (q := q) hM' hp60
      by_cases p60 : p = 60
      · left
        rw [c67f _ _ p60, m_ob hM'.1.1, Option.bind_some, mk1 p60, Option.bind_some, if_pos rfl]
        exact FF 3 _ _ _ (by decide) rfl rfl (vw.tr (VF.fld (by decide))) (by rw [iv_si, if_pos ⟨rfl, rfl⟩])
      · right
        obtain ⟨mk3, mk4⟩ := mk2 (by omega)
        obtain ⟨τ2, g1, g2, g3⟩ := e_puts (N := N) (x := 0) (y := u) hw mk4 hl2
        obtain ⟨σ', h1, h2, h3⟩ := c67 (nI (tK b t q)) 1 (16 * u) (by omega) (pt2 hqt) (Or.inr ⟨z1, by rw [f1, clT_v]⟩)
        rw [Nat.zero_add] at g3
        refine ⟨16 * u, σ', τ2, ⟨⟨by omega, by omega, by omega⟩, by omega⟩, by omega, pt2 hqt, h1, ?_, h2, vw.tr ((VF.fld (by decide)).tr g2), h3, g3⟩
        rw [m_ob hM'.1.1, Option.bind_some, mk3, Option.bind_some, if_neg z1, m_gI mk4.1.1, Option.bind_some, show iv (1, si τ' 63 16 (nI (p + 1))).2 63 14 = nI u from by
          show iv (si τ' 63 16 (nI (p + 1))) 63 14 = nI u
          rw [iv_si, if_neg (by decide)]; exact f4, m_ob mk4.1.1, Option.bind_some, show f_X11_puts N 63 (0 : Int32) (nI u) (si τ' 63 16 (nI (p + 1))) = some τ2 from g1, Option.bind_some]
  · -- a word
    have wh := e_wordHere (N := N) hN hb pt1 pt4 mq Tq (iv_ps _ _)
    have nk3 : ¬ tK b t q = 3 := by
      intro h
      by_cases y : q < t
      · rw [tK_lt y, if_neg d] at h
        cases l : lt' (b q)
        · rw [l] at h
          simp only [Bool.false_eq_true, if_false] at h
          have sk : ∀ x, sK x ≠ 3 := by intro x; unfold sK; (repeat' split) <;> omega
          cases wq : wd' b q
          · rw [wq] at h; exact sk _ h
          · rw [wq] at h
            have hw' : b q = 60 ∨ b q = 62 := by
              unfold wd' at wq
              simp only [Bool.and_eq_true, Bool.or_eq_true, decide_eq_true_eq] at wq
              exact wq.1
            rcases hw' with y | y
            · rw [y] at h; simp [sK] at h
            · rw [y] at h; simp [sK] at h
        · rw [l] at h
          have := kw_rg (ac (fun i => b (q + i)) (lE b t q - q))
          have h : kwL (ac (fun i => b (q + i)) (lE b t q - q)) 0 16 = 3 := h
          omega
      · rw [(tK_1 hb).2 (by omega)] at h; omega
    have ch : f_X3_readsValue N 8 σ = if 25 ≤ tK b t q ∧ tK b t q ≤ 33 then f_X3_readsValue_67 N 8 (nI (tK b t q)) (0 : Int32) σ else f_X6_fails N 3 (nI 0) σ := by
      unfold f_X3_readsValue
      rw [k_8_0 hc, Option.bind_some, k_o3 hc, Option.bind_some, kind, Option.bind_some, if_neg (show ¬ nI (tK b t q) = 3 from nIk (by omega) (by decide) nk3), f_X3_readsValue_18, if_pos rfl]
      by_cases y1 : tK b t q < 25
      · rw [if_pos (show nI (tK b t q) < 25 by rw [show (25 : Int32) = nI 25 from rfl]; exact nI_lt y1 (by decide)), if_neg (by omega), c35]
      · rw [if_neg (show ¬ nI (tK b t q) < 25 by rw [show (25 : Int32) = nI 25 from rfl, nI_ltI (by omega) (by decide)]; exact y1)]
        by_cases y2 : tK b t q ≤ 33
        · rw [if_pos (show nI (tK b t q) ≤ 33 by rw [show (33 : Int32) = nI 33 from rfl]; exact nI_le y2 (by decide)), if_pos (by omega), f_X3_readsValue_44, if_pos rfl]
        · rw [if_neg (show ¬ nI (tK b t q) ≤ 33 by rw [show (33 : Int32) = nI 33 from rfl]; exact nI_ge (by omega) (by omega)), if_neg (by omega), c35]
    rw [head, bi_n d, if_pos rfl, wh, Option.bind_some, ch]
    by_cases K : 25 ≤ tK b t q ∧ tK b t q ≤ 33
    · rw [if_pos K, if_pos K, if_pos (show 0 ≤ nI (tK b t q - 25) from nI_pos' (by omega)), m_ob mq, Option.bind_some]
      have hwd := tK_wd hb (p := q) (by omega)
      have hqt := hwd.1
      obtain ⟨mk1, mk2⟩ := e_makes (N := N) (q := q) hMq hp60
      by_cases p60 : p = 60
      · left
        rw [c67f _ _ p60, mk1 p60, Option.bind_some, if_pos rfl]
        exact FF 3 _ _ _ (by decide) rfl rfl (vq.tr (VF.fld (by decide))) (by rw [iv_si, if_pos ⟨rfl, rfl⟩])
      · right
        obtain ⟨mk3, mk4⟩ := mk2 (by omega)
        have pos2 : iv (si (ps' τ q) 63 16 (nI (p + 1))) 63 12 = nI q := by rw [iv_si, if_neg (by decide)]; exact iv_ps _ _
        have pw := e_pass (N := N) hN hb pt1 mk4.1.1 mk4.1.2.1 pos2
        have hM3 : LM (ps' (si (ps' τ q) 63 16 (nI (p + 1))) (lE b t q)) b t w (k + 1) (p + 1) cM := LM.at hb mk4 (by rw [← hwd.2.2]; exact (tE_sp hb hqt).2) (by rw [← hwd.2.2, hq]; rfl)
        obtain ⟨τ2, g1, g2, g3⟩ := e_puts (N := N) (x := 1) (y := tK b t q - 25) hw hM3 hl2
        obtain ⟨σ', h1, h2, h3⟩ := c67 (nI (tK b t q)) 0 (1 + 16 * (tK b t q - 25)) (by omega) (pt2 hqt) (Or.inl ⟨rfl, by rw [clT_w, show 25 + (tK b t q - 25) = tK b t q by omega]⟩)
        refine ⟨1 + 16 * (tK b t q - 25), σ', τ2, ⟨⟨by omega, by omega, by omega⟩, by omega⟩, by omega, pt2 hqt, h1, ?_, h2, vq.tr ((VF.fld (by decide)).tr ((VF.fld (by decide)).tr g2)), h3, g3⟩
        rw [mk3, Option.bind_some, if_neg z1, m_ob mk4.1.1, Option.bind_some, pw, Option.bind_some, m_ob hM3.1.1, Option.bind_some, show f_X11_puts N 63 (1 : Int32) (nI (tK b t q - 25)) (ps' (si (ps' τ q) 63 16 (nI (p + 1))) (lE b t q)) = some τ2 from g1, Option.bind_some]
    · left
      rw [if_neg K, if_neg K, if_neg (show ¬ (0 : Int32) ≤ -1 by decide), m_ob mq, Option.bind_some, show f_X11_fails N 63 (0 : Int32) (nI q) (ps' τ q) = some (0, si (ps' τ q) 63 13 (flt q 0)) from e_mfail mq hMq.1.2.2.1, Option.bind_some]
      exact FF 0 _ _ (si (ps' τ q) 63 13 (flt q 0)) (by decide) rfl rfl (vq.tr (VF.fld (by decide))) (by rw [iv_si, if_pos ⟨rfl, rfl⟩])
end LS
