/-! a VALLEY is told -/
section VT
variable {N : Nat} {b : Nat → Nat} {t n : Nat}
theorem tK_31 (b : Nat → Nat) (t p : Nat) : tK b t p < 40 := by
  unfold tK
  have sk : ∀ x, sK x ≤ 15 := by intro x; unfold sK; (repeat' split) <;> omega
  have := sk (b p)
  have := kw_rg (ac (fun i => b (p + i)) (lE b t p - p))
  have e : wK b t p = kwL (ac (fun i => b (p + i)) (lE b t p - p)) 0 16 := rfl
  repeat' split
  all_goals omega
theorem ps_id {τ : Mm} {p : Nat} (h : iv τ 63 12 = nI p) : ps' τ p = τ := si_self h
theorem wordAt (hN : 500 ≤ N) (hb : TP b t) {τ : Mm} {p j : Nat} {w : Int64} (hw : w = lN (wp j)) (hj : j < 16) (hp : p ≤ t) (hs : skp b t p = p) (hm : WFm τ) (hT : MT τ b t) (hpos : iv τ 63 12 = nI p) : f_X11_isWord N 63 w τ = some (bi (tK b t p = 20 + j), τ) := by
  rw [e_mword hN hb hw hj hp hm hT hpos, hs, ps_id hpos]
theorem passAt (hN : 500 ≤ N) (hb : TP b t) {τ : Mm} {k p : Nat} (hp : p ≤ t) (hpl : p = pl b t k) (hm : RDm τ b t k) (hpos : iv τ 63 12 = nI p) (hk : 20 ≤ tK b t p) : f_X11_passWord N 63 τ = some (ps' τ (tE b t p)) ∧ RDm (ps' τ (tE b t p)) b t (k + 1) := by
  obtain ⟨h1, h2, h3⟩ := tK_wd hb hk
  refine ⟨?_, ?_⟩
  · rw [e_pass hN hb hp hm.1 hm.2.1 hpos, h3]
  · exact hm.to hb (tE_sp hb h1).2 (by rw [hpl]; rfl)
theorem failC {σ : Mm} {k w : Nat} (hb : TP b t) (h : RDc σ b t n k) (hw : w ≤ 7) : (f_X6_fails N 3 (nI w) σ) = some (0, si σ 3 5 (flt (pl b t k) w)) ∧ RS vL σ (si σ 3 5 (flt (pl b t k) w)) ∧ iv (si σ 3 5 (flt (pl b t k) w)) 3 5 = flt (pl b t k) w ∧ ¬ flt (pl b t k) w = 0 := by
  have := plt hb h
  have := hb.1
  exact ⟨e_tfail hb h.1 h.2.1 h.2.2.1 h.2.2.2, (RO.si 3 _ _ _).rs (by decide), by rw [iv_si, if_pos ⟨rfl, rfl⟩], flt_ne (by omega) hw⟩
theorem clauseV (hN : 500 ≤ N) (hb : TP b t) {σ τ : Mm} {k c nc nt : Nat} (hc40 : c ≤ 40) (hc : RDc σ b t n k) (hm : RDm τ b t k) (hD : DR σ τ nc nt) (h15 : iv τ 63 15 = nI 6) (h18 : iv τ 63 18 = nI c) : FV vL σ τ (f_X8_readsClause N 7 20 (nI c) σ) (f_X11_clauseHere N 63 τ) ∨ (c < 40 ∧ ∃ σ' τ' k' nc' nt', f_X8_readsClause N 7 20 (nI c) σ = some (1, σ') ∧ f_X11_clauseHere N 63 τ = some (1, τ') ∧ RS vL σ σ' ∧ GF τ τ' ∧ iv τ' 63 18 = nI (c + 1) ∧ k < k' ∧ RDc σ' b t n k' ∧ RDm τ' b t k' ∧ DR σ' τ' nc' nt') := by
  obtain ⟨p, hp⟩ : ∃ p, p = pl b t k := ⟨_, rfl⟩
  obtain ⟨pt1, pt2, pt3, pt4, pt5⟩ := plt hb hc
  rw [← hp] at pt1 pt2 pt3 pt4
  obtain ⟨tp, htp⟩ : ∃ s, s = ps' τ p := ⟨_, rfl⟩
  have hmp : RDm tp b t k := by rw [htp]; exact hm.at hb pt1 (by rw [pt4, hp])
  have pos : iv tp 63 12 = nI p := by rw [htp]; exact iv_ps _ _
  have gp : GF τ tp := by rw [htp]; exact GF.fld (by decide)
  have i15 : iv tp 63 15 = nI 6 := by rw [gp.2.2.2 15 (by decide)]; exact h15
  have i18 : iv tp 63 18 = nI c := by rw [htp, iv_si, if_neg (by decide)]; exact h18
  have i7 : iv tp 63 7 = nI nc := by rw [htp, iv_si, if_neg (by decide)]; exact hD.2.2.2.2.2.1
  have i8' : iv tp 63 8 = nI nt := by rw [htp, iv_si, if_neg (by decide)]; exact hD.2.2.2.2.2.2.1
  have hDp : DR σ tp nc nt := hD.fr (fun _ _ _ => rfl) (gp.2.2.1 69 (by decide) |> fun _ => by rw [htp, iv_row _ _ _ (by decide)]) (by rw [htp, iv_row _ _ _ (by decide)]) (by rw [htp, iv_row _ _ _ (by decide)]) (by rw [htp, iv_si, if_neg (by decide)]) (by rw [htp, iv_si, if_neg (by decide)])
  obtain ⟨m1, m2, m3, x, x1, x2, x3⟩ := hm
  have see : f_X11_see N 63 τ = some (seen b t p, tp) := by rw [e_see hN hb x1 m1 m2 x2, x3, ← hp, htp]
  have wA : ∀ {w : Int64} {j : Nat}, w = lN (wp j) → j < 16 → f_X11_isWord N 63 w tp = some (bi (tK b t p = 20 + j), tp) := fun hw hj => wordAt hN hb hw hj pt1 pt4 hmp.1 hmp.2.1 pos
  have kind := e_kind (N := N) hb hc.1 hc.2.1 hc.2.2.1 hc.2.2.2
  rw [← hp] at kind
  have k40 := tK_31 b t p
  have d20 : VW σ 20 := hc.1.2.2.2
  have i13 : iv tp 63 13 = 0 := hmp.2.2.1
  -- the model's head
  have mh : f_X11_clauseHere N 63 τ = f_X11_clauseHere_24 N 63 (nI p) (1 : Int32) tp := by
    unfold f_X11_clauseHere
    rw [m_ob m1, Option.bind_some, see, Option.bind_some]
    simp only []
    rw [m_gI hmp.1, Option.bind_some, pos, m_gI hmp.1, Option.bind_some, i15, if_pos (show nI 6 = 6 from rfl)]
  have ch : f_X8_readsClause N 7 20 (nI c) σ = if tK b t p = 25 then f_X8_readsClause_19 N 7 20 (nI c) (nI (tK b t p)) (1 : Int32) σ else f_X8_readsClause_19 N 7 20 (nI c) (nI (tK b t p)) (0 : Int32) σ := by
    unfold f_X8_readsClause
    rw [k_7_0 hc.1, Option.bind_some, k_o3 hc.1, Option.bind_some, kind, Option.bind_some]
    by_cases q : tK b t p = 25
    · rw [if_pos q, if_pos (show nI (tK b t p) = 25 by rw [q]; rfl)]
    · rw [if_neg q, if_neg (show ¬ nI (tK b t p) = 25 from nIk (by omega) (by decide) q)]
  -- a FAULT
  have fm : ∀ w : Nat, w ≤ 7 → ∃ τ', f_X11_fails N 63 (nI w) (nI p) tp = some (0, τ') ∧ GF τ τ' ∧ iv τ' 63 13 = flt p w := fun w hw => ⟨_, e_mfail hmp.1 i13, gp.tr (GF.fld (by decide)), by rw [iv_si, if_pos ⟨rfl, rfl⟩]⟩
  have FB : ∀ (w : Nat) (rc rm : Option (Int32 × Mm)), w ≤ 7 → rc = (f_X6_fails N 3 (nI w) σ) → (∀ τ', f_X11_fails N 63 (nI w) (nI p) tp = some (0, τ') → rm = some (0, τ')) → FV vL σ τ rc rm := by
    intro w rc rm hw e1 e2
    obtain ⟨f1, f2, f3, f4⟩ := failC (N := N) hb hc hw
    obtain ⟨τ', g1, g2, g3⟩ := fm w hw
    rw [← hp] at f1 f2 f3 f4
    exact ⟨_, τ', flt p w, e1.trans f1, e2 τ' g1, f2, g2, f3, g3, f4⟩
  have c93 : f_X8_readsClause_93 N 7 σ = f_X6_fails N 3 (nI 4) σ := by
    rw [f_X8_readsClause_93, k_7_0 hc.1, Option.bind_some, k_o3 hc.1, Option.bind_some, show (4 : Int32) = nI 4 from rfl, (failC (N := N) hb hc (show 4 ≤ 7 by decide)).1, Option.bind_some]
    rfl
  obtain ⟨s1, e1⟩ : ∃ s, s = si σ 3 4 (nI (k + 1)) := ⟨_, rfl⟩
  -- the line is counted
  obtain ⟨t1, f1⟩ : ∃ s, s = si tp 63 18 (nI (c + 1)) := ⟨_, rfl⟩
  have g1 : GF τ t1 := by rw [f1]; exact gp.tr (GF.fld (by decide))
  have hm1 : RDm t1 b t k := by rw [f1]; exact hmp.fld (by decide)
  have pos1 : iv t1 63 12 = nI p := by rw [f1, iv_si, if_neg (by decide)]; exact pos
  have wB : ∀ {w : Int64} {j : Nat}, w = lN (wp j) → j < 16 → f_X11_isWord N 63 w t1 = some (bi (tK b t p = 20 + j), t1) := fun hw hj => wordAt hN hb hw hj pt1 pt4 hm1.1 hm1.2.1 pos1
  have h101 : f_X11_clauseHere_59 N 63 (nI p) (1 : Int32) tp = if c = 40 then ((f_X11_fails N 63 (nI 4) (nI p) tp).bind fun q13 => if q13.1 = 0 ∨ q13.1 = 1 then some (q13.1, q13.2) else none) else
      ((f_X11_isWord N 63 (1668244331 : Int64) t1).bind fun q5 =>
      if q5.1 = 0 then (
        (ob 11 q5.2 63).bind fun _ =>
        (f_X11_isWord N 63 (1953654117 : Int64) q5.2).bind fun q7 =>
        if q7.1 = 0 then (
          (ob 11 q7.2 63).bind fun _ =>
          (f_X11_isWorthHere N 63 q7.2).bind fun q9 =>
          f_X11_clauseHere_170 N q9.1 q9.2) else (
          (ob 11 q7.2 63).bind fun _ =>
          (f_X11_isTreeHere N 63 (nI p) q7.2).bind fun q10 =>
          f_X11_clauseHere_170 N q10.1 q10.2)) else (
        (ob 11 q5.2 63).bind fun _ =>
        (f_X11_isCockHere N 63 (nI p) q5.2).bind fun q11 =>
        f_X11_clauseHere_170 N q11.1 q11.2)) := by
    rw [f_X11_clauseHere_59, f_X11_clauseHere_74, if_neg z1, m_gI hmp.1, Option.bind_some, i18, if_neg z1, f_X11_clauseHere_101]
    by_cases q : c = 40
    · rw [if_pos q, if_pos (show nI c = 40 by rw [q]; rfl), m_ob hmp.1, Option.bind_some]; rfl
    · rw [if_neg q, if_neg (show ¬ nI c = 40 from nIk (by omega) (by decide) q), m_gI hmp.1, Option.bind_some, i18, nI_1, m_pI hmp.1, Option.bind_some, ← f1, if_neg z1, m_ob hm1.1, Option.bind_some]
  have h59 : ∀ l4 l5 : Int32, c = 40 → f_X8_readsClause_59 N 7 20 (nI c) l4 l5 σ = f_X6_fails N 3 (nI 4) σ := by
    intro l4 l5 q
    rw [f_X8_readsClause_59, if_pos (by rw [show (40 : Int32) = nI 40 from rfl]; exact nI_le (by omega) (by omega)), c93]
  have big : 20 ≤ tK b t p → p < t ∧ k < n := fun h => by
    have := (tK_wd hb h).1
    exact ⟨this, pt2 this⟩
  have fin : ∀ {s2 τ2 : Mm} {r : Mm → Option (Int32 × Mm)} {rm : Option (Int32 × Mm)} {rc : Option (Int32 × Mm)} {rm' : Option (Int32 × Mm)}, c < 40 → RS vL σ s2 → GF τ τ2 → iv τ2 63 18 = nI (c + 1) → rc = (r s2).bind (fun q7 => f_X8_readsClause_140 N q7.1 q7.2) → rm' = rm.bind (fun q11 => f_X11_clauseHere_170 N q11.1 q11.2) → (FV vL s2 τ2 (r s2) rm ∨ OKV vL b t n (k + 1) s2 τ2 (r s2) rm) → FV vL σ τ rc rm' ∨ (c < 40 ∧ ∃ σ' τ' k' nc' nt', rc = some (1, σ') ∧ rm' = some (1, τ') ∧ RS vL σ σ' ∧ GF τ τ' ∧ iv τ' 63 18 = nI (c + 1) ∧ k < k' ∧ RDc σ' b t n k' ∧ RDm τ' b t k' ∧ DR σ' τ' nc' nt') := by
    intro s2 τ2 r rm rc rm' hc4 R G h18' e1 e2 h
    rcases h with ⟨σ', τ', F, q1, q2, q3, q4, q5, q6, q7⟩ | ⟨σ', τ', k', nc', nt', q1, q2, q3, q4, q5, q6, q7, q8, q9⟩
    · left
      exact ⟨σ', τ', F, by rw [e1, q1, Option.bind_some]; rfl, by rw [e2, q2, Option.bind_some]; rfl, R.tr q3, G.tr q4, q5, q6, q7⟩
    · right
      exact ⟨hc4, σ', τ', k', nc', nt', by rw [e1, q1, Option.bind_some]; rfl, by rw [e2, q2, Option.bind_some]; rfl, R.tr q3, G.tr q4, by rw [q5]; exact h18', by omega, q7, q8, q9⟩
  rw [mh, ch, f_X11_clauseHere_24, if_neg z1, m_ob hmp.1, Option.bind_some, wA (w := (1668244331 : Int64)) (j := 5) rfl (by decide), Option.bind_some]
  by_cases K25 : tK b t p = 25
  · -- a COCK
    rw [if_pos K25, bi_y (show tK b t p = 20 + 5 from K25), if_neg z1, h101, f_X8_readsClause_19, if_neg (show ¬ nI (tK b t p) = 34 by rw [K25]; decide), f_X8_readsClause_32, if_neg z1]
    by_cases q40 : c = 40
    · left
      rw [if_pos q40, h59 _ _ q40]
      exact FB 4 _ _ (by decide) rfl (fun τ' h => by rw [h, Option.bind_some]; rfl)
    · have hb2 := big (by omega)
      rw [if_neg q40, f_X8_readsClause_59, if_neg (by rw [show (40 : Int32) = nI 40 from rfl]; exact nI_ge (by omega) (by decide)), if_neg z1, v_i d20, Option.bind_some, hD.2.2.1, wB (w := (1668244331 : Int64)) (j := 5) rfl (by decide), Option.bind_some, bi_y (show tK b t p = 20 + 5 from K25), if_neg z1, m_ob hm1.1, Option.bind_some]
      unfold f_X11_isCockHere
      rw [m_gI hm1.1, Option.bind_some, show iv (1, t1).2 63 7 = nI nc from by show iv t1 63 7 = nI nc; rw [f1, iv_si, if_neg (by decide)]; exact i7]
      have h12 := hD.1
      by_cases qn : nc = 12
      · left
        rw [if_pos (by rw [show (12 : Int32) = nI 12 from rfl]; exact nI_le (by omega) (by omega)), c93, if_pos (show nI nc = 12 by rw [qn]; rfl)]
        obtain ⟨f1', f2', f3', f4'⟩ := failC (N := N) hb hc (show 4 ≤ 7 by decide)
        rw [← hp] at f1' f2' f3' f4'
        refine ⟨_, si t1 63 13 (flt p 4), flt p 4, f1', ?_, f2', g1.tr (GF.fld (by decide)), f3', by rw [iv_si, if_pos ⟨rfl, rfl⟩], f4'⟩
        rw [m_ob hm1.1, Option.bind_some, show (4 : Int32) = nI 4 from rfl, e_mfail hm1.1 hm1.2.2.1, Option.bind_some]
        rfl
      · obtain ⟨pw1, pw2⟩ := passAt hN hb pt1 hp hm1 pos1 (by omega)
        obtain ⟨t2, f2⟩ : ∃ s, s = ps' t1 (tE b t p) := ⟨_, rfl⟩
        rw [← f2] at pw1 pw2
        have G2 : GF τ t2 := by rw [f2]; exact g1.tr (GF.fld (by decide))
        have D2 : DR s1 t2 nc nt := hDp.fr (fun o o1 o2 => by rw [e1, iv_row _ _ _ (by omega)]) (by rw [f2, iv_row _ _ _ (by decide), f1, iv_row _ _ _ (by decide)]) (by rw [f2, iv_row _ _ _ (by decide), f1, iv_row _ _ _ (by decide)]) (by rw [f2, iv_row _ _ _ (by decide), f1, iv_row _ _ _ (by decide)]) (by rw [f2, iv_si, if_neg (by decide), f1, iv_si, if_neg (by decide)]) (by rw [f2, iv_si, if_neg (by decide), f1, iv_si, if_neg (by decide)])
        have RC : RDc s1 b t n (k + 1) := by rw [e1]; exact hc.skip hb2.2
        refine fin (r := f_X8_readsCock N 7 20) (s2 := s1) (τ2 := t2) (rm := f_X11_isCockHere_22 N N 63 (0 : Int32) t2) (by omega) (by rw [e1]; exact (RO.si 3 _ _ _).rs (by decide)) G2 (by rw [f2, iv_si, if_neg (by decide), f1, iv_si, if_pos ⟨rfl, rfl⟩]) ?_ ?_ (cockB hN hb (by omega) RC pw2 D2)
        · rw [if_neg (by rw [show (12 : Int32) = nI 12 from rfl]; exact nI_ge (by omega) (by decide)), f_X8_readsClause_79, if_pos rfl, f_X8_readsClause_102, k_7_0 hc.1, Option.bind_some, k_o3 hc.1, Option.bind_some, e_skip hc.1 hc.2.2.1, Option.bind_some, ← e1, if_neg z1, k_o7 RC.1, Option.bind_some]
        · rw [if_neg (show ¬ nI nc = 12 from nIk (by omega) (by decide) qn), m_ob hm1.1, Option.bind_some, pw1, Option.bind_some]
  · rw [if_neg K25, bi_n (show ¬ tK b t p = 20 + 5 from K25), if_pos rfl, m_ob hmp.1, Option.bind_some, wA (w := (1953654117 : Int64)) (j := 14) rfl (by decide), Option.bind_some, f_X8_readsClause_19]
    by_cases K34 : tK b t p = 34
    · -- a TREE
      rw [bi_y (show tK b t p = 20 + 14 from K34), if_neg z1, h101, if_pos (show nI (tK b t p) = 34 by rw [K34]; rfl), f_X8_readsClause_32, if_pos rfl, if_neg z1]
      by_cases q40 : c = 40
      · left
        rw [if_pos q40, h59 _ _ q40]
        exact FB 4 _ _ (by decide) rfl (fun τ' h => by rw [h, Option.bind_some]; rfl)
      · have hb2 := big (by omega)
        rw [if_neg q40, f_X8_readsClause_59, if_neg (by rw [show (40 : Int32) = nI 40 from rfl]; exact nI_ge (by omega) (by decide)), if_pos rfl, f_X8_readsClause_79, if_neg z1, v_i d20, Option.bind_some, hD.2.2.2.1, wB (w := (1668244331 : Int64)) (j := 5) rfl (by decide), Option.bind_some, bi_n (show ¬ tK b t p = 20 + 5 from K25), if_pos rfl, m_ob hm1.1, Option.bind_some, wB (w := (1953654117 : Int64)) (j := 14) rfl (by decide), Option.bind_some, bi_y (show tK b t p = 20 + 14 from K34), if_neg z1, m_ob hm1.1, Option.bind_some]
        unfold f_X11_isTreeHere
        rw [m_gI hm1.1, Option.bind_some, show iv (1, t1).2 63 8 = nI nt from by show iv t1 63 8 = nI nt; rw [f1, iv_si, if_neg (by decide)]; exact i8']
        have h12 := hD.2.1
        by_cases qn : nt = 12
        · left
          rw [if_neg (show ¬ nI nt < 12 by rw [qn]; decide), c93, if_pos (show nI nt = 12 by rw [qn]; rfl)]
          obtain ⟨f1', f2', f3', f4'⟩ := failC (N := N) hb hc (show 4 ≤ 7 by decide)
          rw [← hp] at f1' f2' f3' f4'
          refine ⟨_, si t1 63 13 (flt p 4), flt p 4, f1', ?_, f2', g1.tr (GF.fld (by decide)), f3', by rw [iv_si, if_pos ⟨rfl, rfl⟩], f4'⟩
          rw [m_ob hm1.1, Option.bind_some, show (4 : Int32) = nI 4 from rfl, e_mfail hm1.1 hm1.2.2.1, Option.bind_some]
          rfl
        · obtain ⟨pw1, pw2⟩ := passAt hN hb pt1 hp hm1 pos1 (by omega)
          obtain ⟨t2, f2⟩ : ∃ s, s = ps' t1 (tE b t p) := ⟨_, rfl⟩
          rw [← f2] at pw1 pw2
          have G2 : GF τ t2 := by rw [f2]; exact g1.tr (GF.fld (by decide))
          have D2 : DR s1 t2 nc nt := hDp.fr (fun o o1 o2 => by rw [e1, iv_row _ _ _ (by omega)]) (by rw [f2, iv_row _ _ _ (by decide), f1, iv_row _ _ _ (by decide)]) (by rw [f2, iv_row _ _ _ (by decide), f1, iv_row _ _ _ (by decide)]) (by rw [f2, iv_row _ _ _ (by decide), f1, iv_row _ _ _ (by decide)]) (by rw [f2, iv_si, if_neg (by decide), f1, iv_si, if_neg (by decide)]) (by rw [f2, iv_si, if_neg (by decide), f1, iv_si, if_neg (by decide)])
          have RC : RDc s1 b t n (k + 1) := by rw [e1]; exact hc.skip hb2.2
          refine fin (r := f_X8_readsTree N 7 20) (s2 := s1) (τ2 := t2) (rm := f_X11_isTreeHere_22 N N 63 (0 : Int32) t2) (by omega) (by rw [e1]; exact (RO.si 3 _ _ _).rs (by decide)) G2 (by rw [f2, iv_si, if_neg (by decide), f1, iv_si, if_pos ⟨rfl, rfl⟩]) ?_ ?_ (treeB hN hb (by omega) RC pw2 D2)
          · rw [if_pos (show nI nt < 12 by rw [show (12 : Int32) = nI 12 from rfl]; exact nI_lt (by omega) (by decide)), f_X8_readsClause_102, k_7_0 hc.1, Option.bind_some, k_o3 hc.1, Option.bind_some, e_skip hc.1 hc.2.2.1, Option.bind_some, ← e1, if_pos rfl, if_neg z1, k_o7 RC.1, Option.bind_some]
          · rw [if_neg (show ¬ nI nt = 12 from nIk (by omega) (by decide) qn), m_ob hm1.1, Option.bind_some, pw1, Option.bind_some]
    · rw [bi_n (show ¬ tK b t p = 20 + 14 from K34), if_pos rfl, m_ob hmp.1, Option.bind_some, wA (w := (512970880104 : Int64)) (j := 15) rfl (by decide), Option.bind_some, if_neg (show ¬ nI (tK b t p) = 34 from nIk (by omega) (by decide) K34), f_X8_readsClause_32, if_pos rfl, if_pos rfl]
      by_cases K35 : tK b t p = 35
      · -- a worth
        rw [bi_y (show tK b t p = 20 + 15 from K35), if_neg z1, h101, if_pos (show nI (tK b t p) = 35 by rw [K35]; rfl)]
        by_cases q40 : c = 40
        · left
          rw [if_pos q40, h59 _ _ q40]
          exact FB 4 _ _ (by decide) rfl (fun τ' h => by rw [h, Option.bind_some]; rfl)
        · have hb2 := big (by omega)
          rw [if_neg q40, f_X8_readsClause_59, if_neg (by rw [show (40 : Int32) = nI 40 from rfl]; exact nI_ge (by omega) (by decide)), if_pos rfl, f_X8_readsClause_79, if_pos rfl, wB (w := (1668244331 : Int64)) (j := 5) rfl (by decide), Option.bind_some, bi_n (show ¬ tK b t p = 20 + 5 from K25), if_pos rfl, m_ob hm1.1, Option.bind_some, wB (w := (1953654117 : Int64)) (j := 14) rfl (by decide), Option.bind_some, bi_n (show ¬ tK b t p = 20 + 14 from K34), if_pos rfl, m_ob hm1.1, Option.bind_some]
          obtain ⟨pw1, pw2⟩ := passAt hN hb pt1 hp hm1 pos1 (by omega)
          obtain ⟨t2, f2⟩ : ∃ s, s = ps' t1 (tE b t p) := ⟨_, rfl⟩
          rw [← f2] at pw1 pw2
          have G2 : GF τ t2 := by rw [f2]; exact g1.tr (GF.fld (by decide))
          have D2 : DR s1 t2 nc nt := hDp.fr (fun o o1 o2 => by rw [e1, iv_row _ _ _ (by omega)]) (by rw [f2, iv_row _ _ _ (by decide), f1, iv_row _ _ _ (by decide)]) (by rw [f2, iv_row _ _ _ (by decide), f1, iv_row _ _ _ (by decide)]) (by rw [f2, iv_row _ _ _ (by decide), f1, iv_row _ _ _ (by decide)]) (by rw [f2, iv_si, if_neg (by decide), f1, iv_si, if_neg (by decide)]) (by rw [f2, iv_si, if_neg (by decide), f1, iv_si, if_neg (by decide)])
          have RC : RDc s1 b t n (k + 1) := by rw [e1]; exact hc.skip hb2.2
          refine fin (r := f_X8_readsWorth N 7 20) (s2 := s1) (τ2 := t2) (rm := f_X11_isWorthHere N 63 t1) (by omega) (by rw [e1]; exact (RO.si 3 _ _ _).rs (by decide)) G2 (by rw [f2, iv_si, if_neg (by decide), f1, iv_si, if_pos ⟨rfl, rfl⟩]) ?_ rfl (worthB hN hb pw1 hm1.1 RC pw2 D2)
          rw [f_X8_readsClause_102, k_7_0 hc.1, Option.bind_some, k_o3 hc.1, Option.bind_some, e_skip hc.1 hc.2.2.1, Option.bind_some, ← e1, if_pos rfl, if_pos rfl, k_o7 RC.1, Option.bind_some]
      · left
        rw [bi_n (show ¬ tK b t p = 20 + 15 from K35), if_pos rfl, if_neg (show ¬ nI (tK b t p) = 35 from nIk (by omega) (by decide) K35)]
        refine FB 0 _ _ (by decide) ?_ (fun τ' h => ?_)
        · rw [k_7_0 hc.1, Option.bind_some, k_o3 hc.1, Option.bind_some, show (0 : Int32) = nI 0 from rfl, (failC (N := N) hb hc (show 0 ≤ 7 by decide)).1, Option.bind_some]
          rfl
        · rw [f_X11_clauseHere_74, if_pos rfl, m_ob hmp.1, Option.bind_some, show f_X11_fails N 63 (0 : Int32) (nI p) tp = some (0, τ') from h, Option.bind_some]
          rfl
end VT
