section LX2
variable {N : Nat} {b : Nat → Nat} {t n w : Nat}
theorem rpn_app {wd : Nat → Int64} {l2 : List Nat} : ∀ (l1 : List Nat) (s : List Int64), rpn wd (l1 ++ l2) s = (rpn wd l1 s).bind (fun s' => rpn wd l2 s') := by
  intro l1
  induction l1 with
  | nil => intro s; rfl
  | cons x l ih =>
    intro s
    have step : ∀ l' : List Nat, rpn wd (x :: l') s = (if x % 16 = 0 then rpn wd l' (lN (x / 16) :: s) else if x % 16 = 1 then rpn wd l' (wd (x / 16) :: s) else if x % 16 = 11 then (match s with
      | y :: r => rpn wd l' ((1 - y) :: r)
      | [] => none) else (match s with
      | y :: z :: r => rpn wd l' (op2 (x % 16) z y :: r)
      | _ => none)) := fun _ => rfl
    show rpn wd (x :: (l ++ l2)) s = _
    rw [step (l ++ l2), step l]
    by_cases q0 : x % 16 = 0
    · rw [if_pos q0, if_pos q0]; exact ih _
    · rw [if_neg q0, if_neg q0]
      by_cases q1 : x % 16 = 1
      · rw [if_pos q1, if_pos q1]; exact ih _
      · rw [if_neg q1, if_neg q1]
        by_cases q2 : x % 16 = 11
        · rw [if_pos q2, if_pos q2]
          cases s with
          | nil => rfl
          | cons y r => exact ih _
        · rw [if_neg q2, if_neg q2]
          cases s with
          | nil => rfl
          | cons y r =>
            cases r with
            | nil => rfl
            | cons z r => exact ih _
theorem OV.two {l1 l2 : List Nat} {x : Nat} (h1 : OV l1) (h2 : OV l2) (hx : (2 ≤ x ∧ x ≤ 10) ∨ x = 12 ∨ x = 13) : OV (l1 ++ (l2 ++ [x])) := by
  obtain ⟨v1, h1⟩ := h1
  obtain ⟨v2, h2⟩ := h2
  refine ⟨fun wd => op2 x (v1 wd) (v2 wd), fun wd s => ?_⟩
  rw [rpn_app, h1, Option.bind_some, rpn_app, h2, Option.bind_some, rpn_op (r := []) hx]
  rfl
theorem OV.not {l : List Nat} (h : OV l) : OV (l ++ [11]) := by
  obtain ⟨v, h⟩ := h
  refine ⟨fun wd => 1 - v wd, fun wd s => ?_⟩
  rw [rpn_app, h, Option.bind_some]
  rfl
theorem OV.p {l : List Nat} (h : OV l) : OVp 0 0 l := by
  obtain ⟨v, h⟩ := h
  exact ⟨fun wd _ _ => v wd, fun wd _ _ s => h wd s⟩
/-- the signs of a comparison -/
theorem cmpk (hb : TP b t) {q : Nat} (hq : q < t) (hc : b q = 60 ∨ b q = 61 ∨ b q = 62) : ∃ f : Nat, f ≤ 1 ∧ (f = 1 ↔ (b q ≠ 61 ∧ b (q + 1) = 61)) ∧ tE b t q = q + 1 + f ∧ tK b t q = (if b q = 60 then 11 + f else if b q = 61 then 13 else 15 - f) := by
  have d : dg (b q) = false := by
    cases e : dg (b q)
    · rfl
    · have := (dg_iff _).1 e; omega
  have l : lt' (b q) = false := by
    cases e : lt' (b q)
    · rfl
    · have := (lt_iff' _).1 e; omega
  refine ⟨if wd' b q then 1 else 0, ?_, ?_, ?_, ?_⟩
  · cases wd' b q <;> decide
  · unfold wd'
    rcases hc with h | h | h
    · by_cases y : b (q + 1) = 61 <;> simp [h, y]
    · by_cases y : b (q + 1) = 61 <;> simp [h, y]
    · by_cases y : b (q + 1) = 61 <;> simp [h, y]
  · unfold tE
    rw [d, l]
    cases wd' b q <;> rfl
  · rw [tK_lt hq, d, l]
    simp only [Bool.false_eq_true, if_false]
    cases e : wd' b q
    · simp only [Bool.false_eq_true, if_false, Nat.add_zero, Nat.sub_zero]
      rcases hc with h | h | h <;> rw [h] <;> rfl
    · simp only [if_true]
      have hw : b q = 60 ∨ b q = 62 := by
        unfold wd' at e
        simp only [Bool.and_eq_true, Bool.or_eq_true, decide_eq_true_eq] at e
        exact e.1
      rcases hw with h | h <;> rw [h] <;> rfl
theorem cmpn (hb : TP b t) {q : Nat} (h : ¬ (q < t ∧ (b q = 60 ∨ b q = 61 ∨ b q = 62))) : tK b t q < 11 ∨ 15 < tK b t q := by
  by_cases hq : q < t
  · rw [tK_lt hq]
    cases d : dg (b q)
    · simp only [Bool.false_eq_true, if_false]
      cases l : lt' (b q)
      · simp only [Bool.false_eq_true, if_false]
        have hn : ¬ b q = 60 ∧ ¬ b q = 61 ∧ ¬ b q = 62 := by
          refine ⟨fun e => h ⟨hq, Or.inl e⟩, fun e => h ⟨hq, Or.inr (Or.inl e)⟩, fun e => h ⟨hq, Or.inr (Or.inr e)⟩⟩
        have w0 : wd' b q = false := by unfold wd'; simp [hn.1, hn.2.2]
        rw [w0]
        simp only [Bool.false_eq_true, if_false]
        left
        unfold sK
        rw [if_neg hn.1, if_neg hn.2.1, if_neg hn.2.2]
        (repeat' split) <;> omega
      · simp only [if_true]
        have := kw_rg (ac (fun i => b (q + i)) (lE b t q - q))
        have e : wK b t q = kwL (ac (fun i => b (q + i)) (lE b t q - q)) 0 16 := rfl
        rw [e]; omega
    · simp
  · rw [(tK_1 hb).2 (by omega)]; omega
theorem e_cmp (hN : 500 ≤ N) (hb : TP b t) (hw : w < 6) {k p : Nat} {σ τ : Mm} {cC : List Int32} {cM : List Nat} (hp : p ≤ 60) (hC : LC σ b t n w k p cC) (hM : LM τ b t w k p cM) (hl : cM.length ≤ cC.length) (hlk : cC.length + 1 ≤ k) : FLw w σ τ (f_X3_readsComparison N 8 σ) (f_X11_compare N 63 τ) ∨ OKL w b t n k p 0 0 σ τ cC cM (f_X3_readsComparison N 8 σ) (f_X11_compare N 63 τ) := by
  unfold f_X3_readsComparison f_X11_compare
  rw [k_o8 hC.1.1, Option.bind_some, m_ob hM.1.1, Option.bind_some]
  rcases e_sum hN hb hw hp hC hM hl hlk with ⟨σ', τ', F, g1, g2, g3⟩ | ⟨l1, k1, p1, s1, t1, o1, o2, o3, o4, o5, o6, o7, o8, o9, o10, o11, o12⟩
  · left
    exact ⟨σ', τ', F, by rw [g1, Option.bind_some, if_pos rfl], by rw [g2, Option.bind_some, if_pos rfl], g3⟩
  have o8' : l1.length + k ≤ k1 := o8
  obtain ⟨q, hq⟩ : ∃ q, q = pl b t k1 := ⟨_, rfl⟩
  obtain ⟨pt1, pt2, pt3, pt4, pt5⟩ := plt hb o5.1
  obtain ⟨se1, se2⟩ := see_k (N := N) hN hb o5.1 o6.1
  have kind := e_kind (N := N) hb o5.1.1 o5.1.2.1 o5.1.2.2.1 o5.1.2.2.2
  rw [← hq] at pt1 pt2 pt3 pt4 se1 se2 kind
  have k40 := tK_31 b t q
  have hMq : LM (ps' t1 q) b t w k1 p1 (cM ++ l1) := LM.at hb o6 pt1 (by rw [pt4, hq])
  have mq := hMq.1.1
  have lC : (cC ++ l1.map clT).length = cC.length + l1.length := by rw [List.length_append, List.length_map]
  have lM : (cM ++ l1).length = cM.length + l1.length := by rw [List.length_append]
  have h4 := hb.1
  have b256 := hb.2.1 q
  rw [o1, Option.bind_some, if_neg z1, k_8_0 o5.1.1, Option.bind_some, k_o3 o5.1.1, Option.bind_some, kind, Option.bind_some, o2, Option.bind_some, if_neg z1, m_ob o6.1.1, Option.bind_some, se1, Option.bind_some]
  simp only []
  rw [m_gI mq, Option.bind_some, iv_ps]
  have FF : ∀ (f : Nat) (rc rm : Option (Int32 × Mm)) (τ' : Mm), f ≤ 7 → rc = f_X6_fails N 3 (nI f) s1 → rm = some (0, τ') → VF w τ τ' → iv τ' 63 13 = flt q f → FLw w σ τ rc rm := by
    intro f rc rm τ' hf a1 a2 a3 a4
    obtain ⟨g1, g2, g3, g4⟩ := lfail (N := N) hb o5 hf
    rw [← hq] at g1 g2 g3 g4
    exact ⟨_, τ', flt q f, a1.trans g1, a2, o3.tr g2, a3, g3, a4, g4⟩
  have c29 : f_X3_readsComparison_29 N 8 s1 = f_X6_fails N 3 (nI 0) s1 := by
    rw [f_X3_readsComparison_29, k_8_0 o5.1.1, Option.bind_some, k_o3 o5.1.1, Option.bind_some, show (0 : Int32) = nI 0 from rfl, (lfail (N := N) hb o5 (show 0 ≤ 7 by decide)).1, Option.bind_some]
    rfl
  have e60 := seen_sg (p := q) hb (show 60 < 128 by decide)
  have e61 := seen_sg (p := q) hb (show 61 < 128 by decide)
  have e62 := seen_sg (p := q) hb (show 62 < 128 by decide)
  by_cases hS : q < t ∧ (b q = 60 ∨ b q = 61 ∨ b q = 62)
  · obtain ⟨hqt, hS⟩ := hS
    obtain ⟨f, f1, f2, f3, f4⟩ := cmpk hb hqt hS
    obtain ⟨kk, hkk⟩ : ∃ kk, kk = tK b t q := ⟨_, rfl⟩
    rw [← hkk] at f4 ⊢
    have kr : 11 ≤ kk ∧ kk ≤ 15 := by
      rw [f4]
      rcases hS with h | h | h <;> simp [h] <;> omega
    have hkn := pt2 hqt
    have tl := (tE_sp hb hqt).2
    -- the model's sign
    have m44 : f_X11_compare_44 N 63 (nI (b q)) (nI q) (ps' t1 q) = f_X11_compare_105 N 63 (nI (b q)) (nI q) (nI f) (ps' t1 (tE b t q)) := by
      have m1 : WFm (ps' t1 (q + 1)) := mq
      rw [f_X11_compare_44, m_gI mq, Option.bind_some, iv_ps, nI_1, m_pI mq, Option.bind_some, show si (ps' t1 q) 63 12 (nI (q + 1)) = ps' t1 (q + 1) from si_si]
      have no : f = 0 → f_X11_compare_89 N 63 (nI (b q)) (nI q) (ps' t1 (q + 1)) = f_X11_compare_105 N 63 (nI (b q)) (nI q) (nI f) (ps' t1 (tE b t q)) := by
        intro z
        rw [f_X11_compare_89, f_X11_compare_90, if_pos rfl, f3, z]
        rfl
      by_cases y : b q = 61
      · rw [if_pos (show nI (b q) = 61 by rw [y]; rfl)]
        exact no (by
          by_cases z : f = 1
          · exact absurd y (f2.1 z).1
          · omega)
      · rw [if_neg (show ¬ nI (b q) = 61 from nIk (by omega) (by decide) y), m_gI m1, Option.bind_some, iv_ps, m_gI m1, Option.bind_some, (o6.1.2.1.ps (q + 1)).1]
        by_cases z : t ≤ q + 1
        · rw [if_pos (nI_le z (by omega))]
          exact no (by
            by_cases z2 : f = 1
            · have := (f2.1 z2).2
              rw [hb.2.2 (q + 1) z] at this
              omega
            · omega)
        · rw [if_neg (nI_ge (by omega) (by omega)), m_g0 m1, Option.bind_some, Option.bind_some, m_aB m1 rfl (show q + 1 < 400 by omega), Option.bind_some, (o6.1.2.1.ps (q + 1)).2 (q + 1) (by omega)]
          by_cases z2 : b (q + 1) = 61
          · have ff : f = 1 := f2.2 ⟨y, z2⟩
            rw [if_pos (show sb (b (q + 1)) = 61 from (sb_eq _ (hb.2.1 _) 61 (by decide)).2 z2), f_X11_compare_90, if_neg z1, m_gI m1, Option.bind_some, iv_ps, nI_1, m_pI m1, Option.bind_some, show si (ps' t1 (q + 1)) 63 12 (nI (q + 1 + 1)) = ps' t1 (q + 1 + 1) from si_si, f3, ff]
            rfl
          · rw [if_neg (show ¬ sb (b (q + 1)) = 61 from fun x => z2 ((sb_eq _ (hb.2.1 _) 61 (by decide)).1 x))]
            exact no (by
              by_cases z3 : f = 1
              · exact absurd (f2.1 z3).2 z2
              · omega)
    have msel : (if seen b t q = (60 : Int32) then f_X11_compare_44 N 63 (seen b t q) (nI q) (ps' t1 q) else if seen b t q = (61 : Int32) then f_X11_compare_44 N 63 (seen b t q) (nI q) (ps' t1 q) else if seen b t q = (62 : Int32) then f_X11_compare_44 N 63 (seen b t q) (nI q) (ps' t1 q) else (ob 11 (ps' t1 q) 63).bind fun _ => (f_X11_fails N 63 (0 : Int32) (nI q) (ps' t1 q)).bind fun q8 => if q8.1 = 0 ∨ q8.1 = 1 then some (q8.1, q8.2) else none) = f_X11_compare_105 N 63 (nI (b q)) (nI q) (nI f) (ps' t1 (tE b t q)) := by
      have sq : seen b t q = nI (b q) := if_pos hqt
      rw [← m44, sq]
      rcases hS with h | h | h
      · rw [h, if_pos (show nI 60 = 60 from rfl)]
      · rw [h, if_neg (show ¬ nI 61 = 60 by decide), if_pos (show nI 61 = 61 from rfl)]
      · rw [h, if_neg (show ¬ nI 62 = 60 by decide), if_neg (show ¬ nI 62 = 61 by decide), if_pos (show nI 62 = 62 from rfl)]
    rw [msel, if_neg (show ¬ nI kk < 11 by rw [show (11 : Int32) = nI 11 from rfl, nI_ltI (by omega) (by decide)]; omega), if_pos (show nI kk ≤ 15 by rw [show (15 : Int32) = nI 15 from rfl]; exact nI_le kr.2 (by decide)), k_i8 o5.1.1, Option.bind_some, o5.2.2.1]
    have hM2 : LM (ps' t1 (tE b t q)) b t w (k1 + 1) p1 (cM ++ l1) := LM.at hb o6 tl (by rw [hq]; rfl)
    obtain ⟨mk1, mk2⟩ := e_makes (N := N) (q := q) hM2 o12
    rw [f_X11_compare_105, m_ob hM2.1.1, Option.bind_some]
    by_cases p60 : p1 = 60
    · left
      rw [if_neg (show ¬ nI p1 < 60 by rw [p60]; decide), mk1 p60, Option.bind_some, Option.bind_some, if_pos rfl]
      refine FF 3 _ _ _ (by decide) ?_ rfl (o4.tr ((VF.fld (by decide)).tr (VF.fld (by decide)))) (by rw [iv_si, if_pos ⟨rfl, rfl⟩])
      rw [k_8_0 o5.1.1, Option.bind_some, k_o3 o5.1.1, Option.bind_some, show (3 : Int32) = nI 3 from rfl, (lfail (N := N) hb o5 (show 3 ≤ 7 by decide)).1, Option.bind_some]
      rfl
    · obtain ⟨mk3, mk4⟩ := mk2 (by omega)
      obtain ⟨s2, e2⟩ : ∃ s, s = si s1 8 2 (nI (p1 + 1)) := ⟨_, rfl⟩
      have hC2 : LC s2 b t n w k1 (p1 + 1) (cC ++ l1.map clT) := by
        rw [e2]
        refine ⟨o5.1.fr (l := [8]) ((RO.si _ _ _ _).rs (by decide)) (by decide), o5.2.1, by rw [iv_si, if_pos ⟨rfl, rfl⟩], by rw [iv_row _ _ _ (by omega)]; exact o5.2.2.2.1, by rw [iv_row _ _ _ (by omega)]; exact o5.2.2.2.2⟩
      have hC3 := hC2.skip hkn
      have r3 : RS (lwL w) σ (si s2 3 4 (nI (k1 + 1))) := o3.tr (by rw [e2]; exact (rsL (by omega)).tr (rsL (by omega)))
      have v3 : VF w τ (si (ps' t1 (tE b t q)) 63 16 (nI (p1 + 1))) := o4.tr ((VF.fld (by decide)).tr (VF.fld (by decide)))
      have msum : (if nI (b q) = (60 : Int32) then (if nI f = 0 then f_X11_compare_152 N 63 (0 : Int32) (si (ps' t1 (tE b t q)) 63 16 (nI (p1 + 1))) else f_X11_compare_152 N 63 (1 : Int32) (si (ps' t1 (tE b t q)) 63 16 (nI (p1 + 1)))) else if nI (b q) = (61 : Int32) then f_X11_compare_152 N 63 (2 : Int32) (si (ps' t1 (tE b t q)) 63 16 (nI (p1 + 1))) else if nI f = 0 then f_X11_compare_152 N 63 (4 : Int32) (si (ps' t1 (tE b t q)) 63 16 (nI (p1 + 1))) else f_X11_compare_152 N 63 (3 : Int32) (si (ps' t1 (tE b t q)) 63 16 (nI (p1 + 1)))) = f_X11_compare_152 N 63 (nI (kk - 11)) (si (ps' t1 (tE b t q)) 63 16 (nI (p1 + 1))) := by
        have ff : f = 0 ∨ f = 1 := by omega
        rcases hS with h | h | h
        · rw [h, if_pos (show nI 60 = 60 from rfl)]
          rcases ff with z | z
          · rw [if_pos (show nI f = 0 by rw [z]; rfl), show kk - 11 = 0 by rw [f4, h, z]; rfl]; rfl
          · rw [if_neg (show ¬ nI f = 0 by rw [z]; decide), show kk - 11 = 1 by rw [f4, h, z]; rfl]; rfl
        · rw [h, if_neg (show ¬ nI 61 = 60 by decide), if_pos (show nI 61 = 61 from rfl), show kk - 11 = 2 by rw [f4, h]; rfl]; rfl
        · rw [h, if_neg (show ¬ nI 62 = 60 by decide), if_neg (show ¬ nI 62 = 61 by decide)]
          rcases ff with z | z
          · rw [if_pos (show nI f = 0 by rw [z]; rfl), show kk - 11 = 4 by rw [f4, h, z]; rfl]; rfl
          · rw [if_neg (show ¬ nI f = 0 by rw [z]; decide), show kk - 11 = 3 by rw [f4, h, z]; rfl]; rfl
      rw [if_pos (show nI p1 < 60 by rw [show (60 : Int32) = nI 60 from rfl]; exact nI_lt (by omega) (by decide)), Option.bind_some, nI_1, k_p8 o5.1.1, Option.bind_some, ← e2, k_8_0 hC2.1.1, Option.bind_some, k_o3 hC2.1.1, Option.bind_some, e_skip hC2.1.1 hC2.1.2.2.1, Option.bind_some, k_o8 hC3.1.1, Option.bind_some, mk3, Option.bind_some, if_neg z1]
      simp only []
      rw [msum, f_X11_compare_152, m_ob mk4.1.1, Option.bind_some]
      rcases e_sum hN hb hw (by omega) hC3 mk4 (by omega) (by omega) with ⟨σ', τ', F, g1, g2, g3⟩ | ⟨l2, k2, p2, s4, t4, u1, u2, u3, u4, u5, u6, u7, u8, u9, u10, u11, u12⟩
      · left
        refine FLw.pre ⟨σ', τ', F, rfl, rfl, g3⟩ r3 v3 ?_ ?_
        · rw [g1, Option.bind_some, if_pos rfl]
        · rw [g2, Option.bind_some, if_pos rfl]
      · right
        have u8' : l2.length + (k1 + 1) ≤ k2 := u8
        have n4 := (plt hb u5.1).2.2.2.2
        have k2n := u5.1.2.2.2
        have lC2 : (cC ++ l1.map clT ++ l2.map clT).length = cC.length + l1.length + l2.length := by rw [List.length_append, lC, List.length_map]
        have lM2 : (cM ++ l1 ++ l2).length = cM.length + l1.length + l2.length := by rw [List.length_append, lM]
        obtain ⟨s5, a1, a2, a3⟩ := e_ladd (N := N) (x := clT (kk - 5)) hw u5 (by omega)
        obtain ⟨t5, b1, b2, b3⟩ := e_puts (N := N) (x := kk - 5) (y := 0) hw u6 (by omega)
        refine ⟨l1 ++ (l2 ++ [kk - 5]), k2, p2, s5, t5, ?_, ?_, r3.tr (u3.tr a2), v3.tr (u4.tr b2), by simpa [List.map_append, List.append_assoc] using a3, by simpa [List.append_assoc] using b3, by omega, ?_, ?_, ?_, ?_, u12⟩
        · rw [u1, Option.bind_some, if_neg z1, gN81 u5, Option.bind_some, k_o83 u5.1.1, Option.bind_some, show -nI kk = clT (kk - 5) by rw [clT_o (by omega), show 5 + (kk - 5) = kk by omega], a1, Option.bind_some]
        · rw [u2, Option.bind_some, if_neg z1, m_ob u6.1.1, Option.bind_some, show (6 : Int32) = nI 6 from rfl, nI_add, show 6 + (kk - 11) = kk - 5 by omega, show f_X11_puts N 63 (nI (kk - 5)) (0 : Int32) t4 = some t5 from b1, Option.bind_some]
        · rw [List.length_append, List.length_append]
          show l1.length + (l2.length + 1) + k ≤ k2 + 0 + 0
          omega
        · exact (OV.two o9.ov u9.ov (Or.inl (by omega))).p
        · intro x hx
          rcases List.mem_append.1 hx with e | e
          · exact o10 x e
          · rcases List.mem_append.1 e with e | e
            · exact u10 x e
            · rw [List.mem_singleton.1 e]; exact ⟨by omega, by omega, by omega⟩
        · rw [pushes_app, pushes_app, pushes_cons, if_neg (by omega)]
          show p + (pushes l1 + (pushes l2 + (0 + 0))) ≤ p2
          omega
  · left
    have hn := cmpn hb hS
    have n60 : ¬ seen b t q = 60 := fun z => hS ⟨(e60.1 z).1, Or.inl (e60.1 z).2⟩
    have n61 : ¬ seen b t q = 61 := fun z => hS ⟨(e61.1 z).1, Or.inr (Or.inl (e61.1 z).2)⟩
    have n62 : ¬ seen b t q = 62 := fun z => hS ⟨(e62.1 z).1, Or.inr (Or.inr (e62.1 z).2)⟩
    have ce : (if nI (tK b t q) < 11 then f_X3_readsComparison_29 N 8 s1 else if nI (tK b t q) ≤ 15 then (gI 3 2 s1 8).bind fun x7 =>
        if x7 < (60 : Int32) then (
          (gI 3 2 s1 8).bind fun x9 =>
          (pI 3 2 s1 8 (x9 + (1 : Int32))).bind fun s10 =>
          (gN 3 0 s10 8).bind fun a11 =>
          (ob 6 s10 a11).bind fun _ =>
          (f_X6_skip N a11 s10).bind fun q12 =>
          (ob 3 q12 8).bind fun _ =>
          (f_X3_readsSum N 8 q12).bind fun q13 =>
          if q13.1 = 0 then (
            some ((0 : Int32), q13.2)) else (
            (gN 3 1 q13.2 8).bind fun a15 =>
            (ob 2 q13.2 a15).bind fun _ =>
            (f_X2_add N a15 (-nI (tK b t q)) q13.2).bind fun q16 =>
            some ((1 : Int32), q16))) else (
          (gN 3 0 s1 8).bind fun a17 =>
          (ob 6 s1 a17).bind fun _ =>
          (f_X6_fails N a17 (3 : Int32) s1).bind fun q18 =>
          if q18.1 = 0 ∨ q18.1 = 1 then some (q18.1, q18.2) else none) else f_X3_readsComparison_29 N 8 s1) = f_X6_fails N 3 (nI 0) s1 := by
      rcases hn with h | h
      · rw [if_pos (show nI (tK b t q) < 11 by rw [show (11 : Int32) = nI 11 from rfl]; exact nI_lt h (by decide)), c29]
      · rw [if_neg (show ¬ nI (tK b t q) < 11 by rw [show (11 : Int32) = nI 11 from rfl, nI_ltI (by omega) (by decide)]; omega), if_neg (show ¬ nI (tK b t q) ≤ 15 by rw [show (15 : Int32) = nI 15 from rfl]; exact nI_ge (by omega) (by omega)), c29]
    rw [ce, if_neg n60, if_neg n61, if_neg n62, m_ob mq, Option.bind_some, show f_X11_fails N 63 (0 : Int32) (nI q) (ps' t1 q) = some (0, si (ps' t1 q) 63 13 (flt q 0)) from e_mfail mq hMq.1.2.2.1, Option.bind_some]
    exact FF 0 _ _ _ (by decide) rfl rfl (o4.tr ((VF.fld (by decide)).tr (VF.fld (by decide)))) (by rw [iv_si, if_pos ⟨rfl, rfl⟩])
end LX2
