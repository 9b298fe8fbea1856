/-- a sum from a place on -/
def sg (f : Nat → Nat) : Nat → Nat → Nat
  | _, 0 => 0
  | c, d + 1 => f c + sg f (c + 1) d
theorem sg_cong {f g : Nat → Nat} : ∀ d c, (∀ j, c ≤ j → j < c + d → f j = g j) → sg f c d = sg g c d := by
  intro d
  induction d with
  | zero => intro c _; rfl
  | succ d ih =>
    intro c h
    unfold sg
    rw [h c (Nat.le_refl _) (by omega), ih (c + 1) (fun j h1 h2 => h j (by omega) (by omega))]
theorem sg_add (f : Nat → Nat) : ∀ d e c, sg f c (d + e) = sg f c d + sg f (c + d) e := by
  intro d
  induction d with
  | zero => intro e c; rw [Nat.zero_add]; show _ = 0 + _; rw [Nat.zero_add]; rfl
  | succ d ih =>
    intro e c
    rw [show d + 1 + e = (d + e) + 1 by omega]
    show f c + sg f (c + 1) (d + e) = f c + sg f (c + 1) d + sg f (c + (d + 1)) e
    rw [ih e (c + 1), show c + 1 + d = c + (d + 1) by omega]
    omega
theorem sg_zero {f : Nat → Nat} : ∀ d c, (∀ j, c ≤ j → j < c + d → f j = 0) → sg f c d = 0 := by
  intro d
  induction d with
  | zero => intro c _; rfl
  | succ d ih =>
    intro c h
    unfold sg
    rw [h c (Nat.le_refl _) (by omega), ih (c + 1) (fun j h1 h2 => h j (by omega) (by omega))]
theorem pc_sg (F : Nat) : pc F = sg (fun i => if F.testBit i then 1 else 0) 0 12 := by
  have key : ∀ d c, ((List.range' c d).filter (fun i => F.testBit i)).length = sg (fun i => if F.testBit i then 1 else 0) c d := by
    intro d
    induction d with
    | zero => intro c; rfl
    | succ d ih =>
      intro c
      rw [List.range'_succ, List.filter_cons]
      unfold sg
      by_cases h : F.testBit c
      · rw [if_pos h, if_pos h, List.length_cons, ih]; omega
      · rw [if_neg h, if_neg h, ih]; omega
  unfold pc
  rw [List.range_eq_range', key]
theorem pc_fm {m : Nat → Nat} (h : ∀ t, t < 12 → m (90 + 3 * t) ≤ 1) {n : Nat} (hn : n ≤ 12) : pc (fmask m n) = sg (fun t => m (90 + 3 * t)) 0 n := by
  rw [pc_sg, show (12 : Nat) = n + (12 - n) by omega, sg_add, sg_zero (12 - n) (0 + n), Nat.add_zero]
  · apply sg_cong
    intro j _ hj
    rw [fm_tb h n hn j]
    have := h j (by omega)
    by_cases e : m (90 + 3 * j) = 1
    · rw [if_pos (by rw [decide_eq_true_eq]; exact ⟨by omega, e⟩), e]
    · rw [if_neg (by rw [decide_eq_true_eq]; exact fun q => e q.2)]; omega
  · intro j h1 h2
    rw [fm_tb h n hn j, if_neg (by rw [decide_eq_true_eq]; omega)]
section SR
variable {N : Nat}
theorem ages_c {σ : Mm} {v n : Nat} (hv : VW σ v) (h0 : iv σ v 0 = nI n) (hn : n ≤ 12) {g : Nat → Nat} (hg : ∀ c, c < n → iv σ (v + 4) c = nI (g c)) : ∀ d c a fu, c + d = n → d < fu → f_X7_ageOfAll_4 N fu v (nI a) (nI c) σ = some (nI (a + sg g c d), σ) := by
  intro d
  induction d with
  | zero =>
    intro c a fu h1 h2
    obtain ⟨fu, rfl⟩ : ∃ q, fu = q + 1 := ⟨fu - 1, by omega⟩
    rw [f_X7_ageOfAll_4, v_i hv, Option.bind_some, h0, if_pos (nI_le (by omega) (by omega))]
    rfl
  | succ d ih =>
    intro c a fu h1 h2
    obtain ⟨fu, rfl⟩ : ∃ q, fu = q + 1 := ⟨fu - 1, by omega⟩
    rw [f_X7_ageOfAll_4, v_i hv, Option.bind_some, h0, if_neg (nI_ge (by omega) (by omega)), if_neg (by rw [show (12 : Int32) = nI 12 from rfl]; exact nI_ge (by omega) (by decide)), v_g4 hv, Option.bind_some, v_a hv rfl (by decide) (by decide) (by omega), Option.bind_some, hg c (by omega), nI_add, nI_1, ih (c + 1) (a + g c) fu (by omega) (by omega)]
    congr 3
    show a + g c + sg g (c + 1) d = a + (g c + sg g (c + 1) d)
    omega
theorem ages_m {τ : Mm} {m : Nat → Nat} (hm : WFm τ) (hs : ∀ i, i < 156 → iv τ 75 i = nI (m i)) (hn : m 0 ≤ 12) : ∀ d c a fu, c + d = m 0 → d < fu → f_X11_count_99 N fu 63 (nI a) (nI c) τ = some (nI (a + sg (fun c => m (7 + 7 * c)) c d), τ) := by
  intro d
  induction d with
  | zero =>
    intro c a fu h1 h2
    obtain ⟨fu, rfl⟩ : ∃ q, fu = q + 1 := ⟨fu - 1, by omega⟩
    rw [f_X11_count_99, m_g24 hm, Option.bind_some, m_aI hm (a := 75) (n := 156) (i := 0) (c := 0) (by decide) rfl rfl (by decide) (by decide), Option.bind_some, hs 0 (by decide), if_pos (nI_le (by omega) (by omega))]
    rfl
  | succ d ih =>
    intro c a fu h1 h2
    obtain ⟨fu, rfl⟩ : ∃ q, fu = q + 1 := ⟨fu - 1, by omega⟩
    rw [f_X11_count_99, m_g24 hm, Option.bind_some, m_aI hm (a := 75) (n := 156) (i := 0) (c := 0) (by decide) rfl rfl (by decide) (by decide), Option.bind_some, hs 0 (by decide), if_neg (nI_ge (by omega) (by omega)), m_ob hm, Option.bind_some, e_c3 hm (by omega), Option.bind_some, hs _ (by omega), nI_add, nI_1, ih (c + 1) _ fu (by omega) (by omega)]
    congr 3
    show a + m (4 + 7 * c + 3) + sg (fun c => m (7 + 7 * c)) (c + 1) d = a + (m (7 + 7 * c) + sg (fun c => m (7 + 7 * c)) (c + 1) d)
    rw [show 4 + 7 * c + 3 = 7 + 7 * c by omega]
    omega
theorem fells_m {τ : Mm} {m : Nat → Nat} (hm : WFm τ) (hs : ∀ i, i < 156 → iv τ 75 i = nI (m i)) (hn : m 1 ≤ 12) : ∀ d c a fu, c + d = m 1 → d < fu → f_X11_count_58 N fu 63 (nI a) (nI c) τ = some (nI (a + sg (fun t => m (90 + 3 * t)) c d), τ) := by
  intro d
  induction d with
  | zero =>
    intro c a fu h1 h2
    obtain ⟨fu, rfl⟩ : ∃ q, fu = q + 1 := ⟨fu - 1, by omega⟩
    rw [f_X11_count_58, m_g24 hm, Option.bind_some, m_aI hm (a := 75) (n := 156) (i := 1) (c := 1) (by decide) rfl rfl (by decide) (by decide), Option.bind_some, hs 1 (by decide), if_pos (nI_le (by omega) (by omega))]
    rfl
  | succ d ih =>
    intro c a fu h1 h2
    obtain ⟨fu, rfl⟩ : ∃ q, fu = q + 1 := ⟨fu - 1, by omega⟩
    rw [f_X11_count_58, m_g24 hm, Option.bind_some, m_aI hm (a := 75) (n := 156) (i := 1) (c := 1) (by decide) rfl rfl (by decide) (by decide), Option.bind_some, hs 1 (by decide), if_neg (nI_ge (by omega) (by omega)), m_ob hm, Option.bind_some, e_t2 hm (by omega), Option.bind_some, hs _ (by omega), nI_add, nI_1, ih (c + 1) _ fu (by omega) (by omega)]
    congr 3
    show a + m (88 + 3 * c + 2) + sg (fun t => m (90 + 3 * t)) (c + 1) d = a + (m (90 + 3 * c) + sg (fun t => m (90 + 3 * t)) (c + 1) d)
    rw [show 88 + 3 * c + 2 = 90 + 3 * c by omega]
    omega
theorem st_count (hN : 20 ≤ N) (a1 : Int32) : StepI Inv (f_X10_count N 0 a1) (f_X11_count N 63 a1) := by
  refine step_q fun σ τ hi => ?_
  obtain ⟨hc, hm, hnn, ⟨t, by', t1, t2, t3, t4, t5⟩, ⟨nl, l1, l2, l3, l4⟩, ⟨m, hw, hr, hs⟩, -⟩ := hi
  have h0 := hw.1
  have h1 := hw.2.1
  unfold f_X10_count f_X11_count
  by_cases e0 : a1 = 0
  · subst e0
    simp only [k_0_4 hc, v_i (now9 hc), Option.bind_some, hr.1, m_g24 hm, m_aI hm (a := 75) (n := 156) (i := 0) (c := 0) (by decide) rfl rfl (by decide) (by decide), hs 0 (by decide), if_true]
    exact ⟨_, _, _, rfl, rfl, QC.rf _, QM.rf _⟩
  by_cases e1 : a1 = 1
  · subst e1
    simp only [k_0_4 hc, v_i (now9 hc), Option.bind_some, hr.2.1, m_g24 hm, m_aI hm (a := 75) (n := 156) (i := 1) (c := 1) (by decide) rfl rfl (by decide) (by decide), hs 1 (by decide), if_true, if_neg z1]
    exact ⟨_, _, _, rfl, rfl, QC.rf _, QM.rf _⟩
  by_cases e2 : a1 = 2
  · subst e2
    simp only [k_i0 hc, l2, m_gI hm, l3, Option.bind_some, if_true, if_neg e0, if_neg e1]
    exact ⟨_, _, _, rfl, rfl, QC.rf _, QM.rf _⟩
  by_cases e3 : a1 = 3
  · subst e3
    simp only [k_0_4 hc, v_i (now9 hc), Option.bind_some, hr.2.2.2.1, if_true, if_neg e0, if_neg e1, if_neg e2, e_bitCount hw.fm]
    refine ⟨_, _, _, rfl, ?_, QC.rf _, QM.rf _⟩
    rw [show (0 : Int32) = nI 0 from rfl, fells_m hm hs h1 (m 1) 0 0 N (by omega) (by omega), pc_fm hw.bits h1, Nat.zero_add]
  by_cases e4 : a1 = 4
  · subst e4
    simp only [k_0_4 hc, v_i (now9 hc), Option.bind_some, hr.2.2.1, m_g24 hm, m_aI hm (a := 75) (n := 156) (i := 2) (c := 2) (by decide) rfl rfl (by decide) (by decide), hs 2 (by decide), if_true, if_neg e0, if_neg e1, if_neg e2, if_neg e3]
    exact ⟨_, _, _, rfl, rfl, QC.rf _, QM.rf _⟩
  by_cases e5 : a1 = 5
  · subst e5
    simp only [k_0_0 hc, k_i1 hc, t3, m_gI hm, t4, Option.bind_some, if_true, if_neg e0, if_neg e1, if_neg e2, if_neg e3, if_neg e4]
    exact ⟨_, _, _, rfl, rfl, QC.rf _, QM.rf _⟩
  by_cases e6 : a1 = 6
  · subst e6
    simp only [k_0_4 hc, v_o (now9 hc), Option.bind_some, if_true, if_neg e0, if_neg e1, if_neg e2, if_neg e3, if_neg e4, if_neg e5]
    unfold f_X7_ageOfAll
    rw [show (0 : Int32) = nI 0 from rfl, ages_c (now9 hc) hr.1 h0 (g := fun c => m (7 + 7 * c)) (fun c hc' => by have := hr.2.2.2.2.1 c hc' 3 (by decide); rwa [show 4 + 7 * c + 3 = 7 + 7 * c by omega] at this) (m 0) 0 0 N (by omega) (by omega), ages_m hm hs h0 (m 0) 0 0 N (by omega) (by omega), Option.bind_some]
    exact ⟨_, _, _, rfl, rfl, QC.rf _, QM.rf _⟩
  simp only [if_neg e0, if_neg e1, if_neg e2, if_neg e3, if_neg e4, if_neg e5, if_neg e6]
  exact ⟨_, _, _, rfl, rfl, QC.rf _, QM.rf _⟩
end SR
/-! fell -/
theorem fm_flip {m : Nat → Nat} (h : ∀ t, t < 12 → m (90 + 3 * t) ≤ 1) {n t : Nat} (hn : n ≤ 12) (ht : t < n) : fmask (um m (90 + 3 * t) (1 - m (90 + 3 * t))) n = fmask m n ^^^ 2 ^ t := by
  have hb := h t (by omega)
  have h2 : ∀ t', t' < 12 → um m (90 + 3 * t) (1 - m (90 + 3 * t)) (90 + 3 * t') ≤ 1 := by
    intro t' ht'
    by_cases e : t' = t
    · rw [e, um_s]; omega
    · rw [um_n m _ (by omega)]; exact h t' ht'
  apply Nat.eq_of_testBit_eq
  intro i
  rw [Nat.testBit_xor, Nat.testBit_two_pow, fm_tb h2 n hn i, fm_tb h n hn i]
  by_cases e : t = i
  · subst e
    rw [um_s]
    by_cases q : m (90 + 3 * t) = 1
    · simp [q, ht]
    · have : m (90 + 3 * t) = 0 := by omega
      simp [this, ht]
  · rw [um_n m _ (by omega)]
    simp [e]
theorem InvN.fell {σ τ : Mm} {m : Nat → Nat} (h : InvN σ τ m) {t : Nat} (ht : t < m 1) : InvN (si σ 9 11 (nI (fmask m (m 1) ^^^ 2 ^ t))) (si τ 75 (90 + 3 * t) (nI (1 - m (90 + 3 * t)))) (um m (90 + 3 * t) (1 - m (90 + 3 * t))) := by
  obtain ⟨⟨w1, w2, w3, w4, w5, w6, w7⟩, ⟨r1, r2, r3, r4, r5, r6, r7⟩, h3⟩ := h
  have ne : ∀ j, j ≠ 90 + 3 * t → um m (90 + 3 * t) (1 - m (90 + 3 * t)) j = m j := fun j hj => um_n m _ hj
  have e9 : ∀ k, k ≠ 11 → iv (si σ 9 11 (nI (fmask m (m 1) ^^^ 2 ^ t))) 9 k = iv σ 9 k := fun k hk => by rw [iv_si, if_neg (fun e => hk e.2)]
  have eo : ∀ o, o ≠ 9 → iv (si σ 9 11 (nI (fmask m (m 1) ^^^ 2 ^ t))) o = iv σ o := fun o ho => iv_row σ _ _ ho
  refine ⟨⟨by rw [ne 0 (by omega)]; exact w1, by rw [ne 1 (by omega)]; exact w2, by rw [ne 2 (by omega)]; exact w3, by rw [ne 3 (by omega)]; exact w4, fun c hc => ?_, fun t' ht' => ?_, fun k hk => by rw [ne _ (by omega)]; exact w7 k hk⟩, ⟨?_, ?_, ?_, ?_, ?_, ?_, ?_⟩, ?_⟩
  · rw [ne _ (by omega), ne _ (by omega), ne _ (by omega), ne _ (by omega), ne _ (by omega), ne _ (by omega), ne _ (by omega)]; exact w5 c hc
  · rw [ne _ (by omega), ne _ (by omega)]
    refine ⟨(w6 t' ht').1, (w6 t' ht').2.1, ?_⟩
    by_cases e : t' = t
    · rw [e, um_s]; omega
    · rw [ne _ (by omega)]; exact (w6 t' ht').2.2
  · rw [e9 0 (by decide), ne 0 (by omega)]; exact r1
  · rw [e9 8 (by decide), ne 1 (by omega)]; exact r2
  · rw [e9 13 (by decide), ne 2 (by omega)]; exact r3
  · rw [iv_si, if_pos ⟨rfl, rfl⟩, ne 1 (by omega), fm_flip (fun t' ht' => (w6 t' ht').2.2) w2 ht]
  · intro c hc k hk
    rw [ne 0 (by omega)] at hc
    rw [eo _ (by omega), ne _ (by omega)]; exact r5 c hc k hk
  · intro t' ht'
    rw [ne 1 (by omega)] at ht'
    rw [eo _ (by omega), eo _ (by omega), ne _ (by omega), ne _ (by omega)]; exact r6 t' ht'
  · intro k hk
    rw [eo _ (by omega), ne _ (by omega)]; exact r7 k hk
  · intro i hi
    rw [iv_si]
    by_cases e : i = 90 + 3 * t
    · rw [if_pos ⟨rfl, e⟩, e, um_s]
    · rw [if_neg (fun q => e q.2), ne i e]; exact h3 i hi
theorem st_fell {N : Nat} (a1 a2 : Int32) : StepI Inv (f_X10_fell N 0 a1 (if a2 = 0 then 0 else 1)) (f_X11_fell N 63 a1 (if a2 = 0 then 0 else 1)) := by
  refine step_n fun σ τ hi => ?_
  obtain ⟨hc, hm, hnn, -, -, ⟨m, hI⟩, -⟩ := id hi
  obtain ⟨hw, hr, hs⟩ := id hI
  have h12 := hw.2.1
  unfold f_X10_fell f_X10_fell_31 f_X10_fell_34 f_X11_fell f_X11_fell_23 f_X11_fell_50 f_X11_fell_27
  simp only [k_0_4 hc, v_o (now9 hc), e_hasTree (now9 hc) hr.2.1 h12, m_ob hm, e_isTree hm, hs 1 (by decide), Option.bind_some]
  rcases bi_in (x := a1) (n := m 1) (by omega) with ⟨t, h1, rfl, h3⟩ | ⟨h1, h2⟩
  · have hfm := hw.fm
    have hx : fmask m (m 1) / 2 ^ t % 2 = m (90 + 3 * t) := fm_bit hw.bits h12 h1
    have hb := hw.bits t (by omega)
    have ht2 : 2 ^ t < 2 ^ 32 := Nat.pow_lt_pow_right (by decide) (by omega)
    rw [h3]
    simp only [if_neg z1, v_i (now9 hc), Option.bind_some, hr.2.2.2.1, bitAt (show fmask m (m 1) < 2 ^ 31 by omega) (show t < 32 by omega), hx, e_t2 hm (show t < 12 by omega), hs (90 + 3 * t) (by omega), m_g24 hm, v_p (now9 hc), shl1 (show t < 32 by omega), nI_xor (fmask m (m 1)) (2 ^ t) (by omega) ht2, show 88 + 3 * t + 2 = 90 + 3 * t by omega]
    have sI' : ∀ v : Int32, sI 113 τ 75 (((88 : Int32) + ((3 : Int32) * nI t)) + (2 : Int32)) v = some (si τ 75 (90 + 3 * t) v) := fun v => m_sI hm (by decide) rfl (by rw [show 90 + 3 * t = 88 + 3 * t + 2 by omega, ← nI_add, ← nI_add, ← pk_mul]; rfl) (by omega) (by decide)
    have fin : ∀ b, m (90 + 3 * t) = b → Inv (si σ 9 11 (nI (fmask m (m 1) ^^^ 2 ^ t))) (si τ 75 (90 + 3 * t) (nI (1 - b))) := fun b hb' => inv_n hi (QCn.si σ _ _ (by decide)) (QMn.si τ _ _) ⟨_, by subst hb'; exact hI.fell h1⟩
    by_cases ha : a2 = 0
    · simp only [if_pos ha, if_true, sI', Option.bind_some]
      rcases (show m (90 + 3 * t) = 0 ∨ m (90 + 3 * t) = 1 by omega) with e | e
      · rw [e]
        exact ⟨_, _, _, rfl, rfl, rfl, rfl, hi⟩
      · rw [e]
        exact ⟨_, _, si τ 75 (90 + 3 * t) 0, rfl, rfl, rfl, rfl, fin 1 e⟩
    · simp only [if_neg ha, if_neg z1, sI', Option.bind_some]
      rcases (show m (90 + 3 * t) = 0 ∨ m (90 + 3 * t) = 1 by omega) with e | e
      · rw [e]
        exact ⟨_, _, si τ 75 (90 + 3 * t) 1, rfl, rfl, rfl, rfl, fin 0 e⟩
      · rw [e]
        exact ⟨_, _, _, rfl, rfl, rfl, rfl, hi⟩
  · rw [h2]
    exact ⟨_, _, _, rfl, rfl, rfl, rfl, hi⟩
