/-! the felled TREES as bits -/
theorem fm_lt {m : Nat → Nat} (h : ∀ t, t < 12 → m (90 + 3 * t) ≤ 1) : ∀ n, n ≤ 12 → fmask m n < 2 ^ n := by
  intro n
  induction n with
  | zero => intro _; exact (by decide : 0 < 2 ^ 0)
  | succ n ih =>
    intro hn
    have h1 := ih (by omega)
    have h2 := h n (by omega)
    show fmask m n + m (90 + 3 * n) * 2 ^ n < 2 ^ (n + 1)
    rw [Nat.pow_succ]
    have : m (90 + 3 * n) * 2 ^ n ≤ 1 * 2 ^ n := Nat.mul_le_mul_right _ h2
    omega
theorem fm_tb {m : Nat → Nat} (h : ∀ t, t < 12 → m (90 + 3 * t) ≤ 1) : ∀ n, n ≤ 12 → ∀ i, (fmask m n).testBit i = decide (i < n ∧ m (90 + 3 * i) = 1) := by
  intro n
  induction n with
  | zero => intro _ i; simp [fmask]
  | succ n ih =>
    intro hn i
    have h0 := fm_lt h n (by omega)
    have h2 := h n (by omega)
    show (fmask m n + m (90 + 3 * n) * 2 ^ n).testBit i = _
    by_cases hb : m (90 + 3 * n) = 0
    · rw [hb, Nat.zero_mul, Nat.add_zero, ih (by omega) i]
      by_cases hi : i = n
      · subst hi; simp [hb]
      · have : (i < n ∧ m (90 + 3 * i) = 1) ↔ (i < n + 1 ∧ m (90 + 3 * i) = 1) := by omega
        simp only [this]
    · have hb1 : m (90 + 3 * n) = 1 := by omega
      rw [hb1, Nat.one_mul, Nat.add_comm]
      by_cases hi : i = n
      · subst hi
        rw [Nat.testBit_two_pow_add_eq, ih (by omega) i]
        simp [hb1]
      · by_cases hlt : i < n
        · rw [Nat.testBit_two_pow_add_gt hlt, ih (by omega) i]
          have : (i < n ∧ m (90 + 3 * i) = 1) ↔ (i < n + 1 ∧ m (90 + 3 * i) = 1) := by omega
          simp only [this]
        · rw [Nat.testBit_lt_two_pow (Nat.lt_of_lt_of_le (by omega : 2 ^ n + fmask m n < 2 ^ (n + 1)) (Nat.pow_le_pow_right (by decide) (by omega)))]
          have : ¬ (i < n + 1 ∧ m (90 + 3 * i) = 1) := by omega
          simp [this]
theorem fm_bit {m : Nat → Nat} (h : ∀ t, t < 12 → m (90 + 3 * t) ≤ 1) {n t : Nat} (hn : n ≤ 12) (ht : t < n) : fmask m n / 2 ^ t % 2 = m (90 + 3 * t) := by
  have h1 := fm_tb h n hn t
  rw [Nat.testBit_eq_decide_div_mod_eq] at h1
  have h2 := h t (by omega)
  have h3 : (fmask m n / 2 ^ t % 2 = 1) ↔ (t < n ∧ m (90 + 3 * t) = 1) := decide_eq_decide.mp h1
  by_cases hb : m (90 + 3 * t) = 1
  · rw [hb]; exact h3.mpr ⟨ht, hb⟩
  · have : ¬ fmask m n / 2 ^ t % 2 = 1 := fun q => hb (h3.mp q).2
    omega
theorem WS.bits {m : Nat → Nat} (h : WS m) : ∀ t, t < 12 → m (90 + 3 * t) ≤ 1 := fun t ht => (h.2.2.2.2.2.1 t ht).2.2
theorem WS.fm {m : Nat → Nat} (h : WS m) : fmask m (m 1) < 4096 := Nat.lt_of_lt_of_le (fm_lt h.bits (m 1) h.2.1) (Nat.pow_le_pow_right (by decide) h.2.1 : 2 ^ m 1 ≤ 2 ^ 12)
section SO
variable {N : Nat}
theorem st_tree (a1 a2 : Int32) : StepI Inv (f_X10_tree N 0 a1 a2) (f_X11_tree N 63 a1 a2) := by
  refine step_q fun σ τ hi => ?_
  obtain ⟨hc, hm, hnn, -, -, ⟨m, hw, hr, hs⟩, -⟩ := hi
  have h12 := hw.2.1
  unfold f_X10_tree f_X11_tree f_X11_tree_29 f_X11_tree_30
  simp only [k_0_4 hc, v_o (now9 hc), e_hasTree (now9 hc) hr.2.1 hw.2.1, m_ob hm, e_isTree hm, hs 1 (by decide), e_in_n a2 3 (by decide) (by decide) (show (2 : Int64) = (nI 2).toInt64 by decide), Option.bind_some]
  rcases bi_in (x := a1) (n := m 1) (by omega) with ⟨c, h1, rfl, h3⟩ | ⟨h1, h2⟩
  · rw [h3]
    simp only [if_neg z1, v_g9 (now9 hc), v_g10 (now9 hc), v_i (now9 hc), v_a (now9 hc) rfl (show 1 ≤ 8 by decide) (by decide) (show c < 12 by omega), v_a (now9 hc) rfl (show 1 ≤ 9 by decide) (by decide) (show c < 12 by omega), Option.bind_some]
    have r := hr.2.2.2.2.2.1 c h1
    have rf := hr.2.2.2.1
    rcases bi_in (x := a2) (n := 3) (by decide) with ⟨k, g1, rfl, g3⟩ | ⟨g1, g2⟩
    · rw [g3]
      simp only [if_neg z1, e_treeOf hm c k rfl rfl (show c < 12 by omega) g1, Option.bind_some]
      refine ⟨_, _, _, ?_, rfl, QC.rf _, QM.rf _⟩
      rw [hs _ (by omega)]
      match k, g1 with
      | 0, _ => rw [if_pos (by decide), r.1, Nat.add_zero]
      | 1, _ => rw [if_neg (by decide), if_pos (by decide), r.2, show 88 + 3 * c + 1 = 89 + 3 * c by omega]
      | 2, _ =>
        rw [if_neg (by decide), if_neg (by decide), if_pos (by decide), rf, bitAt (by have := hw.fm; omega) (by omega), fm_bit hw.bits h12 h1, show 88 + 3 * c + 2 = 90 + 3 * c by omega]
      | k + 3, h => omega
    · rw [g2]
      have ne : ∀ k : Nat, k < 3 → ¬ a2 = nI k := fun k hk e => g1 (by subst e; exact ⟨nI_pos' (by omega), nI_lt hk (by decide)⟩)
      rw [if_neg (show ¬ a2 = (0 : Int32) from ne 0 (by decide)), if_neg (show ¬ a2 = (1 : Int32) from ne 1 (by decide)), if_neg (show ¬ a2 = (2 : Int32) from ne 2 (by decide))]
      exact ⟨_, _, _, rfl, rfl, QC.rf _, QM.rf _⟩
  · rw [h2]
    exact ⟨_, _, _, rfl, rfl, QC.rf _, QM.rf _⟩
theorem e_gain {σ : Mm} {v : Nat} (hv : VW σ v) {a p : Nat} (ha : a < 4) (hp : p < 8) : f_X7_gain N v (nI a) (nI p) σ = some (iv σ (v + 10) (8 * a + p), σ) := by
  unfold f_X7_gain f_X7_gain_31 f_X7_gain_32
  simp only [e_isBelow, Option.bind_some]
  rw [bi_y ⟨nI_pos' (by omega), nI_lt ha (by decide)⟩, bi_y ⟨nI_pos' (by omega), nI_lt hp (by decide)⟩, if_neg z1, if_neg z1, v_g12 hv, Option.bind_some, v_a10 hv (c := 8 * a + p) (by rw [← nI_add, Nat.mul_comm, ← pk_mul]; rfl) (by omega), Option.bind_some]
theorem pos_iff {n : Nat} (h : n < 2 ^ 31) : (0 < nI n) ↔ 0 < n := by rw [show (0 : Int32) = nI 0 from rfl, nI_ltI (by decide) h]
theorem npos_iff {n : Nat} (h : n < 2 ^ 31) : (nI n ≤ 0) ↔ n = 0 := by rw [show (0 : Int32) = nI 0 from rfl, nI_leI h (by decide)]; omega
theorem e_worthM {τ : Mm} (hm : WFm τ) {m : Nat → Nat} (hs : ∀ i, i < 156 → iv τ 75 i = nI (m i)) {n a p : Nat} (hn : m 0 = n) (hn0 : 0 < n) (hn12 : n ≤ 12) (ha : a < 4) (hp : p < 8) : f_X11_worth N 63 (nI a) (nI p) τ = some (nI (m (124 + (8 * a + p))), τ) := by
  unfold f_X11_worth f_X11_worth_45 f_X11_worth_46
  simp only [m_g24 hm, m_aI hm (a := 75) (n := 156) (i := 0) (c := 0) (by decide) rfl rfl (by decide) (by decide), hs 0 (by decide), Option.bind_some, e_in_n (nI a) 4 (by decide) (by decide) (show (3 : Int64) = (nI 3).toInt64 by decide), e_isPoint]
  rw [if_neg (by rw [npos_iff (by omega)]; omega), bi_y ⟨nI_pos' (by omega), nI_lt ha (by decide)⟩, bi_y ⟨nI_pos' (by omega), nI_lt hp (by decide)⟩, if_neg z1, if_neg z1, m_aI hm (a := 75) (n := 156) (c := 124 + (8 * a + p)) (by decide) rfl (by rw [← Nat.add_assoc, ← nI_add, ← nI_add, ← pk_mul]; rfl) (by omega) (by decide), Option.bind_some, hs _ (by omega)]
theorem st_worth (a1 a2 : Int32) : StepI Inv (f_X10_worth N 0 a1 a2) (f_X11_worth N 63 a1 a2) := by
  refine step_q fun σ τ hi => ?_
  obtain ⟨hc, hm, hnn, -, -, ⟨m, hw, hr, hs⟩, -⟩ := hi
  have h12 := hw.1
  by_cases h0 : m 0 = 0
  · refine ⟨-1, σ, τ, ?_, ?_, QC.rf _, QM.rf _⟩
    · unfold f_X10_worth f_X10_worth_24
      simp only [k_o0 hc, e_isThere hc, hr.1, Option.bind_some]
      rw [bi_n (by rw [pos_iff (by omega)]; omega), if_pos rfl]
    · unfold f_X11_worth f_X11_worth_45 f_X11_worth_46
      simp only [m_g24 hm, m_aI hm (a := 75) (n := 156) (i := 0) (c := 0) (by decide) rfl rfl (by decide) (by decide), hs 0 (by decide), Option.bind_some]
      rw [if_pos (by rw [npos_iff (by omega)]; exact h0)]
  · rcases bi_in (x := a1) (n := 4) (by decide) with ⟨a, g1, rfl, g3⟩ | ⟨g1, g2⟩
    · rcases bi_in (x := a2) (n := 8) (by decide) with ⟨p, p1, rfl, p3⟩ | ⟨p1, p2⟩
      · refine ⟨nI (m (124 + (8 * a + p))), σ, τ, ?_, e_worthM hm hs rfl (by omega) h12 g1 p1, QC.rf _, QM.rf _⟩
        unfold f_X10_worth f_X10_worth_24
        simp only [k_o0 hc, e_isThere hc, hr.1, Option.bind_some, e_isBelow, k_0_4 hc, v_o (now9 hc), e_gain (now9 hc) g1 p1]
        have g3 : bi (0 ≤ nI a ∧ nI a < 4) = 1 := g3
        have p3 : bi (0 ≤ nI p ∧ nI p < 8) = 1 := p3
        rw [bi_y (by rw [pos_iff (by omega)]; omega), g3, p3, if_neg z1, if_neg z1, if_neg z1, hr.2.2.2.2.2.2 _ (by omega)]
      · refine ⟨-1, σ, τ, ?_, ?_, QC.rf _, QM.rf _⟩
        · unfold f_X10_worth f_X10_worth_24
          simp only [k_o0 hc, e_isThere hc, hr.1, Option.bind_some, e_isBelow]
          have g3 : bi (0 ≤ nI a ∧ nI a < 4) = 1 := g3
          have p2 : bi (0 ≤ a2 ∧ a2 < 8) = 0 := p2
          rw [bi_y (by rw [pos_iff (by omega)]; omega), g3, p2, if_neg z1, if_neg z1, if_pos rfl]
        · unfold f_X11_worth f_X11_worth_45 f_X11_worth_46
          simp only [m_g24 hm, m_aI hm (a := 75) (n := 156) (i := 0) (c := 0) (by decide) rfl rfl (by decide) (by decide), hs 0 (by decide), Option.bind_some, e_in_n (nI a) 4 (by decide) (by decide) (show (3 : Int64) = (nI 3).toInt64 by decide), e_isPoint]
          have p2 : bi (0 ≤ a2 ∧ a2 < 8) = 0 := p2
          rw [if_neg (by rw [npos_iff (by omega)]; omega), g3, p2, if_neg z1, if_pos rfl]
    · refine ⟨-1, σ, τ, ?_, ?_, QC.rf _, QM.rf _⟩
      · unfold f_X10_worth f_X10_worth_24
        simp only [k_o0 hc, e_isThere hc, hr.1, Option.bind_some, e_isBelow]
        have g2 : bi (0 ≤ a1 ∧ a1 < 4) = 0 := g2
        rw [bi_y (by rw [pos_iff (by omega)]; omega), g2, if_neg z1, if_pos rfl]
      · unfold f_X11_worth f_X11_worth_45 f_X11_worth_46
        simp only [m_g24 hm, m_aI hm (a := 75) (n := 156) (i := 0) (c := 0) (by decide) rfl rfl (by decide) (by decide), hs 0 (by decide), Option.bind_some, e_in_n a1 4 (by decide) (by decide) (show (3 : Int64) = (nI 3).toInt64 by decide)]
        rw [if_neg (by rw [npos_iff (by omega)]; omega), g2, if_pos rfl]
theorem st_rusts (a1 a2 : Int32) : StepI Inv (f_X10_rusts N 0 a1 a2) (f_X11_rusts N 63 a1 a2) := by
  refine step_n fun σ τ hi => ?_
  obtain ⟨hc, hm, hnn, -, -, ⟨m, hI⟩, -⟩ := id hi
  obtain ⟨hw, hr, hs⟩ := id hI
  have h12 := hw.1
  unfold f_X10_rusts f_X10_rusts_20 f_X11_rusts f_X11_rusts_20
  simp only [k_0_4 hc, v_o (now9 hc), e_hasCock (now9 hc) hr.1 hw.1, m_ob hm, e_isCock hm, hs 0 (by decide), e_isBelow, Option.bind_some, e_in_n a2 10 (by decide) (by decide) (show (9 : Int64) = (nI 9).toInt64 by decide)]
  rcases bi_in (x := a1) (n := m 0) (by omega) with ⟨c, h1, rfl, h3⟩ | ⟨h1, h2⟩
  · rcases bi_in (x := a2) (n := 10) (by decide) with ⟨k, g1, rfl, g3⟩ | ⟨g1, g2⟩
    · have g3' : bi (0 ≤ nI k ∧ nI k < 10) = 1 := g3
      rw [h3, g3, g3']
      simp only [if_neg z1, v_g3 (now9 hc), v_a (now9 hc) rfl (show 1 ≤ 3 by decide) (by decide) (show c < 12 by omega), Option.bind_some, e_c2 hm (show c < 12 by omega), v_s (now9 hc) rfl (show 1 ≤ 3 by decide) (by decide) (show c < 12 by omega), m_g24 hm, m_sI hm (a := 75) (n := 156) (c := 4 + 7 * c + 2) (by decide) rfl (show (((4 : Int32) + ((7 : Int32) * nI c)) + (2 : Int32)) = nI (4 + 7 * c + 2) by rw [← nI_add, ← nI_add, ← pk_mul]; rfl) (by omega) (by decide)]
      refine ⟨_, _, si τ 75 (4 + 7 * c + 2) (nI k), rfl, ?_, rfl, rfl, inv_n hi (QCn.si σ _ _ (by decide)) (QMn.si τ _ _) ⟨_, hI.cock (k := 2) (v := k) h1 (by decide) (by show k ≤ 9; omega)⟩⟩
      rw [hs _ (by omega), ← hr.2.2.2.2.1 c h1 2 (by decide)]
    · have g2' : bi (0 ≤ a2 ∧ a2 < 10) = 0 := g2
      rw [h3, g2, g2']
      exact ⟨_, _, _, rfl, rfl, rfl, rfl, hi⟩
  · rw [h2]
    exact ⟨_, _, _, rfl, rfl, rfl, rfl, hi⟩
theorem st_oil (a1 : Int32) : StepI Inv (f_X10_oil N 0 a1) (f_X11_oil N 63 a1) := by
  intro σ τ hi
  obtain ⟨r, σ', τ', h1, h2, h3, h4⟩ := st_rusts (N := N) a1 0 σ τ hi
  refine ⟨r, σ', τ', ?_, ?_, h3, h4⟩
  · unfold f_X10_oil
    rw [k_o0 hi.1, Option.bind_some, h1, Option.bind_some]
  · unfold f_X11_oil
    have hm' : WFm (setn τ (nn σ')) := by
      refine ⟨?_, hi.2.1.2⟩
      have := h4.1.1
      rw [nn_setn]
      exact this
    rw [m_ob hm', Option.bind_some, h2, Option.bind_some]
end SO
