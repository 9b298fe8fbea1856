/-! bought -/
section BO
variable {N : Nat}
theorem m1_all : ∀ t, t < 32 → ¬ ((-1 : Int32) >>> (nI t &&& 31)) &&& 1 = 0 := by decide +kernel
theorem bne {m : Nat → Nat} {p : Nat} (h12 : m 0 ≤ 12) : ∀ d c fu σ, c + d = m 0 → d < fu → WFc σ → RelV σ 9 m → (∀ j, j < c → iv σ 44 j = nI p ∧ iv σ 45 j = nI 1) → ∃ σ', f_X4_bendEachForOne_2 N fu 42 9 (nI p) (nI c) σ = some σ' ∧ RS [44, 45] σ σ' ∧ ∀ j, j < m 0 → iv σ' 44 j = nI p ∧ iv σ' 45 j = nI 1 := by
  intro d
  induction d with
  | zero =>
    intro c fu σ h1 h2 hc hr hj
    obtain ⟨fu, rfl⟩ : ∃ q, fu = q + 1 := ⟨fu - 1, by omega⟩
    refine ⟨σ, ?_, RS.rf _ _, fun j h => hj j (by omega)⟩
    rw [f_X4_bendEachForOne_2, v_i (now9 hc), Option.bind_some, hr.1, if_pos (nI_le (by omega) (by omega)), f_X4_bendEachForOne_36]
  | succ d ih =>
    intro c fu σ h1 h2 hc hr hj
    obtain ⟨fu, rfl⟩ : ∃ q, fu = q + 1 := ⟨fu - 1, by omega⟩
    obtain ⟨s1, e1⟩ : ∃ s, s = si σ 44 c (nI p) := ⟨_, rfl⟩
    obtain ⟨s2, e2⟩ : ∃ s, s = si s1 45 c (nI 1) := ⟨_, rfl⟩
    have r1 : RS [44, 45] σ s1 := by rw [e1]; exact (RO.si _ _ _ _).rs (by decide)
    have r2 : RS [44, 45] σ s2 := by rw [e2]; exact r1.tr ((RO.si _ _ _ _).rs (by decide))
    have c1 := r1.wc hc
    obtain ⟨σ', f1, f2, f3⟩ := ih (c + 1) fu s2 (by omega) (by omega) (r2.wc hc) (r2.rel (by decide) hr) (fun j hj' => by
      constructor
      · rw [e2, iv_row _ _ _ (by decide), e1, iv_si]
        by_cases e : j = c
        · rw [if_pos ⟨rfl, e⟩]
        · rw [if_neg (fun q => e q.2)]; exact (hj j (by omega)).1
      · rw [e2, iv_si]
        by_cases e : j = c
        · rw [if_pos ⟨rfl, e⟩]
        · rw [if_neg (fun q => e q.2), e1, iv_row _ _ _ (by decide)]; exact (hj j (by omega)).2)
    refine ⟨σ', ?_, r2.tr f2, f3⟩
    rw [f_X4_bendEachForOne_2, v_i (now9 hc), Option.bind_some, hr.1, if_neg (nI_ge (by omega) (by omega)), if_neg (by rw [show (12 : Int32) = nI 12 from rfl]; exact nI_ge (by omega) (by decide)), k_42_2 hc, Option.bind_some, k_sI hc (a := 44) (n := 12) (c := c) (by decide) rfl rfl (by omega) (by decide), Option.bind_some, ← e1, k_42_3 c1, Option.bind_some, show (1 : Int32) = nI 1 from rfl, k_sI c1 (a := 45) (n := 12) (c := c) (by decide) rfl rfl (by omega) (by decide), Option.bind_some, ← e2, nI_add, f1]
/-- is it to be bought for so much? -/
def boE (m f : Nat → Nat) (way k p S : Nat) : Bool := decide (pc S ≤ k) && decide (voteV way (m 0) (roS f (fun _ => p) S) (ages m) = p)
def bo (m f : Nat → Nat) (way k p : Nat) : Bool := decide (∃ S, S < 2 ^ m 0 ∧ boE m f way k p S = true)
theorem co_one {n S : Nat} (hn : n ≤ 12) (hS : S < 2 ^ n) : coS (fun _ => 1) n S = pc S := (pc_n hn hS).symm
theorem bgc (hN : 5000 ≤ N) {m f : Nat → Nat} {way k : Nat} (hws : WS m) (h0 : 0 < m 0) (hf : ∀ c, c < m 0 → f c < 8) (hway : way < 4) (hk : k ≤ 12) (hv8 : ∀ r : Nat → Nat, (∀ c, c < m 0 → r c < 8) → voteV way (m 0) r (ages m) < 8) : ∀ d p fu σ, p + d = 8 → d < fu → WFc σ → RelV σ 9 m → (∀ c, c < m 0 → iv σ 43 c = nI (f c)) → ∃ σ', f_X10_bought_43 N fu 0 (nI way) (nI k) (nI (msk (bo m f way k) p)) (nI p) σ = some (nI (msk (bo m f way k) 8), σ') ∧ RS buyL σ σ' := by
  have h12 := hws.1
  intro d
  induction d with
  | zero =>
    intro p fu σ h1 h2 hc hr h43
    obtain ⟨fu, rfl⟩ : ∃ q, fu = q + 1 := ⟨fu - 1, by omega⟩
    refine ⟨σ, ?_, RS.rf _ _⟩
    rw [f_X10_bought_43, if_pos (by rw [i8]; exact nI_le (by omega) (by omega)), show p = 8 by omega]
  | succ d ih =>
    intro p fu σ h1 h2 hc hr h43
    obtain ⟨fu, rfl⟩ : ∃ q, fu = q + 1 := ⟨fu - 1, by omega⟩
    have hp : p < 8 := by omega
    obtain ⟨s1, b1, b2, b3⟩ := bne (N := N) (p := p) h12 (m 0) 0 N σ (by omega) (by omega) hc hr (fun j hj => absurd hj (Nat.not_lt_zero _))
    have c1 := b2.wc hc
    obtain ⟨s2, w1, w2, w3⟩ := e_run (N := N) (m := m) (f := f) (t := fun _ => p) (P := fun _ => 1) (al := fun _ => true) (l4 := -1) (way := way) (p := p) hN hws h0 hf (fun _ _ => hp) (fun _ _ => by decide) hway hp hv8 (fun c hcn => ⟨fun z => absurd z (m1_all c (by omega)), fun z => by cases z⟩) c1 (b2.rel (by decide) hr) (by rw [b2.2.2 43 (by decide)]; exact h43) (fun c hcn => (b3 c hcn).1) (fun c hcn => (b3 c hcn).2)
    have c2 := w2.wc c1
    have rs2 : RS buyL σ s2 := (b2.mono (by decide)).tr (w2.mono (by decide))
    obtain ⟨σ', g1, g2⟩ := ih (p + 1) fu s2 (by omega) (by omega) c2 (rs2.rel (by decide) hr) (by rw [w2.2.2 43 (by decide), b2.2.2 43 (by decide)]; exact h43)
    refine ⟨σ', ?_, rs2.tr g2⟩
    rw [f_X10_bought_43, if_neg (by rw [i8]; exact nI_ge hp (by decide)), k_0_11 hc, Option.bind_some, k_0_4 hc, Option.bind_some, k_o42 hc, Option.bind_some, show f_X4_bendEachForOne N 42 9 (nI p) σ = some s1 from b1, Option.bind_some, k_0_11 c1, Option.bind_some, k_0_4 c1, Option.bind_some, k_o42 c1, Option.bind_some, w1, Option.bind_some, k_0_11 c2, Option.bind_some, k_i42 c2, Option.bind_some, Option.bind_some, k_i42 c2]
    rcases bst_spec (okS (fun _ => true) (fun r => voteV way (m 0) r (ages m)) f (fun _ => p) (m 0) p) (coS (fun _ => 1) (m 0)) pc (2 ^ m 0) with ⟨e, z⟩ | ⟨b, e, z1', z2, z3⟩
    · rw [e] at w3
      have hb : bo m f way k p = false := by
        apply decide_eq_false
        rintro ⟨S, q1, q2⟩
        have := z S q1
        unfold boE at q2
        unfold okS at this
        simp only [Bool.and_eq_true, decide_eq_true_eq] at q2
        simp [q2.2] at this
      rw [show iv s2 42 6 = 0 from w3, if_pos rfl, f_X10_bought_106, nI_1, ← msk_no _ hb, g1]
    · rw [e] at w3
      have hK : 2 ^ m 0 ≤ 4096 := (Nat.pow_le_pow_right (by decide) h12 : 2 ^ m 0 ≤ 2 ^ 12)
      have co := co_one h12 z1'
      have hpl := pc_le b
      rw [w3.1, if_neg z1, Option.bind_some, w3.2.1, co]
      by_cases q : k < pc b
      · have hb : bo m f way k p = false := by
          apply decide_eq_false
          rintro ⟨S, q1, q2⟩
          unfold boE at q2
          simp only [Bool.and_eq_true, decide_eq_true_eq] at q2
          have := z3 S q1 (by unfold okS; simp [q2.2])
          rw [co, co_one h12 q1] at this
          unfold lxl at this
          omega
        rw [if_pos (nI_lt q (by omega)), f_X10_bought_106, nI_1, ← msk_no _ hb, g1]
      · have hb : bo m f way k p = true := by
          apply decide_eq_true
          refine ⟨b, z1', ?_⟩
          unfold okS at z2
          unfold boE
          simp only [Bool.and_eq_true, decide_eq_true_eq] at z2 ⊢
          exact ⟨by omega, z2.2⟩
        rw [if_neg (by rw [nI_ltI (by omega) (by omega)]; exact q), msk_or _ (by omega) hb, f_X10_bought_106, nI_1, g1]
theorem bgi (hN : 5000 ≤ N) {m f : Nat → Nat} {way k p : Nat} (hws : WS m) (h0 : 0 < m 0) (hf : ∀ c, c < m 0 → f c < 8) (hway : way < 4) (hk : k ≤ 12) (hp : p < 8) (r : Nat → Int32 → Int32 → Int32 → Int32 → Mm → Option (Int32 × Mm)) : ∀ d S fu τ, S + d = 2 ^ m 0 → d < fu → WFm τ → (∀ i, i < 156 → iv τ 75 i = nI (m i)) → (∀ j, j < m 0 → iv τ 78 j = nI (f j)) → (∀ S', S' < S → boE m f way k p S' = false) → ∃ τ', f_X11_bought_53 N r fu 63 (nI way) (nI k) (nI (msk (bo m f way k) p)) (nI p) (nI S) τ = f_X11_bought_123 N r 63 (nI way) (nI k) (nI (msk (bo m f way k) (p + 1))) (nI p) τ' ∧ FS [76, 77] τ τ' := by
  have h12 := hws.1
  have hK : 2 ^ m 0 ≤ 4096 := (Nat.pow_le_pow_right (by decide) h12 : 2 ^ m 0 ≤ 2 ^ 12)
  have hml := msk_lt (bo m f way k) p
  have hm12 := msk_12 (bo m f way k) (c := p) (by omega)
  intro d
  induction d with
  | zero =>
    intro S fu τ h1 h2 hm hs h78 hno
    obtain ⟨fu, rfl⟩ : ∃ q, fu = q + 1 := ⟨fu - 1, by omega⟩
    have hb : bo m f way k p = false := by
      apply decide_eq_false
      rintro ⟨S', q1, q2⟩
      rw [hno S' (by omega)] at q2; cases q2
    refine ⟨τ, ?_, FS.rf _ _⟩
    rw [f_X11_bought_53, m_g24 hm, Option.bind_some, m_aI hm (a := 75) (n := 156) (i := 0) (c := 0) (by decide) rfl rfl (by decide) (by decide), Option.bind_some, hs 0 (by decide), shl1 (by omega), if_pos (nI_le (by omega) (by omega)), msk_no _ hb]
  | succ d ih =>
    intro S fu τ h1 h2 hm hs h78 hno
    obtain ⟨fu, rfl⟩ : ∃ q, fu = q + 1 := ⟨fu - 1, by omega⟩
    have nx : boE m f way k p S = false → ∀ τ2, FS [76, 77] τ τ2 → iv τ2 78 = iv τ 78 → ∃ τ', f_X11_bought_53 N r fu 63 (nI way) (nI k) (nI (msk (bo m f way k) p)) (nI p) (nI (S + 1)) τ2 = f_X11_bought_123 N r 63 (nI way) (nI k) (nI (msk (bo m f way k) (p + 1))) (nI p) τ' ∧ FS [76, 77] τ τ' := by
      intro hn τ2 fs e78
      obtain ⟨τ', g1, g2⟩ := ih (S + 1) fu τ2 (by omega) (by omega) (fs.wm hm) (fs.said (by decide) hs) (by rw [e78]; exact h78) (fun S' hS' => by
        by_cases e : S' = S
        · rw [e]; exact hn
        · exact hno S' (by omega))
      exact ⟨τ', g1, fs.tr g2⟩
    rw [f_X11_bought_53, m_g24 hm, Option.bind_some, m_aI hm (a := 75) (n := 156) (i := 0) (c := 0) (by decide) rfl rfl (by decide) (by decide), Option.bind_some, hs 0 (by decide), shl1 (by omega), if_neg (nI_ge (by omega) (by omega)), e_isOf, Option.bind_some, bitB (by omega) (by omega), tb_out hml (Nat.le_refl _), bi_n (show ¬ (if false = true then (1 : Int32) else 0) = 1 by decide), if_pos rfl, e_bits (by omega) (by omega), Option.bind_some]
    have hpl := pc_le S
    by_cases q : pc S ≤ k
    · obtain ⟨t1, b1, b2, b3⟩ := e_bends (N := N) (S := S) (by omega) hws hp (by omega) hf hm hs h78
      have m1 := b2.wm hm
      have hs1 : ∀ i, i < 156 → iv t1 75 i = nI (m i) := fun i hi => by rw [b2.2.2 75 (by decide)]; exact hs i hi
      obtain ⟨t2, v1, v2, v3⟩ := e_votes (N := N) (a := ages m) (by omega) hws h0 m1 hs1 b3 (roS_lt hf (fun _ _ => hp) S) (fun _ => rfl) hway
      have m2 := v2.wm m1
      have fs2 : FS [76, 77] τ t2 := (b2.fs (by decide) (by decide)).tr (v2.fs (by decide) (by decide))
      rw [if_pos (nI_le q (by omega)), m_ob hm, Option.bind_some, b1, Option.bind_some, m_ob m1, Option.bind_some, v1, Option.bind_some]
      by_cases z : voteV way (m 0) (roS f (fun _ => p) S) (ages m) = p
      · have hb : bo m f way k p = true := by
          apply decide_eq_true
          refine ⟨S, by omega, ?_⟩
          unfold boE
          rw [decide_eq_true q, decide_eq_true z]; rfl
        have hl2 := msk_12 (bo m f way k) (c := p + 1) (by omega)
        have hs2 := fs2.said (by decide) hs
        refine ⟨t2, ?_, fs2⟩
        obtain ⟨fu, rfl⟩ : ∃ q, fu = q + 1 := ⟨fu - 1, by omega⟩
        rw [if_pos (by rw [z]), f_X11_bought_115, msk_or _ (by omega) hb, f_X11_bought_117, nI_1, f_X11_bought_53, m_g24 m2, Option.bind_some, m_aI m2 (a := 75) (n := 156) (i := 0) (c := 0) (by decide) rfl rfl (by decide) (by decide), Option.bind_some, hs2 0 (by decide), shl1 (by omega)]
        by_cases y : 2 ^ m 0 ≤ S + 1
        · rw [if_pos (nI_le y (by omega))]
        · rw [if_neg (nI_ge (by omega) (by omega)), e_isOf, Option.bind_some, bitB (by omega) (by omega), msk_tb, decide_eq_true (Nat.lt_succ_self p), hb, bi_y (show (if (true && true) = true then (1 : Int32) else 0) = 1 from rfl), if_neg z1]
      · rw [if_neg (show ¬ nI (voteV way (m 0) (roS f (fun _ => p) S) (ages m)) = nI p from nIk (by omega) (by omega) z), f_X11_bought_115, i32_or0, f_X11_bought_117, nI_1]
        exact nx (by unfold boE; rw [decide_eq_false z, Bool.and_false]) t2 fs2 (by rw [v2.2.2 78 (by decide), b2.2.2 78 (by decide)])
    · rw [if_neg (nI_ge (by omega) (by omega)), f_X11_bought_117, nI_1]
      exact nx (by unfold boE; rw [decide_eq_false q, Bool.false_and]) τ (FS.rf _ _) rfl
theorem bgm (hN : 5000 ≤ N) {m f : Nat → Nat} {way k : Nat} (hws : WS m) (h0 : 0 < m 0) (hf : ∀ c, c < m 0 → f c < 8) (hway : way < 4) (hk : k ≤ 12) : ∀ d p fu τ, p + d = 8 → d < fu → WFm τ → (∀ i, i < 156 → iv τ 75 i = nI (m i)) → (∀ j, j < m 0 → iv τ 78 j = nI (f j)) → ∃ τ', f_X11_bought_43 N fu 63 (nI way) (nI k) (nI (msk (bo m f way k) p)) (nI p) τ = some (nI (msk (bo m f way k) 8), τ') ∧ FS [76, 77] τ τ' := by
  have h12 := hws.1
  have hK : 2 ^ m 0 ≤ 4096 := (Nat.pow_le_pow_right (by decide) h12 : 2 ^ m 0 ≤ 2 ^ 12)
  intro d
  induction d with
  | zero =>
    intro p fu τ h1 h2 hm hs h78
    obtain ⟨fu, rfl⟩ : ∃ q, fu = q + 1 := ⟨fu - 1, by omega⟩
    refine ⟨τ, ?_, FS.rf _ _⟩
    rw [f_X11_bought_43, if_pos (by rw [i8]; exact nI_le (by omega) (by omega)), show p = 8 by omega]
  | succ d ih =>
    intro p fu τ h1 h2 hm hs h78
    obtain ⟨fu, rfl⟩ : ∃ q, fu = q + 1 := ⟨fu - 1, by omega⟩
    obtain ⟨t1, g1, g2⟩ := bgi hN hws h0 hf hway hk (show p < 8 by omega) (f_X11_bought_43 N fu) (2 ^ m 0) 0 N τ (by omega) (by omega) hm hs h78 (fun _ h => absurd h (Nat.not_lt_zero _))
    obtain ⟨τ', f1, f2⟩ := ih (p + 1) fu t1 (by omega) (by omega) (g2.wm hm) (g2.said (by decide) hs) (by rw [g2.2.2.1 78 (by decide) (by decide)]; exact h78)
    refine ⟨τ', ?_, g2.tr f2⟩
    rw [f_X11_bought_43, if_neg (by rw [i8]; exact nI_ge (by omega) (by decide)), show (0 : Int32) = nI 0 from rfl, g1, f_X11_bought_123, nI_1, f1]
theorem st_bought (hN : 5000 ≤ N) (a1 a2 : Int32) : StepI Inv (f_X10_bought N 0 a1 a2) (f_X11_bought N 63 a1 a2) := by
  refine step_q fun σ τ hi => ?_
  obtain ⟨hc, hm, hnn, -, -, ⟨m, hw, hr, hs⟩, -⟩ := hi
  have h12 := hw.1
  unfold f_X10_bought f_X10_bought_25 f_X11_bought f_X11_bought_28
  rw [k_o0 hc, Option.bind_some, e_isThere hc, Option.bind_some, hr.1, m_g24 hm, Option.bind_some, m_aI hm (a := 75) (n := 156) (i := 0) (c := 0) (by decide) rfl rfl (by decide) (by decide), Option.bind_some, hs 0 (by decide)]
  by_cases h0 : 0 < m 0
  · rw [bi_y (show 0 < nI (m 0) from (pos_iff (by omega)).2 h0), if_neg z1, if_neg (show ¬ nI (m 0) = 0 from fun z => by rw [nz_iff (by omega)] at z; omega), e_isBelow, e_isWay, Option.bind_some, Option.bind_some]
    by_cases hW : 0 ≤ a1 ∧ a1 < 4
    · rw [bi_y hW, if_neg z1, if_neg z1, e_in_n a2 13 (by decide) (by decide) (show (12 : Int64) = (nI 12).toInt64 by decide), Option.bind_some]
      rcases bi_in (x := a2) (n := 13) (by decide) with ⟨k, k1, rfl, k3⟩ | ⟨k1, k2⟩
      · rw [k3, if_neg z1, if_neg (nI_pos (by omega)), if_pos (by rw [show (12 : Int32) = nI 12 from rfl]; exact nI_le (by omega) (by decide))]
        obtain ⟨way, rfl, hway⟩ := cy_n (n := 4) (by decide) hW
        have hf : ∀ c, c < m 0 → m (9 + 7 * c) < 8 := fun c hcn => by have := hw.2.2.2.2.1 c (by omega); omega
        have hv8 : ∀ r : Nat → Nat, (∀ c, c < m 0 → r c < 8) → voteV way (m 0) r (ages m) < 8 := fun r hr8 => voteV_lt hw h0 hr8 hway hm hs
        obtain ⟨s0, x1, x2, x3⟩ := e_startFrom (N := N) hc hr h12
        have c0 := x2.wc hc
        have r0 : RelV s0 9 m := (x2.rs (l := [43]) (by decide)).rel (by decide) hr
        obtain ⟨s1, y1, y2⟩ := bgc (N := N) (f := fun c => m (9 + 7 * c)) (k := k) hN hw h0 hf hway (by omega) hv8 8 0 N s0 (by omega) (by omega) c0 r0 x3
        obtain ⟨t1, u1, u2, u3⟩ := e_asThey (N := N) (by omega) h12 hm hs
        have m1 := u2.wm hm
        have hs1 : ∀ i, i < 156 → iv t1 75 i = nI (m i) := fun i hi => by rw [u2.2.2 75 (by decide)]; exact hs i hi
        obtain ⟨t2, v1, v2, v3⟩ := e_keeps (N := N) (by omega) h12 m1 hs1 u3
        have m2 := v2.wm m1
        have hs2 : ∀ i, i < 156 → iv t2 75 i = nI (m i) := fun i hi => by rw [v2.2.2 75 (by decide)]; exact hs1 i hi
        obtain ⟨t3, w1, w2⟩ := bgm (N := N) (f := fun c => m (9 + 7 * c)) (k := k) hN hw h0 hf hway (by omega) 8 0 N t2 (by omega) (by omega) m2 hs2 v3
        have fs3 : FS chL τ t3 := (u2.fs (l := chL) (by decide) (by decide)).tr ((v2.fs (by decide) (by decide)).tr (w2.mono (by decide)))
        have rs2 : RS buyL σ s1 := (x2.rs (l := buyL) (by decide)).tr y2
        rw [k_0_11 hc, Option.bind_some, k_0_4 hc, Option.bind_some, k_o42 hc, Option.bind_some, x1, Option.bind_some, show (0 : Int32) = nI 0 from rfl]
        rw [show nI 0 = nI (msk (bo m (fun c => m (9 + 7 * c)) way k) 0) from rfl] at *
        refine ⟨_, _, _, y1, ?_, rs2.qc (by decide), fs3.qm (by decide)⟩
        rw [m_ob hm, Option.bind_some, u1, Option.bind_some, m_ob m1, Option.bind_some, v1, Option.bind_some]
        exact w1
      · rw [k2, if_pos rfl]
        by_cases q1 : a2 < 0
        · rw [if_pos q1]
          exact ⟨_, _, _, rfl, rfl, QC.rf _, QM.rf _⟩
        · rw [if_neg q1, if_neg (fun q2 => k1 ⟨Int32.not_lt.1 q1, by rw [show nI 13 = (12 : Int32) + 1 from rfl]; exact (Int32.lt_of_le_of_lt q2 (by decide))⟩)]
          exact ⟨_, _, _, rfl, rfl, QC.rf _, QM.rf _⟩
    · rw [bi_n hW]
      exact ⟨_, _, _, rfl, rfl, QC.rf _, QM.rf _⟩
  · rw [bi_n (show ¬ 0 < nI (m 0) from fun z => h0 ((pos_iff (by omega)).1 z)), if_pos rfl, if_pos (show nI (m 0) = 0 from (nz_iff (by omega)).2 (by omega))]
    exact ⟨_, _, _, rfl, rfl, QC.rf _, QM.rf _⟩
end BO
