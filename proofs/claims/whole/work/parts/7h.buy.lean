/-! cheapest, answer -/
section BU
variable {N : Nat}
theorem e_canBuy {σ : Mm} {m : Nat → Nat} (hc : WFc σ) (hr : iv σ 9 0 = nI (m 0)) (h12 : m 0 ≤ 12) (a1 a2 : Int32) : f_X10_canBuy N 0 a1 a2 σ = some (bi (0 < m 0 ∧ (0 ≤ a1 ∧ a1 < 4) ∧ (0 ≤ a2 ∧ a2 < 8)), σ) := by
  unfold f_X10_canBuy f_X10_canBuy_28 f_X10_canBuy_29
  rw [k_o0 hc, Option.bind_some, e_isThere hc, Option.bind_some, hr]
  by_cases h0 : 0 < m 0
  · rw [bi_y (show 0 < nI (m 0) from (pos_iff (by omega)).2 h0), if_neg z1, e_isBelow, Option.bind_some]
    by_cases h1 : 0 ≤ a1 ∧ a1 < 4
    · rw [bi_y h1, if_neg z1, e_isBelow, Option.bind_some]
      by_cases h2 : 0 ≤ a2 ∧ a2 < 8
      · rw [bi_y h2, if_neg z1, if_pos (Or.inr rfl), bi_y ⟨h0, h1, h2⟩]
      · rw [bi_n h2, if_pos rfl, if_pos (Or.inl rfl), bi_n (fun z => h2 z.2.2)]
    · rw [bi_n h1, if_pos rfl, if_pos (Or.inl rfl), bi_n (fun z => h1 z.2.1)]
  · rw [bi_n (show ¬ 0 < nI (m 0) from fun z => h0 ((pos_iff (by omega)).1 z)), if_pos rfl, if_pos (Or.inl rfl), bi_n (fun z => h0 z.1)]
theorem e_canBuyM {τ : Mm} {m : Nat → Nat} (hm : WFm τ) (hr : iv τ 75 0 = nI (m 0)) (h12 : m 0 ≤ 12) (a1 a2 a3 : Int32) : f_X11_canBuy N 63 a1 a2 a3 τ = some (bi ((0 < m 0 ∧ (0 ≤ a1 ∧ a1 < 4) ∧ (0 ≤ a2 ∧ a2 < 8)) ∧ (0 ≤ a3 ∧ a3 < nI (2 ^ m 0))), τ) := by
  unfold f_X11_canBuy f_X11_canBuy_35 f_X11_canBuy_36
  rw [m_g24 hm, Option.bind_some, m_aI hm (a := 75) (n := 156) (i := 0) (c := 0) (by decide) rfl rfl (by decide) (by decide), Option.bind_some, hr]
  by_cases h0 : 0 < m 0
  · rw [if_neg (show ¬ nI (m 0) ≤ 0 from fun z => by rw [npos_iff (by omega)] at z; omega), e_isWay, Option.bind_some]
    by_cases h1 : 0 ≤ a1 ∧ a1 < 4
    · rw [bi_y h1, if_neg z1, e_isPoint, Option.bind_some]
      by_cases h2 : 0 ≤ a2 ∧ a2 < 8
      · rw [bi_y h2, if_neg z1, m_ob hm, Option.bind_some, e_isSet hm, Option.bind_some, hr, shl1 (by omega)]
        by_cases h3 : 0 ≤ a3 ∧ a3 < nI (2 ^ m 0)
        · rw [bi_y h3, if_neg z1, if_pos (Or.inr rfl), bi_y ⟨⟨h0, h1, h2⟩, h3⟩]
        · rw [bi_n h3, if_pos rfl, if_pos (Or.inl rfl), bi_n (fun z => h3 z.2)]
      · rw [bi_n h2, if_pos rfl, if_pos (Or.inl rfl), bi_n (fun z => h2 z.1.2.2)]
    · rw [bi_n h1, if_pos rfl, if_pos (Or.inl rfl), bi_n (fun z => h1 z.1.2.1)]
  · rw [if_pos (show nI (m 0) ≤ 0 from (npos_iff (by omega)).2 (by omega)), if_pos (Or.inl rfl), bi_n (fun z => h0 z.1.1)]
theorem e_hasAll {σ : Mm} {m : Nat → Nat} (hc : WFc σ) (hr : iv σ 9 0 = nI (m 0)) (h12 : m 0 ≤ 12) (x : Int32) : f_X7_hasAllOf N 9 x σ = some (bi (0 ≤ x ∧ x < nI (2 ^ m 0)), σ) := by
  unfold f_X7_hasAllOf
  rw [v_i (now9 hc), Option.bind_some, hr, shl1 (by omega), e_isBelow, Option.bind_some, if_pos (bi_01 _)]
theorem e_startFrom {σ : Mm} {m : Nat → Nat} (hc : WFc σ) (hr : RelV σ 9 m) (h12 : m 0 ≤ 12) : ∃ σ', f_X4_startFrom N 42 9 σ = some σ' ∧ RO 43 σ σ' ∧ ∀ c, c < m 0 → iv σ' 43 c = nI (m (9 + 7 * c)) := by
  refine ⟨cpy σ 15 0 43 0 12, ?_, RO.cpy _ _ _ _, fun c hcn => ?_⟩
  · unfold f_X4_startFrom
    rw [v_g6 (now9 hc), Option.bind_some, k_42_1 hc, Option.bind_some]
    have : cpA 13 σ (9 + 6) 0 43 0 12 = some (cpy σ 15 0 43 0 12) := by
      unfold cpA
      rw [show SH (9 + 6) = (13, 12) from rfl, show SH 43 = (13, 12) from rfl, if_pos ⟨⟨⟨pp_lt (by have := hc.1; omega) hc.1, rfl⟩, pp_lt (by have := hc.1; omega) hc.1, rfl⟩, ⟨by decide, by decide, by decide⟩, by decide, by decide⟩]
      rfl
    rw [this, Option.bind_some]
  · rw [iv_cpy, if_pos ⟨rfl, by omega, by omega⟩]
    have := hr.2.2.2.2.1 c hcn 5 (by decide)
    rw [show 4 + 7 * c + 5 = 9 + 7 * c by omega] at this
    rw [← this]
    congr 1
    omega
theorem bnt {m f : Nat → Nat} {p : Nat} (hws : WS m) (hp : p < 8) (hf : ∀ c, c < m 0 → f c < 8) : ∀ d c fu σ, c + d = m 0 → d < fu → WFc σ → RelV σ 9 m → (∀ c, c < m 0 → iv σ 43 c = nI (f c)) → (∀ j, j < c → iv σ 44 j = nI p ∧ iv σ 45 j = nI (prc m f p j)) → ∃ σ', f_X4_bendTo_2 N fu 42 9 (nI p) (nI c) σ = some σ' ∧ RS [44, 45] σ σ' ∧ ∀ j, j < m 0 → iv σ' 44 j = nI p ∧ iv σ' 45 j = nI (prc m f p j) := by
  have h12 := hws.1
  intro d
  induction d with
  | zero =>
    intro c fu σ h1 h2 hc hr h43 hj
    obtain ⟨fu, rfl⟩ : ∃ q, fu = q + 1 := ⟨fu - 1, by omega⟩
    refine ⟨σ, ?_, RS.rf _ _, fun j h => hj j (by omega)⟩
    rw [f_X4_bendTo_2, v_i (now9 hc), Option.bind_some, hr.1, if_pos (nI_le (by omega) (by omega)), f_X4_bendTo_51]
  | succ d ih =>
    intro c fu σ h1 h2 hc hr h43 hj
    obtain ⟨fu, rfl⟩ : ∃ q, fu = q + 1 := ⟨fu - 1, by omega⟩
    have hcn : c < m 0 := by omega
    obtain ⟨s1, e1⟩ : ∃ s, s = si σ 44 c (nI p) := ⟨_, rfl⟩
    obtain ⟨s2, e2⟩ : ∃ s, s = si s1 45 c (nI (prc m f p c)) := ⟨_, rfl⟩
    have r1 : RS [44, 45] σ s1 := by rw [e1]; exact (RO.si _ _ _ _).rs (by decide)
    have r2 : RS [44, 45] σ s2 := by rw [e2]; exact r1.tr ((RO.si _ _ _ _).rs (by decide))
    have c1 := r1.wc hc
    obtain ⟨σ', f1, f2, f3⟩ := ih (c + 1) fu s2 (by omega) (by omega) (r2.wc hc) (r2.rel (by decide) hr) (by rw [r2.2.2 43 (by decide)]; exact h43) (fun j hj' => by
      constructor
      · rw [e2, iv_row _ _ _ (by decide), e1, iv_si]
        by_cases e : j = c
        · rw [if_pos ⟨rfl, e⟩]
        · rw [if_neg (fun q => e q.2)]; exact (hj j (by omega)).1
      · rw [e2, iv_si]
        by_cases e : j = c
        · rw [if_pos ⟨rfl, e⟩, e]
        · rw [if_neg (fun q => e q.2), e1, iv_row _ _ _ (by decide)]; exact (hj j (by omega)).2)
    refine ⟨σ', ?_, r2.tr f2, f3⟩
    have rust : iv s1 (9 + 3) c = nI (m (6 + 7 * c)) := by
      rw [r1.2.2 _ (by decide)]
      have := hr.2.2.2.2.1 c hcn 2 (by decide)
      rwa [show 4 + 7 * c + 2 = 6 + 7 * c by omega] at this
    have cost : (nI (m (6 + 7 * c)) + 1) * nI (offM (f c) p) = nI (prc m f p c) := by
      rw [nI_1, pk_mul, Nat.mul_comm]; rfl
    rw [f_X4_bendTo_2, v_i (now9 hc), Option.bind_some, hr.1, if_neg (nI_ge (by omega) (by omega)), if_neg (by rw [show (12 : Int32) = nI 12 from rfl]; exact nI_ge (by omega) (by decide)), k_42_2 hc, Option.bind_some, k_sI hc (a := 44) (n := 12) (c := c) (by decide) rfl rfl (by omega) (by decide), Option.bind_some, ← e1, k_42_3 c1, Option.bind_some, v_g3 (now9 c1), Option.bind_some, v_a (now9 c1) rfl (by decide) (by decide) (by omega), Option.bind_some, rust, k_42_1 c1, Option.bind_some, k_aI c1 (a := 43) (n := 12) (c := c) (by decide) rfl rfl (by omega) (by decide), Option.bind_some, r1.2.2 43 (by decide), h43 c hcn, f_X10_bendingCost, e_offB (hf c hcn) hp, Option.bind_some, Option.bind_some, cost, k_sI c1 (a := 45) (n := 12) (c := c) (by decide) rfl rfl (by omega) (by decide), Option.bind_some, ← e2, nI_1, f1]
theorem e_bendTo (hN : 20 ≤ N) {m f : Nat → Nat} {p : Nat} {σ : Mm} (hws : WS m) (hp : p < 8) (hf : ∀ c, c < m 0 → f c < 8) (hc : WFc σ) (hr : RelV σ 9 m) (h43 : ∀ c, c < m 0 → iv σ 43 c = nI (f c)) : ∃ σ', f_X4_bendTo N 42 9 (nI p) σ = some σ' ∧ RS [44, 45] σ σ' ∧ ∀ j, j < m 0 → iv σ' 44 j = nI p ∧ iv σ' 45 j = nI (prc m f p j) := by
  have h12 := hws.1
  exact bnt hws hp hf (m 0) 0 N σ (by omega) (by omega) hc hr h43 (fun j hj => absurd hj (Nat.not_lt_zero _))
theorem xor_m1 {F t : Nat} (hF : F < 2 ^ 31) (ht : t < 32) : ((nI F ^^^ (-1 : Int32)) >>> (nI t &&& 31)) &&& 1 = 0 ↔ (!F.testBit t) = false := by
  have h1 : (nI F ^^^ (-1 : Int32)) >>> (nI t &&& 31) = (nI F >>> (nI t &&& 31)) ^^^ ((-1 : Int32) >>> (nI t &&& 31)) := by
    apply Int32.toBitVec_inj.mp
    show BitVec.sshiftRight' _ _ = BitVec.sshiftRight' _ _ ^^^ BitVec.sshiftRight' _ _
    exact BitVec.sshiftRight_xor_distrib _ _ _
  have h2 : (nI F >>> (nI t &&& 31) ^^^ ((-1 : Int32) >>> (nI t &&& 31))) &&& 1 = ((nI F >>> (nI t &&& 31)) &&& 1) ^^^ (((-1 : Int32) >>> (nI t &&& 31)) &&& 1) := by
    apply Int32.toBitVec_inj.mp
    simp only [Int32.toBitVec_and, Int32.toBitVec_xor]
    ext i hi
    simp only [BitVec.getElem_and, BitVec.getElem_xor]
    exact Bool.and_xor_distrib_right _ _ _
  have h3 : ∀ t, t < 32 → ((-1 : Int32) >>> (nI t &&& 31)) &&& 1 = 1 := by decide +kernel
  rw [h1, h2, h3 t ht, bitB hF ht]
  cases F.testBit t <;> decide
abbrev buyL : List Nat := [36, 37, 38, 39, 40, 41, 42, 43, 44, 45, 46]
abbrev bsB (m f : Nat → Nat) (way p F : Nat) : Option Nat := bst (okS (fun c => !F.testBit c) (fun r => voteV way (m 0) r (ages m)) f (fun _ => p) (m 0) p) (coS (prc m f p) (m 0)) pc (2 ^ m 0)
theorem buy_c (hN : 5000 ≤ N) {m f : Nat → Nat} {way p F : Nat} {σ : Mm} (hws : WS m) (h0 : 0 < m 0) (hf : ∀ c, c < m 0 → f c < 8) (hp : p < 8) (hway : way < 4) (hF : F < 4096) (hv8 : ∀ r : Nat → Nat, (∀ c, c < m 0 → r c < 8) → voteV way (m 0) r (ages m) < 8) (hc : WFc σ) (hr : RelV σ 9 m) (h43 : ∀ c, c < m 0 → iv σ 43 c = nI (f c)) : ∃ s1 σ', f_X4_bendTo N 42 9 (nI p) σ = some s1 ∧ WFc s1 ∧ f_X4_run N 42 9 (nI way) (nI p) (nI F ^^^ (-1 : Int32)) s1 = some σ' ∧ RS [36, 37, 38, 39, 40, 41, 42, 44, 45, 46] σ σ' ∧ (∀ j, j < m 0 → iv σ' 44 j = nI p) ∧ BR σ' (coS (prc m f p) (m 0)) (bsB m f way p F) := by
  obtain ⟨s1, b1, b2, b3⟩ := e_bendTo (N := N) (by omega) hws hp hf hc hr h43
  obtain ⟨σ', w1, w2, w3⟩ := e_run (N := N) (m := m) (f := f) (t := fun _ => p) (P := prc m f p) (al := fun c => !F.testBit c) (l4 := nI F ^^^ (-1 : Int32)) (way := way) (p := p) hN hws h0 hf (fun _ _ => hp) (prc_le hws hp hf) hway hp hv8 (fun c hcn => xor_m1 (by omega) (by have := hws.1; omega)) (b2.wc hc) (b2.rel (by decide) hr) (by rw [b2.2.2 43 (by decide)]; exact h43) (fun c hcn => (b3 c hcn).1) (fun c hcn => (b3 c hcn).2)
  exact ⟨s1, σ', b1, b2.wc hc, w1, (b2.mono (by decide)).tr (w2.mono (by decide)), fun j hj => by rw [w2.2.2 44 (by decide)]; exact (b3 j hj).1, w3⟩
theorem set_n {x : Int32} {n : Nat} (hn : n ≤ 12) (h : 0 ≤ x ∧ x < nI (2 ^ n)) : ∃ F, x = nI F ∧ F < 2 ^ n ∧ F < 4096 := by
  have hK : 2 ^ n ≤ 4096 := (Nat.pow_le_pow_right (by decide) hn : 2 ^ n ≤ 2 ^ 12)
  rcases bi_in (x := x) (n := 2 ^ n) (by omega) with ⟨F, f1, f2, _⟩ | ⟨f1, _⟩
  · exact ⟨F, f2, f1, by omega⟩
  · exact absurd h f1
theorem cy_n {x : Int32} {n : Nat} (hn : n < 2 ^ 31) (h : 0 ≤ x ∧ x < nI n) : ∃ F, x = nI F ∧ F < n := by
  rcases bi_in (x := x) (n := n) hn with ⟨F, f1, f2, _⟩ | ⟨f1, _⟩
  · exact ⟨F, f2, f1⟩
  · exact absurd h f1
theorem bsB_lt {m f : Nat → Nat} {way p F b : Nat} (h12 : m 0 ≤ 12) (h : bsB m f way p F = some b) : b < 4096 := by
  have hK : 2 ^ m 0 ≤ 4096 := (Nat.pow_le_pow_right (by decide) h12 : 2 ^ m 0 ≤ 2 ^ 12)
  rcases bst_spec (okS (fun c => !F.testBit c) (fun r => voteV way (m 0) r (ages m)) f (fun _ => p) (m 0) p) (coS (prc m f p) (m 0)) pc (2 ^ m 0) with ⟨e, _⟩ | ⟨b', e, g1, _⟩
  · rw [show bsB m f way p F = none from e] at h; cases h
  · rw [show bsB m f way p F = some b' from e] at h; cases h; omega
def tld (co : Nat → Nat) (a : Int32) : Option Nat → Int32
  | none => -2
  | some b => if a = 0 then nI (co b) else nI b
theorem e_told {σ : Mm} (hc : WFc σ) {co : Nat → Nat} {o : Option Nat} (h : BR σ co o) (a : Int32) : f_X4_told N 42 a σ = some (tld co a o, σ) := by
  unfold f_X4_told f_X4_told_27 tld
  rw [k_i42 hc, Option.bind_some]
  cases o with
  | none => rw [show iv σ 42 6 = 0 from h, if_pos rfl]
  | some b =>
    rw [h.1, if_neg z1]
    by_cases z : a = 0
    · rw [if_pos z, k_i42 hc, Option.bind_some, h.2.1]; simp only [if_pos z]
    · rw [if_neg z, k_i42 hc, Option.bind_some, h.2.2]; simp only [if_neg z]
theorem st_cheapest (hN : 5000 ≤ N) (a1 a2 a3 a4 : Int32) : StepI Inv (f_X10_cheapest N 0 a1 a2 a3 a4) (f_X11_cheapest N 63 a1 a2 a3 a4) := by
  refine step_q fun σ τ hi => ?_
  obtain ⟨hc, hm, hnn, -, -, ⟨m, hw, hr, hs⟩, -⟩ := hi
  have h12 := hw.1
  unfold f_X10_cheapest f_X10_cheapest_29 f_X11_cheapest f_X11_cheapest_21 f_X11_cheapest_64
  rw [k_o0 hc, Option.bind_some, m_ob hm, Option.bind_some, e_canBuy hc hr.1 h12, e_canBuyM hm (hs 0 (by decide)) h12, Option.bind_some, Option.bind_some]
  by_cases hA : 0 < m 0 ∧ (0 ≤ a1 ∧ a1 < 4) ∧ (0 ≤ a2 ∧ a2 < 8)
  · rw [bi_y hA, if_neg z1, k_0_4 hc, Option.bind_some, v_o (now9 hc), Option.bind_some, e_hasAll hc hr.1 h12, Option.bind_some]
    by_cases hS : 0 ≤ a3 ∧ a3 < nI (2 ^ m 0)
    · rw [bi_y hS, bi_y ⟨hA, hS⟩, if_neg z1, if_neg z1, e_isBelow, Option.bind_some, e_in_n a4 2 (by decide) (by decide) (show (1 : Int64) = (nI 1).toInt64 by decide), Option.bind_some, show bi (0 ≤ a4 ∧ a4 < nI 2) = bi (0 ≤ a4 ∧ a4 < 2) from rfl]
      by_cases hX : 0 ≤ a4 ∧ a4 < 2
      · rw [bi_y hX, if_neg z1, if_neg z1]
        obtain ⟨h0, hW, hP⟩ := hA
        obtain ⟨way, rfl, hway⟩ := cy_n (n := 4) (by decide) hW
        obtain ⟨p, rfl, hp⟩ := cy_n (n := 8) (by decide) hP
        obtain ⟨F, rfl, hF1, hF⟩ := set_n h12 hS
        have hf : ∀ c, c < m 0 → m (9 + 7 * c) < 8 := fun c hcn => by have := hw.2.2.2.2.1 c (by omega); omega
        have hv8 : ∀ r : Nat → Nat, (∀ c, c < m 0 → r c < 8) → voteV way (m 0) r (ages m) < 8 := fun r hr8 => voteV_lt hw h0 hr8 hway hm hs
        obtain ⟨s0, x1, x2, x3⟩ := e_startFrom (N := N) hc hr h12
        have c0 := x2.wc hc
        obtain ⟨s1, s2, y1, y2, y3, y4, y5, y6⟩ := buy_c (N := N) (f := fun c => m (9 + 7 * c)) hN hw h0 hf hp hway hF hv8 c0 ((x2.rs (l := [43]) (by decide)).rel (by decide) hr) x3
        have c2 := y4.wc c0
        obtain ⟨t1, u1, u2, u3⟩ := e_asThey (N := N) (by omega) h12 hm hs
        have m1 := u2.wm hm
        have hs1 : ∀ i, i < 156 → iv t1 75 i = nI (m i) := fun i hi => by rw [u2.2.2 75 (by decide)]; exact hs i hi
        obtain ⟨t2, v1, v2, v3⟩ := e_keeps (N := N) (by omega) h12 m1 hs1 u3
        have m2 := v2.wm m1
        have hs2 : ∀ i, i < 156 → iv t2 75 i = nI (m i) := fun i hi => by rw [v2.2.2 75 (by decide)]; exact hs1 i hi
        obtain ⟨l', t3, w1, w2, w3⟩ := e_chp (N := N) (f := fun c => m (9 + 7 * c)) hN hw h0 hf hp hway hF m2 hs2 v3
        have qm : QM τ t3 := ((u2.fs (l := chL) (by decide) (by decide)).tr ((v2.fs (by decide) (by decide)).tr (w2.mono (by decide)))).qm (by decide)
        have qc : QC σ s2 := ((x2.rs (l := buyL) (by decide)).tr (y4.mono (by decide))).qc (by decide)
        have told := e_told (N := N) c2 y6 a4
        rw [k_0_11 hc, Option.bind_some, k_0_4 hc, Option.bind_some, k_o42 hc, Option.bind_some, x1, Option.bind_some, k_0_11 c0, Option.bind_some, k_0_4 c0, Option.bind_some, k_o42 c0, Option.bind_some, y1, Option.bind_some, k_0_11 y2, Option.bind_some, k_0_4 y2, Option.bind_some, k_o42 y2, Option.bind_some, y3, Option.bind_some, k_0_11 c2, Option.bind_some, k_o42 c2, Option.bind_some, told, Option.bind_some]
        rw [m_ob hm, Option.bind_some, u1, Option.bind_some, m_ob m1, Option.bind_some, v1, Option.bind_some, m_ob m2, Option.bind_some, w1, Option.bind_some]
        cases e : bsB m (fun c => m (9 + 7 * c)) way p F with
        | none =>
          have w3' : l' = -1 := by
            have w4 := w3
            rw [show bst _ _ _ _ = none from e] at w4
            exact w4
          rw [w3', if_neg (show ¬ (0 : Int32) ≤ -1 by decide)]
          exact ⟨_, _, _, rfl, rfl, qc, qm⟩
        | some b =>
          have w3' : l' = nI b ∧ iv t3 63 28 = nI (coS (prc m (fun c => m (9 + 7 * c)) p) (m 0) b) := by
            have w4 := w3
            rw [show bst _ _ _ _ = some b from e] at w4
            exact w4
          have hb := bsB_lt h12 e
          rw [w3'.1, if_pos (nI_pos' (by omega))]
          unfold tld
          by_cases z : a4 = 0
          · simp only [if_pos z]
            rw [m_gI (w2.wm m2), Option.bind_some, w3'.2]
            exact ⟨_, _, _, rfl, rfl, qc, qm⟩
          · simp only [if_neg z]
            exact ⟨_, _, _, rfl, rfl, qc, qm⟩
      · rw [bi_n hX]
        exact ⟨_, _, _, rfl, rfl, QC.rf _, QM.rf _⟩
    · rw [bi_n hS, bi_n (fun z => hS z.2)]
      exact ⟨_, _, _, rfl, rfl, QC.rf _, QM.rf _⟩
  · rw [bi_n hA, bi_n (fun z => hA z.1)]
    exact ⟨_, _, _, rfl, rfl, QC.rf _, QM.rf _⟩
theorem sff {m f : Nat → Nat} {p b : Nat} (h12 : m 0 ≤ 12) (hb : b < 4096) : ∀ d c fu σ, c + d = m 0 → d < fu → WFc σ → RelV σ 9 m → iv σ 42 8 = nI b → (∀ j, j < m 0 → iv σ 44 j = nI p) → (∀ j, j < m 0 → iv σ 43 j = nI (if j < c then roS f (fun _ => p) b j else f j)) → ∃ σ', f_X4_startFromFound_2 N fu 42 9 (nI c) σ = some σ' ∧ RO 43 σ σ' ∧ ∀ j, j < m 0 → iv σ' 43 j = nI (roS f (fun _ => p) b j) := by
  intro d
  induction d with
  | zero =>
    intro c fu σ h1 h2 hc hr h8 h44 h43
    obtain ⟨fu, rfl⟩ : ∃ q, fu = q + 1 := ⟨fu - 1, by omega⟩
    refine ⟨σ, ?_, RO.rf _ _, fun j h => by rw [h43 j h, if_pos (by omega)]⟩
    rw [f_X4_startFromFound_2, v_i (now9 hc), Option.bind_some, hr.1, if_pos (nI_le (by omega) (by omega)), f_X4_startFromFound_45]
  | succ d ih =>
    intro c fu σ h1 h2 hc hr h8 h44 h43
    obtain ⟨fu, rfl⟩ : ∃ q, fu = q + 1 := ⟨fu - 1, by omega⟩
    have hcn : c < m 0 := by omega
    rw [f_X4_startFromFound_2, v_i (now9 hc), Option.bind_some, hr.1, if_neg (nI_ge (by omega) (by omega)), if_neg (by rw [show (12 : Int32) = nI 12 from rfl]; exact nI_ge (by omega) (by decide)), k_i42 hc, Option.bind_some, h8, bitB (by omega) (by omega)]
    cases y : b.testBit c
    · rw [if_pos (show (if false = true then (1 : Int32) else 0) = 0 from rfl), f_X4_startFromFound_39, nI_1]
      refine ih (c + 1) fu σ (by omega) (by omega) hc hr h8 h44 (fun j hj => ?_)
      rw [h43 j hj]
      by_cases e : j = c
      · rw [if_neg (by omega), if_pos (by omega)]; unfold roS; rw [e, y]; rfl
      · by_cases e2 : j < c
        · rw [if_pos e2, if_pos (by omega)]
        · rw [if_neg e2, if_neg (by omega)]
    · obtain ⟨s1, e1⟩ : ∃ s, s = si σ 43 c (nI p) := ⟨_, rfl⟩
      have r1 : RO 43 σ s1 := by rw [e1]; exact RO.si _ _ _ _
      obtain ⟨σ', f1, f2, f3⟩ := ih (c + 1) fu s1 (by omega) (by omega) (r1.wc hc) ((r1.rs (l := [43]) (by decide)).rel (by decide) hr) (by rw [r1.2.2 42 (by decide)]; exact h8) (by rw [r1.2.2 44 (by decide)]; exact h44) (fun j hj => by
        rw [e1, iv_si]
        by_cases e : j = c
        · rw [if_pos ⟨rfl, e⟩, if_pos (by omega)]; unfold roS; rw [e, y]; rfl
        · rw [if_neg (fun q => e q.2), h43 j hj]
          by_cases e2 : j < c
          · rw [if_pos e2, if_pos (by omega)]
          · rw [if_neg e2, if_neg (by omega)])
      refine ⟨σ', ?_, r1.tr f2, f3⟩
      rw [if_neg (show ¬ (if true = true then (1 : Int32) else 0) = 0 from z1), k_42_1 hc, Option.bind_some, k_42_2 hc, Option.bind_some, k_aI hc (a := 44) (n := 12) (c := c) (by decide) rfl rfl (by omega) (by decide), Option.bind_some, h44 c hcn, k_sI hc (a := 43) (n := 12) (c := c) (by decide) rfl rfl (by omega) (by decide), Option.bind_some, ← e1, f_X4_startFromFound_39, nI_1, f1]
theorem e_sff (hN : 20 ≤ N) {m f : Nat → Nat} {p b : Nat} {σ : Mm} (h12 : m 0 ≤ 12) (hb : b < 4096) (hc : WFc σ) (hr : RelV σ 9 m) (h8 : iv σ 42 8 = nI b) (h44 : ∀ j, j < m 0 → iv σ 44 j = nI p) (h43 : ∀ j, j < m 0 → iv σ 43 j = nI (f j)) : ∃ σ', f_X4_startFromFound N 42 9 σ = some σ' ∧ RO 43 σ σ' ∧ ∀ j, j < m 0 → iv σ' 43 j = nI (roS f (fun _ => p) b j) :=
  sff h12 hb (m 0) 0 N σ (by omega) (by omega) hc hr h8 h44 (fun j hj => by rw [h43 j hj, if_neg (Nat.not_lt_zero _)])
theorem st_answer (hN : 5000 ≤ N) (a1 a2 a3 a4 a5 a6 : Int32) : StepI Inv (f_X10_answer N 0 a1 a2 a3 a4 a5 a6) (f_X11_answer N 63 a1 a2 a3 a4 a5 a6) := by
  refine step_q fun σ τ hi => ?_
  obtain ⟨hc, hm, hnn, -, -, ⟨m, hw, hr, hs⟩, -⟩ := hi
  have h12 := hw.1
  unfold f_X10_answer f_X10_answer_28 f_X10_answer_53 f_X11_answer f_X11_answer_33 f_X11_answer_107
  rw [k_o0 hc, Option.bind_some, m_ob hm, Option.bind_some, e_canBuy hc hr.1 h12, e_canBuyM hm (hs 0 (by decide)) h12, Option.bind_some, Option.bind_some]
  by_cases hA : 0 < m 0 ∧ (0 ≤ a1 ∧ a1 < 4) ∧ (0 ≤ a2 ∧ a2 < 8)
  · rw [bi_y hA, if_neg z1, e_isBelow, Option.bind_some]
    have hPM : ∀ z : Prop, (0 < m 0 ∧ (0 ≤ a1 ∧ a1 < 4) ∧ (0 ≤ a4 ∧ a4 < 8)) ∧ z → 0 ≤ a4 ∧ a4 < 8 := fun _ z => z.1.2.2
    by_cases h4 : 0 ≤ a4 ∧ a4 < 8
    · rw [bi_y h4, if_neg z1, e_isBelow, Option.bind_some]
      by_cases h6 : 0 ≤ a6 ∧ a6 < 2
      · rw [bi_y h6, if_neg z1, k_0_4 hc, Option.bind_some, v_o (now9 hc), Option.bind_some, e_hasAll hc hr.1 h12, Option.bind_some]
        by_cases h3 : 0 ≤ a3 ∧ a3 < nI (2 ^ m 0)
        · rw [bi_y h3, bi_y ⟨hA, h3⟩, if_neg z1, if_neg z1, k_0_4 hc, Option.bind_some, v_o (now9 hc), Option.bind_some, e_hasAll hc hr.1 h12, m_ob hm, Option.bind_some, Option.bind_some, e_canBuyM hm (hs 0 (by decide)) h12, Option.bind_some]
          by_cases h5 : 0 ≤ a5 ∧ a5 < nI (2 ^ m 0)
          · rw [bi_y h5, bi_y ⟨⟨hA.1, hA.2.1, h4⟩, h5⟩, if_neg z1, if_neg z1, e_in_n a6 2 (by decide) (by decide) (show (1 : Int64) = (nI 1).toInt64 by decide), Option.bind_some, show bi (0 ≤ a6 ∧ a6 < nI 2) = bi (0 ≤ a6 ∧ a6 < 2) from rfl, bi_y h6, if_neg z1]
            obtain ⟨h0, hW, hP⟩ := hA
            obtain ⟨way, rfl, hway⟩ := cy_n (n := 4) (by decide) hW
            obtain ⟨p, rfl, hp⟩ := cy_n (n := 8) (by decide) hP
            obtain ⟨p2, rfl, hp2⟩ := cy_n (n := 8) (by decide) h4
            obtain ⟨F, rfl, hF1, hF⟩ := set_n h12 h3
            obtain ⟨G, rfl, hG1, hG⟩ := set_n h12 h5
            have hf : ∀ c, c < m 0 → m (9 + 7 * c) < 8 := fun c hcn => by have := hw.2.2.2.2.1 c (by omega); omega
            have hv8 : ∀ r : Nat → Nat, (∀ c, c < m 0 → r c < 8) → voteV way (m 0) r (ages m) < 8 := fun r hr8 => voteV_lt hw h0 hr8 hway hm hs
            obtain ⟨s0, x1, x2, x3⟩ := e_startFrom (N := N) hc hr h12
            have c0 := x2.wc hc
            have r0 : RelV s0 9 m := (x2.rs (l := [43]) (by decide)).rel (by decide) hr
            obtain ⟨s1, s2, y1, y2, y3, y4, y5, y6⟩ := buy_c (N := N) (f := fun c => m (9 + 7 * c)) hN hw h0 hf hp hway hF hv8 c0 r0 x3
            have c2 := y4.wc c0
            have r2 : RelV s2 9 m := y4.rel (by decide) r0
            obtain ⟨t1, u1, u2, u3⟩ := e_asThey (N := N) (by omega) h12 hm hs
            have m1 := u2.wm hm
            have hs1 : ∀ i, i < 156 → iv t1 75 i = nI (m i) := fun i hi => by rw [u2.2.2 75 (by decide)]; exact hs i hi
            obtain ⟨t2, v1, v2, v3⟩ := e_keeps (N := N) (by omega) h12 m1 hs1 u3
            have m2 := v2.wm m1
            have hs2 : ∀ i, i < 156 → iv t2 75 i = nI (m i) := fun i hi => by rw [v2.2.2 75 (by decide)]; exact hs1 i hi
            obtain ⟨l', t3, w1, w2, w3⟩ := e_chp (N := N) (f := fun c => m (9 + 7 * c)) hN hw h0 hf hp hway hF m2 hs2 v3
            have m3 := w2.wm m2
            have hs3 := w2.said (by decide) hs2
            have fs3 : FS chL τ t3 := (u2.fs (l := chL) (by decide) (by decide)).tr ((v2.fs (by decide) (by decide)).tr (w2.mono (by decide)))
            have rs2 : RS buyL σ s2 := (x2.rs (l := buyL) (by decide)).tr (y4.mono (by decide))
            rw [k_0_11 hc, Option.bind_some, k_0_4 hc, Option.bind_some, k_o42 hc, Option.bind_some, x1, Option.bind_some, k_0_11 c0, Option.bind_some, k_0_4 c0, Option.bind_some, k_o42 c0, Option.bind_some, y1, Option.bind_some, k_0_11 y2, Option.bind_some, k_0_4 y2, Option.bind_some, k_o42 y2, Option.bind_some, y3, Option.bind_some, k_0_11 c2, Option.bind_some, k_i42 c2, Option.bind_some, Option.bind_some]
            rw [m_ob hm, Option.bind_some, u1, Option.bind_some, m_ob m1, Option.bind_some, v1, Option.bind_some, m_ob m2, Option.bind_some, w1, Option.bind_some]
            cases e : bsB m (fun c => m (9 + 7 * c)) way p F with
            | none =>
              have w3' : l' = -1 := by
                have w4 := w3
                rw [show bst _ _ _ _ = none from e] at w4
                exact w4
              rw [e] at y6
              rw [w3', if_neg (show ¬ (0 : Int32) ≤ -1 by decide), show iv s2 42 6 = 0 from y6, if_pos rfl]
              exact ⟨_, _, _, rfl, rfl, rs2.qc (by decide), fs3.qm (by decide)⟩
            | some b =>
              have w3' : l' = nI b ∧ iv t3 63 28 = nI (coS (prc m (fun c => m (9 + 7 * c)) p) (m 0) b) := by
                have w4 := w3
                rw [show bst _ _ _ _ = some b from e] at w4
                exact w4
              have hb := bsB_lt h12 e
              rw [e] at y6
              obtain ⟨y6, y7, y8⟩ := y6
              have hf2 : ∀ c, c < m 0 → roS (fun c => m (9 + 7 * c)) (fun _ => p) b c < 8 := roS_lt hf (fun _ _ => hp) b
              obtain ⟨s3, d1, d2, d3⟩ := e_sff (N := N) (p := p) (f := fun c => m (9 + 7 * c)) (by omega) h12 hb c2 r2 y8 y5 (by rw [y4.2.2 43 (by decide)]; exact x3)
              have c3 := d2.wc c2
              have r3 : RelV s3 9 m := (d2.rs (l := [43]) (by decide)).rel (by decide) r2
              obtain ⟨s4, s5, g1, g2, g3, g4, g5, g6⟩ := buy_c (N := N) (f := roS (fun c => m (9 + 7 * c)) (fun _ => p) b) hN hw h0 hf2 hp2 hway hG hv8 c3 r3 d3
              have c5 := g4.wc c3
              have told := e_told (N := N) c5 g6 a6
              have rs5 : RS buyL σ s5 := rs2.tr ((d2.rs (l := buyL) (by decide)).tr (g4.mono (by decide)))
              obtain ⟨t4, i1, i2, i3⟩ := e_bends (N := N) (S := b) (p := p) (f := fun c => m (9 + 7 * c)) (by omega) hw hp hb hf m3 hs3 (by rw [w2.2.2.1 78 (by decide) (by decide)]; exact v3)
              have m4 := i2.wm m3
              have hs4 : ∀ i, i < 156 → iv t4 75 i = nI (m i) := fun i hi => by rw [i2.2.2 75 (by decide)]; exact hs3 i hi
              obtain ⟨t5, j1, j2, j3⟩ := e_keeps (N := N) (by omega) h12 m4 hs4 i3
              have m5 := j2.wm m4
              have hs5 : ∀ i, i < 156 → iv t5 75 i = nI (m i) := fun i hi => by rw [j2.2.2 75 (by decide)]; exact hs4 i hi
              obtain ⟨k', t6, k1, k2, k3⟩ := e_chp (N := N) (f := roS (fun c => m (9 + 7 * c)) (fun _ => p) b) hN hw h0 hf2 hp2 hway hG m5 hs5 j3
              have fs6 : FS chL τ t6 := fs3.tr ((i2.fs (l := chL) (by decide) (by decide)).tr ((j2.fs (by decide) (by decide)).tr (k2.mono (by decide))))
              rw [y6, if_neg z1, k_0_4 c2, Option.bind_some, k_o42 c2, Option.bind_some, d1, Option.bind_some, k_0_11 c3, Option.bind_some, k_0_4 c3, Option.bind_some, k_o42 c3, Option.bind_some, g1, Option.bind_some, k_0_11 g2, Option.bind_some, k_0_4 g2, Option.bind_some, k_o42 g2, Option.bind_some, g3, Option.bind_some, k_0_11 c5, Option.bind_some, k_o42 c5, Option.bind_some, told, Option.bind_some]
              rw [w3'.1, if_pos (show 0 ≤ nI b from nI_pos' (by omega)), m_ob m3, Option.bind_some, i1, Option.bind_some, m_ob m4, Option.bind_some, j1, Option.bind_some, m_ob m5, Option.bind_some, k1, Option.bind_some]
              cases e2 : bsB m (roS (fun c => m (9 + 7 * c)) (fun _ => p) b) way p2 G with
              | none =>
                have k3' : k' = -1 := by
                  have w4 := k3
                  rw [show bst _ _ _ _ = none from e2] at w4
                  exact w4
                rw [k3', if_neg (show ¬ (0 : Int32) ≤ -1 by decide)]
                exact ⟨_, _, _, rfl, rfl, rs5.qc (by decide), fs6.qm (by decide)⟩
              | some b2 =>
                have k3' : k' = nI b2 ∧ iv t6 63 28 = nI (coS (prc m (roS (fun c => m (9 + 7 * c)) (fun _ => p) b) p2) (m 0) b2) := by
                  have w4 := k3
                  rw [show bst _ _ _ _ = some b2 from e2] at w4
                  exact w4
                have hb2 := bsB_lt h12 e2
                rw [k3'.1, if_pos (show 0 ≤ nI b2 from nI_pos' (by omega))]
                unfold tld
                by_cases z : a6 = 0
                · simp only [if_pos z]
                  rw [m_gI (k2.wm m5), Option.bind_some, k3'.2]
                  exact ⟨_, _, _, rfl, rfl, rs5.qc (by decide), fs6.qm (by decide)⟩
                · simp only [if_neg z]
                  exact ⟨_, _, _, rfl, rfl, rs5.qc (by decide), fs6.qm (by decide)⟩
          · rw [bi_n h5, bi_n (fun z => h5 z.2)]
            exact ⟨_, _, _, rfl, rfl, QC.rf _, QM.rf _⟩
        · rw [bi_n h3, bi_n (fun z => h3 z.2)]
          exact ⟨_, _, _, rfl, rfl, QC.rf _, QM.rf _⟩
      · rw [bi_n h6, if_pos rfl]
        by_cases h3 : 0 ≤ a3 ∧ a3 < nI (2 ^ m 0)
        · rw [bi_y ⟨hA, h3⟩, if_neg z1, m_ob hm, Option.bind_some, e_canBuyM hm (hs 0 (by decide)) h12, Option.bind_some]
          by_cases h5 : 0 ≤ a5 ∧ a5 < nI (2 ^ m 0)
          · rw [bi_y ⟨⟨hA.1, hA.2.1, h4⟩, h5⟩, if_neg z1, e_in_n a6 2 (by decide) (by decide) (show (1 : Int64) = (nI 1).toInt64 by decide), Option.bind_some, show bi (0 ≤ a6 ∧ a6 < nI 2) = bi (0 ≤ a6 ∧ a6 < 2) from rfl, bi_n h6, if_pos rfl]
            exact ⟨_, _, _, rfl, rfl, QC.rf _, QM.rf _⟩
          · rw [bi_n (fun z => h5 z.2)]
            exact ⟨_, _, _, rfl, rfl, QC.rf _, QM.rf _⟩
        · rw [bi_n (fun z => h3 z.2)]
          exact ⟨_, _, _, rfl, rfl, QC.rf _, QM.rf _⟩
    · rw [bi_n h4, if_pos rfl]
      by_cases h3 : 0 ≤ a3 ∧ a3 < nI (2 ^ m 0)
      · rw [bi_y ⟨hA, h3⟩, if_neg z1, m_ob hm, Option.bind_some, e_canBuyM hm (hs 0 (by decide)) h12, Option.bind_some, bi_n (fun z => h4 z.1.2.2), if_pos rfl]
        exact ⟨_, _, _, rfl, rfl, QC.rf _, QM.rf _⟩
      · rw [bi_n (fun z => h3 z.2)]
        exact ⟨_, _, _, rfl, rfl, QC.rf _, QM.rf _⟩
  · rw [bi_n hA, bi_n (fun z => hA z.1)]
    exact ⟨_, _, _, rfl, rfl, QC.rf _, QM.rf _⟩
end BU
