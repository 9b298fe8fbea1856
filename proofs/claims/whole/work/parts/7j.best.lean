/-! bestPoint -/
section BP
variable {N : Nat}
abbrev ow (m : Nat → Nat) (a c : Nat) : Bool := decide (m (8 + 7 * c) = a)
theorem ocf {m : Nat → Nat} {a : Nat} {σ : Mm} (hws : WS m) (ha : a < 4) (hc : WFc σ) (hr : RelV σ 9 m) : ∀ d c fu, c + d = m 0 → d < fu → f_X7_cocksOf_4 N fu 9 (nI a) (nI (msk (ow m a) c)) (nI c) σ = some (nI (msk (ow m a) (m 0)), σ) := by
  have h12 := hws.1
  intro d
  induction d with
  | zero =>
    intro c fu h1 h2
    obtain ⟨fu, rfl⟩ : ∃ q, fu = q + 1 := ⟨fu - 1, by omega⟩
    rw [f_X7_cocksOf_4, v_i (now9 hc), Option.bind_some, hr.1, if_pos (nI_le (by omega) (by omega)), f_X7_cocksOf_40, show c = m 0 by omega]
  | succ d ih =>
    intro c fu h1 h2
    obtain ⟨fu, rfl⟩ : ∃ q, fu = q + 1 := ⟨fu - 1, by omega⟩
    have r5 : iv σ (9 + 5) c = nI (m (8 + 7 * c)) := by
      have := hr.2.2.2.2.1 c (by omega) 4 (by decide)
      rwa [show 4 + 7 * c + 4 = 8 + 7 * c by omega] at this
    have hb := hws.2.2.2.2.1 c (by omega)
    rw [f_X7_cocksOf_4, v_i (now9 hc), Option.bind_some, hr.1, if_neg (nI_ge (by omega) (by omega)), if_neg (by rw [show (12 : Int32) = nI 12 from rfl]; exact nI_ge (by omega) (by decide)), v_g5 (now9 hc), Option.bind_some, v_a (now9 hc) rfl (by decide) (by decide) (by omega), Option.bind_some, r5]
    by_cases q : m (8 + 7 * c) = a
    · rw [if_pos (by rw [q]), msk_or _ (by omega) (decide_eq_true q), f_X7_cocksOf_34, nI_1]
      exact ih (c + 1) fu (by omega) (by omega)
    · rw [if_neg (show ¬ nI (m (8 + 7 * c)) = nI a from nIk (by omega) (by omega) q), f_X7_cocksOf_34, nI_1, ← msk_no _ (show ow m a c = false from decide_eq_false q)]
      exact ih (c + 1) fu (by omega) (by omega)
/-- one way or another the same best one -/
def RB (p cur : Nat) (l5 l6 l7 l8 : Int32) : Prop := (∃ q v, q < 8 ∧ v < 2 ^ 20 ∧ l5 = nI q ∧ l6 = nI v ∧ l7 = nI q ∧ l8 = nI v) ∨ (p ≤ cur ∧ l5 = 0 ∧ l6 = -1 ∧ (l7 < 0 ∨ l8 < 0))
theorem subN {g c : Nat} (hg : g < 2 ^ 20) (hc : c < 2 ^ 20) (h : g < c) : nI g - nI c < 0 ∧ nI g - nI c ≤ -1 := by
  have t := pk_sub_toInt (a := g) (b := c) (by omega) (by omega)
  constructor
  · rw [Int32.lt_iff_toInt_lt, t, Int32.toInt_zero]; omega
  · rw [Int32.le_iff_toInt_le, t, show (-1 : Int32).toInt = -1 from rfl]; omega
theorem okS_cong {al al' : Nat → Bool} {V : (Nat → Nat) → Nat} {f t : Nat → Nat} {n p : Nat} (h : ∀ c, c < n → al c = al' c) : okS al V f t n p = okS al' V f t n p := by
  funext S
  unfold okS
  congr 1
  apply decide_eq_decide.2
  constructor
  · intro g c hc q; rw [← h c hc]; exact g c hc q
  · intro g c hc q; rw [h c hc]; exact g c hc q
theorem coS_0 (P : Nat → Nat) (n : Nat) : coS P n 0 = 0 := sg_zero n 0 (fun j _ _ => by
  show (if (0 : Nat).testBit j = true then P j else 0) = 0
  rw [Nat.zero_testBit]; rfl)
theorem bsB_0 {m f : Nat → Nat} {way p F : Nat} (h : voteV way (m 0) f (ages m) = p) : bsB m f way p F = some 0 := by
  apply bst_is (Nat.pow_pos (by decide))
  · unfold okS
    rw [Bool.and_eq_true, decide_eq_true_eq, decide_eq_true_eq]
    refine ⟨fun c _ q => absurd q (by rw [Nat.zero_testBit]; decide), ?_⟩
    rw [show roS f (fun _ => p) 0 = f from funext (fun c => by unfold roS; rw [Nat.zero_testBit]; rfl)]
    exact h
  · intro S _ _
    rw [coS_0, show pc 0 = 0 by decide]
    unfold lxl
    omega
theorem bpl (hN : 5000 ≤ N) {m f : Nat → Nat} {way ws k F cur : Nat} {l4 : Int32} {M : Nat} (hws : WS m) (h0 : 0 < m 0) (hf : ∀ c, c < m 0 → f c < 8) (hway : way < 4) (how : ws < 4) (hk : k ≤ 9999) (hF : F < 4096) (hM : M < 4096) (hMF : ∀ c, c < m 0 → M.testBit c = !F.testBit c) (hcur : voteV way (m 0) f (ages m) = cur) (hcur8 : cur < 8) (hv8 : ∀ r : Nat → Nat, (∀ c, c < m 0 → r c < 8) → voteV way (m 0) r (ages m) < 8) :
    ∀ d p fu σ τ l5 l6 l7 l8, p + d = 8 → d < fu → WFc σ → RelV σ 9 m → (∀ c, c < m 0 → iv σ 43 c = nI (f c)) → WFm τ → (∀ i, i < 156 → iv τ 75 i = nI (m i)) → (∀ j, j < m 0 → iv τ 78 j = nI (f j)) → RB p cur l5 l6 l7 l8 → ∃ r σ' τ', f_X10_bestPoint_69 N fu 0 (nI way) (nI ws) (nI k) l4 l5 l6 (nI M) (nI p) σ = some (r, σ') ∧ f_X11_bestPoint_124 N fu 63 (nI way) (nI ws) (nI k) l4 (nI F) (nI cur) l7 l8 (nI p) τ = some (r, τ') ∧ RS buyL σ σ' ∧ FS [76, 77] τ τ' := by
  have h12 := hws.1
  intro d
  induction d with
  | zero =>
    intro p fu σ τ l5 l6 l7 l8 h1 h2 hc hr h43 hm hs h78 hR
    obtain ⟨fu, rfl⟩ : ∃ q, fu = q + 1 := ⟨fu - 1, by omega⟩
    rcases hR with ⟨q, v, q1, q2, e5, e6, e7, e8⟩ | ⟨q1, _⟩
    · have h8 : (8 : Int32) ≤ nI p := by rw [i8]; exact nI_le (by omega) (by omega)
      rw [f_X10_bestPoint_69, f_X11_bestPoint_124]
      simp only [if_pos h8, f_X10_bestPoint_191, f_X11_bestPoint_231, e5, e6, e7, e8]
      by_cases z : l4 = 0
      · rw [if_pos z, if_pos z]
        exact ⟨_, _, _, rfl, rfl, RS.rf _ _, FS.rf _ _⟩
      · rw [if_neg z, if_neg z]
        exact ⟨_, _, _, rfl, rfl, RS.rf _ _, FS.rf _ _⟩
    · omega
  | succ d ih =>
    intro p fu σ τ l5 l6 l7 l8 h1 h2 hc hr h43 hm hs h78 hR
    obtain ⟨fu, rfl⟩ : ∃ q, fu = q + 1 := ⟨fu - 1, by omega⟩
    have hp : p < 8 := by omega
    obtain ⟨s1, b1, b2, b3⟩ := e_bendTo (N := N) (by omega) hws hp hf hc hr h43
    have c1 := b2.wc hc
    obtain ⟨s2, w1, w2, w3⟩ := e_run (N := N) (m := m) (f := f) (t := fun _ => p) (P := prc m f p) (al := fun c => !F.testBit c) (l4 := nI M) (way := way) (p := p) hN hws h0 hf (fun _ _ => hp) (prc_le hws hp hf) hway hp hv8 (fun c hcn => by
      rw [bitB (by omega) (by omega), hMF c hcn]
      cases F.testBit c <;> decide) c1 (b2.rel (by decide) hr) (by rw [b2.2.2 43 (by decide)]; exact h43) (fun c hcn => (b3 c hcn).1) (fun c hcn => (b3 c hcn).2)
    have c2 := w2.wc c1
    have rs2 : RS buyL σ s2 := (b2.mono (by decide)).tr (w2.mono (by decide))
    have r2 : RelV s2 9 m := rs2.rel (by decide) hr
    have h432 : ∀ c, c < m 0 → iv s2 43 c = nI (f c) := by rw [w2.2.2 43 (by decide), b2.2.2 43 (by decide)]; exact h43
    obtain ⟨l', t1, g1, g2, g3⟩ := e_chp (N := N) (f := f) hN hws h0 hf hp hway hF hm hs h78
    have m1 := g2.wm hm
    have hs1 := g2.said (by decide) hs
    have h781 : ∀ j, j < m 0 → iv t1 78 j = nI (f j) := by rw [g2.2.2.1 78 (by decide) (by decide)]; exact h78
    have IH : ∀ l5 l6 l7 l8, RB (p + 1) cur l5 l6 l7 l8 → ∃ r σ' τ', f_X10_bestPoint_173 N (f_X10_bestPoint_69 N fu) 0 (nI way) (nI ws) (nI k) l4 l5 l6 (nI M) (nI p) s2 = some (r, σ') ∧ f_X11_bestPoint_213 N (f_X11_bestPoint_124 N fu) 63 (nI way) (nI ws) (nI k) l4 (nI F) (nI cur) l7 l8 (nI p) t1 = some (r, τ') ∧ RS buyL σ σ' ∧ FS [76, 77] τ τ' := by
      intro l5 l6 l7 l8 hR
      obtain ⟨r, σ', τ', i1, i2, i3, i4⟩ := ih (p + 1) fu s2 t1 l5 l6 l7 l8 (by omega) (by omega) c2 r2 h432 m1 hs1 h781 hR
      exact ⟨r, σ', τ', by rw [f_X10_bestPoint_173, nI_1]; exact i1, by rw [f_X11_bestPoint_213, nI_1]; exact i2, rs2.tr i3, g2.tr i4⟩
    have gb : m (124 + (8 * ws + p)) ≤ 99 := hws.2.2.2.2.2.2 (8 * ws + p) (by omega)
    obtain ⟨g, hg⟩ : ∃ g, g = m (124 + (8 * ws + p)) := ⟨_, rfl⟩
    have gC : f_X7_gain N 9 (nI ws) (nI p) s2 = some (nI g, s2) := by
      rw [e_gain (now9 c2) how hp, r2.2.2.2.2.2.2 _ (by omega), hg]
    have gM : f_X11_worth N 63 (nI ws) (nI p) t1 = some (nI g, t1) := by
      rw [e_worthM m1 hs1 rfl h0 h12 how hp, hg]
    rw [← hg] at gb
    have keep : RB p cur l5 l6 l7 l8 → p ≠ cur → RB (p + 1) cur l5 l6 l7 l8 := by
      intro h q
      rcases h with h | ⟨h, h'⟩
      · exact Or.inl h
      · exact Or.inr ⟨by omega, h'⟩
    -- a value is weighed
    have weigh : ∀ c, c < 2 ^ 20 → (p = cur → c = 0) → ∃ r σ' τ', (if (nI g - nI c) ≤ l6 then f_X10_bestPoint_173 N (f_X10_bestPoint_69 N fu) 0 (nI way) (nI ws) (nI k) l4 l5 l6 (nI M) (nI p) s2 else f_X10_bestPoint_173 N (f_X10_bestPoint_69 N fu) 0 (nI way) (nI ws) (nI k) l4 (nI p) (nI g - nI c) (nI M) (nI p) s2) = some (r, σ') ∧ (if l7 < 0 then f_X11_bestPoint_213 N (f_X11_bestPoint_124 N fu) 63 (nI way) (nI ws) (nI k) l4 (nI F) (nI cur) (nI p) (nI g - nI c) (nI p) t1 else if l8 < (nI g - nI c) then f_X11_bestPoint_213 N (f_X11_bestPoint_124 N fu) 63 (nI way) (nI ws) (nI k) l4 (nI F) (nI cur) (nI p) (nI g - nI c) (nI p) t1 else f_X11_bestPoint_213 N (f_X11_bestPoint_124 N fu) 63 (nI way) (nI ws) (nI k) l4 (nI F) (nI cur) l7 l8 (nI p) t1) = some (r, τ') ∧ RS buyL σ σ' ∧ FS [76, 77] τ τ' := by
      intro c hc20 hpc
      by_cases hgc : g < c
      · obtain ⟨n1, n2⟩ := subN (by omega) hc20 hgc
        have hpn : p ≠ cur := fun e => by have := hpc e; omega
        rcases hR with ⟨q, v, q1, q2, e5, e6, e7, e8⟩ | ⟨q1, e5, e6, e7⟩
        · have hR1 : RB (p + 1) cur l5 l6 l7 l8 := Or.inl ⟨q, v, q1, q2, e5, e6, e7, e8⟩
          have hv0 : (0 : Int32) ≤ nI v := nI_pos' (by omega)
          rw [if_pos (by rw [e6]; exact Int32.le_of_lt (Int32.lt_of_lt_of_le n1 hv0)), if_neg (by rw [e7]; exact nI_pos (by omega)), if_neg (by rw [e8]; exact fun z => Int32.lt_irrefl (Int32.lt_trans n1 (Int32.lt_of_le_of_lt hv0 z)))]
          exact IH _ _ _ _ hR1
        · rw [if_pos (by rw [e6]; exact n2)]
          by_cases z : l7 < 0
          · rw [if_pos z]
            exact IH _ _ _ _ (Or.inr ⟨by omega, e5, e6, Or.inr n1⟩)
          · rw [if_neg z]
            by_cases z2 : l8 < nI g - nI c
            · rw [if_pos z2]
              exact IH _ _ _ _ (Or.inr ⟨by omega, e5, e6, Or.inr n1⟩)
            · rw [if_neg z2]
              exact IH _ _ _ _ (Or.inr ⟨by omega, e5, e6, e7⟩)
      · rw [pk_sub (by omega)]
        have hw0 : (0 : Int32) ≤ nI (g - c) := nI_pos' (by omega)
        rcases hR with ⟨q, v, q1, q2, e5, e6, e7, e8⟩ | ⟨q1, e5, e6, e7⟩
        · rw [e6, e8, if_neg (show ¬ l7 < 0 by rw [e7]; exact nI_pos (by omega))]
          by_cases z : g - c ≤ v
          · rw [if_pos (nI_le z (by omega)), if_neg (show ¬ nI v < nI (g - c) by rw [nI_ltI (by omega) (by omega)]; omega)]
            exact IH _ _ _ _ (Or.inl ⟨q, v, q1, q2, e5, rfl, e7, rfl⟩)
          · rw [if_neg (nI_ge (by omega) (by omega)), if_pos (nI_lt (by omega) (by omega))]
            exact IH _ _ _ _ (Or.inl ⟨p, g - c, hp, by omega, rfl, rfl, rfl, rfl⟩)
        · have nw : RB (p + 1) cur (nI p) (nI (g - c)) (nI p) (nI (g - c)) := Or.inl ⟨p, g - c, hp, by omega, rfl, rfl, rfl, rfl⟩
          rw [if_neg (show ¬ nI (g - c) ≤ l6 by rw [e6]; exact fun z => absurd (Int32.le_trans hw0 z) (by decide))]
          by_cases z : l7 < 0
          · rw [if_pos z]
            exact IH _ _ _ _ nw
          · rw [if_neg z, if_pos (show l8 < nI (g - c) from Int32.lt_of_lt_of_le (e7.resolve_left z) hw0)]
            exact IH _ _ _ _ nw
    have h8 : ¬ (8 : Int32) ≤ nI p := by rw [i8]; exact nI_ge hp (by decide)
    rw [f_X10_bestPoint_69, f_X11_bestPoint_124]
    simp only [if_neg h8]
    rw [k_0_11 hc, Option.bind_some, k_0_4 hc, Option.bind_some, k_o42 hc, Option.bind_some, b1, Option.bind_some, k_0_11 c1, Option.bind_some, k_0_4 c1, Option.bind_some, k_o42 c1, Option.bind_some, w1, Option.bind_some, m_ob hm, Option.bind_some, g1, Option.bind_some, k_0_11 c2, Option.bind_some, k_i42 c2, Option.bind_some, Option.bind_some]
    have hcc : ∀ b, bsB m f way p F = some b → coS (prc m f p) (m 0) b < 2 ^ 20 := fun b _ => coS_lt h12 (prc_le hws hp hf) b
    -- the class's side where one is found
    have CF : ∀ b, bsB m f way p F = some b → (if iv s2 42 6 = 0 then f_X10_bestPoint_173 N (f_X10_bestPoint_69 N fu) 0 (nI way) (nI ws) (nI k) l4 l5 l6 (nI M) (nI p) s2 else (gI 4 7 s2 42).bind fun x13 =>
          if nI k < x13 then (
            f_X10_bestPoint_173 N (f_X10_bestPoint_69 N fu) 0 (nI way) (nI ws) (nI k) l4 l5 l6 (nI M) (nI p) s2) else (
            (gN 10 4 s2 0).bind fun a15 =>
            (ob 7 s2 a15).bind fun _ =>
            (f_X7_gain N a15 (nI ws) (nI p) s2).bind fun q16 =>
            (gN 10 11 q16.2 0).bind fun a17 =>
            (gI 4 7 q16.2 a17).bind fun x18 =>
            if (q16.1 - x18) ≤ l6 then (
              f_X10_bestPoint_173 N (f_X10_bestPoint_69 N fu) 0 (nI way) (nI ws) (nI k) l4 l5 l6 (nI M) (nI p) q16.2) else (
              (gN 10 4 q16.2 0).bind fun a20 =>
              (ob 7 q16.2 a20).bind fun _ =>
              (f_X7_gain N a20 (nI ws) (nI p) q16.2).bind fun q21 =>
              (gN 10 11 q21.2 0).bind fun a22 =>
              (gI 4 7 q21.2 a22).bind fun x23 =>
              f_X10_bestPoint_173 N (f_X10_bestPoint_69 N fu) 0 (nI way) (nI ws) (nI k) l4 (nI p) (q21.1 - x23) (nI M) (nI p) q21.2))) = if k < coS (prc m f p) (m 0) b then f_X10_bestPoint_173 N (f_X10_bestPoint_69 N fu) 0 (nI way) (nI ws) (nI k) l4 l5 l6 (nI M) (nI p) s2 else (if (nI g - nI (coS (prc m f p) (m 0) b)) ≤ l6 then f_X10_bestPoint_173 N (f_X10_bestPoint_69 N fu) 0 (nI way) (nI ws) (nI k) l4 l5 l6 (nI M) (nI p) s2 else f_X10_bestPoint_173 N (f_X10_bestPoint_69 N fu) 0 (nI way) (nI ws) (nI k) l4 (nI p) (nI g - nI (coS (prc m f p) (m 0) b)) (nI M) (nI p) s2) := by
      intro b e
      have w4 := w3
      rw [show bst _ _ _ _ = some b from e] at w4
      have hb20 := hcc b e
      rw [w4.1, if_neg z1, k_i42 c2, Option.bind_some, w4.2.1]
      by_cases q : k < coS (prc m f p) (m 0) b
      · rw [if_pos (nI_lt q (by omega)), if_pos q]
      · rw [if_neg (show ¬ nI k < nI (coS (prc m f p) (m 0) b) by rw [nI_ltI (by omega) (by omega)]; exact q), if_neg q, k_0_4 c2, Option.bind_some, v_o (now9 c2), Option.bind_some, gC, Option.bind_some, k_0_11 c2, Option.bind_some, k_i42 c2, Option.bind_some, w4.2.1]
        by_cases z : (nI g - nI (coS (prc m f p) (m 0) b)) ≤ l6
        · rw [if_pos z, if_pos z]
        · rw [if_neg z, if_neg z, k_0_4 c2, Option.bind_some, v_o (now9 c2), Option.bind_some, gC, Option.bind_some, k_0_11 c2, Option.bind_some, k_i42 c2, Option.bind_some, w4.2.1]
    by_cases hpc : p = cur
    · have e : bsB m f way p F = some 0 := bsB_0 (by rw [hpc]; exact hcur)
      have W := weigh 0 (by decide) (fun _ => rfl)
      have C := CF 0 e
      rw [coS_0, if_neg (Nat.not_lt_zero k)] at C
      rw [if_pos (show nI p = nI cur by rw [hpc]), f_X11_bestPoint_165, m_ob m1, Option.bind_some, gM, Option.bind_some, if_pos (show nI p = nI cur by rw [hpc])]
      simp only [f_X11_bestPoint_187, f_X11_bestPoint_205]
      obtain ⟨r, σ', τ', x1, x2, x3, x4⟩ := W
      exact ⟨r, σ', τ', C.trans x1, x2, x3, x4⟩
    · rw [if_neg (show ¬ nI p = nI cur from nIk (by omega) (by omega) hpc)]
      cases e : bsB m f way p F with
      | none =>
        have w4 := w3
        rw [show bst _ _ _ _ = none from e] at w4
        have g4 := g3
        rw [show bst _ _ _ _ = none from e] at g4
        rw [show iv s2 42 6 = 0 from w4, if_pos rfl, if_pos (show l' < 0 by rw [show l' = -1 from g4]; decide)]
        exact IH _ _ _ _ (keep hR hpc)
      | some b =>
        have g4 := g3
        rw [show bst _ _ _ _ = some b from e] at g4
        have hb := bsB_lt h12 e
        have hb20 := hcc b e
        have C := CF b e
        rw [if_neg (show ¬ l' < 0 by rw [g4.1]; exact nI_pos (by omega)), m_gI m1, Option.bind_some, g4.2]
        by_cases q : k < coS (prc m f p) (m 0) b
        · rw [if_pos q] at C
          rw [if_neg (nI_ge q (by omega))]
          obtain ⟨r, σ', τ', x1, x2, x3, x4⟩ := IH _ _ _ _ (keep hR hpc)
          exact ⟨r, σ', τ', C.trans x1, x2, x3, x4⟩
        · rw [if_neg q] at C
          obtain ⟨r, σ', τ', x1, x2, x3, x4⟩ := weigh (coS (prc m f p) (m 0) b) hb20 (fun z => absurd z hpc)
          rw [if_pos (nI_le (by omega) (by omega)), f_X11_bestPoint_165, m_ob m1, Option.bind_some, gM, Option.bind_some, if_neg (show ¬ nI p = nI cur from nIk (by omega) (by omega) hpc), m_gI m1, Option.bind_some, g4.2]
          simp only [f_X11_bestPoint_187, f_X11_bestPoint_205]
          exact ⟨r, σ', τ', C.trans x1, x2, x3, x4⟩
theorem bpm {m : Nat → Nat} {a : Nat} {τ : Mm} {l1 l3 l4 : Int32} (hws : WS m) (ha : a < 4) (hm : WFm τ) (hs : ∀ i, i < 156 → iv τ 75 i = nI (m i)) : ∀ d c fu, c + d = m 0 → d < fu → f_X11_bestPoint_59 N fu 63 l1 (nI a) l3 l4 (nI (msk (fun c => !ow m a c) c)) (nI c) τ = (f_X11_asTheyAre N 63 τ).bind fun q4 =>
        (ob 11 q4 63).bind fun _ =>
        (f_X11_keepsRow N 63 q4).bind fun q5 =>
        (ob 11 q5 63).bind fun _ =>
        (f_X11_votes N 63 l1 q5).bind fun q6 =>
        f_X11_bestPoint_124 N N 63 l1 (nI a) l3 l4 (nI (msk (fun c => !ow m a c) (m 0))) q6.1 (-1 : Int32) (0 : Int32) (0 : Int32) q6.2 := by
  have h12 := hws.1
  intro d
  induction d with
  | zero =>
    intro c fu h1 h2
    obtain ⟨fu, rfl⟩ : ∃ q, fu = q + 1 := ⟨fu - 1, by omega⟩
    rw [f_X11_bestPoint_59, m_g24 hm, Option.bind_some, m_aI hm (a := 75) (n := 156) (i := 0) (c := 0) (by decide) rfl rfl (by decide) (by decide), Option.bind_some, hs 0 (by decide), if_pos (nI_le (by omega) (by omega)), m_ob hm, Option.bind_some, show c = m 0 by omega]
  | succ d ih =>
    intro c fu h1 h2
    obtain ⟨fu, rfl⟩ : ∃ q, fu = q + 1 := ⟨fu - 1, by omega⟩
    have hb := hws.2.2.2.2.1 c (by omega)
    rw [f_X11_bestPoint_59, m_g24 hm, Option.bind_some, m_aI hm (a := 75) (n := 156) (i := 0) (c := 0) (by decide) rfl rfl (by decide) (by decide), Option.bind_some, hs 0 (by decide), if_neg (nI_ge (by omega) (by omega)), m_ob hm, Option.bind_some, e_c4 hm (by omega), Option.bind_some, hs _ (by omega), show 4 + 7 * c + 4 = 8 + 7 * c by omega]
    by_cases q : m (8 + 7 * c) = a
    · rw [if_pos (by rw [q]), f_X11_bestPoint_91, i32_or0, nI_1, ← msk_no (fun c => !ow m a c) (c := c) (by show (!ow m a c) = false; rw [show ow m a c = true from decide_eq_true q]; rfl)]
      exact ih (c + 1) fu (by omega) (by omega)
    · rw [if_neg (show ¬ nI (m (8 + 7 * c)) = nI a from nIk (by omega) (by omega) q), f_X11_bestPoint_91, msk_or (fun c => !ow m a c) (by omega) (by show (!ow m a c) = true; rw [show ow m a c = false from decide_eq_false q]; rfl), nI_1]
      exact ih (c + 1) fu (by omega) (by omega)
theorem st_bestPoint (hN : 5000 ≤ N) (a1 a2 a3 a4 : Int32) : StepI Inv (f_X10_bestPoint N 0 a1 a2 a3 a4) (f_X11_bestPoint N 63 a1 a2 a3 a4) := by
  refine step_q fun σ τ hi => ?_
  obtain ⟨hc, hm, hnn, -, -, ⟨m, hw, hr, hs⟩, -⟩ := hi
  have h12 := hw.1
  unfold f_X10_bestPoint f_X10_bestPoint_37 f_X11_bestPoint f_X11_bestPoint_51
  rw [k_o0 hc, Option.bind_some, e_canBuy hc hr.1 h12, Option.bind_some, m_g24 hm, Option.bind_some, m_aI hm (a := 75) (n := 156) (i := 0) (c := 0) (by decide) rfl rfl (by decide) (by decide), Option.bind_some, hs 0 (by decide)]
  by_cases h0 : 0 < m 0
  · rw [if_neg (show ¬ nI (m 0) = 0 from fun z => by rw [nz_iff (by omega)] at z; omega), e_isWay, Option.bind_some]
    by_cases hW : 0 ≤ a1 ∧ a1 < 4
    · rw [bi_y hW, bi_y ⟨h0, hW, by decide, by decide⟩, if_neg z1, if_neg z1, e_isBelow, Option.bind_some, e_in_n a2 4 (by decide) (by decide) (show (3 : Int64) = (nI 3).toInt64 by decide), Option.bind_some, show bi (0 ≤ a2 ∧ a2 < nI 4) = bi (0 ≤ a2 ∧ a2 < 4) from rfl]
      by_cases hO : 0 ≤ a2 ∧ a2 < 4
      · rw [bi_y hO, if_neg z1, if_neg z1, e_in_n a3 10000 (by decide) (by decide) (show (9999 : Int64) = (nI 9999).toInt64 by decide), Option.bind_some]
        rcases bi_in (x := a3) (n := 10000) (by decide) with ⟨k, k1, rfl, k3⟩ | ⟨k1, k2⟩
        · rw [k3, if_neg z1, if_neg (nI_pos (by omega)), if_neg (show ¬ (9999 : Int32) < nI k by rw [show (9999 : Int32) = nI 9999 from rfl, nI_ltI (by decide) (by omega)]; omega), e_isBelow, Option.bind_some, e_in_n a4 2 (by decide) (by decide) (show (1 : Int64) = (nI 1).toInt64 by decide), Option.bind_some, show bi (0 ≤ a4 ∧ a4 < nI 2) = bi (0 ≤ a4 ∧ a4 < 2) from rfl]
          by_cases hX : 0 ≤ a4 ∧ a4 < 2
          · rw [bi_y hX, if_neg z1, if_neg z1]
            obtain ⟨way, rfl, hway⟩ := cy_n (n := 4) (by decide) hW
            obtain ⟨ws, rfl, hws⟩ := cy_n (n := 4) (by decide) hO
            have hf : ∀ c, c < m 0 → m (9 + 7 * c) < 8 := fun c hcn => by have := hw.2.2.2.2.1 c (by omega); omega
            have hv8 : ∀ r : Nat → Nat, (∀ c, c < m 0 → r c < 8) → voteV way (m 0) r (ages m) < 8 := fun r hr8 => voteV_lt hw h0 hr8 hway hm hs
            have oc := ocf (N := N) hw hws hc hr (m 0) 0 N (by omega) (by omega)
            obtain ⟨s0, x1, x2, x3⟩ := e_startFrom (N := N) hc hr h12
            have c0 := x2.wc hc
            have r0 : RelV s0 9 m := (x2.rs (l := [43]) (by decide)).rel (by decide) hr
            obtain ⟨t1, u1, u2, u3⟩ := e_asThey (N := N) (by omega) h12 hm hs
            have m1 := u2.wm hm
            have hs1 : ∀ i, i < 156 → iv t1 75 i = nI (m i) := fun i hi => by rw [u2.2.2 75 (by decide)]; exact hs i hi
            obtain ⟨t2, v1, v2, v3⟩ := e_keeps (N := N) (by omega) h12 m1 hs1 u3
            have m2 := v2.wm m1
            have hs2 : ∀ i, i < 156 → iv t2 75 i = nI (m i) := fun i hi => by rw [v2.2.2 75 (by decide)]; exact hs1 i hi
            have u3' : Rw t2 (m 0) (fun c => m (9 + 7 * c)) := fun c hcn => by rw [v2.2.2 76 (by decide)]; exact u3 c hcn
            obtain ⟨t3, y1, y2, y3⟩ := e_votes (N := N) (a := ages m) (by omega) hw h0 m2 hs2 u3' hf (fun _ => rfl) hway
            have m3 := y2.wm m2
            have hs3 : ∀ i, i < 156 → iv t3 75 i = nI (m i) := fun i hi => by rw [y2.2.2 75 (by decide)]; exact hs2 i hi
            obtain ⟨r, s1, t4, g1, g2, g3, g4⟩ := bpl (N := N) (m := m) (f := fun c => m (9 + 7 * c)) (way := way) (ws := ws) (k := k) (F := msk (fun c => !ow m ws c) (m 0)) (l4 := a4) (M := msk (ow m ws) (m 0)) hN hw h0 hf hway hws (by omega) (msk_12 _ h12) (msk_12 _ h12) (fun c hcn => by rw [msk_tb, msk_tb, decide_eq_true hcn]; simp) rfl y3 hv8 8 0 N s0 t3 0 (-1) (-1) 0 (by omega) (by omega) c0 r0 x3 m3 hs3 (by rw [y2.2.2 78 (by decide)]; exact v3) (Or.inr ⟨by omega, rfl, rfl, Or.inl (by decide)⟩)
            have bm := bpm (N := N) (l1 := nI way) (l3 := nI k) (l4 := a4) hw hws hm hs (m 0) 0 N (by omega) (by omega)
            have fs3 : FS chL τ t4 := (u2.fs (l := chL) (by decide) (by decide)).tr ((v2.fs (by decide) (by decide)).tr ((y2.fs (by decide) (by decide)).tr (g4.mono (by decide))))
            have rs2 : RS buyL σ s1 := (x2.rs (l := buyL) (by decide)).tr g3
            refine ⟨r, s1, t4, ?_, ?_, rs2.qc (by decide), fs3.qm (by decide)⟩
            · rw [k_0_4 hc, Option.bind_some, v_o (now9 hc), Option.bind_some, show f_X7_cocksOf N 9 (nI ws) σ = some (nI (msk (ow m ws) (m 0)), σ) from oc, Option.bind_some, k_0_11 hc, Option.bind_some, k_0_4 hc, Option.bind_some, k_o42 hc, Option.bind_some, x1, Option.bind_some]
              exact g1
            · refine Eq.trans bm ?_
              rw [u1, Option.bind_some, m_ob m1, Option.bind_some, v1, Option.bind_some, m_ob m2, Option.bind_some, y1, Option.bind_some]
              exact g2
          · rw [bi_n hX]
            exact ⟨_, _, _, rfl, rfl, QC.rf _, QM.rf _⟩
        · rw [k2, if_pos rfl]
          by_cases q1 : a3 < 0
          · rw [if_pos q1]
            exact ⟨_, _, _, rfl, rfl, QC.rf _, QM.rf _⟩
          · rw [if_neg q1, if_pos (show (9999 : Int32) < a3 from Int32.not_le.1 (fun q2 => k1 ⟨Int32.not_lt.1 q1, Int32.lt_of_le_of_lt q2 (by decide)⟩))]
            exact ⟨_, _, _, rfl, rfl, QC.rf _, QM.rf _⟩
      · rw [bi_n hO]
        exact ⟨_, _, _, rfl, rfl, QC.rf _, QM.rf _⟩
    · rw [bi_n hW, bi_n (fun z => hW z.2.1)]
      exact ⟨_, _, _, rfl, rfl, QC.rf _, QM.rf _⟩
  · rw [bi_n (fun z => h0 z.1), if_pos rfl, if_pos (show nI (m 0) = 0 from (nz_iff (by omega)).2 (by omega))]
    exact ⟨_, _, _, rfl, rfl, QC.rf _, QM.rf _⟩
end BP
