/-! both read -/
section RR
variable {N : Nat} {b : Nat → Nat} {t n : Nat}
theorem pk_i : ∀ c k : Nat, (c, k) ∈ ([(42, 9), (43, 7), (45, 8), (47, 10), (59, 4), (91, 5), (93, 6)] : List (Nat × Nat)) → c < 97 ∧ (c < 48 ∨ 57 < c) ∧ 33 ≤ c ∧ c ≠ 60 ∧ c ≠ 62 ∧ 4 ≤ k ∧ k ≤ 10 ∧ sK c = k := by
  have : ∀ x ∈ ([(42, 9), (43, 7), (45, 8), (47, 10), (59, 4), (91, 5), (93, 6)] : List (Nat × Nat)), x.1 < 97 ∧ (x.1 < 48 ∨ 57 < x.1) ∧ 33 ≤ x.1 ∧ x.1 ≠ 60 ∧ x.1 ≠ 62 ∧ 4 ≤ x.2 ∧ x.2 ≤ 10 ∧ sK x.1 = x.2 := by decide
  intro c k h
  exact this (c, k) h
theorem sK_inj {x k c : Nat} (h : sK x = k) (hk : 4 ≤ k ∧ k ≤ 10) (hc : sK c = k) : x = c := by
  have e : ∀ y, sK y = k → (y = 42 ∧ k = 9) ∨ (y = 43 ∧ k = 7) ∨ (y = 45 ∧ k = 8) ∨ (y = 47 ∧ k = 10) ∨ (y = 59 ∧ k = 4) ∨ (y = 91 ∧ k = 5) ∨ (y = 93 ∧ k = 6) := by
    intro y hy
    unfold sK at hy
    repeat' (split at hy)
    all_goals omega
  have := e x h
  have := e c hc
  omega
theorem tK_sg (hb : TP b t) {p c k : Nat} (hck : (c, k) ∈ ([(42, 9), (43, 7), (45, 8), (47, 10), (59, 4), (91, 5), (93, 6)] : List (Nat × Nat))) : tK b t p = k ↔ (p < t ∧ b p = c) := by
  obtain ⟨c1, c2, c3, c4, c5, c6, c7, c8⟩ := pk_i c k hck
  by_cases q : p < t
  · rw [tK_lt q]
    cases d : dg (b p)
    · simp only [Bool.false_eq_true, if_false]
      cases l : lt' (b p)
      · simp only [Bool.false_eq_true, if_false]
        cases w : wd' b p
        · simp only [Bool.false_eq_true, if_false]
          constructor
          · intro h; exact ⟨q, sK_inj h ⟨c6, c7⟩ c8⟩
          · intro h; rw [h.2]; exact c8
        · simp only [if_true]
          have hw : b p = 60 ∨ b p = 62 := by
            unfold wd' at w
            simp only [Bool.and_eq_true, Bool.or_eq_true, decide_eq_true_eq] at w
            exact w.1
          constructor
          · intro h
            rcases hw with y | y
            · rw [y] at h; have h : 12 = k := h; omega
            · rw [y] at h; have h : 14 = k := h; omega
          · intro h; omega
      · simp only [if_true]
        have := kw_rg (ac (fun i => b (p + i)) (lE b t p - p))
        have hl := (lt_iff' _).1 l
        constructor
        · intro h; have h : kwL (ac (fun i => b (p + i)) (lE b t p - p)) 0 16 = k := h; omega
        · intro h; omega
    · simp only [if_true]
      have hd := (dg_iff _).1 d
      constructor
      · intro h; omega
      · intro h; omega
  · rw [show tK b t p = 1 from if_pos (by omega)]
    constructor
    · intro h; omega
    · intro h; omega
theorem seen_sg {p c : Nat} (hb : TP b t) (hc : c < 128) : seen b t p = nI c ↔ (p < t ∧ b p = c) := by
  unfold seen
  have := hb.2.1 p
  by_cases q : p < t
  · rw [if_pos q, nI_eq (by omega) (by omega)]
    constructor
    · intro h; exact ⟨q, h⟩
    · intro h; exact h.2
  · rw [if_neg q]
    constructor
    · intro h; exact absurd h.symm (nI_ne1 (by omega))
    · intro h; exact absurd h.1 q
theorem tE_sg (hb : TP b t) {p c k : Nat} (hck : (c, k) ∈ ([(42, 9), (43, 7), (45, 8), (47, 10), (59, 4), (91, 5), (93, 6)] : List (Nat × Nat))) (h : b p = c) : tE b t p = p + 1 := by
  obtain ⟨c1, c2, c3, c4, c5, _⟩ := pk_i c k hck
  have d : dg (b p) = false := by
    cases e : dg (b p)
    · rfl
    · have := (dg_iff _).1 e; omega
  have l : lt' (b p) = false := by
    cases e : lt' (b p)
    · rfl
    · have := (lt_iff' _).1 e; omega
  have w : wd' b p = false := by
    unfold wd'
    rw [h, decide_eq_false c4, decide_eq_false c5]
    rfl
  unfold tE
  rw [d, l, w]
  rfl
theorem tK_1 {p : Nat} (hb : TP b t) : tK b t p = 1 ↔ t ≤ p := by
  by_cases q : t ≤ p
  · rw [show tK b t p = 1 from if_pos q]; simp [q]
  · constructor
    · intro h
      rw [tK_lt (by omega)] at h
      cases d : dg (b p)
      · rw [d] at h
        simp only [Bool.false_eq_true, if_false] at h
        cases l : lt' (b p)
        · rw [l] at h
          simp only [Bool.false_eq_true, if_false] at h
          have sk : ∀ x, 2 ≤ sK x := by intro x; unfold sK; (repeat' split) <;> omega
          have := sk (b p)
          split at h
          · by_cases y : b p = 62
            · rw [y] at h; simp [sK] at h
            · rw [if_neg y] at h; omega
          · omega
        · rw [l] at h
          simp only [if_true] at h
          have := kw_rg (ac (fun i => b (p + i)) (lE b t p - p))
          have h : kwL (ac (fun i => b (p + i)) (lE b t p - p)) 0 16 = 1 := h
          omega
      · rw [d] at h; simp at h
    · intro h; exact absurd h q
theorem tK_wd {p : Nat} (hb : TP b t) (h : 20 ≤ tK b t p) : p < t ∧ lt' (b p) = true ∧ tE b t p = lE b t p := by
  have hp : p < t := by
    by_cases q : p < t
    · exact q
    · rw [(tK_1 hb).2 (by omega)] at h; omega
  rw [tK_lt hp] at h
  cases d : dg (b p)
  · rw [d] at h
    simp only [Bool.false_eq_true, if_false] at h
    cases l : lt' (b p)
    · rw [l] at h
      simp only [Bool.false_eq_true, if_false] at h
      have sk : ∀ x, sK x ≤ 15 := by intro x; unfold sK; (repeat' split) <;> omega
      have := sk (b p)
      split at h
      · split at h <;> omega
      · omega
    · exact ⟨hp, rfl, by unfold tE; rw [d, l]; rfl⟩
  · rw [d] at h; simp at h
/-- a reader of the class, one of the model -/
def RDc (σ : Mm) (b : Nat → Nat) (t n k : Nat) : Prop := WFc σ ∧ TK σ b t n ∧ iv σ 3 4 = nI k ∧ k ≤ n
def RDm (τ : Mm) (b : Nat → Nat) (t k : Nat) : Prop := WFm τ ∧ MT τ b t ∧ iv τ 63 13 = 0 ∧ ∃ x, x ≤ t ∧ iv τ 63 12 = nI x ∧ skp b t x = pl b t k
theorem RDc.fr {σ σ' : Mm} {k : Nat} {l : List Nat} (h : RDc σ b t n k) (r : RS l σ σ') (hl : ∀ x ∈ l, 7 ≤ x) : RDc σ' b t n k := by
  have e : ∀ o, o < 7 → iv σ' o = iv σ o := fun o ho => r.2.2 o (fun q => by have := hl _ q; omega)
  refine ⟨r.wc h.1, h.2.1.cong (by rw [e 3 (by decide)]) (e 4 (by decide)) (e 5 (by decide)) (e 6 (by decide)), ?_, h.2.2.2⟩
  rw [e 3 (by decide)]; exact h.2.2.1
theorem RDm.fr {τ τ' : Mm} {k : Nat} (h : RDm τ b t k) (h1 : nn τ' = nn τ) (h2 : ∀ o, rv τ' o = rv τ o) (h3 : iv τ' 64 = iv τ 64) (h4 : ∀ j, j = 1 ∨ j = 12 ∨ j = 13 → iv τ' 63 j = iv τ 63 j) : RDm τ' b t k := by
  obtain ⟨g1, g2, g3, x, g4, g5, g6⟩ := h
  refine ⟨g1.rvc h1 h2, ⟨?_, ?_⟩, ?_, x, g4, ?_, g6⟩
  · rw [h4 1 (by decide)]; exact g2.1
  · rw [h3]; exact g2.2
  · rw [h4 13 (by decide)]; exact g3
  · rw [h4 12 (by decide)]; exact g5
theorem RDc.skip {σ : Mm} {k : Nat} (h : RDc σ b t n k) (hk : k < n) : RDc (si σ 3 4 (nI (k + 1))) b t n (k + 1) := by
  refine ⟨h.1, h.2.1.cong (by rw [iv_si, if_neg (by decide)]) (iv_row _ _ _ (by decide)) (iv_row _ _ _ (by decide)) (iv_row _ _ _ (by decide)), by rw [iv_si, if_pos ⟨rfl, rfl⟩], by omega⟩
theorem RDm.at {τ : Mm} {k p : Nat} (hb : TP b t) (h : RDm τ b t k) (hp : p ≤ t) (hk : skp b t p = pl b t k) : RDm (ps' τ p) b t k := by
  obtain ⟨g1, g2, g3, _⟩ := h
  exact ⟨g1, g2.ps _, by rw [iv_si, if_neg (by decide)]; exact g3, p, hp, iv_ps _ _, hk⟩
theorem RDm.to {τ : Mm} {k k' p : Nat} (hb : TP b t) (h : RDm τ b t k) (hp : p ≤ t) (hk : skp b t p = pl b t k') : RDm (ps' τ p) b t k' := by
  obtain ⟨g1, g2, g3, _⟩ := h
  exact ⟨g1, g2.ps _, by rw [iv_si, if_neg (by decide)]; exact g3, p, hp, iv_ps _ _, hk⟩
theorem plt (hb : TP b t) {σ : Mm} {k : Nat} (h : RDc σ b t n k) : pl b t k ≤ t ∧ (pl b t k < t → k < n) ∧ (k < n → pl b t k < t) ∧ skp b t (pl b t k) = pl b t k ∧ n ≤ 400 := by
  obtain ⟨h1, h2, h3, h4⟩ := h
  have hj : ∀ j, j < k → pl b t j < t := fun j hj => h2.2.2 j (by omega)
  have := pl_le hb k hj
  refine ⟨this.2.1, fun q => ?_, fun q => h2.2.2 k q, this.2.2.2, (h2.n4 hb).2⟩
  by_cases e : k = n
  · rw [e, h2.2.1] at q; omega
  · omega
theorem flt_ne {p w : Nat} (hp : p ≤ 400) (hw : w ≤ 7) : ¬ flt p w = 0 := by
  unfold flt
  intro h
  rw [nz_iff (by omega)] at h
  omega
theorem rdN (hN : 500 ≤ N) (hb : TP b t) {σ τ : Mm} {k h : Nat} (hc : RDc σ b t n k) (hm : RDm τ b t k) (hh : h ≤ 99) :
    (∃ σ' τ' F, f_X8_readsNumber N 7 (nI h) σ = some (0, σ') ∧ f_X11_numberHere N 63 (nI 0) (nI h) τ = some (0, τ') ∧ RS [3, 7] σ σ' ∧ KF [12, 13, 14] τ τ' ∧ iv σ' 3 5 = F ∧ iv τ' 63 13 = F ∧ ¬ F = 0) ∨
    ∃ v σ' τ', v ≤ h ∧ f_X8_readsNumber N 7 (nI h) σ = some (1, σ') ∧ f_X11_numberHere N 63 (nI 0) (nI h) τ = some (1, τ') ∧ RS [3, 7] σ σ' ∧ KF [12, 14] τ τ' ∧ iv σ' 7 1 = nI v ∧ iv τ' 63 14 = nI v ∧ RDc σ' b t n (k + 1) ∧ RDm τ' b t (k + 1) := by
  obtain ⟨m1, m2, m3, x, x1, x2, x3⟩ := hm
  obtain ⟨c1, c2, c3, c4⟩ := hc
  have hp := plt hb ⟨c1, c2, c3, c4⟩
  have hk := e_kind (N := N) hb c1 c2 c3 c4
  have hv := e_tval (N := N) hb c1 c2 c3 c4
  obtain ⟨q1, q2, q3⟩ := e_mnum (N := N) hN hb (h := h) (by omega) x1 m1 m2 x2 m3
  rw [x3] at q1 q2 q3
  have h4 := hb.1
  have kinds : ∀ p, tK b t p < 2 ^ 31 := by
    intro p
    unfold tK
    have sk : ∀ x, sK x ≤ 15 := by intro x; unfold sK; (repeat' split) <;> omega
    have := sk (b p)
    have := kw_rg (ac (fun i => b (p + i)) (lE b t p - p))
    have e : wK b t p = kwL (ac (fun i => b (p + i)) (lE b t p - p)) 0 16 := rfl
    repeat' split
    all_goals omega
  by_cases hK : tK b t (pl b t k) = 3
  · obtain ⟨s1, e1⟩ : ∃ s, s = si σ 7 1 (tV b t (pl b t k)) := ⟨_, rfl⟩
    have r1 : RS [3, 7] σ s1 := by rw [e1]; exact (RO.si 7 _ _ _).rs (by decide)
    have k1 : RDc s1 b t n k := RDc.fr ⟨c1, c2, c3, c4⟩ (l := [7]) (by rw [e1]; exact (RO.si 7 _ _ _).rs (by decide)) (by decide)
    have i71 : iv s1 7 1 = tV b t (pl b t k) := by rw [e1, iv_si, if_pos ⟨rfl, rfl⟩]
    have head : f_X8_readsNumber N 7 (nI h) σ = if tV b t (pl b t k) < 0 then f_X8_readsNumber_46 N 7 s1 else if tV b t (pl b t k) ≤ nI h then (some (1, si s1 3 4 (nI (k + 1)))) else f_X8_readsNumber_46 N 7 s1 := by
      unfold f_X8_readsNumber
      rw [k_7_0 c1, Option.bind_some, k_o3 c1, Option.bind_some, hk, Option.bind_some, if_pos (show nI (tK b t (pl b t k)) = 3 by rw [hK]; rfl), k_7_0 c1, Option.bind_some, k_o3 c1, Option.bind_some, hv, Option.bind_some, k_p7 c1, Option.bind_some, ← e1, k_i7 k1.1, Option.bind_some, i71]
      by_cases z : tV b t (pl b t k) < 0
      · rw [if_pos z, if_pos z]
      · rw [if_neg z, if_neg z, Option.bind_some]
        by_cases y : tV b t (pl b t k) ≤ nI h
        · rw [if_pos y, if_pos y, k_7_0 k1.1, Option.bind_some, k_o3 k1.1, Option.bind_some, e_skip k1.1 k1.2.2.1, Option.bind_some]
        · rw [if_neg y, if_neg y]
    have f46 : f_X8_readsNumber_46 N 7 s1 = some (0, si s1 3 5 (flt (pl b t k) 1)) := by
      rw [f_X8_readsNumber_46, k_7_0 k1.1, Option.bind_some, k_o3 k1.1, Option.bind_some, show (1 : Int32) = nI 1 from rfl, e_tfail hb k1.1 k1.2.1 k1.2.2.1 c4, Option.bind_some]
      simp
    by_cases z : tV b t (pl b t k) < 0 ∨ nI h < tV b t (pl b t k)
    · left
      obtain ⟨τ', g1, g2, g3⟩ := q2 hK z
      refine ⟨si s1 3 5 (flt (pl b t k) 1), τ', flt (pl b t k) 1, ?_, g1, r1.tr ((RO.si 3 _ _ _).rs (by decide)), g2, by rw [iv_si, if_pos ⟨rfl, rfl⟩], g3, flt_ne (by omega) (by decide)⟩
      rw [head]
      rcases z with z | z
      · rw [if_pos z, f46]
      · by_cases y : tV b t (pl b t k) < 0
        · rw [if_pos y, f46]
        · rw [if_neg y, if_neg (Int32.not_le.2 z), f46]
    · right
      have z1' : ¬ tV b t (pl b t k) < 0 := fun y => z (Or.inl y)
      have z2 : ¬ nI h < tV b t (pl b t k) := fun y => z (Or.inr y)
      obtain ⟨v, τ', g1, g2, g3, g4, g5, g6⟩ := q3 hK z1' z2
      have hlt : pl b t k < t := by
        by_cases y : pl b t k < t
        · exact y
        · rw [(tK_1 hb).2 (by omega)] at hK; omega
      have hkn := hp.2.1 hlt
      refine ⟨v, si s1 3 4 (nI (k + 1)), τ', g1, ?_, g3, r1.tr ((RO.si 3 _ _ _).rs (by decide)), g4, ?_, g5, k1.skip hkn, g4.wm m1, g4.mt (by decide) m2, ?_, tE b t (pl b t k), (tE_sp hb hlt).2, g6, rfl⟩
      · rw [head, if_neg z1', if_pos (Int32.not_lt.1 z2)]
      · rw [iv_row _ _ _ (by decide), i71, g2]
      · rw [g4.2.2.2 13 (by decide)]; exact m3
  · left
    obtain ⟨τ', g1, g2, g3⟩ := q1 hK
    refine ⟨si σ 3 5 (flt (pl b t k) 0), τ', flt (pl b t k) 0, ?_, g1, (RO.si 3 _ _ _).rs (by decide), g2, by rw [iv_si, if_pos ⟨rfl, rfl⟩], g3, flt_ne (by omega) (by decide)⟩
    unfold f_X8_readsNumber
    rw [k_7_0 c1, Option.bind_some, k_o3 c1, Option.bind_some, hk, Option.bind_some, if_neg (show ¬ nI (tK b t (pl b t k)) = 3 from nIk (kinds _) (by decide) hK), k_7_0 c1, Option.bind_some, k_o3 c1, Option.bind_some, show f_X6_fails N 3 (0 : Int32) σ = some (0, si σ 3 5 (flt (pl b t k) 0)) from e_tfail (w := 0) hb c1 c2 c3 c4, Option.bind_some]
    simp
end RR
