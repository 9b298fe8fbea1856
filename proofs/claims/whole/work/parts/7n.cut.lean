/-! the class cuts its tape -/
section CU
variable {N : Nat} {b : Nat → Nat} {t : Nat}
def CT (σ : Mm) (b : Nat → Nat) (t : Nat) : Prop := iv σ 1 1 = nI t ∧ ∀ i, i < t → iv σ 2 i = nI (b i)
theorem e_at {σ : Mm} (hb : TP b t) (hc : WFc σ) (hT : CT σ b t) {i : Nat} (hi : i < 2 ^ 31) : f_X5_at N 1 (nI i) σ = some (nI (b i), σ) := by
  have h4 := hb.1
  unfold f_X5_at f_X5_at_28 f_X5_at_29
  rw [if_neg (nI_pos hi), k_i1 hc, Option.bind_some, hT.1]
  by_cases q : i < t
  · rw [if_neg (nI_ge q (by omega)), if_neg (by rw [show (400 : Int32) = nI 400 from rfl]; exact nI_ge (by omega) (by decide)), k_1_0 hc, Option.bind_some, k_aI hc (a := 2) (n := 400) (c := i) (by decide) rfl rfl (by omega) (by decide), Option.bind_some, hT.2 i q]
  · rw [if_pos (nI_le (by omega) hi), hb.2.2 i (by omega)]; rfl
theorem e_isDg {σ : Mm} {x : Nat} (hx : x < 256) : f_X6_isDigit N (nI x) σ = some (bi (dg x = true), σ) := by
  unfold f_X6_isDigit f_X6_isDigit_16 f_X6_isDigit_17
  rw [show (48 : Int32) = nI 48 from rfl, show (57 : Int32) = nI 57 from rfl]
  by_cases h1 : x < 48
  · rw [if_pos (nI_lt h1 (by decide)), if_pos (Or.inl rfl), bi_n (by rw [dg_iff]; omega)]
  · rw [if_neg (by rw [nI_ltI (by omega) (by decide)]; exact h1)]
    by_cases h2 : 57 < x
    · rw [if_pos (nI_lt h2 (by omega)), if_pos (Or.inl rfl), bi_n (by rw [dg_iff]; omega)]
    · rw [if_neg (by rw [nI_ltI (by decide) (by omega)]; exact h2), if_pos (Or.inr rfl), bi_y (by rw [dg_iff]; omega)]
theorem e_isLt {σ : Mm} {x : Nat} (hx : x < 256) : f_X6_isLetter N (nI x) σ = some (bi (lt' x = true), σ) := by
  unfold f_X6_isLetter f_X6_isLetter_16 f_X6_isLetter_17
  rw [show (97 : Int32) = nI 97 from rfl, show (122 : Int32) = nI 122 from rfl]
  by_cases h1 : x < 97
  · rw [if_pos (nI_lt h1 (by decide)), if_pos (Or.inl rfl), bi_n (by rw [lt_iff']; omega)]
  · rw [if_neg (by rw [nI_ltI (by omega) (by decide)]; exact h1)]
    by_cases h2 : 122 < x
    · rw [if_pos (nI_lt h2 (by omega)), if_pos (Or.inl rfl), bi_n (by rw [lt_iff']; omega)]
    · rw [if_neg (by rw [nI_ltI (by decide) (by omega)]; exact h2), if_pos (Or.inr rfl), bi_y (by rw [lt_iff']; omega)]
theorem e_tadd {σ : Mm} {k : Nat} {x p v : Int32} (hc : WFc σ) (hk : iv σ 3 3 = nI k) (h4 : k ≤ 400) : f_X6_add N 3 x p v σ = some (si (si (si (si σ 4 k x) 5 k p) 6 k v) 3 3 (nI (k + 1))) := by
  have c1 : WFc (si σ 4 k x) := hc
  have c2 : WFc (si (si σ 4 k x) 5 k p) := hc
  have c3 : WFc (si (si (si σ 4 k x) 5 k p) 6 k v) := hc
  unfold f_X6_add f_X6_add_57
  rw [k_i3 hc, Option.bind_some, hk, if_neg (nI_pos (by omega)), Option.bind_some, if_neg (by rw [show (400 : Int32) = nI 400 from rfl, nI_ltI (by decide) (by omega)]; omega), k_3_0 hc, Option.bind_some, Option.bind_some, k_sI hc (a := 4) (n := 401) (c := k) (by decide) rfl rfl (by omega) (by decide), Option.bind_some, k_3_1 c1, Option.bind_some, k_i3 c1, Option.bind_some, iv_row _ _ _ (show 3 ≠ 4 by decide), hk, k_sI c1 (a := 5) (n := 401) (c := k) (by decide) rfl rfl (by omega) (by decide), Option.bind_some, k_3_2 c2, Option.bind_some, k_i3 c2, Option.bind_some, iv_row _ _ _ (show 3 ≠ 5 by decide), iv_row _ _ _ (show 3 ≠ 4 by decide), hk, k_sI c2 (a := 6) (n := 401) (c := k) (by decide) rfl rfl (by omega) (by decide), Option.bind_some, k_i3 c3, Option.bind_some, iv_row _ _ _ (show 3 ≠ 6 by decide), iv_row _ _ _ (show 3 ≠ 5 by decide), iv_row _ _ _ (show 3 ≠ 4 by decide), hk, nI_1, k_p3 c3, Option.bind_some]
/-- the first so many are cut -/
def CK (σ : Mm) (b : Nat → Nat) (t k : Nat) : Prop := iv σ 3 3 = nI k ∧ ∀ j, j < k → iv σ 4 j = nI (tK b t (pl b t j)) ∧ iv σ 5 j = nI (pl b t j) ∧ iv σ 6 j = tV b t (pl b t j)
abbrev cutL : List Nat := [3, 4, 5, 6]
theorem CK.add {σ : Mm} {k : Nat} (hc : WFc σ) (hK : CK σ b t k) (h4 : k ≤ 400) : ∃ σ', f_X6_add N 3 (nI (tK b t (pl b t k))) (nI (pl b t k)) (tV b t (pl b t k)) σ = some σ' ∧ RS cutL σ σ' ∧ CK σ' b t (k + 1) ∧ iv σ' 3 4 = iv σ 3 4 := by
  refine ⟨_, e_tadd hc hK.1 h4, ?_, ⟨?_, fun j hj => ⟨?_, ?_, ?_⟩⟩, ?_⟩
  · exact ((((RO.si 4 _ _ _).rs (by decide)).tr ((RO.si 5 _ _ _).rs (by decide))).tr ((RO.si 6 _ _ _).rs (by decide))).tr ((RO.si 3 _ _ _).rs (by decide))
  · rw [iv_si, if_pos ⟨rfl, rfl⟩]
  · rw [iv_row _ _ _ (by decide), iv_row _ _ _ (by decide), iv_row _ _ _ (by decide), iv_si]
    by_cases e : j = k
    · rw [if_pos ⟨rfl, e⟩, e]
    · rw [if_neg (fun q => e q.2)]; exact (hK.2 j (by omega)).1
  · rw [iv_row _ _ _ (by decide), iv_row _ _ _ (by decide), iv_si]
    by_cases e : j = k
    · rw [if_pos ⟨rfl, e⟩, e]
    · rw [if_neg (fun q => e q.2), iv_row _ _ _ (by decide)]; exact (hK.2 j (by omega)).2.1
  · rw [iv_row _ _ _ (by decide), iv_si]
    by_cases e : j = k
    · rw [if_pos ⟨rfl, e⟩, e]
    · rw [if_neg (fun q => e q.2), iv_row _ _ _ (by decide), iv_row _ _ _ (by decide)]; exact (hK.2 j (by omega)).2.2
  · rw [iv_si, if_neg (by decide), iv_row _ _ _ (by decide), iv_row _ _ _ (by decide), iv_row _ _ _ (by decide)]
def nV (b : Nat → Nat) (p i : Nat) : Int32 := if 5 < i then -1 else nI (vl b p i)
theorem cnum {σ : Mm} {p : Nat} (hb : TP b t) (hp : p < t) (hc : WFc σ) (hT : CT σ b t) : ∀ d i fu, p + i + d = dE b t p → d < fu → f_X6_cutNumber_8 N fu 3 1 (nI p) (nI (p + i)) (nV b p i) (nI i) σ = f_X6_cutNumber_63 N 3 (nI p) (nI (dE b t p)) (nV b p (dE b t p - p)) σ := by
  obtain ⟨g1, g2, g3, g4⟩ := rE_spec dg0 hb (t - p) p rfl
  have g2 := g2 (by omega)
  have h4 := hb.1
  intro d
  induction d with
  | zero =>
    intro i fu h1 h2
    obtain ⟨fu, rfl⟩ : ∃ q, fu = q + 1 := ⟨fu - 1, by omega⟩
    have h1 : p + i = rE dg b t p := by exact h1
    have hq : dg (b (p + i)) = false := by rw [h1]; exact g3
    have e2 : dE b t p - p = i := by show rE dg b t p - p = i; omega
    rw [f_X6_cutNumber_8, e2]
    by_cases q : (400 : Int32) ≤ nI i
    · rw [if_pos q, h1]
    · rw [if_neg q, k_o1 hc, Option.bind_some, e_at hb hc hT (by omega), Option.bind_some, e_isDg (hb.2.1 _), Option.bind_some, bi_n (by rw [hq]; decide), if_pos rfl, h1]
  | succ d ih =>
    intro i fu h1 h2
    obtain ⟨fu, rfl⟩ : ∃ q, fu = q + 1 := ⟨fu - 1, by omega⟩
    have h1' : p + i + (d + 1) = rE dg b t p := h1
    have hq := g4 (p + i) (by omega) (by omega)
    have hd := (dg_iff _).1 hq
    have key := ih (i + 1) fu (by omega) (by omega)
    rw [f_X6_cutNumber_8, if_neg (by rw [show (400 : Int32) = nI 400 from rfl]; exact nI_ge (by omega) (by decide)), k_o1 hc, Option.bind_some, e_at hb hc hT (by omega), Option.bind_some, e_isDg (hb.2.1 _), Option.bind_some, bi_y hq, if_neg z1, pk_sub (by omega), show p + i - p = i by omega, show (5 : Int32) = nI 5 from rfl]
    by_cases q : 5 ≤ i
    · rw [if_pos (nI_le q (by omega)), f_X6_cutNumber_52, nI_1, nI_1, ← key, show nV b p (i + 1) = -1 from if_pos (by omega)]
      rfl
    · rw [if_neg (nI_ge (by omega) (by decide)), k_o1 hc, Option.bind_some, e_at hb hc hT (by omega), Option.bind_some, f_X6_cutNumber_52, nI_1, nI_1, show nV b p i = nI (vl b p i) from if_neg (by omega), show (10 : Int32) = nI 10 from rfl, pk_mul, nI_add, show (48 : Int32) = nI 48 from rfl, pk_sub (by omega), ← key, show nV b p (i + 1) = nI (vl b p (i + 1)) from if_neg (by omega)]
      rfl
theorem cwrd {σ : Mm} {p : Nat} (hb : TP b t) (hp : p < t) (hc : WFc σ) (hT : CT σ b t) : ∀ d i fu, p + i + d = lE b t p → d < fu → f_X6_cutWord_5 N fu 3 1 (nI p) (nI (p + i)) (nI i) σ = f_X6_cutWord_33 N 3 1 (nI p) (nI (lE b t p)) σ := by
  obtain ⟨g1, g2, g3, g4⟩ := rE_spec lt0 hb (t - p) p rfl
  have g2 := g2 (by omega)
  have h4 := hb.1
  intro d
  induction d with
  | zero =>
    intro i fu h1 h2
    obtain ⟨fu, rfl⟩ : ∃ q, fu = q + 1 := ⟨fu - 1, by omega⟩
    have h1 : p + i = rE lt' b t p := by exact h1
    have hq : lt' (b (p + i)) = false := by rw [h1]; exact g3
    rw [f_X6_cutWord_5]
    by_cases q : (400 : Int32) ≤ nI i
    · rw [if_pos q, h1]
    · rw [if_neg q, k_o1 hc, Option.bind_some, e_at hb hc hT (by omega), Option.bind_some, e_isLt (hb.2.1 _), Option.bind_some, bi_n (by rw [hq]; decide), if_pos rfl, h1]
  | succ d ih =>
    intro i fu h1 h2
    obtain ⟨fu, rfl⟩ : ∃ q, fu = q + 1 := ⟨fu - 1, by omega⟩
    have h1' : p + i + (d + 1) = rE lt' b t p := h1
    have hq := g4 (p + i) (by omega) (by omega)
    have key := ih (i + 1) fu (by omega) (by omega)
    rw [f_X6_cutWord_5, if_neg (by rw [show (400 : Int32) = nI 400 from rfl]; exact nI_ge (by omega) (by decide)), k_o1 hc, Option.bind_some, e_at hb hc hT (by omega), Option.bind_some, e_isLt (hb.2.1 _), Option.bind_some, bi_y hq, if_neg z1, nI_1, nI_1]
    exact key
theorem ch_wc : ∀ j, j < 16 → ∀ i, i < 6 → chA (nI (6 * j + i)) = some (nI (wc j i)) := by decide +kernel
def wEq (b : Nat → Nat) (p L j : Nat) : Bool := (List.range 6).all (fun x => decide (wc j x = if x < L then b (p + x) else 32))
theorem wEq_iff {b : Nat → Nat} {p L j : Nat} : wEq b p L j = true ↔ ∀ x, x < 6 → wc j x = if x < L then b (p + x) else 32 := by
  unfold wEq
  rw [List.all_eq_true]
  constructor
  · intro h x hx; exact of_decide_eq_true (h x (List.mem_range.2 hx))
  · intro h x hx; exact decide_eq_true (h x (List.mem_range.1 hx))
theorem cisw {σ : Mm} {p j L : Nat} (hb : TP b t) (hc : WFc σ) (hT : CT σ b t) (hp : p < t) (hL : p + L ≤ t) (hL6 : L < 6) (hj : j < 16) : ∀ d i fu, i + d = 6 → d < fu → (∀ x, x < i → wc j x = if x < L then b (p + x) else 32) → f_X6_isWord_27 N fu 1 (nI p) (nI (p + L)) (nI j) (nI i) σ = some (bi (wEq b p L j = true), σ) := by
  have h4 := hb.1
  have hwc : ∀ x, x < 6 → wc j x < 256 := fun x hx => by
    by_cases q : x < wl j
    · have := (wp_ac j hj).2.2.2.1 x hx q; omega
    · have := (wp_ac j hj).2.2.2.2 x hx (by omega); omega
  intro d
  induction d with
  | zero =>
    intro i fu h1 h2 hx
    obtain ⟨fu, rfl⟩ : ∃ q, fu = q + 1 := ⟨fu - 1, by omega⟩
    rw [f_X6_isWord_27, if_pos (by rw [show (6 : Int32) = nI 6 from rfl]; exact nI_le (by omega) (by omega)), bi_y (wEq_iff.2 (fun x h => hx x (by omega)))]
  | succ d ih =>
    intro i fu h1 h2 hx
    obtain ⟨fu, rfl⟩ : ∃ q, fu = q + 1 := ⟨fu - 1, by omega⟩
    have go : ∀ v, v < 256 → v = (if i < L then b (p + i) else 32) → f_X6_isWord_55 N (f_X6_isWord_27 N fu) 1 (nI p) (nI (p + L)) (nI j) (nI i) (nI v) σ = some (bi (wEq b p L j = true), σ) := by
      intro v hv hve
      rw [f_X6_isWord_55, show (6 : Int32) = nI 6 from rfl, pk_mul, nI_add, show j * 6 + i = 6 * j + i by omega, ch_wc j hj i (by omega), Option.bind_some]
      by_cases q : wc j i = v
      · rw [if_pos (by rw [q]), nI_1]
        exact ih (i + 1) fu (by omega) (by omega) (fun x hx' => by
          by_cases e : x = i
          · rw [e, q, hve]
          · exact hx x (by omega))
      · rw [if_neg (show ¬ nI (wc j i) = nI v from nIk (by have := hwc i (by omega); omega) (by omega) q), bi_n (fun h => q (by rw [wEq_iff.1 h i (by omega), hve]))]
    rw [f_X6_isWord_27, if_neg (by rw [show (6 : Int32) = nI 6 from rfl]; exact nI_ge (by omega) (by decide)), nI_add]
    by_cases q : i < L
    · rw [if_neg (nI_ge (by omega) (by omega)), k_o1 hc, Option.bind_some, e_at hb hc hT (by omega), Option.bind_some]
      exact go _ (hb.2.1 _) (by rw [if_pos q])
    · rw [if_pos (nI_le (by omega) (by omega))]
      exact go 32 (by decide) (by rw [if_neg q])
theorem wIs {p j : Nat} (hb : TP b t) (hj : j < 16) : (lE b t p - p < 6 ∧ ∀ x, x < 6 → wc j x = if x < lE b t p - p then b (p + x) else 32) ↔ ac (fun i => b (p + i)) (lE b t p - p) = wp j := by
  obtain ⟨w1, w2, w3, w4, w5⟩ := wp_ac j hj
  obtain ⟨l1, l2⟩ := lE_le hb p
  constructor
  · rintro ⟨h1, h2⟩
    have e : lE b t p - p = wl j := by
      rcases Nat.lt_trichotomy (lE b t p - p) (wl j) with q | q | q
      · have a := h2 (lE b t p - p) (by omega)
        rw [if_neg (Nat.lt_irrefl _)] at a
        have := w4 (lE b t p - p) (by omega) q
        omega
      · exact q
      · have a := h2 (wl j) (by omega)
        rw [if_pos q, w5 (wl j) (by omega) (Nat.le_refl _)] at a
        have := l2 (wl j) q
        omega
    rw [w1, ← e]
    apply ac_cong
    intro i hi
    have := h2 i (by omega)
    rw [if_pos hi] at this
    exact this.symm
  · intro h
    rw [w1] at h
    obtain ⟨e1, e2⟩ := ac_inj (lE b t p - p) (wl j) l2 (fun i hi => w4 i (by omega) hi) h
    refine ⟨by omega, fun x hx => ?_⟩
    by_cases q : x < lE b t p - p
    · rw [if_pos q]; exact (e2 x q).symm
    · rw [if_neg q]; exact w5 x hx (by omega)
theorem cwk {σ : Mm} {p : Nat} (hN : 20 ≤ N) (hb : TP b t) (hc : WFc σ) (hT : CT σ b t) (hp : p < t) : ∀ d j fu, j + d = 16 → d < fu → f_X6_wordKind_2 N fu 1 (nI p) (nI (lE b t p)) (nI j) σ = some (nI (kwL (ac (fun i => b (p + i)) (lE b t p - p)) j d), σ) := by
  obtain ⟨l1, l2⟩ := lE_le hb p
  have l3 := (rE_spec lt0 hb (t - p) p rfl).2.1 (by omega)
  have l3 : lE b t p ≤ t := l3
  have h4 := hb.1
  intro d
  induction d with
  | zero =>
    intro j fu h1 h2
    obtain ⟨fu, rfl⟩ : ∃ q, fu = q + 1 := ⟨fu - 1, by omega⟩
    rw [f_X6_wordKind_2, show (6 : Int32) = nI 6 from rfl, pk_mul, if_pos (by rw [show (96 : Int32) = nI 96 from rfl]; exact nI_le (by omega) (by omega))]
    rfl
  | succ d ih =>
    intro j fu h1 h2
    obtain ⟨fu, rfl⟩ : ∃ q, fu = q + 1 := ⟨fu - 1, by omega⟩
    have hw := wIs (p := p) hb (show j < 16 by omega)
    have e : f_X6_isWord N 1 (nI p) (nI (lE b t p)) (nI j) σ = some (bi (ac (fun i => b (p + i)) (lE b t p - p) = wp j), σ) := by
      unfold f_X6_isWord f_X6_isWord_22
      rw [pk_sub l1, show (6 : Int32) = nI 6 from rfl]
      by_cases q : lE b t p - p < 6
      · have key := cisw (N := N) (L := lE b t p - p) hb hc hT hp (by omega) q (show j < 16 by omega) 6 0 N (by omega) (by omega) (fun x hx => absurd hx (Nat.not_lt_zero _))
        rw [show p + (lE b t p - p) = lE b t p by omega] at key
        rw [if_neg (nI_ge q (by decide)), nI_1, pk_mul, if_pos (by rw [show (96 : Int32) = nI 96 from rfl]; exact nI_le (by omega) (by decide)), show (0 : Int32) = nI 0 from rfl, key]
        congr 2
        by_cases z : ac (fun i => b (p + i)) (lE b t p - p) = wp j
        · rw [bi_y z, bi_y (wEq_iff.2 (hw.2 z).2)]
        · rw [bi_n z, bi_n (fun y => z (hw.1 ⟨q, wEq_iff.1 y⟩))]
      · rw [if_pos (nI_le (by omega) (by omega)), bi_n (fun z => q (hw.2 z).1)]
    rw [f_X6_wordKind_2, show (6 : Int32) = nI 6 from rfl, pk_mul, if_neg (by rw [show (96 : Int32) = nI 96 from rfl]; exact nI_ge (by omega) (by decide)), e, Option.bind_some]
    show _ = some (nI (if ac (fun i => b (p + i)) (lE b t p - p) = wp j then 20 + j else kwL (ac (fun i => b (p + i)) (lE b t p - p)) (j + 1) d), σ)
    by_cases z : ac (fun i => b (p + i)) (lE b t p - p) = wp j
    · rw [bi_y z, if_neg z1, if_pos z, show (20 : Int32) = nI 20 from rfl, nI_add]
    · rw [bi_n z, if_pos rfl, if_neg z, nI_1]
      exact ih (j + 1) fu (by omega) (by omega)
theorem sK_c : ∀ x, x < 256 → ∀ σ : Mm, f_X6_signKind N (nI x) σ = some (nI (sK x), σ) := by
  intro x hx σ
  have e : ∀ k, k < 256 → (nI x = nI k ↔ x = k) := fun k hk => nI_eq (by omega) (by omega)
  unfold f_X6_signKind sK
  simp only [show (42 : Int32) = nI 42 from rfl, show (43 : Int32) = nI 43 from rfl, show (45 : Int32) = nI 45 from rfl, show (47 : Int32) = nI 47 from rfl, show (59 : Int32) = nI 59 from rfl, show (60 : Int32) = nI 60 from rfl, show (61 : Int32) = nI 61 from rfl, show (62 : Int32) = nI 62 from rfl, show (91 : Int32) = nI 91 from rfl, show (93 : Int32) = nI 93 from rfl, e 42 (by decide), e 43 (by decide), e 45 (by decide), e 47 (by decide), e 59 (by decide), e 60 (by decide), e 61 (by decide), e 62 (by decide), e 91 (by decide), e 93 (by decide)]
  repeat (split; · rfl)
  rfl
end CU
