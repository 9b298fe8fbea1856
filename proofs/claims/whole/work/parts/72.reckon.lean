/-! how a LAW is reckoned -/
theorem nIk {s k : Nat} (hs : s < 2 ^ 31) (hk : k < 2 ^ 31) (h : ¬ s = k) : ¬ nI s = nI k := by rw [nI_eq hs hk]; exact h
section RK
variable {N : Nat}
theorem e_one {s : Nat} (hs : s < 16) (x y : Int64) (τ : Mm) : f_X11_one N (nI s) x y τ = some (op2 s x y, τ) := by
  unfold f_X11_one op2 f_X11_one_85 f_X11_one_97 f_X11_one_109 f_X11_one_121 f_X11_one_133 f_X11_one_145
  simp only [cmp_ge, cmp_gt, cmp_eq, cmp_lt, cmp_le]
  by_cases h2 : s = 2
  · subst h2
    rfl
  by_cases h3 : s = 3
  · subst h3
    rfl
  by_cases h4 : s = 4
  · subst h4
    rfl
  by_cases h5 : s = 5
  · subst h5
    rw [if_neg (show ¬ nI 5 = (2 : Int32) by decide), if_neg (show ¬ nI 5 = (3 : Int32) by decide), if_neg (show ¬ nI 5 = (4 : Int32) by decide), if_pos (show nI 5 = (5 : Int32) from rfl), if_neg (show ¬ (5 = 2) by decide), if_neg (show ¬ (5 = 3) by decide), if_neg (show ¬ (5 = 4) by decide), if_pos (rfl : 5 = 5)]
    by_cases h : y = 0
    · rw [if_pos h, if_pos h]
    · rw [if_neg h, if_neg h, if_neg h]
  by_cases h6 : s = 6
  · subst h6
    rw [if_neg (show ¬ nI 6 = (2 : Int32) by decide), if_neg (show ¬ nI 6 = (3 : Int32) by decide), if_neg (show ¬ nI 6 = (4 : Int32) by decide), if_neg (show ¬ nI 6 = (5 : Int32) by decide), if_pos (show nI 6 = (6 : Int32) from rfl), if_neg (show ¬ (6 = 2) by decide), if_neg (show ¬ (6 = 3) by decide), if_neg (show ¬ (6 = 4) by decide), if_neg (show ¬ (6 = 5) by decide), if_pos (rfl : 6 = 6)]
    by_cases h : y ≤ x
    · rw [if_pos h, if_neg (Int64.not_lt.mpr h)]
    · rw [if_neg h, if_pos (Int64.not_le.mp h)]
  by_cases h7 : s = 7
  · subst h7
    rw [if_neg (show ¬ nI 7 = (2 : Int32) by decide), if_neg (show ¬ nI 7 = (3 : Int32) by decide), if_neg (show ¬ nI 7 = (4 : Int32) by decide), if_neg (show ¬ nI 7 = (5 : Int32) by decide), if_neg (show ¬ nI 7 = (6 : Int32) by decide), if_pos (show nI 7 = (7 : Int32) from rfl), if_neg (show ¬ (7 = 2) by decide), if_neg (show ¬ (7 = 3) by decide), if_neg (show ¬ (7 = 4) by decide), if_neg (show ¬ (7 = 5) by decide), if_neg (show ¬ (7 = 6) by decide), if_pos (rfl : 7 = 7)]
    by_cases h : y < x
    · rw [if_pos h, if_neg (Int64.not_le.mpr h)]
    · rw [if_neg h, if_pos (Int64.not_lt.mp h)]
  by_cases h8 : s = 8
  · subst h8
    rw [if_neg (show ¬ nI 8 = (2 : Int32) by decide), if_neg (show ¬ nI 8 = (3 : Int32) by decide), if_neg (show ¬ nI 8 = (4 : Int32) by decide), if_neg (show ¬ nI 8 = (5 : Int32) by decide), if_neg (show ¬ nI 8 = (6 : Int32) by decide), if_neg (show ¬ nI 8 = (7 : Int32) by decide), if_pos (show nI 8 = (8 : Int32) from rfl), if_neg (show ¬ (8 = 2) by decide), if_neg (show ¬ (8 = 3) by decide), if_neg (show ¬ (8 = 4) by decide), if_neg (show ¬ (8 = 5) by decide), if_neg (show ¬ (8 = 6) by decide), if_neg (show ¬ (8 = 7) by decide), if_pos (rfl : 8 = 8)]
    by_cases h : x = y
    · rw [if_pos h, if_pos h]
    · rw [if_neg h, if_neg h]
  by_cases h9 : s = 9
  · subst h9
    rw [if_neg (show ¬ nI 9 = (2 : Int32) by decide), if_neg (show ¬ nI 9 = (3 : Int32) by decide), if_neg (show ¬ nI 9 = (4 : Int32) by decide), if_neg (show ¬ nI 9 = (5 : Int32) by decide), if_neg (show ¬ nI 9 = (6 : Int32) by decide), if_neg (show ¬ nI 9 = (7 : Int32) by decide), if_neg (show ¬ nI 9 = (8 : Int32) by decide), if_pos (show nI 9 = (9 : Int32) from rfl), if_neg (show ¬ (9 = 2) by decide), if_neg (show ¬ (9 = 3) by decide), if_neg (show ¬ (9 = 4) by decide), if_neg (show ¬ (9 = 5) by decide), if_neg (show ¬ (9 = 6) by decide), if_neg (show ¬ (9 = 7) by decide), if_neg (show ¬ (9 = 8) by decide), if_pos (rfl : 9 = 9)]
    by_cases h : x < y
    · rw [if_pos h, if_neg (Int64.not_le.mpr h)]
    · rw [if_neg h, if_pos (Int64.not_lt.mp h)]
  by_cases h10 : s = 10
  · subst h10
    rw [if_neg (show ¬ nI 10 = (2 : Int32) by decide), if_neg (show ¬ nI 10 = (3 : Int32) by decide), if_neg (show ¬ nI 10 = (4 : Int32) by decide), if_neg (show ¬ nI 10 = (5 : Int32) by decide), if_neg (show ¬ nI 10 = (6 : Int32) by decide), if_neg (show ¬ nI 10 = (7 : Int32) by decide), if_neg (show ¬ nI 10 = (8 : Int32) by decide), if_neg (show ¬ nI 10 = (9 : Int32) by decide), if_pos (show nI 10 = (10 : Int32) from rfl), if_neg (show ¬ (10 = 2) by decide), if_neg (show ¬ (10 = 3) by decide), if_neg (show ¬ (10 = 4) by decide), if_neg (show ¬ (10 = 5) by decide), if_neg (show ¬ (10 = 6) by decide), if_neg (show ¬ (10 = 7) by decide), if_neg (show ¬ (10 = 8) by decide), if_neg (show ¬ (10 = 9) by decide), if_pos (rfl : 10 = 10)]
    by_cases h : x ≤ y
    · rw [if_pos h, if_neg (Int64.not_lt.mpr h)]
    · rw [if_neg h, if_pos (Int64.not_le.mp h)]
  by_cases h12 : s = 12
  · subst h12
    rfl
  rw [if_neg (show ¬ nI s = (2 : Int32) from nIk (by omega) (by decide) h2), if_neg (show ¬ nI s = (3 : Int32) from nIk (by omega) (by decide) h3), if_neg (show ¬ nI s = (4 : Int32) from nIk (by omega) (by decide) h4), if_neg (show ¬ nI s = (5 : Int32) from nIk (by omega) (by decide) h5), if_neg (show ¬ nI s = (6 : Int32) from nIk (by omega) (by decide) h6), if_neg (show ¬ nI s = (7 : Int32) from nIk (by omega) (by decide) h7), if_neg (show ¬ nI s = (8 : Int32) from nIk (by omega) (by decide) h8), if_neg (show ¬ nI s = (9 : Int32) from nIk (by omega) (by decide) h9), if_neg (show ¬ nI s = (10 : Int32) from nIk (by omega) (by decide) h10), if_neg (show ¬ nI s = (12 : Int32) from nIk (by omega) (by decide) h12), if_neg h2, if_neg h3, if_neg h4, if_neg h5, if_neg h6, if_neg h7, if_neg h8, if_neg h9, if_neg h10, if_neg h12]
/-- the class's sign of a step -/
def cs (s : Nat) : Nat := if s = 12 then 23 else if s = 13 then 22 else 5 + s
theorem e_joined {s : Nat} (hs : s ≤ 13) (h2 : 2 ≤ s) (h11 : s ≠ 11) (x y : Int64) (σ : Mm) : f_X2_joined N (nI (cs s)) x y σ = some (op2 s x y, σ) := by
  unfold f_X2_joined op2 f_X2_joined_109 f_X2_joined_121 f_X2_joined_133 f_X2_joined_145 f_X2_joined_157 f_X2_joined_169
  simp only [cmp_ge, cmp_gt, cmp_eq, cmp_lt, cmp_le]
  by_cases h2 : s = 2
  · subst h2
    rfl
  by_cases h3 : s = 3
  · subst h3
    rfl
  by_cases h4 : s = 4
  · subst h4
    rfl
  by_cases h5 : s = 5
  · subst h5
    rw [if_neg (show ¬ nI (cs 5) = (7 : Int32) by decide), if_neg (show ¬ nI (cs 5) = (8 : Int32) by decide), if_neg (show ¬ nI (cs 5) = (9 : Int32) by decide), if_pos (show nI (cs 5) = (10 : Int32) from rfl), if_neg (show ¬ (5 = 2) by decide), if_neg (show ¬ (5 = 3) by decide), if_neg (show ¬ (5 = 4) by decide), if_pos (rfl : 5 = 5)]
    by_cases h : y = 0
    · rw [if_pos h, if_pos h]
    · rw [if_neg h, if_neg h, if_neg h]
  by_cases h6 : s = 6
  · subst h6
    rw [if_neg (show ¬ nI (cs 6) = (7 : Int32) by decide), if_neg (show ¬ nI (cs 6) = (8 : Int32) by decide), if_neg (show ¬ nI (cs 6) = (9 : Int32) by decide), if_neg (show ¬ nI (cs 6) = (10 : Int32) by decide), if_pos (show nI (cs 6) = (11 : Int32) from rfl), if_neg (show ¬ (6 = 2) by decide), if_neg (show ¬ (6 = 3) by decide), if_neg (show ¬ (6 = 4) by decide), if_neg (show ¬ (6 = 5) by decide), if_pos (rfl : 6 = 6)]
    by_cases h : y ≤ x
    · rw [if_pos h, if_neg (Int64.not_lt.mpr h)]
    · rw [if_neg h, if_pos (Int64.not_le.mp h)]
  by_cases h7 : s = 7
  · subst h7
    rw [if_neg (show ¬ nI (cs 7) = (7 : Int32) by decide), if_neg (show ¬ nI (cs 7) = (8 : Int32) by decide), if_neg (show ¬ nI (cs 7) = (9 : Int32) by decide), if_neg (show ¬ nI (cs 7) = (10 : Int32) by decide), if_neg (show ¬ nI (cs 7) = (11 : Int32) by decide), if_pos (show nI (cs 7) = (12 : Int32) from rfl), if_neg (show ¬ (7 = 2) by decide), if_neg (show ¬ (7 = 3) by decide), if_neg (show ¬ (7 = 4) by decide), if_neg (show ¬ (7 = 5) by decide), if_neg (show ¬ (7 = 6) by decide), if_pos (rfl : 7 = 7)]
    by_cases h : y < x
    · rw [if_pos h, if_neg (Int64.not_le.mpr h)]
    · rw [if_neg h, if_pos (Int64.not_lt.mp h)]
  by_cases h8 : s = 8
  · subst h8
    rw [if_neg (show ¬ nI (cs 8) = (7 : Int32) by decide), if_neg (show ¬ nI (cs 8) = (8 : Int32) by decide), if_neg (show ¬ nI (cs 8) = (9 : Int32) by decide), if_neg (show ¬ nI (cs 8) = (10 : Int32) by decide), if_neg (show ¬ nI (cs 8) = (11 : Int32) by decide), if_neg (show ¬ nI (cs 8) = (12 : Int32) by decide), if_pos (show nI (cs 8) = (13 : Int32) from rfl), if_neg (show ¬ (8 = 2) by decide), if_neg (show ¬ (8 = 3) by decide), if_neg (show ¬ (8 = 4) by decide), if_neg (show ¬ (8 = 5) by decide), if_neg (show ¬ (8 = 6) by decide), if_neg (show ¬ (8 = 7) by decide), if_pos (rfl : 8 = 8)]
    by_cases h : x = y
    · rw [if_pos h, if_pos h]
    · rw [if_neg h, if_neg h]
  by_cases h9 : s = 9
  · subst h9
    rw [if_neg (show ¬ nI (cs 9) = (7 : Int32) by decide), if_neg (show ¬ nI (cs 9) = (8 : Int32) by decide), if_neg (show ¬ nI (cs 9) = (9 : Int32) by decide), if_neg (show ¬ nI (cs 9) = (10 : Int32) by decide), if_neg (show ¬ nI (cs 9) = (11 : Int32) by decide), if_neg (show ¬ nI (cs 9) = (12 : Int32) by decide), if_neg (show ¬ nI (cs 9) = (13 : Int32) by decide), if_pos (show nI (cs 9) = (14 : Int32) from rfl), if_neg (show ¬ (9 = 2) by decide), if_neg (show ¬ (9 = 3) by decide), if_neg (show ¬ (9 = 4) by decide), if_neg (show ¬ (9 = 5) by decide), if_neg (show ¬ (9 = 6) by decide), if_neg (show ¬ (9 = 7) by decide), if_neg (show ¬ (9 = 8) by decide), if_pos (rfl : 9 = 9)]
    by_cases h : x < y
    · rw [if_pos h, if_neg (Int64.not_le.mpr h)]
    · rw [if_neg h, if_pos (Int64.not_lt.mp h)]
  by_cases h10 : s = 10
  · subst h10
    rw [if_neg (show ¬ nI (cs 10) = (7 : Int32) by decide), if_neg (show ¬ nI (cs 10) = (8 : Int32) by decide), if_neg (show ¬ nI (cs 10) = (9 : Int32) by decide), if_neg (show ¬ nI (cs 10) = (10 : Int32) by decide), if_neg (show ¬ nI (cs 10) = (11 : Int32) by decide), if_neg (show ¬ nI (cs 10) = (12 : Int32) by decide), if_neg (show ¬ nI (cs 10) = (13 : Int32) by decide), if_neg (show ¬ nI (cs 10) = (14 : Int32) by decide), if_pos (show nI (cs 10) = (15 : Int32) from rfl), if_neg (show ¬ (10 = 2) by decide), if_neg (show ¬ (10 = 3) by decide), if_neg (show ¬ (10 = 4) by decide), if_neg (show ¬ (10 = 5) by decide), if_neg (show ¬ (10 = 6) by decide), if_neg (show ¬ (10 = 7) by decide), if_neg (show ¬ (10 = 8) by decide), if_neg (show ¬ (10 = 9) by decide), if_pos (rfl : 10 = 10)]
    by_cases h : x ≤ y
    · rw [if_pos h, if_neg (Int64.not_lt.mpr h)]
    · rw [if_neg h, if_pos (Int64.not_le.mp h)]
  by_cases h12 : s = 12
  · subst h12
    rfl
  have h13 : s = 13 := by omega
  subst h13
  rfl
/-! the model's stack -/
def SM (τ : Mm) (s : List Int64) : Prop := iv τ 63 22 = nI s.length ∧ ∀ i, i < s.length → jv τ 73 i = s.getD (s.length - 1 - i) 0
/-- what a reckoning leaves -/
def FJ (τ τ' : Mm) : Prop := nn τ' = nn τ ∧ (∀ o, rv τ' o = rv τ o) ∧ (∀ o, o ≠ 63 → iv τ' o = iv τ o) ∧ (∀ k, k ≠ 22 → iv τ' 63 k = iv τ 63 k) ∧ ∀ o, o ≠ 73 → jv τ' o = jv τ o
theorem FJ.rf (τ : Mm) : FJ τ τ := ⟨rfl, fun _ => rfl, fun _ _ => rfl, fun _ _ => rfl, fun _ _ => rfl⟩
theorem FJ.tr {a b c : Mm} (h : FJ a b) (g : FJ b c) : FJ a c := ⟨g.1.trans h.1, fun x => (g.2.1 x).trans (h.2.1 x), fun x q => (g.2.2.1 x q).trans (h.2.2.1 x q), fun x q => (g.2.2.2.1 x q).trans (h.2.2.2.1 x q), fun x q => (g.2.2.2.2 x q).trans (h.2.2.2.2 x q)⟩
theorem FJ.top (τ : Mm) (v : Int32) : FJ τ (si τ 63 22 v) := ⟨rfl, fun _ => rfl, fun _ q => iv_row τ _ _ q, fun k q => by rw [iv_si, if_neg (fun e => q e.2)], fun _ _ => rfl⟩
theorem FJ.put (τ : Mm) (k : Nat) (v : Int64) : FJ τ (sj τ 73 k v) := ⟨rfl, fun _ => rfl, fun _ _ => rfl, fun _ _ => rfl, fun o q => by funext j; rw [jv_sj, if_neg (fun e => q e.1)]⟩
theorem FJ.wm {τ τ' : Mm} (h : FJ τ τ') (hm : WFm τ) : WFm τ' := hm.rvc h.1 h.2.1
theorem e_push {τ : Mm} (hm : WFm τ) {k : Nat} (h : iv τ 63 22 = nI k) (hk : k < 64) (v : Int64) : f_X11_push N 63 v τ = some (si (sj τ 73 k v) 63 22 (nI (k + 1))) := by
  have hm2 : WFm (sj τ 73 k v) := hm
  unfold f_X11_push
  rw [m_g21 hm, Option.bind_some, m_gI hm, Option.bind_some, h, m_sJ hm (a := 73) (n := 64) (c := k) (by decide) rfl rfl hk (by decide), Option.bind_some, m_gI hm2, Option.bind_some, m_pI hm2, Option.bind_some, iv_sj, h, nI_1]
theorem e_pop {τ : Mm} (hm : WFm τ) {k : Nat} (h : iv τ 63 22 = nI (k + 1)) (hk : k < 64) : f_X11_pop N 63 τ = some (jv τ 73 k, si τ 63 22 (nI k)) := by
  have hm2 : WFm (si τ 63 22 (nI k)) := hm
  unfold f_X11_pop
  rw [m_gI hm, Option.bind_some, h, nI_pred, m_pI hm, Option.bind_some, m_g21 hm2, Option.bind_some, m_gI hm2, Option.bind_some, iv_si, if_pos ⟨rfl, rfl⟩, m_aJ hm2 (a := 73) (n := 64) (c := k) (by decide) rfl rfl hk (by decide), Option.bind_some, jv_si]
theorem SM.push {τ : Mm} {s : List Int64} (h : SM τ s) (hm : WFm τ) (hl : s.length < 64) (v : Int64) : ∃ τ', f_X11_push N 63 v τ = some τ' ∧ SM τ' (v :: s) ∧ FJ τ τ' := by
  refine ⟨_, e_push hm h.1 hl v, ⟨by rw [iv_si, if_pos ⟨rfl, rfl⟩]; rfl, fun i hi => ?_⟩, (FJ.put τ _ _).tr (FJ.top _ _)⟩
  rw [List.length_cons] at hi ⊢
  rw [jv_si, jv_sj]
  by_cases e : i = s.length
  · rw [if_pos ⟨rfl, e⟩, e, show s.length + 1 - 1 - s.length = 0 by omega]; rfl
  · rw [if_neg (fun q => e q.2), h.2 i (by omega), show s.length + 1 - 1 - i = (s.length - 1 - i) + 1 by omega]; rfl
theorem SM.pop {τ : Mm} {x : Int64} {s : List Int64} (h : SM τ (x :: s)) (hm : WFm τ) (hl : s.length < 64) : ∃ τ', f_X11_pop N 63 τ = some (x, τ') ∧ SM τ' s ∧ FJ τ τ' := by
  refine ⟨si τ 63 22 (nI s.length), ?_, ⟨by rw [iv_si, if_pos ⟨rfl, rfl⟩], fun i hi => ?_⟩, FJ.top _ _⟩
  · rw [e_pop hm h.1 hl]
    have := h.2 s.length (by simp)
    rw [this]
    simp
  · rw [jv_si, h.2 i (by simp; omega)]
    simp only [List.length_cons]
    rw [show s.length + 1 - 1 - i = (s.length - 1 - i) + 1 by omega]; rfl
theorem sgn15 {T : Nat} (h : T < 2 ^ 31) : nI T &&& 15 = nI (T % 16) := pk_andN (n := T) (by omega) 4 (by decide)
theorem sgn4 {T : Nat} (h : T < 2 ^ 31) : nI T >>> ((4 : Int32) &&& 31) = nI (T / 16) := by rw [pk_shrN h _ 4 (by decide)]
theorem pushes_cons (t : Nat) (l : List Nat) : pushes (t :: l) = (if t % 16 ≤ 1 then 1 else 0) + pushes l := by
  unfold pushes
  rw [List.filter_cons]
  by_cases h : t % 16 ≤ 1
  · rw [if_pos (by simpa using h), if_pos h, List.length_cons]; omega
  · rw [if_neg (by simpa using h), if_neg h]; omega
theorem pushes_app (a b : List Nat) : pushes (a ++ b) = pushes a + pushes b := by
  unfold pushes
  rw [List.filter_append, List.length_append]
theorem rpn_0 (w : Nat → Int64) {t : Nat} (l : List Nat) (s : List Int64) (h : t % 16 = 0) : rpn w (t :: l) s = rpn w l (lN (t / 16) :: s) := by
  conv => lhs; rw [rpn.eq_def]
  simp only [if_pos h]
theorem rpn_1 (w : Nat → Int64) {t : Nat} (l : List Nat) (s : List Int64) (h : t % 16 = 1) : rpn w (t :: l) s = rpn w l (w (t / 16) :: s) := by
  conv => lhs; rw [rpn.eq_def]
  have h0 : ¬ t % 16 = 0 := by omega
  simp only [if_neg h0, if_pos h]
theorem rpn_11 (w : Nat → Int64) {t : Nat} (l : List Nat) {s s' : List Int64} (h : t % 16 = 11) (hr : rpn w (t :: l) s = some s') : ∃ x r, s = x :: r ∧ rpn w l ((1 - x) :: r) = some s' := by
  rw [rpn.eq_def] at hr
  have h0 : ¬ t % 16 = 0 := by omega
  have h1 : ¬ t % 16 = 1 := by omega
  simp only [if_neg h0, if_neg h1, if_pos h] at hr
  match s, hr with
  | [], hr => cases hr
  | x :: r, hr => exact ⟨x, r, rfl, hr⟩
theorem rpn_2 (w : Nat → Int64) {t : Nat} (l : List Nat) {s s' : List Int64} (h0 : ¬ t % 16 = 0) (h1 : ¬ t % 16 = 1) (h : ¬ t % 16 = 11) (hr : rpn w (t :: l) s = some s') : ∃ x y r, s = y :: x :: r ∧ rpn w l (op2 (t % 16) x y :: r) = some s' := by
  rw [rpn.eq_def] at hr
  simp only [if_neg h0, if_neg h1, if_neg h] at hr
  match s, hr with
  | [], hr => cases hr
  | [_], hr => cases hr
  | y :: x :: r, hr => exact ⟨x, y, r, rfl, hr⟩
theorem reck {w : Nat → Int64} {t e : Nat} (ht : t < 6) (he : e ≤ 400) : ∀ (l : List Nat) (i fu : Nat) (τ : Mm) (s s' : List Int64), WFm τ → SM τ s → (∀ v, v < 9 → jv τ 74 v = w v) → (∀ k, k < l.length → iv τ 65 (400 * t + (i + k)) = nI (l.getD k 0)) → (∀ x ∈ l, okT x) → rpn w l s = some s' → s.length + pushes l ≤ 64 → i + l.length = e → l.length < fu → ∃ τ', f_X11_reckons_8 N fu 63 (nI t) (nI e) (nI i) τ = f_X11_reckons_8 N (fu - l.length) 63 (nI t) (nI e) (nI e) τ' ∧ SM τ' s' ∧ FJ τ τ' := by
  intro l
  induction l with
  | nil =>
    intro i fu τ s s' hm hS hw hv ok hr hp hi hf
    refine ⟨τ, ?_, ?_, FJ.rf τ⟩
    · simp only [List.length_nil, Nat.add_zero] at hi
      rw [hi]; rfl
    · have : s = s' := Option.some.inj hr
      rw [← this]; exact hS
  | cons T l ih =>
    intro i fu τ s s' hm hS hw hv ok hr hp hi hf
    obtain ⟨fu, rfl⟩ : ∃ q, fu = q + 1 := ⟨fu - 1, by omega⟩
    rw [List.length_cons] at hi hf
    obtain ⟨ok1, ok2, ok3⟩ := ok T List.mem_cons_self
    have hT : T < 2 ^ 31 := by omega
    have hv0 : iv τ 65 (400 * t + i) = nI T := hv 0 (by simp)
    rw [pushes_cons] at hp
    have rd : aI 113 τ 65 (((400 : Int32) * nI t) + nI i) = some (nI T) := by
      rw [m_aI hm (a := 65) (n := 2400) (c := 400 * t + i) (by decide) rfl (by rw [← nI_add, ← pk_mul]; rfl) (by omega) (by decide), hv0]
    have st : f_X11_reckons_8 N (fu + 1) 63 (nI t) (nI e) (nI i) τ = if nI (T % 16) = 0 then (f_X11_push N 63 (nI (T / 16)).toInt64 τ).bind fun q => f_X11_reckons_8 N fu 63 (nI t) (nI e) (nI (i + 1)) q else if nI (T % 16) = 1 then (aJ 114 τ 74 (nI (T / 16))).bind fun x => (f_X11_push N 63 x τ).bind fun q => f_X11_reckons_8 N fu 63 (nI t) (nI e) (nI (i + 1)) q else if nI (T % 16) = 11 then (f_X11_pop N 63 τ).bind fun q14 => (ob 11 q14.2 63).bind fun _ => (f_X11_push N 63 (1 - q14.1) q14.2).bind fun q => f_X11_reckons_8 N fu 63 (nI t) (nI e) (nI (i + 1)) q else (f_X11_pop N 63 τ).bind fun q10 => (ob 11 q10.2 63).bind fun _ => (f_X11_pop N 63 q10.2).bind fun q11 => (f_X11_one N (nI (T % 16)) q11.1 q10.1 q11.2).bind fun q12 => (ob 11 q12.2 63).bind fun _ => (f_X11_push N 63 q12.1 q12.2).bind fun q => f_X11_reckons_8 N fu 63 (nI t) (nI e) (nI (i + 1)) q := by
      rw [f_X11_reckons_8, if_neg (nI_ge (by omega) (by omega)), m_g3 hm, Option.bind_some, rd, Option.bind_some, Option.bind_some, rd, Option.bind_some, sgn15 hT, sgn4 hT]
      unfold f_X11_reckons_129
      simp only [m_ob hm, Option.bind_some, nI_1, m_g23 hm]
    have next : ∀ (τ1 : Mm) (s1 : List Int64), FJ τ τ1 → SM τ1 s1 → rpn w l s1 = some s' → s1.length + pushes l ≤ 64 → ∃ τ', f_X11_reckons_8 N fu 63 (nI t) (nI e) (nI (i + 1)) τ1 = f_X11_reckons_8 N (fu + 1 - (l.length + 1)) 63 (nI t) (nI e) (nI e) τ' ∧ SM τ' s' ∧ FJ τ τ' := by
      intro τ1 s1 f1 hS1 hr1 hp1
      obtain ⟨τ', g1, g2, g3⟩ := ih (i + 1) fu τ1 s1 s' (f1.wm hm) hS1 (fun v hv' => by rw [f1.2.2.2.2 74 (by decide)]; exact hw v hv') (fun k hk => by
        rw [f1.2.2.1 65 (by decide), show i + 1 + k = i + (k + 1) by omega]
        exact hv (k + 1) (by simpa using hk)) (fun x hx => ok x (List.mem_cons_of_mem _ hx)) hr1 hp1 (by omega) (by omega)
      exact ⟨τ', by rw [g1, show fu + 1 - (l.length + 1) = fu - l.length by omega], g2, f1.tr g3⟩
    rw [st, List.length_cons]
    by_cases e0 : T % 16 = 0
    · rw [rpn_0 w l s e0] at hr
      rw [if_pos (show T % 16 ≤ 1 by omega)] at hp
      obtain ⟨τ1, p1, p2, p3⟩ := hS.push (N := N) hm (by omega) (lN (T / 16))
      rw [if_pos (show nI (T % 16) = 0 by rw [e0]; rfl), nI_l (by omega), p1, Option.bind_some]
      exact next τ1 _ p3 p2 hr (by simp; omega)
    · rw [if_neg (show ¬ nI (T % 16) = (0 : Int32) from nIk (by omega) (by decide) e0)]
      by_cases e1 : T % 16 = 1
      · rw [rpn_1 w l s e1] at hr
        rw [if_pos (show T % 16 ≤ 1 by omega)] at hp
        obtain ⟨τ1, p1, p2, p3⟩ := hS.push (N := N) hm (by omega) (w (T / 16))
        have h8 := ok3 e1
        rw [if_pos (show nI (T % 16) = 1 by rw [e1]; rfl), m_aJ hm (a := 74) (n := 9) (c := T / 16) (by decide) rfl rfl (by omega) (by decide), Option.bind_some, hw _ (by omega), p1, Option.bind_some]
        exact next τ1 _ p3 p2 hr (by simp; omega)
      · rw [if_neg (show ¬ T % 16 ≤ 1 by omega)] at hp
        rw [if_neg (show ¬ nI (T % 16) = (1 : Int32) from nIk (by omega) (by decide) e1)]
        by_cases e11 : T % 16 = 11
        · obtain ⟨x, r, rfl, hr2⟩ := rpn_11 w l e11 hr
          rw [if_pos (show nI (T % 16) = 11 by rw [e11]; rfl)]
          rw [List.length_cons] at hp
          obtain ⟨τ1, p1, p2, p3⟩ := hS.pop (N := N) hm (by omega)
          obtain ⟨τ2, q1, q2, q3⟩ := p2.push (N := N) (p3.wm hm) (by omega) (1 - x)
          rw [p1, Option.bind_some, m_ob (p3.wm hm), Option.bind_some, q1, Option.bind_some]
          exact next τ2 _ (p3.tr q3) q2 hr2 (by simp; omega)
        · obtain ⟨x, y, r, rfl, hr2⟩ := rpn_2 w l e0 e1 e11 hr
          rw [if_neg (show ¬ nI (T % 16) = (11 : Int32) from nIk (by omega) (by decide) e11)]
          rw [List.length_cons, List.length_cons] at hp
          obtain ⟨τ1, p1, p2, p3⟩ := hS.pop (N := N) hm (by simp; omega)
          obtain ⟨τ2, q1, q2, q3⟩ := p2.pop (N := N) (p3.wm hm) (by omega)
          obtain ⟨τ3, o1, o2, o3⟩ := q2.push (N := N) (q3.wm (p3.wm hm)) (by omega) (op2 (T % 16) x y)
          rw [p1, Option.bind_some, m_ob (p3.wm hm), Option.bind_some, q1, Option.bind_some, e_one (by omega), Option.bind_some, m_ob (q3.wm (p3.wm hm)), Option.bind_some, o1, Option.bind_some]
          exact next τ3 _ ((p3.tr q3).tr o3) o2 hr2 (by simp; omega)
/-- the value of a reckoning -/
def JV (w : Nat → Int64) (l : List Nat) : Int64 := ((rpn w l []).getD []).headD 0
theorem OV.jv {l : List Nat} (h : OV l) (w : Nat → Int64) (s : List Int64) : rpn w l s = some (JV w l :: s) := by
  obtain ⟨v, hv⟩ := h
  rw [hv w s, show JV w l = v w by unfold JV; rw [hv w []]; rfl]
end RK
