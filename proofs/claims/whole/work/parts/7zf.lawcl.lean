section LCl
variable {N : Nat} {b : Nat → Nat} {t n w : Nat}
theorem e_test (hN : 500 ≤ N) (hb : TP b t) (hw : w < 6) {k p : Nat} {σ τ : Mm} {cC : List Int32} {cM : List Nat} (hp : p ≤ 60) (hC : LC σ b t n w k p cC) (hM : LM τ b t w k p cM) (hl : cM.length ≤ cC.length) (hlk : cC.length + 1 ≤ k) : FS' w σ τ (f_FT 24 false N 8 (0 : Int32) σ) (f_X11_tested N 63 τ) ∨ ∃ l k' p' σ' τ', f_FT 24 false N 8 (0 : Int32) σ = some (1, σ') ∧ f_X11_tested N 63 τ = some (1, τ') ∧ RS (lwL w) σ σ' ∧ SF w τ τ' ∧ LC σ' b t n w k' p' (cC ++ l.map clT) ∧ LM τ' b t w k' p' (cM ++ l) ∧ k < k' ∧ l.length + k ≤ k' ∧ OV l ∧ (∀ x ∈ l, okT x) ∧ p + pushes l ≤ p' ∧ p' ≤ 60 := by
  have n400 := (plt hb hC.1).2.2.2.2
  have hm := hM.1.1
  obtain ⟨M, hMM⟩ : ∃ M, N = M + 1 := ⟨N - 1, by omega⟩
  obtain ⟨t1, e1⟩ : ∃ s, s = si (si τ 63 20 0) 63 17 0 := ⟨_, rfl⟩
  have hM1 : LM t1 b t w k p cM := by rw [e1]; exact (hM.stk (Or.inr rfl)).stk (Or.inl rfl)
  have hS1 : SK t1 ([] : List Nat) := by
    rw [e1]
    exact ⟨by rw [iv_si, if_neg (by decide), iv_si, if_pos ⟨rfl, rfl⟩]; rfl, by rw [iv_si, if_pos ⟨rfl, rfl⟩]; rfl, fun i hi => absurd hi (Nat.not_lt_zero _)⟩
  have sf1 : SF w τ t1 := by rw [e1]; exact (SF.fld (by decide)).tr (SF.fld (by decide))
  have me : f_X11_tested N 63 τ = EE N N M t1 := by
    unfold f_X11_tested
    rw [m_pI hm, Option.bind_some, m_pI (show WFm (si τ 63 20 0) from hm), Option.bind_some, ← e1]
    have := tst12 (N := N) (fu := M) hM1.1.1
    rw [← hMM] at this
    exact this
  have ce : f_FT 24 false N 8 (0 : Int32) σ = f_X3_readsTest_7 N (f_FT 23 true N) N 8 (nI 0) (nI 0) (nI 0) (nI 0) σ := rfl
  rw [me, ce]
  rcases testL (D := 23) (dep := 0) (base := []) hN hb hw (factD hN hb hw 23) (by decide) (by decide) (Or.inl rfl) (fun x hx => absurd hx (by simp)) rfl (n - k) k p 0 0 0 N M N σ t1 cC cM rfl (by omega) (by omega) (by omega) (by omega) (by decide) (by decide) hp hC hM1 hS1 hl (by show cC.length + 1 + (0 + 0 + 0) ≤ k; omega) with hF | ⟨l0, an, or, k', p', σ', τ', fu', n2, x1, x2, x3, x4, x5, x6, x7, x8, x9, x10, x11, x12, x13, x14, x15, x16, x17, x18, x19⟩
  · left
    exact hF.pre (RS.rf _ _) sf1 rfl rfl
  · right
    have k'n := x7.1.2.2.2
    have hba : bas ([] : List Nat) := Or.inl rfl
    have ok9 : oks (ff an or ++ []) := ff_ok x1 x2 (fun x hx => absurd hx (by simp))
    have l9 : (ff an or ++ ([] : List Nat)).length = an + or := by rw [List.append_nil, ff_len an or x1 x2]
    have in9 : 91 ∉ ff an or ++ [] := fun z => (ff_in x1 x2 hba).1 z rfl
    have lM8 : (cM ++ l0).length = cM.length + l0.length := by rw [List.length_append]
    have lll : (l0 ++ ff an or).length = l0.length + (an + or) := by rw [List.length_append, ff_len an or x1 x2]
    obtain ⟨n2, rfl⟩ : ∃ d', n2 = d' + 1 := ⟨n2 - 1, by omega⟩
    obtain ⟨fu', rfl⟩ : ∃ d', fu' = d' + 1 := ⟨fu' - 1, by omega⟩
    obtain ⟨c1, c2, c3⟩ := clNo (N := N) (n2 := n2) (fu := fu' + 1) hN hb x7.1 x8 x9 ok9 (by omega) (Or.inr in9)
    have rn := rstNo (N := N) (fu := fu' + 1) hN hb x7.1 c2 (iv_ps _ _) x10 x11
    obtain ⟨t3, a1, a2, a3, a4⟩ := e_settle (N := N) (l := 1) hN hw (by decide) ok9 c2 c3 (by omega)
    rw [(ff1 x1 x2 hba).1] at a3
    refine ⟨l0 ++ ff an or, k', p', σ', t3, x3, ?_, x5, sf1.tr (x6.tr ((SF.fld (by decide)).tr a2)), x7, by rw [← List.append_assoc]; exact a3, x12, by omega, x14.ov, x15, x16, x17⟩
    rw [x4, c1, rn, f_X11_tested_12, if_pos rfl, m_ob c2.1.1, Option.bind_some, (e_inside hN c2.1.1 ok9 c3 (by omega)).2 in9, Option.bind_some, if_pos rfl, m_ob c2.1.1, Option.bind_some, show f_X11_settles N 63 (1 : Int32) (ps' τ' (pl b t k')) = some t3 from a1, Option.bind_some]
/-- the clauses of a law, as the model keeps them -/
def MR (τ : Mm) (w : Nat) (cls : Cls) : Prop := iv τ 68 w = nI cls.length ∧ ∀ k c, cls[k]? = some c → iv τ 67 (48 * w + 4 * k) = nI (progM (cls.take k)).length ∧ iv τ 67 (48 * w + 4 * k + 1) = nI ((progM (cls.take k)).length + c.1.length) ∧ iv τ 67 (48 * w + 4 * k + 2) = (if c.2 = none then -1 else nI ((progM (cls.take k)).length + c.1.length)) ∧ iv τ 67 (48 * w + 4 * k + 3) = nI ((progM (cls.take k)).length + c.1.length + (c.2.getD []).length)
def LF (w : Nat) (τ τ' : Mm) : Prop := nn τ' = nn τ ∧ (∀ o, rv τ' o = rv τ o) ∧ (∀ o, o ≠ 63 → ¬ (65 ≤ o ∧ o ≤ 68) → o ≠ 72 → iv τ' o = iv τ o) ∧ (∀ j, j = 1 ∨ j = 2 ∨ j = 15 → iv τ' 63 j = iv τ 63 j) ∧ (∀ i, i < 400 * w → iv τ' 65 i = iv τ 65 i) ∧ (∀ i, i < 48 * w → iv τ' 67 i = iv τ 67 i) ∧ ∀ i, i < w → iv τ' 68 i = iv τ 68 i
theorem LF.rf (τ : Mm) : LF w τ τ := ⟨rfl, fun _ => rfl, fun _ _ _ _ => rfl, fun _ _ => rfl, fun _ _ => rfl, fun _ _ => rfl, fun _ _ => rfl⟩
theorem LF.tr {a c d : Mm} (h : LF w a c) (g : LF w c d) : LF w a d := ⟨g.1.trans h.1, fun x => (g.2.1 x).trans (h.2.1 x), fun x q r s => (g.2.2.1 x q r s).trans (h.2.2.1 x q r s), fun x q => (g.2.2.2.1 x q).trans (h.2.2.2.1 x q), fun i hi => (g.2.2.2.2.1 i hi).trans (h.2.2.2.2.1 i hi), fun i hi => (g.2.2.2.2.2.1 i hi).trans (h.2.2.2.2.2.1 i hi), fun i hi => (g.2.2.2.2.2.2 i hi).trans (h.2.2.2.2.2.2 i hi)⟩
theorem SF.lf {τ τ' : Mm} (h : SF w τ τ') : LF w τ τ' := ⟨h.1, h.2.1, fun o q r s => h.2.2.1 o q (by omega) (by omega) s, fun j q => h.2.2.2.1 j (by omega) (by omega) (by omega) (by omega) (by omega) (by omega), h.2.2.2.2, fun i _ => by rw [h.2.2.1 67 (by decide) (by decide) (by decide) (by decide)], fun i _ => by rw [h.2.2.1 68 (by decide) (by decide) (by decide) (by decide)]⟩
theorem LF.f18 {τ : Mm} {v : Int32} : LF w τ (si τ 63 18 v) := ⟨rfl, fun _ => rfl, fun o q _ _ => iv_row _ _ _ q, fun j q => by rw [iv_si, if_neg (by omega)], fun i _ => by rw [iv_row _ _ _ (by decide)], fun i _ => by rw [iv_row _ _ _ (by decide)], fun i _ => by rw [iv_row _ _ _ (by decide)]⟩
theorem LF.f12 {τ : Mm} {j : Nat} {v : Int32} (h : j = 12 ∨ j = 13) : LF w τ (si τ 63 j v) := (SF.fld (by omega)).lf
theorem LF.r67 {τ : Mm} {i : Nat} {v : Int32} (h : 48 * w ≤ i) : LF w τ (si τ 67 i v) := ⟨rfl, fun _ => rfl, fun o _ q _ => iv_row _ _ _ (by omega), fun j _ => by rw [iv_row _ _ _ (by decide)], fun i _ => by rw [iv_row _ _ _ (by decide)], fun j hj => by rw [iv_si, if_neg (by omega)], fun i _ => by rw [iv_row _ _ _ (by decide)]⟩
theorem LF.r68 {τ : Mm} {v : Int32} : LF w τ (si τ 68 w v) := ⟨rfl, fun _ => rfl, fun o _ q _ => iv_row _ _ _ (by omega), fun j _ => by rw [iv_row _ _ _ (by decide)], fun i _ => by rw [iv_row _ _ _ (by decide)], fun i _ => by rw [iv_row _ _ _ (by decide)], fun j hj => by rw [iv_si, if_neg (by omega)]⟩
theorem LM.rr {τ : Mm} {k p o i : Nat} {c : List Nat} {v : Int32} (h : LM τ b t w k p c) (ho : o = 67 ∨ o = 68) : LM (si τ o i v) b t w k p c := ⟨h.1.row (by omega), by rw [iv_row _ _ _ (by omega)]; exact h.2.1, by rw [iv_row _ _ _ (by omega)]; exact h.2.2.1, by rw [iv_row _ _ _ (by omega)]; exact h.2.2.2.1, by rw [iv_row _ _ _ (by omega)]; exact h.2.2.2.2⟩
theorem LM.f18 {τ : Mm} {k p : Nat} {c : List Nat} {v : Int32} (h : LM τ b t w k p c) : LM (si τ 63 18 v) b t w k p c := ⟨h.1.fld (by decide), by rw [iv_si, if_neg (by decide)]; exact h.2.1, by rw [iv_si, if_neg (by decide)]; exact h.2.2.1, by rw [iv_row _ _ _ (by decide)]; exact h.2.2.2.1, by rw [iv_row _ _ _ (by decide)]; exact h.2.2.2.2⟩
def FLl (w : Nat) (σ τ : Mm) (rc rm : Option (Int32 × Mm)) : Prop := ∃ σ' τ' F, rc = some (0, σ') ∧ rm = some (0, τ') ∧ RS (lwL w) σ σ' ∧ LF w τ τ' ∧ iv σ' 3 5 = F ∧ iv τ' 63 13 = F ∧ ¬ F = 0
theorem FLw.l {σ σ1 τ τ1 : Mm} {rc rm rc' rm' : Option (Int32 × Mm)} (h : FLw w σ1 τ1 rc rm) (r : RS (lwL w) σ σ1) (g : LF w τ τ1) (e1 : ∀ s, rc = some (0, s) → rc' = some (0, s)) (e2 : ∀ s, rm = some (0, s) → rm' = some (0, s)) : FLl w σ τ rc' rm' := by
  obtain ⟨σ', τ', F, h1, h2, h3, h4, h5, h6, h7⟩ := h
  exact ⟨σ', τ', F, e1 _ h1, e2 _ h2, r.tr h3, g.tr h4.sf.lf, h5, h6, h7⟩
theorem FS'.l {σ σ1 τ τ1 : Mm} {rc rm rc' rm' : Option (Int32 × Mm)} (h : FS' w σ1 τ1 rc rm) (r : RS (lwL w) σ σ1) (g : LF w τ τ1) (e1 : ∀ s, rc = some (0, s) → rc' = some (0, s)) (e2 : ∀ s, rm = some (0, s) → rm' = some (0, s)) : FLl w σ τ rc' rm' := by
  obtain ⟨σ', τ', F, h1, h2, h3, h4, h5, h6, h7⟩ := h
  exact ⟨σ', τ', F, e1 _ h1, e2 _ h2, r.tr h3, g.tr h4.lf, h5, h6, h7⟩
theorem progC_snoc (cls : Cls) (c : List Nat × Option (List Nat)) : progC (cls ++ [c]) = progC cls ++ (c.1.map clT ++ (match c.2 with
    | none => [-20]
    | some t => t.map clT ++ [-21])) := by
  obtain ⟨a, o⟩ := c
  unfold progC
  rw [List.flatMap_append]
  cases o <;> simp
theorem progM_snoc (cls : Cls) (c : List Nat × Option (List Nat)) : progM (cls ++ [c]) = progM cls ++ (c.1 ++ c.2.getD []) := by
  unfold progM
  rw [List.flatMap_append]
  simp
theorem MR.snoc {τ τ' : Mm} {cls : Cls} {c : List Nat × Option (List Nat)} (hw : w < 6) (h : MR τ w cls) (h68 : iv τ' 68 w = nI (cls.length + 1)) (hold : ∀ i, i < 48 * w + 4 * cls.length → iv τ' 67 i = iv τ 67 i) (h0 : iv τ' 67 (48 * w + 4 * cls.length) = nI (progM cls).length) (h1 : iv τ' 67 (48 * w + 4 * cls.length + 1) = nI ((progM cls).length + c.1.length)) (h2 : iv τ' 67 (48 * w + 4 * cls.length + 2) = (if c.2 = none then -1 else nI ((progM cls).length + c.1.length))) (h3 : iv τ' 67 (48 * w + 4 * cls.length + 3) = nI ((progM cls).length + c.1.length + (c.2.getD []).length)) : MR τ' w (cls ++ [c]) := by
  refine ⟨by rw [h68, List.length_append]; rfl, fun k d hk => ?_⟩
  by_cases q : k < cls.length
  · rw [List.getElem?_append_left q] at hk
    rw [List.take_append_of_le_length (by omega), hold _ (by omega), hold _ (by omega), hold _ (by omega), hold _ (by omega)]
    exact h.2 k d hk
  · have hkl : k < (cls ++ [c]).length := (List.getElem?_eq_some_iff.1 hk).1
    rw [List.length_append] at hkl
    have hkl : k < cls.length + 1 := hkl
    have e : k = cls.length := by omega
    subst e
    rw [List.getElem?_append_right (Nat.le_refl _), Nat.sub_self] at hk
    have hk : some c = some d := hk
    rw [← Option.some.inj hk, List.take_append_of_le_length (Nat.le_refl _), List.take_length]
    exact ⟨h0, h1, h2, h3⟩
end LCl
