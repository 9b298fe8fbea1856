/-! both read a LAW: values -/
section LV
variable {N : Nat} {b : Nat → Nat} {t n w : Nat}
abbrev lwL (w : Nat) : List Nat := [3, 8, 51 + 2 * w, 52 + 2 * w, 83, 84]
def LC (σ : Mm) (b : Nat → Nat) (t n w k p : Nat) (c : List Int32) : Prop := RDc σ b t n k ∧ rv σ 8 1 = some 83 ∧ iv σ 8 2 = nI p ∧ iv σ 83 1 = nI c.length ∧ ∀ i, i < c.length → iv σ 84 i = c.getD i 0
def LM (τ : Mm) (b : Nat → Nat) (t w k p : Nat) (c : List Nat) : Prop := RDm τ b t k ∧ iv τ 63 15 = nI w ∧ iv τ 63 16 = nI p ∧ iv τ 66 w = nI c.length ∧ ∀ i, i < c.length → iv τ 65 (400 * w + i) = nI (c.getD i 0)
/-- only reading and writing code -/
def VF (w : Nat) (τ τ' : Mm) : Prop := nn τ' = nn τ ∧ (∀ o, rv τ' o = rv τ o) ∧ (∀ o, o ≠ 63 → o ≠ 65 → o ≠ 66 → iv τ' o = iv τ o) ∧ (∀ j, j ≠ 12 → j ≠ 13 → j ≠ 14 → j ≠ 16 → iv τ' 63 j = iv τ 63 j) ∧ ∀ i, i < 400 * w → iv τ' 65 i = iv τ 65 i
theorem VF.rf (τ : Mm) : VF w τ τ := ⟨rfl, fun _ => rfl, fun _ _ _ _ => rfl, fun _ _ _ _ _ => rfl, fun _ _ => rfl⟩
theorem VF.tr {a c d : Mm} (h : VF w a c) (g : VF w c d) : VF w a d := ⟨g.1.trans h.1, fun x => (g.2.1 x).trans (h.2.1 x), fun x q r s => (g.2.2.1 x q r s).trans (h.2.2.1 x q r s), fun x q r s u => (g.2.2.2.1 x q r s u).trans (h.2.2.2.1 x q r s u), fun i hi => (g.2.2.2.2 i hi).trans (h.2.2.2.2 i hi)⟩
theorem KF.vf {τ τ' : Mm} (h : KF [12, 13, 14, 16] τ τ') : VF w τ τ' := ⟨h.1, h.2.1, fun o q _ _ => h.2.2.1 o q, fun j a1 a2 a3 a4 => h.2.2.2 j (by simp [a1, a2, a3, a4]), fun i _ => by rw [h.2.2.1 65 (by decide)]⟩
theorem VF.fld {τ : Mm} {j : Nat} {v : Int32} (h : j = 12 ∨ j = 13 ∨ j = 14 ∨ j = 16) : VF w τ (si τ 63 j v) := (KF.si (l := [12, 13, 14, 16]) τ v (by rcases h with rfl | rfl | rfl | rfl <;> decide)).vf
/-- both fail alike -/
def FLw (w : Nat) (σ τ : Mm) (rc rm : Option (Int32 × Mm)) : Prop := ∃ σ' τ' F, rc = some (0, σ') ∧ rm = some (0, τ') ∧ RS (lwL w) σ σ' ∧ VF w τ τ' ∧ iv σ' 3 5 = F ∧ iv τ' 63 13 = F ∧ ¬ F = 0
theorem FLw.pre {σ σ1 τ τ1 : Mm} {rc rm rc' rm' : Option (Int32 × Mm)} (h : FLw w σ1 τ1 rc rm) (r : RS (lwL w) σ σ1) (g : VF w τ τ1) (e1 : rc' = rc) (e2 : rm' = rm) : FLw w σ τ rc' rm' := by
  obtain ⟨σ', τ', F, h1, h2, h3, h4, h5, h6, h7⟩ := h
  exact ⟨σ', τ', F, e1.trans h1, e2.trans h2, r.tr h3, g.tr h4, h5, h6, h7⟩
theorem rsL {o : Nat} {σ : Mm} {k : Nat} {v : Int32} (h : o = 3 ∨ o = 8 ∨ o = 51 + 2 * w ∨ o = 52 + 2 * w ∨ o = 83 ∨ o = 84) : RS (lwL w) σ (si σ o k v) := (RO.si o _ _ _).rs (by
  rcases h with rfl | rfl | rfl | rfl | rfl | rfl <;> simp)
theorem LC.skip {σ : Mm} {k p : Nat} {c : List Int32} (h : LC σ b t n w k p c) (hk : k < n) : LC (si σ 3 4 (nI (k + 1))) b t n w (k + 1) p c := ⟨h.1.skip hk, h.2.1, by rw [iv_row _ _ _ (by decide)]; exact h.2.2.1, by rw [iv_row _ _ _ (by omega)]; exact h.2.2.2.1, by rw [iv_row _ _ _ (by omega)]; exact h.2.2.2.2⟩
theorem LM.at {τ : Mm} {k k' p q : Nat} {c : List Nat} (hb : TP b t) (h : LM τ b t w k p c) (hq : q ≤ t) (hs : skp b t q = pl b t k') : LM (ps' τ q) b t w k' p c := ⟨h.1.to hb hq hs, by rw [iv_si, if_neg (by decide)]; exact h.2.1, by rw [iv_si, if_neg (by decide)]; exact h.2.2.1, by rw [iv_row _ _ _ (by decide)]; exact h.2.2.2.1, by rw [iv_row _ _ _ (by decide)]; exact h.2.2.2.2⟩
theorem ga_app {α : Type} {c : List α} {x d : α} {i : Nat} (h : i < c.length) : (c ++ [x]).getD i d = c.getD i d := gapl d h
theorem ga_end {α : Type} {c : List α} {x d : α} : (c ++ [x]).getD c.length d = x := by
  have := gapr c [x] 0 d
  rw [Nat.add_zero] at this
  exact this
theorem e_ladd {σ : Mm} {k p : Nat} {c : List Int32} {x : Int32} (hw : w < 6) (h : LC σ b t n w k p c) (hl : c.length < 400) : ∃ σ', f_X2_add N 83 x σ = some σ' ∧ RS (lwL w) σ σ' ∧ LC σ' b t n w k p (c ++ [x]) := by
  obtain ⟨h1, h2, h3, h4, h5⟩ := h
  have hc := h1.1
  refine ⟨si (si σ 84 c.length x) 83 1 (nI (c.length + 1)), ?_, (rsL (by omega)).tr (rsL (by omega)), ?_, h2, ?_, ?_, fun i hi => ?_⟩
  · have c1 : WFc (si σ 84 c.length x) := hc
    have sh : SH 84 = (13, 400) := rfl
    unfold f_X2_add f_X2_add_37
    rw [k_i83 hc, Option.bind_some, h4, if_neg (nI_pos (by omega)), Option.bind_some, if_neg (by rw [show (400 : Int32) = nI 400 from rfl]; exact nI_ge hl (by decide)), k_83_0 hc, Option.bind_some, Option.bind_some, k_sI hc (a := 84) (n := 400) (c := c.length) (by omega) sh rfl hl (by decide), Option.bind_some, k_i83 c1, Option.bind_some, iv_row _ _ _ (by omega), h4, nI_1, k_p83 c1, Option.bind_some]
  · exact h1.fr (l := [83, 84]) (((RO.si _ _ _ _).rs (by simp)).tr ((RO.si _ _ _ _).rs (by simp))) (by intro y hy; simp at hy; omega)
  · rw [iv_row _ _ _ (by omega), iv_row _ _ _ (by omega)]; exact h3
  · rw [iv_si, if_pos ⟨rfl, rfl⟩, List.length_append]; rfl
  · rw [List.length_append] at hi
    have hi : i < c.length + 1 := hi
    rw [iv_row _ _ _ (by omega), iv_si]
    by_cases e : i = c.length
    · rw [if_pos ⟨rfl, e⟩, e, ga_end]
    · rw [if_neg (fun z => e z.2), ga_app (by omega)]; exact h5 i (by omega)
theorem e_puts {τ : Mm} {k p : Nat} {c : List Nat} {x y : Nat} (hw : w < 6) (h : LM τ b t w k p c) (hl : c.length < 400) : ∃ τ', f_X11_puts N 63 (nI x) (nI y) τ = some τ' ∧ VF w τ τ' ∧ LM τ' b t w k p (c ++ [x + 16 * y]) := by
  obtain ⟨h1, h2, h3, h4, h5⟩ := h
  have hm := h1.1
  refine ⟨si (si τ 65 (400 * w + c.length) (nI (x + 16 * y))) 66 w (nI (c.length + 1)), ?_, ⟨rfl, fun _ => rfl, fun o q r s => by rw [iv_row _ _ _ s, iv_row _ _ _ r], fun j _ _ _ _ => by rw [iv_row _ _ _ (by decide), iv_row _ _ _ (by decide)], fun i hi => by rw [iv_row _ _ _ (by decide), iv_si, if_neg (by omega)]⟩, ?_, ?_, ?_, ?_, fun i hi => ?_⟩
  · have m1 : WFm (si τ 65 (400 * w + c.length) (nI (x + 16 * y))) := hm
    unfold f_X11_puts
    rw [m_g3 hm, Option.bind_some, m_gI hm, Option.bind_some, h2, m_g4 hm, Option.bind_some, Option.bind_some, m_aI hm (a := 66) (n := 7) (c := w) (by decide) rfl rfl (by omega) (by decide), Option.bind_some, h4, show (400 : Int32) = nI 400 from rfl, pk_mul, nI_add, show (16 : Int32) = nI 16 from rfl, pk_mul, nI_add, m_sI hm (a := 65) (n := 2400) (c := 400 * w + c.length) (by decide) rfl rfl (by omega) (by decide), Option.bind_some, m_g4 m1, Option.bind_some, m_gI m1, Option.bind_some, iv_row _ _ _ (show 63 ≠ 65 by decide), h2, m_aI m1 (a := 66) (n := 7) (c := w) (by decide) rfl rfl (by omega) (by decide), Option.bind_some, iv_row _ _ _ (show 66 ≠ 65 by decide), h4, nI_1, m_sI m1 (a := 66) (n := 7) (c := w) (by decide) rfl rfl (by omega) (by decide), Option.bind_some]
  · exact (h1.row (by decide)).row (by decide)
  · rw [iv_row _ _ _ (by decide), iv_row _ _ _ (by decide)]; exact h2
  · rw [iv_row _ _ _ (by decide), iv_row _ _ _ (by decide)]; exact h3
  · rw [iv_si, if_pos ⟨rfl, rfl⟩, List.length_append]; rfl
  · rw [List.length_append] at hi
    have hi : i < c.length + 1 := hi
    rw [iv_row _ _ _ (by decide), iv_si]
    by_cases e : i = c.length
    · rw [if_pos ⟨rfl, by omega⟩, e, ga_end]
    · rw [if_neg (by omega), ga_app (by omega)]; exact h5 i (by omega)
theorem tV_b (hb : TP b t) (p : Nat) : tV b t p = -1 ∨ ∃ v, v ≤ 99999 ∧ tV b t p = nI v := by
  by_cases q : p < t
  · rw [tV_lt q]
    cases d : dg (b p)
    · right; exact ⟨0, by decide, rfl⟩
    · simp only [if_true]
      unfold nV
      by_cases y : 5 < dE b t p - p
      · left; exact if_pos y
      · right
        rw [if_neg y]
        obtain ⟨g1, g2, g3, g4⟩ := rE_spec dg0 hb (t - p) p rfl
        have := vl_lt hb (p := p) (dE b t p - p) (fun j hj => g4 (p + j) (by omega) (by have : dE b t p = rE dg b t p := rfl; omega))
        have h2 : 10 ^ (dE b t p - p) ≤ 10 ^ 5 := Nat.pow_le_pow_right (by decide) (by omega)
        exact ⟨_, by omega, rfl⟩
  · right; exact ⟨0, by decide, if_pos (by omega)⟩
theorem e_wordHere (hN : 500 ≤ N) (hb : TP b t) {τ : Mm} {p : Nat} (hp : p ≤ t) (hs : skp b t p = p) (hm : WFm τ) (hT : MT τ b t) (hpos : iv τ 63 12 = nI p) : f_X11_wordHere N 63 τ = some ((if 25 ≤ tK b t p ∧ tK b t p ≤ 33 then nI (tK b t p - 25) else -1), τ) := by
  have wA : ∀ {w : Int64} {j : Nat}, w = lN (wp j) → j < 16 → f_X11_isWord N 63 w τ = some (bi (tK b t p = 20 + j), τ) := fun hw hj => wordAt hN hb hw hj hp hs hm hT hpos
  unfold f_X11_wordHere f_X11_wordHere_116
  rw [m_ob hm, Option.bind_some, wA (w := (1668244331 : Int64)) (j := 5) rfl (by decide), Option.bind_some]
  by_cases k5 : tK b t p = 20 + 5
  · rw [bi_y k5, if_neg z1, if_pos (by omega), k5]; rfl
  rw [bi_n k5, if_pos rfl, m_ob hm, Option.bind_some, wA (w := (1920299892 : Int64)) (j := 6) rfl (by decide), Option.bind_some]
  by_cases k6 : tK b t p = 20 + 6
  · rw [bi_y k6, if_neg z1, if_pos (by omega), k6]; rfl
  rw [bi_n k6, if_pos rfl, m_ob hm, Option.bind_some, wA (w := (6383461 : Int64)) (j := 7) rfl (by decide), Option.bind_some]
  by_cases k7 : tK b t p = 20 + 7
  · rw [bi_y k7, if_neg z1, if_pos (by omega), k7]; rfl
  rw [bi_n k7, if_pos rfl, m_ob hm, Option.bind_some, wA (w := (478745093490 : Int64)) (j := 8) rfl (by decide), Option.bind_some]
  by_cases k8 : tK b t p = 20 + 8
  · rw [bi_y k8, if_neg z1, if_pos (by omega), k8]; rfl
  rw [bi_n k8, if_pos rfl, m_ob hm, Option.bind_some, wA (w := (24948 : Int64)) (j := 9) rfl (by decide), Option.bind_some]
  by_cases k9 : tK b t p = 20 + 9
  · rw [bi_y k9, if_neg z1, if_pos (by omega), k9]; rfl
  rw [bi_n k9, if_pos rfl, m_ob hm, Option.bind_some, wA (w := (7300710 : Int64)) (j := 10) rfl (by decide), Option.bind_some]
  by_cases k10 : tK b t p = 20 + 10
  · rw [bi_y k10, if_neg z1, if_pos (by omega), k10]; rfl
  rw [bi_n k10, if_pos rfl, m_ob hm, Option.bind_some, wA (w := (2003398244 : Int64)) (j := 11) rfl (by decide), Option.bind_some]
  by_cases k11 : tK b t p = 20 + 11
  · rw [bi_y k11, if_neg z1, if_pos (by omega), k11]; rfl
  rw [bi_n k11, if_pos rfl, m_ob hm, Option.bind_some, wA (w := (7103845 : Int64)) (j := 12) rfl (by decide), Option.bind_some]
  by_cases k12 : tK b t p = 20 + 12
  · rw [bi_y k12, if_neg z1, if_pos (by omega), k12]; rfl
  rw [bi_n k12, if_pos rfl, m_ob hm, Option.bind_some, wA (w := (1752135026 : Int64)) (j := 13) rfl (by decide), Option.bind_some]
  by_cases k13 : tK b t p = 20 + 13
  · rw [bi_y k13, if_neg z1, if_pos (by omega), k13]; rfl
  rw [bi_n k13, if_pos rfl, if_neg (by omega)]
theorem e_makes {τ : Mm} {k p q : Nat} {c : List Nat} (h : LM τ b t w k p c) (hp : p ≤ 60) : (p = 60 → f_X11_makes N 63 (nI q) τ = some (0, si τ 63 13 (flt q 3))) ∧ (p < 60 → f_X11_makes N 63 (nI q) τ = some (1, si τ 63 16 (nI (p + 1))) ∧ LM (si τ 63 16 (nI (p + 1))) b t w k (p + 1) c) := by
  have hm := h.1.1
  unfold f_X11_makes
  constructor
  · intro e
    rw [m_gI hm, Option.bind_some, h.2.2.1, if_pos (show nI p = 60 by rw [e]; rfl), m_ob hm, Option.bind_some, show (3 : Int32) = nI 3 from rfl, e_mfail hm h.1.2.2.1, Option.bind_some]
    rfl
  · intro e
    refine ⟨?_, h.1.fld (by decide), by rw [iv_si, if_neg (by decide)]; exact h.2.1, by rw [iv_si, if_pos ⟨rfl, rfl⟩], by rw [iv_row _ _ _ (by decide)]; exact h.2.2.2.1, by rw [iv_row _ _ _ (by decide)]; exact h.2.2.2.2⟩
    rw [m_gI hm, Option.bind_some, h.2.2.1, if_neg (show ¬ nI p = 60 from nIk (s := p) (k := 60) (by omega) (by decide) (by omega)), Option.bind_some, nI_1, m_pI hm, Option.bind_some]
/-- a VALUE's step -/
def vT (x : Nat) : Prop := okT x ∧ x % 16 ≤ 1
theorem clT_v {v : Nat} : clT (16 * v) = nI v := by
  unfold clT
  rw [if_pos (by omega), show 16 * v / 16 = v by omega]
theorem clT_w {v : Nat} : clT (1 + 16 * v) = -(nI (25 + v)) := by
  unfold clT
  rw [if_neg (by omega), if_pos (by omega), show (1 + 16 * v) / 16 = v by omega]
end LV
