/-! the model's open signs -/
section LSt
variable {N : Nat} {b : Nat → Nat} {t n w : Nat}
def dp (st : List Nat) : Nat := (st.filter (fun x => decide (x = 11 ∨ x = 91))).length
def SK (τ : Mm) (st : List Nat) : Prop := iv τ 63 20 = nI st.length ∧ iv τ 63 17 = nI (dp st) ∧ ∀ i, i < st.length → iv τ 72 i = nI (st.getD (st.length - 1 - i) 0)
def oks (st : List Nat) : Prop := ∀ x ∈ st, x = 11 ∨ x = 12 ∨ x = 13 ∨ x = 91
def SF (w : Nat) (τ τ' : Mm) : Prop := nn τ' = nn τ ∧ (∀ o, rv τ' o = rv τ o) ∧ (∀ o, o ≠ 63 → o ≠ 65 → o ≠ 66 → o ≠ 72 → iv τ' o = iv τ o) ∧ (∀ j, j ≠ 12 → j ≠ 13 → j ≠ 14 → j ≠ 16 → j ≠ 17 → j ≠ 20 → iv τ' 63 j = iv τ 63 j) ∧ ∀ i, i < 400 * w → iv τ' 65 i = iv τ 65 i
theorem SF.rf (τ : Mm) : SF w τ τ := ⟨rfl, fun _ => rfl, fun _ _ _ _ _ => rfl, fun _ _ _ _ _ _ _ => rfl, fun _ _ => rfl⟩
theorem SF.tr {a c d : Mm} (h : SF w a c) (g : SF w c d) : SF w a d := ⟨g.1.trans h.1, fun x => (g.2.1 x).trans (h.2.1 x), fun x q r s u => (g.2.2.1 x q r s u).trans (h.2.2.1 x q r s u), fun x q r s u v y => (g.2.2.2.1 x q r s u v y).trans (h.2.2.2.1 x q r s u v y), fun i hi => (g.2.2.2.2 i hi).trans (h.2.2.2.2 i hi)⟩
theorem VF.sf {τ τ' : Mm} (h : VF w τ τ') : SF w τ τ' := ⟨h.1, h.2.1, fun o q r s _ => h.2.2.1 o q r s, fun j a1 a2 a3 a4 _ _ => h.2.2.2.1 j a1 a2 a3 a4, h.2.2.2.2⟩
theorem SF.fld {τ : Mm} {j : Nat} {v : Int32} (h : j = 12 ∨ j = 13 ∨ j = 17 ∨ j = 20) : SF w τ (si τ 63 j v) := ⟨rfl, fun _ => rfl, fun o q _ _ _ => iv_row _ _ _ q, fun i a1 a2 a3 a4 a5 a6 => by rw [iv_si, if_neg (by omega)], fun i _ => by rw [iv_row _ _ _ (by decide)]⟩
theorem SF.row {τ : Mm} {i : Nat} {v : Int32} : SF w τ (si τ 72 i v) := ⟨rfl, fun _ => rfl, fun o _ _ _ q => iv_row _ _ _ q, fun j _ _ _ _ _ _ => by rw [iv_row _ _ _ (by decide)], fun i _ => by rw [iv_row _ _ _ (by decide)]⟩
theorem SK.vf {τ τ' : Mm} {st : List Nat} (h : SK τ st) (v : VF w τ τ') : SK τ' st := by
  refine ⟨?_, ?_, ?_⟩
  · rw [v.2.2.2.1 20 (by decide) (by decide) (by decide) (by decide)]; exact h.1
  · rw [v.2.2.2.1 17 (by decide) (by decide) (by decide) (by decide)]; exact h.2.1
  · rw [v.2.2.1 72 (by decide) (by decide) (by decide)]; exact h.2.2
theorem LM.stk {τ : Mm} {k p j : Nat} {c : List Nat} {v : Int32} (h : LM τ b t w k p c) (hj : j = 17 ∨ j = 20) : LM (si τ 63 j v) b t w k p c := ⟨h.1.fld (by omega), by rw [iv_si, if_neg (by omega)]; exact h.2.1, by rw [iv_si, if_neg (by omega)]; exact h.2.2.1, by rw [iv_row _ _ _ (by decide)]; exact h.2.2.2.1, by rw [iv_row _ _ _ (by decide)]; exact h.2.2.2.2⟩
theorem LM.r72 {τ : Mm} {k p i : Nat} {c : List Nat} {v : Int32} (h : LM τ b t w k p c) : LM (si τ 72 i v) b t w k p c := ⟨h.1.row (by decide), by rw [iv_row _ _ _ (by decide)]; exact h.2.1, by rw [iv_row _ _ _ (by decide)]; exact h.2.2.1, by rw [iv_row _ _ _ (by decide)]; exact h.2.2.2.1, by rw [iv_row _ _ _ (by decide)]; exact h.2.2.2.2⟩
theorem dp_cons (x : Nat) (st : List Nat) : dp (x :: st) = (if x = 11 ∨ x = 91 then 1 else 0) + dp st := by
  unfold dp
  by_cases h : x = 11 ∨ x = 91
  · simp [List.filter_cons, h, Nat.add_comm]
  · simp [List.filter_cons, h]
theorem dp_le (st : List Nat) : dp st ≤ st.length := List.length_filter_le _ _
/-- a sign is laid on -/
theorem SK.push {τ : Mm} {st : List Nat} {x : Nat} (h : SK τ st) (d : Int32) (hd : d = nI (dp (x :: st))) : SK (si (si (si τ 63 17 d) 72 st.length (nI x)) 63 20 (nI (st.length + 1))) (x :: st) := by
  refine ⟨?_, ?_, fun i hi => ?_⟩
  · rw [iv_si, if_pos ⟨rfl, rfl⟩, List.length_cons]
  · rw [iv_si, if_neg (by decide), iv_row _ _ _ (by decide), iv_si, if_pos ⟨rfl, rfl⟩]; exact hd
  · rw [List.length_cons] at hi ⊢
    rw [iv_row _ _ _ (by decide), iv_si]
    by_cases e : i = st.length
    · rw [if_pos ⟨rfl, e⟩, e, show st.length + 1 - 1 - st.length = 0 by omega]; rfl
    · rw [if_neg (fun z => e z.2), iv_row _ _ _ (by decide), h.2.2 i (by omega), show st.length + 1 - 1 - i = (st.length - 1 - i) + 1 by omega]
      rfl
def str' (x : Nat) : Nat := if x = 13 then 1 else if x = 12 then 2 else if x = 11 then 3 else 0
theorem e_str {τ : Mm} {x : Nat} (hx : x < 2 ^ 31) : f_X11_strength N (nI x) τ = some (nI (str' x), τ) := by
  unfold f_X11_strength f_X11_strength_31 str'
  have e : ∀ k, k < 100 → (nI x = nI k ↔ x = k) := fun k hk => nI_eq hx (by omega)
  simp only [show (13 : Int32) = nI 13 from rfl, show (12 : Int32) = nI 12 from rfl, show (11 : Int32) = nI 11 from rfl, e 13 (by decide), e 12 (by decide), e 11 (by decide)]
  repeat (split; · rfl)
  rfl
abbrev pw' (l : Nat) : Nat → Bool := fun x => decide (l ≤ str' x)
theorem puts_eq {τ : Mm} {k p : Nat} {c : List Nat} {x y : Nat} (hw : w < 6) (h : LM τ b t w k p c) (hl : c.length < 400) : f_X11_puts N 63 (nI x) (nI y) τ = some (si (si τ 65 (400 * w + c.length) (nI (x + 16 * y))) 66 w (nI (c.length + 1))) := by
  obtain ⟨h1, h2, h3, h4, h5⟩ := h
  have hm := h1.1
  have m1 : WFm (si τ 65 (400 * w + c.length) (nI (x + 16 * y))) := hm
  unfold f_X11_puts
  rw [m_g3 hm, Option.bind_some, m_gI hm, Option.bind_some, h2, m_g4 hm, Option.bind_some, Option.bind_some, m_aI hm (a := 66) (n := 7) (c := w) (by decide) rfl rfl (by omega) (by decide), Option.bind_some, h4, show (400 : Int32) = nI 400 from rfl, pk_mul, nI_add, show (16 : Int32) = nI 16 from rfl, pk_mul, nI_add, m_sI hm (a := 65) (n := 2400) (c := 400 * w + c.length) (by decide) rfl rfl (by omega) (by decide), Option.bind_some, m_g4 m1, Option.bind_some, m_gI m1, Option.bind_some, iv_row _ _ _ (show 63 ≠ 65 by decide), h2, m_aI m1 (a := 66) (n := 7) (c := w) (by decide) rfl rfl (by omega) (by decide), Option.bind_some, iv_row _ _ _ (show 66 ≠ 65 by decide), h4, nI_1, m_sI m1 (a := 66) (n := 7) (c := w) (by decide) rfl rfl (by omega) (by decide), Option.bind_some]
theorem settle0 (hw : w < 6) {k p l : Nat} (hl : 1 ≤ l ∧ l ≤ 3) : ∀ (st : List Nat) (fu : Nat) (τ : Mm) (cM : List Nat), st.length < fu → oks st → LM τ b t w k p cM → SK τ st → cM.length + st.length ≤ 400 → ∃ τ', f_X11_settles_0 N fu 63 (nI l) τ = some τ' ∧ SF w τ τ' ∧ LM τ' b t w k p (cM ++ st.takeWhile (pw' l)) ∧ SK τ' (st.dropWhile (pw' l)) ∧ iv τ' 63 12 = iv τ 63 12 := by
  intro st
  induction st with
  | nil =>
    intro fu τ cM h1 ho hM hS hc
    obtain ⟨fu, rfl⟩ : ∃ q, fu = q + 1 := ⟨fu - 1, by omega⟩
    refine ⟨τ, ?_, SF.rf _, by simpa using hM, hS, rfl⟩
    rw [f_X11_settles_0, m_gI hM.1.1, Option.bind_some, hS.1, if_pos (show nI ([] : List Nat).length ≤ 0 by decide), f_X11_settles_76]
  | cons x st ih =>
    intro fu τ cM h1 ho hM hS hc
    obtain ⟨fu, rfl⟩ : ∃ q, fu = q + 1 := ⟨fu - 1, by omega⟩
    have hm := hM.1.1
    have hx := ho x (by simp)
    have hlen : (x :: st).length = st.length + 1 := rfl
    rw [hlen] at hc h1
    have top : iv τ 72 st.length = nI x := by
      have := hS.2.2 st.length (by rw [hlen]; omega)
      rw [hlen, show st.length + 1 - 1 - st.length = 0 by omega] at this
      exact this
    have head : f_X11_settles_0 N (fu + 1) 63 (nI l) τ = if nI (str' x) < nI l then some τ else ((pI 11 20 τ 63 (nI st.length)).bind fun s9 =>
          (gN 11 19 s9 63).bind fun a10 =>
          (gI 11 20 s9 63).bind fun x11 =>
          (aI 113 s9 a10 x11).bind fun x12 =>
          (ob 11 s9 63).bind fun _ =>
          (f_X11_puts N 63 x12 (0 : Int32) s9).bind fun q13 =>
          (gN 11 19 q13 63).bind fun a14 =>
          (gI 11 20 q13 63).bind fun x15 =>
          (aI 113 q13 a14 x15).bind fun x16 =>
          if x16 = (11 : Int32) then (
            (gI 11 17 q13 63).bind fun x18 =>
            (pI 11 17 q13 63 (x18 - (1 : Int32))).bind fun s19 =>
            f_X11_settles_0 N fu 63 (nI l) s19) else (
            f_X11_settles_0 N fu 63 (nI l) q13)) := by
      rw [f_X11_settles_0, m_gI hm, Option.bind_some, hS.1, hlen, if_neg (show ¬ nI (st.length + 1) ≤ 0 from fun z => by have := (npos_iff (by omega)).1 z; omega), m_g19 hm, Option.bind_some, Option.bind_some, show (1 : Int32) = nI 1 from rfl, pk_sub (by omega), show st.length + 1 - 1 = st.length by omega, m_aI hm (a := 72) (n := 400) (c := st.length) (by decide) rfl rfl (by omega) (by decide), Option.bind_some, top, e_str (by omega), Option.bind_some]
      by_cases q : nI (str' x) < nI l
      · rw [if_pos q, if_pos q, f_X11_settles_76]
      · rw [if_neg q, if_neg q]
        simp only []
        rw [m_gI hm, Option.bind_some, hS.1, hlen, pk_sub (by omega), show st.length + 1 - 1 = st.length by omega]
    rw [head]
    have sl : str' x ≤ 3 := by unfold str'; (repeat' split) <;> omega
    by_cases q : l ≤ str' x
    · rw [if_neg (show ¬ nI (str' x) < nI l by rw [nI_ltI (by omega) (by omega)]; omega), List.takeWhile_cons_of_pos (p := pw' l) (decide_eq_true q), List.dropWhile_cons_of_pos (p := pw' l) (decide_eq_true q)]
      obtain ⟨s1, e1⟩ : ∃ s, s = si τ 63 20 (nI st.length) := ⟨_, rfl⟩
      have hM1 : LM s1 b t w k p cM := by rw [e1]; exact hM.stk (Or.inr rfl)
      have sf1 : SF w τ s1 := by rw [e1]; exact SF.fld (by decide)
      obtain ⟨s2, a1, a2, a3⟩ := e_puts (N := N) (x := x) (y := 0) hw hM1 (by omega)
      have s12 : iv s2 63 12 = iv τ 63 12 := by
        have e := puts_eq (N := N) (x := x) (y := 0) hw hM1 (by omega)
        rw [a1] at e
        rw [Option.some.inj e, iv_row _ _ _ (by decide), iv_row _ _ _ (by decide), e1, iv_si, if_neg (by decide)]
      have i72 : iv s2 72 = iv τ 72 := by rw [a2.2.2.1 72 (by decide) (by decide) (by decide), e1, iv_row _ _ _ (by decide)]
      have i20 : iv s2 63 20 = nI st.length := by rw [a2.2.2.2.1 20 (by decide) (by decide) (by decide) (by decide), e1, iv_si, if_pos ⟨rfl, rfl⟩]
      have i17 : iv s2 63 17 = nI (dp (x :: st)) := by rw [a2.2.2.2.1 17 (by decide) (by decide) (by decide) (by decide), e1, iv_si, if_neg (by decide)]; exact hS.2.1
      have rows : ∀ s, iv s 72 = iv τ 72 → ∀ i, i < st.length → iv s 72 i = nI (st.getD (st.length - 1 - i) 0) := fun s hs i hi => by
        rw [hs, hS.2.2 i (by rw [hlen]; omega), hlen, show st.length + 1 - 1 - i = (st.length - 1 - i) + 1 by omega]
        rfl
      have lc : (cM ++ [x + 16 * 0]).length = cM.length + 1 := by rw [List.length_append]; rfl
      have mid : ((pI 11 20 τ 63 (nI st.length)).bind fun s9 =>
          (gN 11 19 s9 63).bind fun a10 =>
          (gI 11 20 s9 63).bind fun x11 =>
          (aI 113 s9 a10 x11).bind fun x12 =>
          (ob 11 s9 63).bind fun _ =>
          (f_X11_puts N 63 x12 (0 : Int32) s9).bind fun q13 =>
          (gN 11 19 q13 63).bind fun a14 =>
          (gI 11 20 q13 63).bind fun x15 =>
          (aI 113 q13 a14 x15).bind fun x16 =>
          if x16 = (11 : Int32) then (
            (gI 11 17 q13 63).bind fun x18 =>
            (pI 11 17 q13 63 (x18 - (1 : Int32))).bind fun s19 =>
            f_X11_settles_0 N fu 63 (nI l) s19) else (
            f_X11_settles_0 N fu 63 (nI l) q13)) = if x = 11 then f_X11_settles_0 N fu 63 (nI l) (si s2 63 17 (nI (dp st))) else f_X11_settles_0 N fu 63 (nI l) s2 := by
        rw [m_pI hm, Option.bind_some, ← e1, m_g19 hM1.1.1, Option.bind_some, m_gI hM1.1.1, Option.bind_some, show iv s1 63 20 = nI st.length by rw [e1, iv_si, if_pos ⟨rfl, rfl⟩], m_aI hM1.1.1 (a := 72) (n := 400) (c := st.length) (by decide) rfl rfl (by omega) (by decide), Option.bind_some, show iv s1 72 st.length = nI x by rw [e1, iv_row _ _ _ (by decide)]; exact top, m_ob hM1.1.1, Option.bind_some, show f_X11_puts N 63 (nI x) (0 : Int32) s1 = some s2 from a1, Option.bind_some, m_g19 a3.1.1, Option.bind_some, m_gI a3.1.1, Option.bind_some, i20, m_aI a3.1.1 (a := 72) (n := 400) (c := st.length) (by decide) rfl rfl (by omega) (by decide), Option.bind_some, show iv s2 72 st.length = nI x by rw [i72]; exact top]
        by_cases z : x = 11
        · rw [if_pos z, if_pos (show nI x = 11 by rw [z]; rfl), m_gI a3.1.1, Option.bind_some, i17, dp_cons, if_pos (Or.inl z), show (1 : Int32) = nI 1 from rfl, pk_sub (by omega), show 1 + dp st - 1 = dp st by omega, m_pI a3.1.1, Option.bind_some]
        · rw [if_neg z, if_neg (show ¬ nI x = 11 from nIk (by omega) (by decide) z)]
      rw [mid]
      by_cases z : x = 11
      · rw [if_pos z]
        obtain ⟨τ', f1, f2, f3, f4, f5⟩ := ih fu (si s2 63 17 (nI (dp st))) (cM ++ [x + 16 * 0]) (by omega) (fun y hy => ho y (by simp [hy])) (a3.stk (Or.inl rfl)) ⟨by rw [iv_si, if_neg (by decide)]; exact i20, by rw [iv_si, if_pos ⟨rfl, rfl⟩], rows _ (by rw [iv_row _ _ _ (by decide)]; exact i72)⟩ (by omega)
        exact ⟨τ', f1, sf1.tr (a2.sf.tr ((SF.fld (by decide)).tr f2)), by simpa [List.append_assoc] using f3, f4, by rw [f5, iv_si, if_neg (by decide)]; exact s12⟩
      · rw [if_neg z]
        have x91 : ¬ (x = 11 ∨ x = 91) := by
          intro y
          rcases y with y | y
          · exact z y
          · rw [y] at q; have : str' 91 = 0 := rfl; omega
        obtain ⟨τ', f1, f2, f3, f4, f5⟩ := ih fu s2 (cM ++ [x + 16 * 0]) (by omega) (fun y hy => ho y (by simp [hy])) a3 ⟨i20, by rw [i17, dp_cons, if_neg x91, Nat.zero_add], rows _ i72⟩ (by omega)
        exact ⟨τ', f1, sf1.tr (a2.sf.tr f2), by simpa [List.append_assoc] using f3, f4, f5.trans s12⟩
    · rw [if_pos (nI_lt (by omega) (by omega)), List.takeWhile_cons_of_neg (p := pw' l) (by simpa using q), List.dropWhile_cons_of_neg (p := pw' l) (by simpa using q), List.append_nil]
      exact ⟨τ, rfl, SF.rf _, hM, hS, rfl⟩
theorem e_settle (hN : 500 ≤ N) (hw : w < 6) {k p l : Nat} {st : List Nat} {τ : Mm} {cM : List Nat} (hl : 1 ≤ l ∧ l ≤ 3) (ho : oks st) (hM : LM τ b t w k p cM) (hS : SK τ st) (hc : cM.length + st.length ≤ 400) : ∃ τ', f_X11_settles N 63 (nI l) τ = some τ' ∧ SF w τ τ' ∧ LM τ' b t w k p (cM ++ st.takeWhile (pw' l)) ∧ SK τ' (st.dropWhile (pw' l)) := by
  obtain ⟨τ', f1, f2, f3, f4, _⟩ := settle0 (N := N) hw hl st N τ cM (by omega) ho hM hS hc
  exact ⟨τ', f1, f2, f3, f4⟩
theorem e_settlep (hN : 500 ≤ N) (hw : w < 6) {k p l : Nat} {st : List Nat} {τ : Mm} {cM : List Nat} (hl : 1 ≤ l ∧ l ≤ 3) (ho : oks st) (hM : LM τ b t w k p cM) (hS : SK τ st) (hc : cM.length + st.length ≤ 400) : ∃ τ', f_X11_settles N 63 (nI l) τ = some τ' ∧ SF w τ τ' ∧ LM τ' b t w k p (cM ++ st.takeWhile (pw' l)) ∧ SK τ' (st.dropWhile (pw' l)) ∧ iv τ' 63 12 = iv τ 63 12 := settle0 hw hl st N τ cM (by omega) ho hM hS hc
theorem e_inside (hN : 500 ≤ N) {st : List Nat} {τ : Mm} (hm : WFm τ) (ho : oks st) (hS : SK τ st) (hl : st.length ≤ 400) : (91 ∈ st → f_X11_isInside N 63 τ = some (1, τ)) ∧ (91 ∉ st → f_X11_isInside N 63 τ = some (0, τ)) := by
  have step : ∀ d i fu, i + d = st.length → d < fu → ((∃ j, i ≤ j ∧ j < st.length ∧ st.getD (st.length - 1 - j) 0 = 91) → f_X11_isInside_2 N fu 63 (nI i) τ = some (1, τ)) ∧ ((∀ j, i ≤ j → j < st.length → st.getD (st.length - 1 - j) 0 ≠ 91) → f_X11_isInside_2 N fu 63 (nI i) τ = some (0, τ)) := by
    intro d
    induction d with
    | zero =>
      intro i fu h1 h2
      obtain ⟨fu, rfl⟩ : ∃ q, fu = q + 1 := ⟨fu - 1, by omega⟩
      refine ⟨fun ⟨j, a, c, _⟩ => by omega, fun _ => ?_⟩
      rw [f_X11_isInside_2, m_gI hm, Option.bind_some, hS.1, if_pos (nI_le (by omega) (by omega))]
    | succ d ih =>
      intro i fu h1 h2
      obtain ⟨fu, rfl⟩ : ∃ q, fu = q + 1 := ⟨fu - 1, by omega⟩
      obtain ⟨i1, i2⟩ := ih (i + 1) fu (by omega) (by omega)
      have mem : st.getD (st.length - 1 - i) 0 ∈ st := by
        rw [List.getD_eq_getElem?_getD, List.getElem?_eq_getElem (by omega)]
        exact List.getElem_mem _
      have hx := ho _ mem
      have head : f_X11_isInside_2 N (fu + 1) 63 (nI i) τ = if st.getD (st.length - 1 - i) 0 = 91 then some (1, τ) else f_X11_isInside_2 N fu 63 (nI (i + 1)) τ := by
        rw [f_X11_isInside_2, m_gI hm, Option.bind_some, hS.1, if_neg (nI_ge (by omega) (by omega)), m_g19 hm, Option.bind_some, m_aI hm (a := 72) (n := 400) (c := i) (by decide) rfl rfl (by omega) (by decide), Option.bind_some, hS.2.2 i (by omega)]
        by_cases z : st.getD (st.length - 1 - i) 0 = 91
        · rw [if_pos z, if_pos (show nI (st.getD (st.length - 1 - i) 0) = 91 by rw [z]; rfl)]
        · rw [if_neg z, if_neg (show ¬ nI (st.getD (st.length - 1 - i) 0) = 91 from nIk (by omega) (by decide) z), nI_1]
      rw [head]
      refine ⟨fun ⟨j, a, c, e⟩ => ?_, fun h => ?_⟩
      · by_cases z : st.getD (st.length - 1 - i) 0 = 91
        · rw [if_pos z]
        · rw [if_neg z]
          exact i1 ⟨j, by
            by_cases y : j = i
            · rw [y] at e; exact absurd e z
            · omega, c, e⟩
      · rw [if_neg (h i (Nat.le_refl _) (by omega))]
        exact i2 (fun j a c => h j (by omega) c)
  obtain ⟨q1, q2⟩ := step st.length 0 N (by omega) (by omega)
  constructor
  · intro h
    apply q1
    obtain ⟨j, hj, e⟩ := List.getElem_of_mem h
    refine ⟨st.length - 1 - j, Nat.zero_le _, by omega, ?_⟩
    rw [show st.length - 1 - (st.length - 1 - j) = j by omega, List.getD_eq_getElem?_getD, List.getElem?_eq_getElem hj, e]
    rfl
  · intro h
    apply q2
    intro j _ hj e
    apply h
    rw [← e, List.getD_eq_getElem?_getD, List.getElem?_eq_getElem (by omega)]
    exact List.getElem_mem _
end LSt
