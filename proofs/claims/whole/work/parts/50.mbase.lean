/-! the model's memory: where its rows lie -/
def WFm (τ : Mm) : Prop := 85 ≤ nn τ ∧ (rv τ 63 0 = some 64 ∧ rv τ 63 3 = some 65 ∧ rv τ 63 4 = some 66 ∧ rv τ 63 5 = some 67 ∧ rv τ 63 6 = some 68 ∧ rv τ 63 9 = some 69 ∧ rv τ 63 10 = some 70 ∧ rv τ 63 11 = some 71 ∧ rv τ 63 19 = some 72 ∧ rv τ 63 21 = some 73 ∧ rv τ 63 23 = some 74 ∧ rv τ 63 24 = some 75 ∧ rv τ 63 25 = some 76 ∧ rv τ 63 26 = some 77 ∧ rv τ 63 27 = some 78 ∧ rv τ 63 29 = some 79 ∧ rv τ 63 30 = some 80 ∧ rv τ 63 31 = some 81 ∧ rv τ 63 32 = some 82)
theorem WFm_si (τ : Mm) (o k : Nat) (v : Int32) : WFm (si τ o k v) = WFm τ := rfl
theorem WFm_sj (τ : Mm) (o k : Nat) (v : Int64) : WFm (sj τ o k v) = WFm τ := rfl
section MB
variable {τ : Mm}
theorem m_gI (h : WFm τ) (j : Nat) : gI 11 j τ 63 = some (iv τ 63 j) := by unfold gI; rw [if_pos ⟨pp_lt (by have := h.1; omega) h.1, rfl⟩]
theorem m_pI (h : WFm τ) (j : Nat) (v : Int32) : pI 11 j τ 63 v = some (si τ 63 j v) := by unfold pI; rw [if_pos ⟨pp_lt (by have := h.1; omega) h.1, rfl⟩]
theorem m_ob (h : WFm τ) : ob 11 τ 63 = some () := by unfold ob; rw [if_pos ⟨pp_lt (by have := h.1; omega) h.1, rfl⟩]
theorem m_gN (h : WFm τ) {j r : Nat} (hr : rv τ 63 j = some r) : gN 11 j τ 63 = some r := by unfold gN; rw [if_pos ⟨pp_lt (by have := h.1; omega) h.1, rfl⟩]; exact hr
theorem m_g0 (h : WFm τ) : gN 11 0 τ 63 = some 64 := m_gN h h.2.1
theorem m_g3 (h : WFm τ) : gN 11 3 τ 63 = some 65 := m_gN h h.2.2.1
theorem m_g4 (h : WFm τ) : gN 11 4 τ 63 = some 66 := m_gN h h.2.2.2.1
theorem m_g5 (h : WFm τ) : gN 11 5 τ 63 = some 67 := m_gN h h.2.2.2.2.1
theorem m_g6 (h : WFm τ) : gN 11 6 τ 63 = some 68 := m_gN h h.2.2.2.2.2.1
theorem m_g9 (h : WFm τ) : gN 11 9 τ 63 = some 69 := m_gN h h.2.2.2.2.2.2.1
theorem m_g10 (h : WFm τ) : gN 11 10 τ 63 = some 70 := m_gN h h.2.2.2.2.2.2.2.1
theorem m_g11 (h : WFm τ) : gN 11 11 τ 63 = some 71 := m_gN h h.2.2.2.2.2.2.2.2.1
theorem m_g19 (h : WFm τ) : gN 11 19 τ 63 = some 72 := m_gN h h.2.2.2.2.2.2.2.2.2.1
theorem m_g21 (h : WFm τ) : gN 11 21 τ 63 = some 73 := m_gN h h.2.2.2.2.2.2.2.2.2.2.1
theorem m_g23 (h : WFm τ) : gN 11 23 τ 63 = some 74 := m_gN h h.2.2.2.2.2.2.2.2.2.2.2.1
theorem m_g24 (h : WFm τ) : gN 11 24 τ 63 = some 75 := m_gN h h.2.2.2.2.2.2.2.2.2.2.2.2.1
theorem m_g25 (h : WFm τ) : gN 11 25 τ 63 = some 76 := m_gN h h.2.2.2.2.2.2.2.2.2.2.2.2.2.1
theorem m_g26 (h : WFm τ) : gN 11 26 τ 63 = some 77 := m_gN h h.2.2.2.2.2.2.2.2.2.2.2.2.2.2.1
theorem m_g27 (h : WFm τ) : gN 11 27 τ 63 = some 78 := m_gN h h.2.2.2.2.2.2.2.2.2.2.2.2.2.2.2.1
theorem m_g29 (h : WFm τ) : gN 11 29 τ 63 = some 79 := m_gN h h.2.2.2.2.2.2.2.2.2.2.2.2.2.2.2.2.1
theorem m_g30 (h : WFm τ) : gN 11 30 τ 63 = some 80 := m_gN h h.2.2.2.2.2.2.2.2.2.2.2.2.2.2.2.2.2.1
theorem m_g31 (h : WFm τ) : gN 11 31 τ 63 = some 81 := m_gN h h.2.2.2.2.2.2.2.2.2.2.2.2.2.2.2.2.2.2.1
theorem m_g32 (h : WFm τ) : gN 11 32 τ 63 = some 82 := m_gN h h.2.2.2.2.2.2.2.2.2.2.2.2.2.2.2.2.2.2.2
theorem m_aI (h : WFm τ) {a n : Nat} (ha : a < 85) (hs : SH a = (113, n)) {i : Int32} {c : Nat} (hi : i = nI c) (hc : c < n) (hn : n < 2 ^ 31) : aI 113 τ a i = some (iv τ a c) := by
  subst hi
  unfold aI
  rw [hs, if_pos ⟨⟨pp_lt (by have := h.1; omega) h.1, rfl⟩, nI_pos (by omega), by rw [nI_clamp (by omega)]; exact hc⟩, nI_clamp (by omega)]
theorem m_sI (h : WFm τ) {a n : Nat} (ha : a < 85) (hs : SH a = (113, n)) {i v : Int32} {c : Nat} (hi : i = nI c) (hc : c < n) (hn : n < 2 ^ 31) : sI 113 τ a i v = some (si τ a c v) := by
  subst hi
  unfold sI
  rw [hs, if_pos ⟨⟨pp_lt (by have := h.1; omega) h.1, rfl⟩, nI_pos (by omega), by rw [nI_clamp (by omega)]; exact hc⟩, nI_clamp (by omega)]
theorem m_aB (h : WFm τ) {i : Int32} {c : Nat} (hi : i = nI c) (hc : c < 400) : aI 112 τ 64 i = some (iv τ 64 c) := by
  subst hi
  unfold aI
  rw [if_pos ⟨⟨pp_lt (by have := h.1; omega) h.1, rfl⟩, nI_pos (by omega), by rw [nI_clamp (by omega)]; exact hc⟩, nI_clamp (by omega)]
theorem m_sB (h : WFm τ) {i v : Int32} {c : Nat} (hi : i = nI c) (hc : c < 400) : sB 112 τ 64 i v = some (si τ 64 c (vp_nar .byte v)) := by
  subst hi
  unfold sB sI
  rw [if_pos ⟨⟨pp_lt (by have := h.1; omega) h.1, rfl⟩, nI_pos (by omega), by rw [nI_clamp (by omega)]; exact hc⟩, nI_clamp (by omega)]
theorem m_aZ (h : WFm τ) {i : Int32} {c : Nat} (hi : i = nI c) (hc : c < 4) : aI 115 τ 82 i = some (iv τ 82 c) := by
  subst hi
  unfold aI
  rw [if_pos ⟨⟨pp_lt (by have := h.1; omega) h.1, rfl⟩, nI_pos (by omega), by rw [nI_clamp (by omega)]; exact hc⟩, nI_clamp (by omega)]
theorem m_sZ (h : WFm τ) {i v : Int32} {c : Nat} (hi : i = nI c) (hc : c < 4) : sZ 115 τ 82 i v = some (si τ 82 c (vp_nar .boolean v)) := by
  subst hi
  unfold sZ sI
  rw [if_pos ⟨⟨pp_lt (by have := h.1; omega) h.1, rfl⟩, nI_pos (by omega), by rw [nI_clamp (by omega)]; exact hc⟩, nI_clamp (by omega)]
theorem m_aJ (h : WFm τ) {a n : Nat} (ha : a < 85) (hs : SH a = (114, n)) {i : Int32} {c : Nat} (hi : i = nI c) (hc : c < n) (hn : n < 2 ^ 31) : aJ 114 τ a i = some (jv τ a c) := by
  subst hi
  unfold aJ
  rw [hs, if_pos ⟨⟨pp_lt (by have := h.1; omega) h.1, rfl⟩, nI_pos (by omega), by rw [nI_clamp (by omega)]; exact hc⟩, nI_clamp (by omega)]
theorem m_sJ (h : WFm τ) {a n : Nat} (ha : a < 85) (hs : SH a = (114, n)) {i : Int32} {v : Int64} {c : Nat} (hi : i = nI c) (hc : c < n) (hn : n < 2 ^ 31) : sJ 114 τ a i v = some (sj τ a c v) := by
  subst hi
  unfold sJ
  rw [hs, if_pos ⟨⟨pp_lt (by have := h.1; omega) h.1, rfl⟩, nI_pos (by omega), by rw [nI_clamp (by omega)]; exact hc⟩, nI_clamp (by omega)]
end MB
/-! numbers -/
theorem cmp_lt (x y : Int64) : lg_cmp x y < 0 ↔ x < y := by
  unfold lg_cmp
  by_cases h1 : y < x
  · simp only [h1, if_true]
    exact ⟨fun h => absurd h (by decide), fun h => absurd (Int64.lt_trans h h1) Int64.lt_irrefl⟩
  · by_cases h2 : x = y
    · subst h2
      simp only [Int64.lt_irrefl, if_false, if_true]
      exact ⟨fun h => absurd h (by decide), fun h => h.elim⟩
    · simp only [h1, h2, if_false]
      exact ⟨fun _ => Int64.lt_of_le_of_ne (Int64.not_lt.mp h1) h2, fun _ => by decide⟩
theorem cmp_gt (x y : Int64) : 0 < lg_cmp x y ↔ y < x := by
  unfold lg_cmp
  by_cases h1 : y < x
  · simp only [h1, if_true]
    exact ⟨fun _ => trivial, fun _ => by decide⟩
  · by_cases h2 : x = y
    · subst h2
      simp only [Int64.lt_irrefl, if_false, if_true]
      exact ⟨fun h => absurd h (by decide), fun h => h.elim⟩
    · simp only [h1, h2, if_false]
      exact ⟨fun h => absurd h (by decide), fun h => h.elim⟩
theorem cmp_eq (x y : Int64) : lg_cmp x y = 0 ↔ x = y := by
  unfold lg_cmp
  by_cases h1 : y < x
  · simp only [h1, if_true]
    exact ⟨fun h => absurd h (by decide), fun h => by subst h; exact absurd h1 Int64.lt_irrefl⟩
  · by_cases h2 : x = y
    · subst h2
      simp [Int64.lt_irrefl]
    · simp only [h1, h2, if_false]
      exact ⟨fun h => absurd h (by decide), fun h => h.elim⟩
theorem cmp_ge (x y : Int64) : 0 ≤ lg_cmp x y ↔ y ≤ x := by
  rw [← Int32.not_lt, cmp_lt, Int64.not_lt]
theorem cmp_le (x y : Int64) : lg_cmp x y ≤ 0 ↔ x ≤ y := by
  rw [← Int32.not_lt, cmp_gt, Int64.not_lt]
theorem i64_le (a b : Int32) : a.toInt64 ≤ b.toInt64 ↔ a ≤ b := by
  rw [Int64.le_iff_toInt_le, Int32.le_iff_toInt_le, Int32.toInt_toInt64, Int32.toInt_toInt64]
theorem i64_lt (a b : Int32) : a.toInt64 < b.toInt64 ↔ a < b := by
  rw [Int64.lt_iff_toInt_lt, Int32.lt_iff_toInt_lt, Int32.toInt_toInt64, Int32.toInt_toInt64]
/-- yes or no, as an int -/
def bi (p : Prop) [Decidable p] : Int32 := if p then 1 else 0
theorem bi_01 (p : Prop) [Decidable p] : bi p = 0 ∨ bi p = 1 := by unfold bi; by_cases h : p <;> simp [h]
theorem bi_0 (p : Prop) [Decidable p] : bi p = 0 ↔ ¬ p := by unfold bi; by_cases h : p <;> simp [h]
theorem bi_1 (p : Prop) [Decidable p] : bi p = 1 ↔ p := by unfold bi; by_cases h : p <;> simp [h]
theorem bi_y {p : Prop} [Decidable p] (h : p) : bi p = 1 := by unfold bi; rw [if_pos h]
theorem bi_n {p : Prop} [Decidable p] (h : ¬ p) : bi p = 0 := by unfold bi; rw [if_neg h]
