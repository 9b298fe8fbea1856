section KB
variable {σ : Mm}
theorem k_gI (h : WFc σ) {o c : Nat} (j : Nat) (ho : o < 85) (hs : (SH o).1 = c) : gI c j σ o = some (iv σ o j) := by unfold gI; rw [if_pos ⟨pp_lt (by have := h.1; omega) h.1, hs⟩]
theorem k_pI (h : WFc σ) {o c : Nat} (j : Nat) (v : Int32) (ho : o < 85) (hs : (SH o).1 = c) : pI c j σ o v = some (si σ o j v) := by unfold pI; rw [if_pos ⟨pp_lt (by have := h.1; omega) h.1, hs⟩]
theorem k_pZ (h : WFc σ) {o c : Nat} (j : Nat) {v : Int32} (hv : v = 0 ∨ v = 1) (ho : o < 85) (hs : (SH o).1 = c) : pZ c j σ o v = some (si σ o j v) := by unfold pZ; rw [if_pos ⟨⟨pp_lt (by have := h.1; omega) h.1, hs⟩, hv⟩]
theorem k_pR (h : WFc σ) {o c : Nat} (j : Nat) (r : Option Nat) (ho : o < 85) (hs : (SH o).1 = c) : pR c j σ o r = some (sr σ o j r) := by unfold pR; rw [if_pos ⟨pp_lt (by have := h.1; omega) h.1, hs⟩]
theorem k_ob (h : WFc σ) {o c : Nat} (ho : o < 85) (hs : (SH o).1 = c) : ob c σ o = some () := by unfold ob; rw [if_pos ⟨pp_lt (by have := h.1; omega) h.1, hs⟩]
theorem k_gN (h : WFc σ) {o c j r : Nat} (hr : (o, j, r) ∈ crefs) (ho : o < 85) (hs : (SH o).1 = c) : gN c j σ o = some r := by unfold gN; rw [if_pos ⟨pp_lt (by have := h.1; omega) h.1, hs⟩]; exact h.2.1 _ hr
theorem k_aI (h : WFc σ) {a n : Nat} (ha : a < 85) (hs : SH a = (13, n)) {i : Int32} {c : Nat} (hi : i = nI c) (hc : c < n) (hn : n < 2 ^ 31) : aI 13 σ a i = some (iv σ a c) := by
  subst hi
  unfold aI
  rw [hs, if_pos ⟨⟨pp_lt (by have := h.1; omega) h.1, rfl⟩, nI_pos (by omega), by rw [nI_clamp (by omega)]; exact hc⟩, nI_clamp (by omega)]
theorem k_sI (h : WFc σ) {a n : Nat} (ha : a < 85) (hs : SH a = (13, n)) {i v : Int32} {c : Nat} (hi : i = nI c) (hc : c < n) (hn : n < 2 ^ 31) : sI 13 σ a i v = some (si σ a c v) := by
  subst hi
  unfold sI
  rw [hs, if_pos ⟨⟨pp_lt (by have := h.1; omega) h.1, rfl⟩, nI_pos (by omega), by rw [nI_clamp (by omega)]; exact hc⟩, nI_clamp (by omega)]
theorem k_ln (h : WFc σ) {a n : Nat} (ha : a < 85) (hs : SH a = (13, n)) : ln 0 σ a = some (nI n) := by unfold ln; rw [hs, if_pos ⟨pp_lt (by have := h.1; omega) h.1, (by decide : 12 ≤ 13 % 100), (by decide : 13 % 100 < 18), (rfl : bkc 13 = 0)⟩]; rfl
theorem k_aJ (h : WFc σ) {i : Int32} {c : Nat} (hi : i = nI c) (hc : c < 64) : aJ 14 σ 35 i = some (jv σ 35 c) := by
  subst hi
  unfold aJ
  rw [if_pos ⟨⟨pp_lt (by have := h.1; omega) h.1, rfl⟩, nI_pos (by omega), by rw [nI_clamp (by omega)]; exact hc⟩, nI_clamp (by omega)]
theorem k_sJ (h : WFc σ) {i : Int32} {v : Int64} {c : Nat} (hi : i = nI c) (hc : c < 64) : sJ 14 σ 35 i v = some (sj σ 35 c v) := by
  subst hi
  unfold sJ
  rw [if_pos ⟨⟨pp_lt (by have := h.1; omega) h.1, rfl⟩, nI_pos (by omega), by rw [nI_clamp (by omega)]; exact hc⟩, nI_clamp (by omega)]
theorem k_i0 (h : WFc σ) (j : Nat) : gI 10 j σ 0 = some (iv σ 0 j) := k_gI h j (by decide) rfl
theorem k_p0 (h : WFc σ) (j : Nat) (v : Int32) : pI 10 j σ 0 v = some (si σ 0 j v) := k_pI h j v (by decide) rfl
theorem k_o0 (h : WFc σ) : ob 10 σ 0 = some () := k_ob h (by decide) rfl
theorem k_i1 (h : WFc σ) (j : Nat) : gI 5 j σ 1 = some (iv σ 1 j) := k_gI h j (by decide) rfl
theorem k_p1 (h : WFc σ) (j : Nat) (v : Int32) : pI 5 j σ 1 v = some (si σ 1 j v) := k_pI h j v (by decide) rfl
theorem k_o1 (h : WFc σ) : ob 5 σ 1 = some () := k_ob h (by decide) rfl
theorem k_i3 (h : WFc σ) (j : Nat) : gI 6 j σ 3 = some (iv σ 3 j) := k_gI h j (by decide) rfl
theorem k_p3 (h : WFc σ) (j : Nat) (v : Int32) : pI 6 j σ 3 v = some (si σ 3 j v) := k_pI h j v (by decide) rfl
theorem k_o3 (h : WFc σ) : ob 6 σ 3 = some () := k_ob h (by decide) rfl
theorem k_i7 (h : WFc σ) (j : Nat) : gI 8 j σ 7 = some (iv σ 7 j) := k_gI h j (by decide) rfl
theorem k_p7 (h : WFc σ) (j : Nat) (v : Int32) : pI 8 j σ 7 v = some (si σ 7 j v) := k_pI h j v (by decide) rfl
theorem k_o7 (h : WFc σ) : ob 8 σ 7 = some () := k_ob h (by decide) rfl
theorem k_i8 (h : WFc σ) (j : Nat) : gI 3 j σ 8 = some (iv σ 8 j) := k_gI h j (by decide) rfl
theorem k_p8 (h : WFc σ) (j : Nat) (v : Int32) : pI 3 j σ 8 v = some (si σ 8 j v) := k_pI h j v (by decide) rfl
theorem k_o8 (h : WFc σ) : ob 3 σ 8 = some () := k_ob h (by decide) rfl
theorem k_i33 (h : WFc σ) (j : Nat) : gI 9 j σ 33 = some (iv σ 33 j) := k_gI h j (by decide) rfl
theorem k_p33 (h : WFc σ) (j : Nat) (v : Int32) : pI 9 j σ 33 v = some (si σ 33 j v) := k_pI h j v (by decide) rfl
theorem k_o33 (h : WFc σ) : ob 9 σ 33 = some () := k_ob h (by decide) rfl
theorem k_i36 (h : WFc σ) (j : Nat) : gI 1 j σ 36 = some (iv σ 36 j) := k_gI h j (by decide) rfl
theorem k_p36 (h : WFc σ) (j : Nat) (v : Int32) : pI 1 j σ 36 v = some (si σ 36 j v) := k_pI h j v (by decide) rfl
theorem k_o36 (h : WFc σ) : ob 1 σ 36 = some () := k_ob h (by decide) rfl
theorem k_i42 (h : WFc σ) (j : Nat) : gI 4 j σ 42 = some (iv σ 42 j) := k_gI h j (by decide) rfl
theorem k_p42 (h : WFc σ) (j : Nat) (v : Int32) : pI 4 j σ 42 v = some (si σ 42 j v) := k_pI h j v (by decide) rfl
theorem k_o42 (h : WFc σ) : ob 4 σ 42 = some () := k_ob h (by decide) rfl
theorem k_i47 (h : WFc σ) (j : Nat) : gI 0 j σ 47 = some (iv σ 47 j) := k_gI h j (by decide) rfl
theorem k_p47 (h : WFc σ) (j : Nat) (v : Int32) : pI 0 j σ 47 v = some (si σ 47 j v) := k_pI h j v (by decide) rfl
theorem k_o47 (h : WFc σ) : ob 0 σ 47 = some () := k_ob h (by decide) rfl
theorem k_i51 (h : WFc σ) (j : Nat) : gI 2 j σ 51 = some (iv σ 51 j) := k_gI h j (by decide) rfl
theorem k_p51 (h : WFc σ) (j : Nat) (v : Int32) : pI 2 j σ 51 v = some (si σ 51 j v) := k_pI h j v (by decide) rfl
theorem k_o51 (h : WFc σ) : ob 2 σ 51 = some () := k_ob h (by decide) rfl
theorem k_i53 (h : WFc σ) (j : Nat) : gI 2 j σ 53 = some (iv σ 53 j) := k_gI h j (by decide) rfl
theorem k_p53 (h : WFc σ) (j : Nat) (v : Int32) : pI 2 j σ 53 v = some (si σ 53 j v) := k_pI h j v (by decide) rfl
theorem k_o53 (h : WFc σ) : ob 2 σ 53 = some () := k_ob h (by decide) rfl
theorem k_i55 (h : WFc σ) (j : Nat) : gI 2 j σ 55 = some (iv σ 55 j) := k_gI h j (by decide) rfl
theorem k_p55 (h : WFc σ) (j : Nat) (v : Int32) : pI 2 j σ 55 v = some (si σ 55 j v) := k_pI h j v (by decide) rfl
theorem k_o55 (h : WFc σ) : ob 2 σ 55 = some () := k_ob h (by decide) rfl
theorem k_i57 (h : WFc σ) (j : Nat) : gI 2 j σ 57 = some (iv σ 57 j) := k_gI h j (by decide) rfl
theorem k_p57 (h : WFc σ) (j : Nat) (v : Int32) : pI 2 j σ 57 v = some (si σ 57 j v) := k_pI h j v (by decide) rfl
theorem k_o57 (h : WFc σ) : ob 2 σ 57 = some () := k_ob h (by decide) rfl
theorem k_i59 (h : WFc σ) (j : Nat) : gI 2 j σ 59 = some (iv σ 59 j) := k_gI h j (by decide) rfl
theorem k_p59 (h : WFc σ) (j : Nat) (v : Int32) : pI 2 j σ 59 v = some (si σ 59 j v) := k_pI h j v (by decide) rfl
theorem k_o59 (h : WFc σ) : ob 2 σ 59 = some () := k_ob h (by decide) rfl
theorem k_i61 (h : WFc σ) (j : Nat) : gI 2 j σ 61 = some (iv σ 61 j) := k_gI h j (by decide) rfl
theorem k_p61 (h : WFc σ) (j : Nat) (v : Int32) : pI 2 j σ 61 v = some (si σ 61 j v) := k_pI h j v (by decide) rfl
theorem k_o61 (h : WFc σ) : ob 2 σ 61 = some () := k_ob h (by decide) rfl
theorem k_0_0 (h : WFc σ) : gN 10 0 σ 0 = some 1 := k_gN h (by decide) (by decide) rfl
theorem k_0_1 (h : WFc σ) : gN 10 1 σ 0 = some 3 := k_gN h (by decide) (by decide) rfl
theorem k_0_2 (h : WFc σ) : gN 10 2 σ 0 = some 7 := k_gN h (by decide) (by decide) rfl
theorem k_0_3 (h : WFc σ) : gN 10 3 σ 0 = some 8 := k_gN h (by decide) (by decide) rfl
theorem k_0_4 (h : WFc σ) : gN 10 4 σ 0 = some 9 := k_gN h (by decide) (by decide) rfl
theorem k_0_5 (h : WFc σ) : gN 10 5 σ 0 = some 20 := k_gN h (by decide) (by decide) rfl
theorem k_0_6 (h : WFc σ) : gN 10 6 σ 0 = some 31 := k_gN h (by decide) (by decide) rfl
theorem k_0_7 (h : WFc σ) : gN 10 7 σ 0 = some 32 := k_gN h (by decide) (by decide) rfl
theorem k_0_9 (h : WFc σ) : gN 10 9 σ 0 = some 33 := k_gN h (by decide) (by decide) rfl
theorem k_0_10 (h : WFc σ) : gN 10 10 σ 0 = some 36 := k_gN h (by decide) (by decide) rfl
theorem k_0_11 (h : WFc σ) : gN 10 11 σ 0 = some 42 := k_gN h (by decide) (by decide) rfl
theorem k_0_12 (h : WFc σ) : gN 10 12 σ 0 = some 47 := k_gN h (by decide) (by decide) rfl
theorem k_0_13 (h : WFc σ) : gN 10 13 σ 0 = some 50 := k_gN h (by decide) (by decide) rfl
theorem k_1_0 (h : WFc σ) : gN 5 0 σ 1 = some 2 := k_gN h (by decide) (by decide) rfl
theorem k_3_0 (h : WFc σ) : gN 6 0 σ 3 = some 4 := k_gN h (by decide) (by decide) rfl
theorem k_3_1 (h : WFc σ) : gN 6 1 σ 3 = some 5 := k_gN h (by decide) (by decide) rfl
theorem k_3_2 (h : WFc σ) : gN 6 2 σ 3 = some 6 := k_gN h (by decide) (by decide) rfl
theorem k_7_0 (h : WFc σ) : gN 8 0 σ 7 = some 3 := k_gN h (by decide) (by decide) rfl
theorem k_8_0 (h : WFc σ) : gN 3 0 σ 8 = some 3 := k_gN h (by decide) (by decide) rfl
theorem k_33_0 (h : WFc σ) : gN 9 0 σ 33 = some 34 := k_gN h (by decide) (by decide) rfl
theorem k_33_1 (h : WFc σ) : gN 9 1 σ 33 = some 35 := k_gN h (by decide) (by decide) rfl
theorem k_36_1 (h : WFc σ) : gN 1 1 σ 36 = some 37 := k_gN h (by decide) (by decide) rfl
theorem k_36_2 (h : WFc σ) : gN 1 2 σ 36 = some 38 := k_gN h (by decide) (by decide) rfl
theorem k_36_3 (h : WFc σ) : gN 1 3 σ 36 = some 39 := k_gN h (by decide) (by decide) rfl
theorem k_36_4 (h : WFc σ) : gN 1 4 σ 36 = some 40 := k_gN h (by decide) (by decide) rfl
theorem k_36_5 (h : WFc σ) : gN 1 5 σ 36 = some 41 := k_gN h (by decide) (by decide) rfl
theorem k_42_0 (h : WFc σ) : gN 4 0 σ 42 = some 36 := k_gN h (by decide) (by decide) rfl
theorem k_42_1 (h : WFc σ) : gN 4 1 σ 42 = some 43 := k_gN h (by decide) (by decide) rfl
theorem k_42_2 (h : WFc σ) : gN 4 2 σ 42 = some 44 := k_gN h (by decide) (by decide) rfl
theorem k_42_3 (h : WFc σ) : gN 4 3 σ 42 = some 45 := k_gN h (by decide) (by decide) rfl
theorem k_42_4 (h : WFc σ) : gN 4 4 σ 42 = some 46 := k_gN h (by decide) (by decide) rfl
theorem k_47_0 (h : WFc σ) : gN 0 0 σ 47 = some 9 := k_gN h (by decide) (by decide) rfl
theorem k_47_1 (h : WFc σ) : gN 0 1 σ 47 = some 33 := k_gN h (by decide) (by decide) rfl
theorem k_47_2 (h : WFc σ) : gN 0 2 σ 47 = some 36 := k_gN h (by decide) (by decide) rfl
theorem k_47_3 (h : WFc σ) : gN 0 3 σ 47 = some 48 := k_gN h (by decide) (by decide) rfl
theorem k_47_4 (h : WFc σ) : gN 0 4 σ 47 = some 49 := k_gN h (by decide) (by decide) rfl
theorem k_8_1 (h : WFc σ) : gN 3 1 σ 8 = some 83 := k_gN h (by decide) (by decide) rfl
theorem k_83_0 (h : WFc σ) : gN 2 0 σ 83 = some 84 := k_gN h (by decide) (by decide) rfl
theorem k_i83 (h : WFc σ) (j : Nat) : gI 2 j σ 83 = some (iv σ 83 j) := k_gI h j (by decide) rfl
theorem k_p83 (h : WFc σ) (j : Nat) (v : Int32) : pI 2 j σ 83 v = some (si σ 83 j v) := k_pI h j v (by decide) rfl
theorem k_o83 (h : WFc σ) : ob 2 σ 83 = some () := k_ob h (by decide) rfl
theorem k_32_0 (h : WFc σ) : rv σ 32 0 = some 51 := h.2.1 (32, 0, 51) (by decide)
theorem k_32_1 (h : WFc σ) : rv σ 32 1 = some 53 := h.2.1 (32, 1, 53) (by decide)
theorem k_32_2 (h : WFc σ) : rv σ 32 2 = some 55 := h.2.1 (32, 2, 55) (by decide)
theorem k_32_3 (h : WFc σ) : rv σ 32 3 = some 57 := h.2.1 (32, 3, 57) (by decide)
theorem k_32_4 (h : WFc σ) : rv σ 32 4 = some 59 := h.2.1 (32, 4, 59) (by decide)
theorem k_32_5 (h : WFc σ) : rv σ 32 5 = some 61 := h.2.1 (32, 5, 61) (by decide)
theorem k_51_0 (h : WFc σ) : gN 2 0 σ 51 = some 52 := k_gN h (by decide) (by decide) rfl
theorem k_53_0 (h : WFc σ) : gN 2 0 σ 53 = some 54 := k_gN h (by decide) (by decide) rfl
theorem k_55_0 (h : WFc σ) : gN 2 0 σ 55 = some 56 := k_gN h (by decide) (by decide) rfl
theorem k_57_0 (h : WFc σ) : gN 2 0 σ 57 = some 58 := k_gN h (by decide) (by decide) rfl
theorem k_59_0 (h : WFc σ) : gN 2 0 σ 59 = some 60 := k_gN h (by decide) (by decide) rfl
theorem k_61_0 (h : WFc σ) : gN 2 0 σ 61 = some 62 := k_gN h (by decide) (by decide) rfl
theorem VW.sh {v : Nat} (h : VW σ v) : (SH v).1 = 7 ∧ (∀ i, 1 ≤ i → i ≤ 9 → SH (v + i) = (13, 12)) ∧ SH (v + 10) = (13, 32) := by
  rcases h.1 with e | e | ⟨j, e⟩
  · subst e
    refine ⟨rfl, fun i h1 h2 => ?_, rfl⟩
    have : ∀ i, i < 10 → 1 ≤ i → SH (9 + i) = (13, 12) := by decide
    exact this i (by omega) h1
  · subst e
    refine ⟨rfl, fun i h1 h2 => ?_, rfl⟩
    have : ∀ i, i < 10 → 1 ≤ i → SH (20 + i) = (13, 12) := by decide
    exact this i (by omega) h1
  · subst e
    refine ⟨?_, fun i h1 h2 => ?_, ?_⟩
    · unfold SH; rw [if_neg (by omega), if_pos (by omega)]
    · unfold SH; rw [if_neg (by omega), if_neg (by omega), if_neg (by omega)]
    · unfold SH; rw [if_neg (by omega), if_neg (by omega), if_pos (by omega)]
theorem v_i {v : Nat} (h : VW σ v) (j : Nat) : gI 7 j σ v = some (iv σ v j) := by unfold gI; rw [if_pos ⟨pp_lt (by have := h.2.1; omega) h.2.1.2, h.sh.1⟩]
theorem v_p {v : Nat} (h : VW σ v) (j : Nat) (x : Int32) : pI 7 j σ v x = some (si σ v j x) := by unfold pI; rw [if_pos ⟨pp_lt (by have := h.2.1; omega) h.2.1.2, h.sh.1⟩]
theorem v_o {v : Nat} (h : VW σ v) : ob 7 σ v = some () := by unfold ob; rw [if_pos ⟨pp_lt (by have := h.2.1; omega) h.2.1.2, h.sh.1⟩]
theorem v_gN {v j i : Nat} (h : VW σ v) (hp : (j, i) ∈ vrefs) : gN 7 j σ v = some (v + i) := by unfold gN; rw [if_pos ⟨pp_lt (by have := h.2.1; omega) h.2.1.2, h.sh.1⟩]; exact h.2.2 _ hp
theorem v_g1 {v : Nat} (h : VW σ v) : gN 7 1 σ v = some (v + 1) := v_gN h (by decide)
theorem v_g2 {v : Nat} (h : VW σ v) : gN 7 2 σ v = some (v + 2) := v_gN h (by decide)
theorem v_g3 {v : Nat} (h : VW σ v) : gN 7 3 σ v = some (v + 3) := v_gN h (by decide)
theorem v_g4 {v : Nat} (h : VW σ v) : gN 7 4 σ v = some (v + 4) := v_gN h (by decide)
theorem v_g5 {v : Nat} (h : VW σ v) : gN 7 5 σ v = some (v + 5) := v_gN h (by decide)
theorem v_g6 {v : Nat} (h : VW σ v) : gN 7 6 σ v = some (v + 6) := v_gN h (by decide)
theorem v_g7 {v : Nat} (h : VW σ v) : gN 7 7 σ v = some (v + 7) := v_gN h (by decide)
theorem v_g9 {v : Nat} (h : VW σ v) : gN 7 9 σ v = some (v + 8) := v_gN h (by decide)
theorem v_g10 {v : Nat} (h : VW σ v) : gN 7 10 σ v = some (v + 9) := v_gN h (by decide)
theorem v_g12 {v : Nat} (h : VW σ v) : gN 7 12 σ v = some (v + 10) := v_gN h (by decide)
theorem v_a {v k c : Nat} (h : VW σ v) {i : Int32} (hi : i = nI c) (h1 : 1 ≤ k) (h2 : k ≤ 9) (hc : c < 12) : aI 13 σ (v + k) i = some (iv σ (v + k) c) := by
  subst hi
  unfold aI
  rw [h.sh.2.1 k h1 h2, if_pos ⟨⟨pp_lt (by have := h.2.1; omega) h.2.1.2, rfl⟩, nI_pos (by omega), by rw [nI_clamp (by omega)]; exact hc⟩, nI_clamp (by omega)]
theorem v_s {v k c : Nat} (h : VW σ v) {i x : Int32} (hi : i = nI c) (h1 : 1 ≤ k) (h2 : k ≤ 9) (hc : c < 12) : sI 13 σ (v + k) i x = some (si σ (v + k) c x) := by
  subst hi
  unfold sI
  rw [h.sh.2.1 k h1 h2, if_pos ⟨⟨pp_lt (by have := h.2.1; omega) h.2.1.2, rfl⟩, nI_pos (by omega), by rw [nI_clamp (by omega)]; exact hc⟩, nI_clamp (by omega)]
theorem v_a10 {v c : Nat} (h : VW σ v) {i : Int32} (hi : i = nI c) (hc : c < 32) : aI 13 σ (v + 10) i = some (iv σ (v + 10) c) := by
  subst hi
  unfold aI
  rw [h.sh.2.2, if_pos ⟨⟨pp_lt (by have := h.2.1; omega) h.2.1.2, rfl⟩, nI_pos (by omega), by rw [nI_clamp (by omega)]; exact hc⟩, nI_clamp (by omega)]
theorem v_s10 {v c : Nat} (h : VW σ v) {i x : Int32} (hi : i = nI c) (hc : c < 32) : sI 13 σ (v + 10) i x = some (si σ (v + 10) c x) := by
  subst hi
  unfold sI
  rw [h.sh.2.2, if_pos ⟨⟨pp_lt (by have := h.2.1; omega) h.2.1.2, rfl⟩, nI_pos (by omega), by rw [nI_clamp (by omega)]; exact hc⟩, nI_clamp (by omega)]
theorem v_cp {a b k : Nat} (ha : VW σ a) (hb : VW σ b) (h1 : 1 ≤ k) (h2 : k ≤ 9) : cpA 13 σ (a + k) 0 (b + k) 0 12 = some (cpy σ (a + k) 0 (b + k) 0 12) := by
  unfold cpA
  rw [ha.sh.2.1 k h1 h2, hb.sh.2.1 k h1 h2, if_pos ⟨⟨⟨pp_lt (by have := ha.2.1; omega) ha.2.1.2, rfl⟩, pp_lt (by have := hb.2.1; omega) hb.2.1.2, rfl⟩, ⟨by decide, by decide, by decide⟩, by decide, by decide⟩]
  rfl
theorem v_cp10 {a b : Nat} (ha : VW σ a) (hb : VW σ b) : cpA 13 σ (a + 10) 0 (b + 10) 0 32 = some (cpy σ (a + 10) 0 (b + 10) 0 32) := by
  unfold cpA
  rw [ha.sh.2.2, hb.sh.2.2, if_pos ⟨⟨⟨pp_lt (by have := ha.2.1; omega) ha.2.1.2, rfl⟩, pp_lt (by have := hb.2.1; omega) hb.2.1.2, rfl⟩, ⟨by decide, by decide, by decide⟩, by decide, by decide⟩]
  rfl
theorem now9 (h : WFc σ) : VW σ 9 := h.2.2.1
end KB
