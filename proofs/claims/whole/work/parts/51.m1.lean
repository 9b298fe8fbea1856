section M1
variable {τ : Mm} {N : Nat}
theorem e_in (a b c : Int64) : f_X11_in N a b c τ = some (bi (b ≤ a ∧ a ≤ c), τ) := by
  unfold f_X11_in f_X11_in_17 f_X11_in_18
  simp only [cmp_lt, cmp_gt]
  by_cases h1 : a < b
  · rw [if_pos h1, bi_n (fun h => absurd h1 (Int64.not_lt.mpr h.1))]; rfl
  · by_cases h2 : c < a
    · rw [if_neg h1, if_pos h2, bi_n (fun h => absurd h2 (Int64.not_lt.mpr h.2))]; rfl
    · rw [if_neg h1, if_neg h2, bi_y ⟨Int64.not_lt.mp h1, Int64.not_lt.mp h2⟩]; rfl
theorem e_in32 {b c : Int64} (x y z : Int32) (hb : b = y.toInt64) (hc : c = z.toInt64) : f_X11_in N x.toInt64 b c τ = some (bi (y ≤ x ∧ x ≤ z), τ) := by
  subst hb; subst hc
  rw [e_in]
  simp only [i64_le]
theorem e_isOf (s k : Int32) : f_X11_isOf N s k τ = some (bi ((s >>> (k &&& 31)) &&& 1 = 1), τ) := by
  unfold f_X11_isOf f_X11_isOf_14
  by_cases h : (s >>> (k &&& 31)) &&& 1 = 1
  · rw [if_pos h, bi_y h]; rfl
  · rw [if_neg h, bi_n h]; rfl
theorem e_isPoint (x : Int32) : f_X11_isPoint N x τ = some (bi (0 ≤ x ∧ x < 8), τ) := by
  unfold f_X11_isPoint f_X11_isPoint_14 f_X11_isPoint_15
  by_cases h1 : x < 0
  · rw [if_pos h1, bi_n (fun h => absurd h1 (Int32.not_lt.mpr h.1))]; rfl
  · by_cases h2 : 8 ≤ x
    · rw [if_neg h1, if_pos h2, bi_n (fun h => absurd h.2 (Int32.not_lt.mpr h2))]; rfl
    · rw [if_neg h1, if_neg h2, bi_y ⟨Int32.not_lt.mp h1, Int32.not_le.mp h2⟩]; rfl
theorem e_isWay (x : Int32) : f_X11_isWay N x τ = some (bi (0 ≤ x ∧ x < 4), τ) := by
  unfold f_X11_isWay f_X11_isWay_13 f_X11_isWay_14
  by_cases h1 : x < 0
  · rw [if_pos h1, bi_n (fun h => absurd h1 (Int32.not_lt.mpr h.1))]; rfl
  · by_cases h2 : 4 ≤ x
    · rw [if_neg h1, if_pos h2, bi_n (fun h => absurd h.2 (Int32.not_lt.mpr h2))]; rfl
    · rw [if_neg h1, if_neg h2, bi_y ⟨Int32.not_lt.mp h1, Int32.not_le.mp h2⟩]; rfl
theorem e_isCock (h : WFm τ) (x : Int32) : f_X11_isCock N 63 x τ = some (bi (0 ≤ x ∧ x < iv τ 75 0), τ) := by
  unfold f_X11_isCock f_X11_isCock_18 f_X11_isCock_19
  rw [m_g24 h, Option.bind_some, m_aI h (n := 156) (i := 0) (c := 0) (by decide) rfl rfl (by decide) (by decide), Option.bind_some]
  by_cases h1 : x < 0
  · rw [if_pos h1, bi_n (fun h => absurd h1 (Int32.not_lt.mpr h.1))]; rfl
  · by_cases h2 : iv τ 75 0 ≤ x
    · rw [if_neg h1, if_pos h2, bi_n (fun h => absurd h.2 (Int32.not_lt.mpr h2))]; rfl
    · rw [if_neg h1, if_neg h2, bi_y ⟨Int32.not_lt.mp h1, Int32.not_le.mp h2⟩]; rfl
theorem e_isTree (h : WFm τ) (x : Int32) : f_X11_isTree N 63 x τ = some (bi (0 ≤ x ∧ x < iv τ 75 1), τ) := by
  unfold f_X11_isTree f_X11_isTree_18 f_X11_isTree_19
  rw [m_g24 h, Option.bind_some, m_aI h (n := 156) (i := 1) (c := 1) (by decide) rfl rfl (by decide) (by decide), Option.bind_some]
  by_cases h1 : x < 0
  · rw [if_pos h1, bi_n (fun h => absurd h1 (Int32.not_lt.mpr h.1))]; rfl
  · by_cases h2 : iv τ 75 1 ≤ x
    · rw [if_neg h1, if_pos h2, bi_n (fun h => absurd h.2 (Int32.not_lt.mpr h2))]; rfl
    · rw [if_neg h1, if_neg h2, bi_y ⟨Int32.not_lt.mp h1, Int32.not_le.mp h2⟩]; rfl
theorem e_isSet (h : WFm τ) (x : Int32) : f_X11_isSet N 63 x τ = some (bi (0 ≤ x ∧ x < (1 : Int32) <<< (iv τ 75 0 &&& 31)), τ) := by
  unfold f_X11_isSet f_X11_isSet_20 f_X11_isSet_21
  rw [m_g24 h, Option.bind_some, m_aI h (n := 156) (i := 0) (c := 0) (by decide) rfl rfl (by decide) (by decide), Option.bind_some]
  by_cases h1 : x < 0
  · rw [if_pos h1, bi_n (fun h => absurd h1 (Int32.not_lt.mpr h.1))]; rfl
  · by_cases h2 : (1 : Int32) <<< (iv τ 75 0 &&& 31) ≤ x
    · rw [if_neg h1, if_pos h2, bi_n (fun h => absurd h.2 (Int32.not_lt.mpr h2))]; rfl
    · rw [if_neg h1, if_neg h2, bi_y ⟨Int32.not_lt.mp h1, Int32.not_le.mp h2⟩]; rfl
theorem e_isLaw (h : WFm τ) (x : Int32) : f_X11_isLaw N 63 x τ = some (bi (0 ≤ x ∧ x < iv τ 63 2), τ) := by
  unfold f_X11_isLaw f_X11_isLaw_16 f_X11_isLaw_17
  rw [m_gI h, Option.bind_some]
  by_cases h1 : x < 0
  · rw [if_pos h1, bi_n (fun h => absurd h1 (Int32.not_lt.mpr h.1))]; rfl
  · by_cases h2 : iv τ 63 2 ≤ x
    · rw [if_neg h1, if_pos h2, bi_n (fun h => absurd h.2 (Int32.not_lt.mpr h2))]; rfl
    · rw [if_neg h1, if_neg h2, bi_y ⟨Int32.not_lt.mp h1, Int32.not_le.mp h2⟩]; rfl
theorem e_cockOf (h : WFm τ) {x w : Int32} (c k : Nat) (hx : x = nI c) (hw : w = nI k) (hc : c < 12) (hk : k < 7) : f_X11_cockOf N 63 x w τ = some (iv τ 75 (4 + 7 * c + k), τ) := by
  subst hx; subst hw
  unfold f_X11_cockOf
  rw [m_g24 h, Option.bind_some, m_aI h (n := 156) (c := 4 + 7 * c + k) (by decide) rfl (by rw [← nI_add, ← nI_add, ← pk_mul]; rfl) (by omega) (by decide), Option.bind_some]
theorem e_treeOf (h : WFm τ) {x w : Int32} (c k : Nat) (hx : x = nI c) (hw : w = nI k) (hc : c < 12) (hk : k < 3) : f_X11_treeOf N 63 x w τ = some (iv τ 75 (88 + 3 * c + k), τ) := by
  subst hx; subst hw
  unfold f_X11_treeOf
  rw [m_g24 h, Option.bind_some, m_aI h (n := 156) (c := 88 + 3 * c + k) (by decide) rfl (by rw [← nI_add, ← nI_add, ← pk_mul]; rfl) (by omega) (by decide), Option.bind_some]
theorem e_c0 (h : WFm τ) {c : Nat} (hc : c < 12) : f_X11_cockOf N 63 (nI c) (0 : Int32) τ = some (iv τ 75 (4 + 7 * c + 0), τ) := e_cockOf h c 0 rfl rfl hc (by decide)
theorem e_c1 (h : WFm τ) {c : Nat} (hc : c < 12) : f_X11_cockOf N 63 (nI c) (1 : Int32) τ = some (iv τ 75 (4 + 7 * c + 1), τ) := e_cockOf h c 1 rfl rfl hc (by decide)
theorem e_c2 (h : WFm τ) {c : Nat} (hc : c < 12) : f_X11_cockOf N 63 (nI c) (2 : Int32) τ = some (iv τ 75 (4 + 7 * c + 2), τ) := e_cockOf h c 2 rfl rfl hc (by decide)
theorem e_c3 (h : WFm τ) {c : Nat} (hc : c < 12) : f_X11_cockOf N 63 (nI c) (3 : Int32) τ = some (iv τ 75 (4 + 7 * c + 3), τ) := e_cockOf h c 3 rfl rfl hc (by decide)
theorem e_c4 (h : WFm τ) {c : Nat} (hc : c < 12) : f_X11_cockOf N 63 (nI c) (4 : Int32) τ = some (iv τ 75 (4 + 7 * c + 4), τ) := e_cockOf h c 4 rfl rfl hc (by decide)
theorem e_c5 (h : WFm τ) {c : Nat} (hc : c < 12) : f_X11_cockOf N 63 (nI c) (5 : Int32) τ = some (iv τ 75 (4 + 7 * c + 5), τ) := e_cockOf h c 5 rfl rfl hc (by decide)
theorem e_c6 (h : WFm τ) {c : Nat} (hc : c < 12) : f_X11_cockOf N 63 (nI c) (6 : Int32) τ = some (iv τ 75 (4 + 7 * c + 6), τ) := e_cockOf h c 6 rfl rfl hc (by decide)
theorem e_t0 (h : WFm τ) {c : Nat} (hc : c < 12) : f_X11_treeOf N 63 (nI c) (0 : Int32) τ = some (iv τ 75 (88 + 3 * c + 0), τ) := e_treeOf h c 0 rfl rfl hc (by decide)
theorem e_t1 (h : WFm τ) {c : Nat} (hc : c < 12) : f_X11_treeOf N 63 (nI c) (1 : Int32) τ = some (iv τ 75 (88 + 3 * c + 1), τ) := e_treeOf h c 1 rfl rfl hc (by decide)
theorem e_t2 (h : WFm τ) {c : Nat} (hc : c < 12) : f_X11_treeOf N 63 (nI c) (2 : Int32) τ = some (iv τ 75 (88 + 3 * c + 2), τ) := e_treeOf h c 2 rfl rfl hc (by decide)
theorem e_off (a b : Int32) : f_X11_off N a b τ = some (if ((b - a) &&& 7) ≤ 4 then (b - a) &&& 7 else 8 - ((b - a) &&& 7), τ) := by
  unfold f_X11_off f_X11_off_20
  by_cases h : ((b - a) &&& 7) ≤ 4
  · rw [if_pos h, if_pos h]
  · rw [if_neg h, if_neg h]
end M1
