
section VI
variable {N : Nat} {σ : Mm}
def Vn (σ : Mm) : Prop := ∃ j, nn σ = 85 + 11 * j
theorem shn {v i : Nat} (h : ∃ j, v = 85 + 11 * j) : (i = 0 → (SH (v + i)).1 = 7) ∧ (1 ≤ i → i ≤ 9 → SH (v + i) = (13, 12)) ∧ (i = 10 → SH (v + i) = (13, 32)) := by
  obtain ⟨j, rfl⟩ := h
  refine ⟨fun e => ?_, fun h1 h2 => ?_, fun e => ?_⟩
  · subst e; unfold SH; rw [if_neg (by omega), if_pos (by omega)]
  · unfold SH; rw [if_neg (by omega), if_neg (by omega), if_neg (by omega)]
  · subst e; unfold SH; rw [if_neg (by omega), if_neg (by omega), if_pos (by omega)]
theorem vn_pp (hv : Vn σ) : pp (nn σ) = nn σ := pp_ge (by obtain ⟨j, e⟩ := hv; omega)
theorem vn_pq (hv : Vn σ) : pq (nn σ) = nn σ := pq_ge (by obtain ⟨j, e⟩ := hv; omega)
theorem vn_pk (hv : Vn σ) (k : Nat) : pq (nn σ + k) = nn σ + k := pq_ge (by obtain ⟨j, e⟩ := hv; omega)
theorem vi_p (hv : Vn σ) (s : Mm) (j : Nat) (x : Int32) (h : nn σ < nn s) : pI 7 j s (nn σ) x = some (si s (nn σ) j x) := by
  unfold pI; rw [if_pos ⟨by rw [vn_pp hv]; exact h, (shn (i := 0) hv).1 rfl⟩]
theorem vi_r (hv : Vn σ) (s : Mm) (j : Nat) (x : Option Nat) (h : nn σ < nn s) : pR 7 j s (nn σ) x = some (sr s (nn σ) j x) := by
  unfold pR; rw [if_pos ⟨by rw [vn_pp hv]; exact h, (shn (i := 0) hv).1 rfl⟩]
theorem vi_a (hv : Vn σ) (s : Mm) (i l : Nat) (h : nn s = nn σ + i) (hl : l = (if i = 10 then 32 else 12)) (h1 : 1 ≤ i) (h2 : i ≤ 10) : nA 13 s (nI l) = some (nw s) := by
  have hs : SH (nn s) = (13, l) := by
    rw [h]
    by_cases e : i = 10
    · rw [(shn hv).2.2 e, hl, if_pos e]
    · rw [(shn hv).2.1 h1 (by omega), hl, if_neg e]
  have hl2 : l < 2 ^ 31 := by rw [hl]; by_cases e : i = 10 <;> simp [e]
  unfold nA
  rw [show pq (nn s) = nn s by rw [h]; exact vn_pk hv i, hs, if_pos ⟨rfl, nI_pos hl2, by rw [nI_clamp hl2]⟩]
theorem ltk {a b k : Nat} (h : a = b + (k + 1)) : b < a := by omega
theorem nek {o a : Nat} (h : o < a) (k : Nat) : (o = a + k) = False := by rw [eq_iff_iff, iff_false]; omega
theorem nek0 {o a : Nat} (h : o < a) : (o = a) = False := by rw [eq_iff_iff, iff_false]; omega
theorem vn_24 {a b : Nat} (hb : ∃ j, b = 85 + 11 * j) (h : a = b + 11) : b + 10 < a ∧ 85 ≤ a := by obtain ⟨j, e⟩ := hb; omega
theorem e_vinit (hv : Vn σ) : ∃ σ', f_X7_init N (nn σ) (nw σ) = some σ' ∧ nn σ' = nn σ + 11 ∧ (∀ o, o < nn σ → iv σ' o = iv σ o ∧ rv σ' o = rv σ o) ∧ VW σ' (nn σ) := by
  obtain ⟨s0, h0⟩ : ∃ s, s = nw σ := ⟨_, rfl⟩
  obtain ⟨s1, h1⟩ : ∃ s, s = si s0 (nn σ) 0 0 := ⟨_, rfl⟩
  obtain ⟨s2, h2⟩ : ∃ s, s = nw s1 := ⟨_, rfl⟩
  obtain ⟨s3, h3⟩ : ∃ s, s = sr s2 (nn σ) 1 (some (pq (nn s1))) := ⟨_, rfl⟩
  obtain ⟨s4, h4⟩ : ∃ s, s = nw s3 := ⟨_, rfl⟩
  obtain ⟨s5, h5⟩ : ∃ s, s = sr s4 (nn σ) 2 (some (pq (nn s3))) := ⟨_, rfl⟩
  obtain ⟨s6, h6⟩ : ∃ s, s = nw s5 := ⟨_, rfl⟩
  obtain ⟨s7, h7⟩ : ∃ s, s = sr s6 (nn σ) 3 (some (pq (nn s5))) := ⟨_, rfl⟩
  obtain ⟨s8, h8⟩ : ∃ s, s = nw s7 := ⟨_, rfl⟩
  obtain ⟨s9, h9⟩ : ∃ s, s = sr s8 (nn σ) 4 (some (pq (nn s7))) := ⟨_, rfl⟩
  obtain ⟨s10, h10⟩ : ∃ s, s = nw s9 := ⟨_, rfl⟩
  obtain ⟨s11, h11⟩ : ∃ s, s = sr s10 (nn σ) 5 (some (pq (nn s9))) := ⟨_, rfl⟩
  obtain ⟨s12, h12⟩ : ∃ s, s = nw s11 := ⟨_, rfl⟩
  obtain ⟨s13, h13⟩ : ∃ s, s = sr s12 (nn σ) 6 (some (pq (nn s11))) := ⟨_, rfl⟩
  obtain ⟨s14, h14⟩ : ∃ s, s = nw s13 := ⟨_, rfl⟩
  obtain ⟨s15, h15⟩ : ∃ s, s = sr s14 (nn σ) 7 (some (pq (nn s13))) := ⟨_, rfl⟩
  obtain ⟨s16, h16⟩ : ∃ s, s = si s15 (nn σ) 8 0 := ⟨_, rfl⟩
  obtain ⟨s17, h17⟩ : ∃ s, s = nw s16 := ⟨_, rfl⟩
  obtain ⟨s18, h18⟩ : ∃ s, s = sr s17 (nn σ) 9 (some (pq (nn s16))) := ⟨_, rfl⟩
  obtain ⟨s19, h19⟩ : ∃ s, s = nw s18 := ⟨_, rfl⟩
  obtain ⟨s20, h20⟩ : ∃ s, s = sr s19 (nn σ) 10 (some (pq (nn s18))) := ⟨_, rfl⟩
  obtain ⟨s21, h21⟩ : ∃ s, s = si s20 (nn σ) 11 0 := ⟨_, rfl⟩
  obtain ⟨s22, h22⟩ : ∃ s, s = nw s21 := ⟨_, rfl⟩
  obtain ⟨s23, h23⟩ : ∃ s, s = sr s22 (nn σ) 12 (some (pq (nn s21))) := ⟨_, rfl⟩
  obtain ⟨s24, h24⟩ : ∃ s, s = si s23 (nn σ) 13 0 := ⟨_, rfl⟩
  have n0 : nn s0 = nn σ + 1 := by rw [h0]; rfl
  have n1 : nn s1 = nn σ + 1 := by rw [h1]; exact n0
  have n2 : nn s2 = nn σ + 2 := by rw [h2, nn_nw, n1]
  have n3 : nn s3 = nn σ + 2 := by rw [h3]; exact n2
  have n4 : nn s4 = nn σ + 3 := by rw [h4, nn_nw, n3]
  have n5 : nn s5 = nn σ + 3 := by rw [h5]; exact n4
  have n6 : nn s6 = nn σ + 4 := by rw [h6, nn_nw, n5]
  have n7 : nn s7 = nn σ + 4 := by rw [h7]; exact n6
  have n8 : nn s8 = nn σ + 5 := by rw [h8, nn_nw, n7]
  have n9 : nn s9 = nn σ + 5 := by rw [h9]; exact n8
  have n10 : nn s10 = nn σ + 6 := by rw [h10, nn_nw, n9]
  have n11 : nn s11 = nn σ + 6 := by rw [h11]; exact n10
  have n12 : nn s12 = nn σ + 7 := by rw [h12, nn_nw, n11]
  have n13 : nn s13 = nn σ + 7 := by rw [h13]; exact n12
  have n14 : nn s14 = nn σ + 8 := by rw [h14, nn_nw, n13]
  have n15 : nn s15 = nn σ + 8 := by rw [h15]; exact n14
  have n16 : nn s16 = nn σ + 8 := by rw [h16]; exact n15
  have n17 : nn s17 = nn σ + 9 := by rw [h17, nn_nw, n16]
  have n18 : nn s18 = nn σ + 9 := by rw [h18]; exact n17
  have n19 : nn s19 = nn σ + 10 := by rw [h19, nn_nw, n18]
  have n20 : nn s20 = nn σ + 10 := by rw [h20]; exact n19
  have n21 : nn s21 = nn σ + 10 := by rw [h21]; exact n20
  have n22 : nn s22 = nn σ + 11 := by rw [h22, nn_nw, n21]
  have n23 : nn s23 = nn σ + 11 := by rw [h23]; exact n22
  have n24 : nn s24 = nn σ + 11 := by rw [h24]; exact n23
  have key : f_X7_init N (nn σ) (nw σ) = some s24 := by
    unfold f_X7_init
    rw [show (12 : Int32) = nI 12 from rfl, show (32 : Int32) = nI 32 from rfl, ← h0, vi_p hv s0 0 0 (ltk n0), Option.bind_some, ← h1, vi_a hv s1 1 12 n1 rfl (by decide) (by decide), Option.bind_some, ← h2, vi_r hv s2 1 _ (ltk n2), Option.bind_some, ← h3, vi_a hv s3 2 12 n3 rfl (by decide) (by decide), Option.bind_some, ← h4, vi_r hv s4 2 _ (ltk n4), Option.bind_some, ← h5, vi_a hv s5 3 12 n5 rfl (by decide) (by decide), Option.bind_some, ← h6, vi_r hv s6 3 _ (ltk n6), Option.bind_some, ← h7, vi_a hv s7 4 12 n7 rfl (by decide) (by decide), Option.bind_some, ← h8, vi_r hv s8 4 _ (ltk n8), Option.bind_some, ← h9, vi_a hv s9 5 12 n9 rfl (by decide) (by decide), Option.bind_some, ← h10, vi_r hv s10 5 _ (ltk n10), Option.bind_some, ← h11, vi_a hv s11 6 12 n11 rfl (by decide) (by decide), Option.bind_some, ← h12, vi_r hv s12 6 _ (ltk n12), Option.bind_some, ← h13, vi_a hv s13 7 12 n13 rfl (by decide) (by decide), Option.bind_some, ← h14, vi_r hv s14 7 _ (ltk n14), Option.bind_some, ← h15, vi_p hv s15 8 0 (ltk n15), Option.bind_some, ← h16, vi_a hv s16 8 12 n16 rfl (by decide) (by decide), Option.bind_some, ← h17, vi_r hv s17 9 _ (ltk n17), Option.bind_some, ← h18, vi_a hv s18 9 12 n18 rfl (by decide) (by decide), Option.bind_some, ← h19, vi_r hv s19 10 _ (ltk n19), Option.bind_some, ← h20, vi_p hv s20 11 0 (ltk n20), Option.bind_some, ← h21, vi_a hv s21 10 32 n21 rfl (by decide) (by decide), Option.bind_some, ← h22, vi_r hv s22 12 _ (ltk n22), Option.bind_some, ← h23, vi_p hv s23 13 0 (ltk n23), Option.bind_some, ← h24]
  refine ⟨s24, key, n24, ?_, Or.inr (Or.inr hv), vn_24 hv n24, ?_⟩
  · intro o ho
    have q : ∀ k, (o = nn σ + k) = False := nek ho
    have q0 : (o = nn σ) = False := nek0 ho
    have p0 := vn_pq hv
    have pk := vn_pk hv
    subst h24 h23 h22 h21 h20 h19 h18 h17 h16 h15 h14 h13 h12 h11 h10 h9 h8 h7 h6 h5 h4 h3 h2 h1 h0
    refine ⟨?_, ?_⟩
    · funext k
      simp only [iv_si, iv_sr, iv_nw, nn_si, nn_sr, nn_nw, p0, pk, q, q0, false_and, if_false, Nat.add_assoc]
    · funext k
      simp only [rv_si, rv_sr, rv_nw, nn_si, nn_sr, nn_nw, p0, pk, q, q0, false_and, if_false, Nat.add_assoc]
  · subst h24 h23 h22 h21 h20 h19 h18 h17 h16 h15 h14 h13 h12 h11 h10 h9 h8 h7 h6 h5 h4 h3 h2 h1 h0
    intro p hp
    have p0 := vn_pq hv
    have pk := vn_pk hv
    simp only [List.mem_cons, List.not_mem_nil, or_false] at hp
    rcases hp with rfl | rfl | rfl | rfl | rfl | rfl | rfl | rfl | rfl | rfl <;> simp [rv_si, rv_sr, rv_nw, nn_si, nn_sr, nn_nw, p0, pk, Nat.add_assoc]
end VI
