section SM
variable {σ τ : Mm} {N : Nat}
theorem e_isBelow (x y : Int32) : f_X10_isBelow N x y σ = some (bi (0 ≤ x ∧ x < y), σ) := by
  unfold f_X10_isBelow f_X10_isBelow_13 f_X10_isBelow_14
  by_cases h1 : x < 0
  · rw [if_pos h1, bi_n (fun h => absurd h1 (Int32.not_lt.mpr h.1))]; rfl
  · by_cases h2 : y ≤ x
    · rw [if_neg h1, if_pos h2, bi_n (fun h => absurd h.2 (Int32.not_lt.mpr h2))]; rfl
    · rw [if_neg h1, if_neg h2, bi_y ⟨Int32.not_lt.mp h1, Int32.not_le.mp h2⟩]; rfl
theorem lt12 {n : Nat} (hn : n ≤ 12) {x : Int32} (h : x < nI n) : ¬ (12 : Int32) ≤ x := by
  rw [show (12 : Int32) = nI 12 from rfl]
  intro h2
  have h3 := Int32.lt_of_le_of_lt h2 h
  rw [nI_ltI (by omega) (by omega)] at h3
  omega
theorem b12 {c : Nat} (h : c < 12) : bi ((0 : Int32) ≤ nI c ∧ nI c < (12 : Int32)) = 1 := bi_y ⟨nI_pos' (by omega), by rw [show (12 : Int32) = nI 12 from rfl]; exact nI_lt h (by decide)⟩
theorem e_hasCock {v n : Nat} (hv : VW σ v) (hn : iv σ v 0 = nI n) (h12 : n ≤ 12) (x : Int32) : f_X7_hasCock N v x σ = some (bi (0 ≤ x ∧ x < nI n), σ) := by
  unfold f_X7_hasCock f_X7_hasCock_22 f_X7_hasCock_23
  rw [v_i hv, Option.bind_some, hn]
  by_cases h1 : x < 0
  · rw [if_pos h1, bi_n (fun h => absurd h1 (Int32.not_lt.mpr h.1))]; rfl
  · by_cases h2 : nI n ≤ x
    · rw [if_neg h1, if_pos h2, bi_n (fun h => absurd h.2 (Int32.not_lt.mpr h2))]; rfl
    · rw [if_neg h1, if_neg h2, if_neg (lt12 h12 (Int32.not_le.mp h2)), bi_y ⟨Int32.not_lt.mp h1, Int32.not_le.mp h2⟩]; rfl
theorem e_hasTree {v n : Nat} (hv : VW σ v) (hn : iv σ v 8 = nI n) (h12 : n ≤ 12) (x : Int32) : f_X7_hasTree N v x σ = some (bi (0 ≤ x ∧ x < nI n), σ) := by
  unfold f_X7_hasTree f_X7_hasTree_22 f_X7_hasTree_23
  rw [v_i hv, Option.bind_some, hn]
  by_cases h1 : x < 0
  · rw [if_pos h1, bi_n (fun h => absurd h1 (Int32.not_lt.mpr h.1))]; rfl
  · by_cases h2 : nI n ≤ x
    · rw [if_neg h1, if_pos h2, bi_n (fun h => absurd h.2 (Int32.not_lt.mpr h2))]; rfl
    · rw [if_neg h1, if_neg h2, if_neg (lt12 h12 (Int32.not_le.mp h2)), bi_y ⟨Int32.not_lt.mp h1, Int32.not_le.mp h2⟩]; rfl
theorem e_isThere (hc : WFc σ) : f_X10_isThere N 0 σ = some (bi (0 < iv σ 9 0), σ) := by
  unfold f_X10_isThere f_X10_isThere_15
  rw [k_0_4 hc, Option.bind_some, v_i (now9 hc), Option.bind_some]
  by_cases h : iv σ 9 0 ≤ 0
  · rw [if_pos h, bi_n (Int32.not_lt.mpr h)]; rfl
  · rw [if_neg h, bi_y (Int32.not_le.mp h)]; rfl
/-- a number within, or not -/
theorem bi_in {x : Int32} {n : Nat} (hn : n < 2 ^ 31) : (∃ c, c < n ∧ x = nI c ∧ bi (0 ≤ x ∧ x < nI n) = 1) ∨ (¬ (0 ≤ x ∧ x < nI n) ∧ bi (0 ≤ x ∧ x < nI n) = 0) := by
  rcases pk_ix x hn with h | h | ⟨j, h1, h2⟩
  · right
    have : ¬ (0 ≤ x ∧ x < nI n) := fun q => absurd h (Int32.not_lt.mpr q.1)
    exact ⟨this, bi_n this⟩
  · right
    have : ¬ (0 ≤ x ∧ x < nI n) := fun q => absurd q.2 (Int32.not_lt.mpr h)
    exact ⟨this, bi_n this⟩
  · left
    subst h2
    exact ⟨j, h1, rfl, bi_y ⟨nI_pos' (by omega), nI_lt h1 hn⟩⟩
theorem z1 : ¬ (1 : Int32) = 0 := by decide
theorem in7 {x : Int32} {z : Int32} {n : Nat} (hz : z + 1 = nI n) (hz2 : z = nI (n - 1)) (hn : 0 < n) (hn2 : n < 2 ^ 31) : ((0 : Int32) ≤ x ∧ x ≤ z) ↔ (0 ≤ x ∧ x < nI n) := by
  subst hz2
  constructor
  · intro ⟨h1, h2⟩
    refine ⟨h1, ?_⟩
    obtain ⟨j, hj, rfl⟩ := nI_of (Int32.not_lt.mpr h1)
    rw [nI_leI hj (by omega)] at h2
    exact nI_lt (by omega) (by omega)
  · intro ⟨h1, h2⟩
    refine ⟨h1, ?_⟩
    obtain ⟨j, hj, rfl⟩ := nI_of (Int32.not_lt.mpr h1)
    rw [nI_ltI hj (by omega)] at h2
    exact nI_le (by omega) (by omega)
theorem e_in_n {c : Int64} (x : Int32) (n : Nat) (hn : 0 < n) (hn2 : n < 2 ^ 31) (hc : c = (nI (n - 1)).toInt64) : f_X11_in N x.toInt64 0 c τ = some (bi (0 ≤ x ∧ x < nI n), τ) := by
  rw [e_in32 x 0 (nI (n - 1)) (by decide) hc]
  have h := in7 (x := x) (z := nI (n - 1)) (n := n) (by rw [nI_1, Nat.sub_add_cancel hn]) rfl hn hn2
  simp only [bi, h]
theorem st_cock (a1 a2 : Int32) : StepI Inv (f_X10_cock N 0 a1 a2) (f_X11_cock N 63 a1 a2) := by
  refine step_q fun σ τ hi => ?_
  obtain ⟨hc, hm, hnn, -, -, ⟨m, hw, hr, hs⟩, -⟩ := hi
  refine ⟨if 0 ≤ a1 ∧ a1 < nI (m 0) then (if 0 ≤ a2 ∧ a2 < nI 7 then iv τ 75 (4 + 7 * a1.toNatClampNeg + a2.toNatClampNeg) else -1) else -1, σ, τ, ?_, ?_, QC.rf _, QM.rf _⟩
  · unfold f_X10_cock
    simp only [k_0_4 hc, v_o (now9 hc), e_hasCock (now9 hc) hr.1 hw.1, Option.bind_some]
    rcases bi_in (x := a1) (n := m 0) (by have := hw.1; omega) with ⟨c, h1, rfl, h3⟩ | ⟨h1, h2⟩
    · have h12 : c < 12 := by have := hw.1; omega
      rw [h3, if_neg z1, if_pos ((bi_1 _).mp h3), nI_clamp (by omega)]
      simp only [v_g1 (now9 hc), v_g2 (now9 hc), v_g3 (now9 hc), v_g4 (now9 hc), v_g5 (now9 hc), v_g6 (now9 hc), v_g7 (now9 hc), Option.bind_some]
      have key : ∀ k, k < 7 → iv σ (9 + (1 + k)) c = iv τ 75 (4 + 7 * c + k) := fun k hk => by
        rw [show 9 + (1 + k) = 9 + 1 + k by omega, hr.2.2.2.2.1 c h1 k hk, hs _ (by omega)]
      rcases bi_in (x := a2) (n := 7) (by decide) with ⟨k, g1, rfl, g3⟩ | ⟨g1, g2⟩
      · rw [if_pos ((bi_1 _).mp g3), nI_clamp (by omega), ← key k g1]
        match k, g1 with
        | 0, _ => rw [if_pos (by decide), v_a (now9 hc) rfl (by decide) (by decide) h12, Option.bind_some]
        | 1, _ => rw [if_neg (by decide), if_pos (by decide), v_a (now9 hc) rfl (by decide) (by decide) h12, Option.bind_some]
        | 2, _ => rw [if_neg (by decide), if_neg (by decide), if_pos (by decide), v_a (now9 hc) rfl (by decide) (by decide) h12, Option.bind_some]
        | 3, _ => rw [if_neg (by decide), if_neg (by decide), if_neg (by decide), if_pos (by decide), v_a (now9 hc) rfl (by decide) (by decide) h12, Option.bind_some]
        | 4, _ => rw [if_neg (by decide), if_neg (by decide), if_neg (by decide), if_neg (by decide), if_pos (by decide), v_a (now9 hc) rfl (by decide) (by decide) h12, Option.bind_some]
        | 5, _ => rw [if_neg (by decide), if_neg (by decide), if_neg (by decide), if_neg (by decide), if_neg (by decide), if_pos (by decide), v_a (now9 hc) rfl (by decide) (by decide) h12, Option.bind_some]
        | 6, _ => rw [if_neg (by decide), if_neg (by decide), if_neg (by decide), if_neg (by decide), if_neg (by decide), if_neg (by decide), if_pos (by decide), v_a (now9 hc) rfl (by decide) (by decide) h12, Option.bind_some]
        | k + 7, h => omega
      · rw [if_neg g1]
        have ne : ∀ k : Nat, k < 7 → ¬ a2 = nI k := fun k hk e => g1 (by subst e; exact ⟨nI_pos' (by omega), nI_lt hk (by decide)⟩)
        rw [if_neg (show ¬ a2 = (0 : Int32) from ne 0 (by decide)), if_neg (show ¬ a2 = (1 : Int32) from ne 1 (by decide)), if_neg (show ¬ a2 = (2 : Int32) from ne 2 (by decide)), if_neg (show ¬ a2 = (3 : Int32) from ne 3 (by decide)), if_neg (show ¬ a2 = (4 : Int32) from ne 4 (by decide)), if_neg (show ¬ a2 = (5 : Int32) from ne 5 (by decide)), if_neg (show ¬ a2 = (6 : Int32) from ne 6 (by decide))]
    · rw [h2, if_pos rfl, if_neg h1]
  · unfold f_X11_cock f_X11_cock_29 f_X11_cock_30
    simp only [m_ob hm, e_isCock hm, hs 0 (by decide), Option.bind_some, e_in_n a2 7 (by decide) (by decide) (show (6 : Int64) = (nI 6).toInt64 by decide)]
    rcases bi_in (x := a1) (n := m 0) (by have := hw.1; omega) with ⟨c, h1, rfl, h3⟩ | ⟨h1, h2⟩
    · rw [h3, if_neg z1, if_pos ((bi_1 _).mp h3)]
      rcases bi_in (x := a2) (n := 7) (by decide) with ⟨k, g1, rfl, g3⟩ | ⟨g1, g2⟩
      · rw [g3, if_neg z1, if_pos ((bi_1 _).mp g3), e_cockOf hm c k rfl rfl (by have := hw.1; omega) g1, nI_clamp (by have := hw.1; omega), nI_clamp (by omega), Option.bind_some]
      · rw [g2, if_pos rfl, if_neg g1]
    · rw [h2, if_pos rfl, if_neg h1]
end SM
