/-! x of the draws -/
theorem InvN.drawn {σ τ : Mm} {m : Nat → Nat} (h : InvN σ τ m) {d : Nat} (hd : d < 2 ^ 31) : InvN (si σ 9 13 (nI d)) (si τ 75 2 (nI d)) (um m 2 d) := by
  obtain ⟨⟨w1, w2, w3, w4, w5, w6, w7⟩, ⟨r1, r2, r3, r4, r5, r6, r7⟩, h3⟩ := h
  have ne : ∀ j, j ≠ 2 → um m 2 d j = m j := fun j hj => um_n m d hj
  have e9 : ∀ k, k ≠ 13 → iv (si σ 9 13 (nI d)) 9 k = iv σ 9 k := fun k hk => by rw [iv_si, if_neg (fun e => hk e.2)]
  have eo : ∀ o, o ≠ 9 → iv (si σ 9 13 (nI d)) o = iv σ o := fun o ho => iv_row σ _ _ ho
  refine ⟨⟨by rw [ne 0 (by decide)]; exact w1, by rw [ne 1 (by decide)]; exact w2, by rw [um_s]; exact hd, by rw [ne 3 (by decide)]; exact w4, fun c hc => ?_, fun t ht => ?_, fun k hk => by rw [ne _ (by omega)]; exact w7 k hk⟩, ⟨?_, ?_, ?_, ?_, ?_, ?_, ?_⟩, ?_⟩
  · rw [ne _ (by omega), ne _ (by omega), ne _ (by omega), ne _ (by omega), ne _ (by omega), ne _ (by omega), ne _ (by omega)]; exact w5 c hc
  · rw [ne _ (by omega), ne _ (by omega), ne _ (by omega)]; exact w6 t ht
  · rw [e9 0 (by decide), ne 0 (by decide)]; exact r1
  · rw [e9 8 (by decide), ne 1 (by decide)]; exact r2
  · rw [iv_si, if_pos ⟨rfl, rfl⟩, um_s]
  · rw [e9 11 (by decide), ne 1 (by decide), fmask_cong (m := m) (m 1) (fun t _ => ne _ (by omega))]; exact r4
  · intro c hc k hk
    rw [ne 0 (by decide)] at hc
    rw [eo _ (by omega), ne _ (by omega)]; exact r5 c hc k hk
  · intro t ht
    rw [ne 1 (by decide)] at ht
    rw [eo _ (by omega), eo _ (by omega), ne _ (by omega), ne _ (by omega)]; exact r6 t ht
  · intro k hk
    rw [eo _ (by omega), ne _ (by omega)]; exact r7 k hk
  · intro i hi
    rw [iv_si]
    by_cases e : i = 2
    · rw [if_pos ⟨rfl, e⟩, e, um_s]
    · rw [if_neg (fun q => e q.2), ne i e]; exact h3 i hi
/-- the next draw -/
def nxM (d : Nat) : Nat := (d * 1103515245 + 12345) % 2147483648
theorem lN_and (a b : Nat) (ha : a < 2 ^ 64) (hb : b < 2 ^ 64) : lN a &&& lN b = lN (a &&& b) := by
  apply Int64.toBitVec_inj.mp
  apply BitVec.eq_of_toNat_eq
  show ((lN a).toBitVec &&& (lN b).toBitVec).toNat = _
  have e : ∀ n, n < 2 ^ 64 → (lN n).toBitVec.toNat = n := fun n hn => by
    show (BitVec.ofNat 64 n).toNat = n
    rw [BitVec.toNat_ofNat, Nat.mod_eq_of_lt hn]
  rw [BitVec.toNat_and, e a ha, e b hb, e _ (Nat.lt_of_le_of_lt Nat.and_le_left ha)]
section SP
variable {N : Nat}
theorem nx_c {d : Nat} (hd : d < 2 ^ 31) {σ : Mm} : f_X10_nextDrawn N (nI d) σ = some (nI (nxM d), σ) := by
  unfold f_X10_nextDrawn
  rw [nI_l hd, show (1103515245 : Int64) = lN 1103515245 from rfl, show (12345 : Int64) = lN 12345 from rfl, lN_mul, lN_add, show (2147483647 : Int64) = lN 2147483647 from rfl, lN_and _ _ (by omega) (by decide), show (2147483647 : Nat) = 2 ^ 31 - 1 from rfl, Nat.and_two_pow_sub_one_eq_mod, lN_i]
  rfl
theorem nx_m {d : Nat} (hd : d < 2 ^ 31) : Int64.toInt32 ((((Int32.toInt64 (nI d)) * (1103515245 : Int64)) + (12345 : Int64)) - (((Int32.toInt64 (nI d)) * (1103515245 : Int64)) + (12345 : Int64)) / (2147483648 : Int64) * (2147483648 : Int64)) = nI (nxM d) := by
  rw [nI_l hd, show (1103515245 : Int64) = lN 1103515245 from rfl, show (12345 : Int64) = lN 12345 from rfl, lN_mul, lN_add, show (2147483648 : Int64) = lN 2147483648 from rfl, pk_lRem (by omega) (by decide) (by decide), lN_i]
  rfl
theorem nxM_lt (d : Nat) : nxM d < 2 ^ 31 := Nat.mod_lt _ (by decide)
theorem st_seed (a1 : Int32) : StepI Inv (f_X10_seed N 0 a1) (f_X11_seed N 63 a1) := by
  refine step_n fun σ τ hi => ?_
  obtain ⟨hc, hm, hnn, -, -, ⟨m, hI⟩, -⟩ := id hi
  obtain ⟨hw, hr, hs⟩ := id hI
  unfold f_X10_seed f_X11_seed
  by_cases h0 : 0 ≤ a1
  · obtain ⟨d, hd, rfl⟩ := nI_of (Int32.not_lt.mpr h0)
    simp only [if_pos h0, k_0_4 hc, v_i (now9 hc), v_p (now9 hc), m_g24 hm, m_aI hm (a := 75) (n := 156) (i := 2) (c := 2) (by decide) rfl rfl (by decide) (by decide), m_sI hm (a := 75) (n := 156) (i := 2) (c := 2) (by decide) rfl rfl (by decide) (by decide), Option.bind_some, hr.2.2.1, hs 2 (by decide)]
    exact ⟨_, _, si τ 75 2 (nI d), rfl, rfl, rfl, rfl, inv_n hi (QCn.si σ _ _ (by decide)) (QMn.si τ _ _) ⟨_, hI.drawn hd⟩⟩
  · simp only [if_neg h0]
    exact ⟨_, _, _, rfl, rfl, rfl, rfl, hi⟩
theorem nz_iff {n : Nat} (h : n < 2 ^ 31) : (nI n = 0) ↔ n = 0 := by rw [show (0 : Int32) = nI 0 from rfl, nI_eq h (by decide)]
theorem lot_c {σ : Mm} {m0 K : Nat} (hc : WFc σ) (e0 : iv σ 9 0 = nI m0) (h12 : m0 ≤ 12) (hK : K < m0) : ((ob 7 σ 9).bind fun _ => (f_X7_hasCock N 9 (nI K) σ).bind fun q15 => if q15.1 = 0 then f_X10_lot_70 N (-1 : Int32) q15.2 else (gN 10 4 q15.2 0).bind fun a17 => (gN 7 6 q15.2 a17).bind fun a18 => (aI 13 q15.2 a18 (nI K)).bind fun x19 => f_X10_lot_70 N x19 q15.2) = some (iv σ (9 + 6) K, σ) := by
  rw [v_o (now9 hc), Option.bind_some, e_hasCock (now9 hc) e0 h12, Option.bind_some, bi_y ⟨nI_pos' (by omega), nI_lt hK (by omega)⟩, if_neg z1, k_0_4 hc, Option.bind_some, v_g6 (now9 hc), Option.bind_some, v_a (now9 hc) rfl (by decide) (by decide) (by omega), Option.bind_some, f_X10_lot_70]
theorem st_lot : StepI Inv (f_X10_lot N 0) (f_X11_lot N 63) := by
  refine step_n fun σ τ hi => ?_
  obtain ⟨hc, hm, hnn, -, -, ⟨m, hI⟩, -⟩ := id hi
  obtain ⟨hw, hr, hs⟩ := id hI
  have h12 := hw.1
  unfold f_X10_lot f_X11_lot
  by_cases h0 : m 0 = 0
  · simp only [k_o0 hc, e_isThere hc, hr.1, m_g24 hm, m_aI hm (a := 75) (n := 156) (i := 0) (c := 0) (by decide) rfl rfl (by decide) (by decide), hs 0 (by decide), Option.bind_some]
    rw [bi_n (by rw [pos_iff (by omega)]; omega), if_pos rfl, if_pos ((nz_iff (by omega)).mpr h0)]
    exact ⟨_, _, _, rfl, rfl, rfl, rfl, hi⟩
  · have hd := hw.2.2.1
    have hI2 := hI.drawn (nxM_lt (m 2))
    have q1 := QCn.si σ 13 (nI (nxM (m 2))) (show 9 ≤ 9 ∧ 9 ≤ 19 by decide)
    have q2 := QMn.si τ 2 (nI (nxM (m 2)))
    have hi2 := inv_n hi q1 q2 ⟨_, hI2⟩
    have hc2 := hi2.1
    have hm2 := hi2.2.1
    have hr2 := hI2.2.1
    have hs2 := hI2.2.2
    have um0 : um m 2 (nxM (m 2)) 0 = m 0 := um_n m _ (by decide)
    simp only [k_o0 hc, e_isThere hc, hr.1, m_g24 hm, m_aI hm (a := 75) (n := 156) (i := 0) (c := 0) (by decide) rfl rfl (by decide) (by decide), m_aI hm (a := 75) (n := 156) (i := 2) (c := 2) (by decide) rfl rfl (by decide) (by decide), hs 0 (by decide), hs 2 (by decide), Option.bind_some, k_0_4 hc, v_i (now9 hc), hr.2.2.1, nx_c hd, nx_m hd, v_p (now9 hc), m_sI hm (a := 75) (n := 156) (i := 2) (c := 2) (by decide) rfl rfl (by decide) (by decide)]
    rw [bi_y (by rw [pos_iff (by omega)]; omega), if_neg z1, if_neg (by rw [nz_iff (by omega)]; exact h0), if_neg (by decide)]
    have e0 : iv (si σ 9 13 (nI (nxM (m 2)))) 9 0 = nI (m 0) := by rw [hr2.1, um0]
    have e13 : iv (si σ 9 13 (nI (nxM (m 2)))) 9 13 = nI (nxM (m 2)) := by rw [hr2.2.2.1, um_s]
    have t0 : iv (si τ 75 2 (nI (nxM (m 2)))) 75 0 = nI (m 0) := by rw [hs2 0 (by decide), um0]
    have t2 : iv (si τ 75 2 (nI (nxM (m 2)))) 75 2 = nI (nxM (m 2)) := by rw [hs2 2 (by decide), um_s]
    have hx := nxM_lt (m 2)
    have er : nI (nxM (m 2)) / (65536 : Int32) - nI (nxM (m 2)) / (65536 : Int32) / nI (m 0) * nI (m 0) = nI (nxM (m 2) / 65536 % m 0) := by
      rw [show (65536 : Int32) = nI 65536 from rfl, pk_div hx (by decide) (by decide), pk_rem (Nat.lt_of_le_of_lt (Nat.div_le_self _ _) hx) (by omega) (by omega)]
    have hlt : nxM (m 2) / 65536 % m 0 < m 0 := Nat.mod_lt _ (by omega)
    simp only [k_0_4 hc2, v_i (now9 hc2), e0, e13, Option.bind_some, m_g24 hm2, m_aI hm2 (a := 75) (n := 156) (i := 0) (c := 0) (by decide) rfl rfl (by decide) (by decide), m_aI hm2 (a := 75) (n := 156) (i := 2) (c := 2) (by decide) rfl rfl (by decide) (by decide), t0, t2, if_neg (show ¬ (65536 : Int32) = 0 by decide), if_neg (show ¬ nI (m 0) = 0 by rw [nz_iff (by omega)]; exact h0), er, lot_c hc2 e0 h12 hlt, m_ob hm2, e_c5 hm2 (show nxM (m 2) / 65536 % m 0 < 12 by omega)]
    refine ⟨_, _, si τ 75 2 (nI (nxM (m 2))), rfl, ?_, rfl, rfl, hi2⟩
    rw [hs2 _ (by omega), ← hr2.2.2.2.2.1 _ (by rw [um0]; exact hlt) 5 (by decide)]
end SP
/-! the TAPE -/
def QCt (σ σ' : Mm) : Prop := nn σ' = nn σ ∧ (∀ o, o ≠ 1 → o ≠ 2 → iv σ' o = iv σ o) ∧ ∀ o, rv σ' o = rv σ o
def QMt (τ τ' : Mm) : Prop := nn τ' = nn τ ∧ (∀ o, o ≠ 63 → o ≠ 64 → iv τ' o = iv τ o) ∧ iv τ' 63 2 = iv τ 63 2 ∧ ∀ o, rv τ' o = rv τ o
theorem QCt.tr {a b c : Mm} (h : QCt a b) (g : QCt b c) : QCt a c := ⟨g.1.trans h.1, fun o q q2 => (g.2.1 o q q2).trans (h.2.1 o q q2), fun o => (g.2.2 o).trans (h.2.2 o)⟩
theorem QMt.tr {a b c : Mm} (h : QMt a b) (g : QMt b c) : QMt a c := ⟨g.1.trans h.1, fun o q q2 => (g.2.1 o q q2).trans (h.2.1 o q q2), g.2.2.1.trans h.2.2.1, fun o => (g.2.2.2 o).trans (h.2.2.2 o)⟩
theorem VW.rvc {σ σ' : Mm} {v : Nat} (h : VW σ v) (h1 : nn σ' = nn σ) (h2 : ∀ o, rv σ' o = rv σ o) : VW σ' v := by
  unfold VW at h ⊢
  rw [h1, h2]
  exact h
theorem WFc.rvc {σ σ' : Mm} (h : WFc σ) (h1 : nn σ' = nn σ) (h2 : ∀ o, rv σ' o = rv σ o) : WFc σ' := by
  refine ⟨by rw [h1]; exact h.1, fun p hp => by rw [h2]; exact h.2.1 p hp, h.2.2.1.rvc h1 h2, h.2.2.2.rvc h1 h2⟩
theorem WFm.rvc {τ τ' : Mm} (h : WFm τ) (h1 : nn τ' = nn τ) (h2 : ∀ o, rv τ' o = rv τ o) : WFm τ' := by
  unfold WFm at h ⊢
  rw [h1, h2]
  exact h
theorem inv_t {σ σ' τ τ' : Mm} (h : Inv σ τ) (q : QCt σ σ') (r : QMt τ τ') (ht : InvT σ' τ') : Inv σ' τ' := by
  obtain ⟨h1, h2, h3, -, ⟨nl, l1, l2, l3, l4⟩, ⟨m, n1, n2, n3⟩, i1, i2, i3⟩ := h
  refine ⟨h1.rvc q.1 q.2.2, h2.rvc r.1 r.2.2.2, by rw [q.1, r.1]; exact h3, ht, ⟨nl, l1, ?_, ?_, ?_⟩, ⟨m, n1, ?_, ?_⟩, by rw [q.1]; exact i1, ?_, ?_⟩
  · rw [q.2.1 0 (by decide) (by decide)]; exact l2
  · rw [r.2.2.1]; exact l3
  · intro w hw
    exact (l4 w hw).cong (q.2.1 _ (by omega) (by omega)) (q.2.1 _ (by omega) (by omega)) (r.2.1 _ (by omega) (by omega)) (r.2.1 _ (by omega) (by omega)) (r.2.1 _ (by omega) (by omega))
  · exact n2.cong (fun i hi => q.2.1 _ (by omega) (by omega))
  · rw [r.2.1 75 (by omega) (by omega)]; exact n3
  · intro k hk
    rcases i2 k hk with ⟨a, b⟩ | ⟨u, m', a, b, c, d, e, f, g⟩
    · left
      exact ⟨by rw [q.2.2]; exact a, by rw [r.2.1 82 (by omega) (by omega)]; exact b⟩
    · right
      refine ⟨u, m', by rw [q.2.2]; exact a, by rw [r.2.1 82 (by omega) (by omega)]; exact b, c, d.rvc q.1 q.2.2, e, f.cong (fun i hi => q.2.1 _ (by omega) (by omega)), ?_⟩
      rw [r.2.1 81 (by omega) (by omega)]; exact g
  · intro k l u hk hl a b
    rw [q.2.2] at a
    rw [q.2.2] at b
    exact i3 k l u hk hl a b
def Tp (σ τ : Mm) (t : Nat) : Prop := ∃ by' : Nat → Nat, (∀ i, by' i < 256) ∧ iv σ 1 1 = nI t ∧ iv τ 63 1 = nI t ∧ ∀ i, i < t → iv σ 2 i = nI (by' i) ∧ iv τ 64 i = (nI (by' i)).toInt8.toInt32
theorem low8 (x : Int32) : x.toInt8.toInt32 = (nI (x.toBitVec.toNat % 256)).toInt8.toInt32 := by
  congr 1
  apply Int8.toBitVec_inj.mp
  apply BitVec.eq_of_toNat_eq
  rw [Int32.toBitVec_toInt8, Int32.toBitVec_toInt8, BitVec.signExtend_eq_setWidth_of_le _ (by decide), BitVec.signExtend_eq_setWidth_of_le _ (by decide), BitVec.toNat_setWidth, BitVec.toNat_setWidth, pk_tn (by omega)]
  omega
theorem and255 (x : Int32) : x &&& 255 = nI (x.toBitVec.toNat % 256) := pk_and x 8 (by decide)
/-- one byte more -/
theorem Tp.push {σ τ : Mm} {t b : Nat} (h : Tp σ τ t) (hb : b < 256) : Tp (si (si σ 2 t (nI b)) 1 1 (nI (t + 1))) (si (si τ 64 t (nI b).toInt8.toInt32) 63 1 (nI (t + 1))) (t + 1) := by
  obtain ⟨by', h1, h2, h3, h4⟩ := h
  refine ⟨um by' t b, fun i => ?_, ?_, ?_, fun i hi => ?_⟩
  · unfold um
    by_cases e : i = t
    · rw [if_pos e]; exact hb
    · rw [if_neg e]; exact h1 i
  · rw [iv_si, if_pos ⟨rfl, rfl⟩]
  · rw [iv_si, if_pos ⟨rfl, rfl⟩]
  · rw [iv_row (si σ 2 t (nI b)) _ _ (show 2 ≠ 1 by decide), iv_row (si τ 64 t _) _ _ (show 64 ≠ 63 by decide), iv_si, iv_si]
    by_cases e : i = t
    · rw [if_pos ⟨rfl, e⟩, if_pos ⟨rfl, e⟩, e, um_s]; exact ⟨rfl, rfl⟩
    · rw [if_neg (fun q => e q.2), if_neg (fun q => e q.2), um_n by' b e]; exact h4 i (by omega)
section SQ
variable {N : Nat}
theorem push_c {σ : Mm} (hc : WFc σ) {t : Nat} (h1 : iv σ 1 1 = nI t) (ht : t < 400) {n : Nat} {v s : Int32} (hs : ¬ s < 0) : f_X5_append_3 N (n + 1) 1 v s σ = f_X5_append_3 N n 1 v (s + (-8)) (si (si σ 2 t (nI ((v >>> (s &&& 31)).toBitVec.toNat % 256))) 1 1 (nI (t + 1))) := by
  have hc2 : WFc (si σ 2 t (nI ((v >>> (s &&& 31)).toBitVec.toNat % 256))) := hc
  rw [f_X5_append_3, if_neg hs]
  unfold f_X5_append_43
  simp only [k_i1 hc, h1, Option.bind_some, k_1_0 hc, and255]
  rw [if_neg (by rw [show (400 : Int32) = nI 400 from rfl, nI_leI (by decide) (by omega)]; omega), k_sI hc (a := 2) (n := 400) (c := t) (by decide) rfl rfl ht (by decide), Option.bind_some, k_i1 hc2, Option.bind_some, k_p1 hc2, Option.bind_some, iv_row σ _ _ (show 1 ≠ 2 by decide), h1, nI_1]
theorem push_m {τ : Mm} (hm : WFm τ) {t : Nat} (h1 : iv τ 63 1 = nI t) (ht : t < 400) {n : Nat} {v s : Int32} (hs : ¬ s < 0) : f_X11_four_3 N (n + 1) 63 v s τ = f_X11_four_3 N n 63 v (s + (-8)) (si (si τ 64 t ((nI ((v >>> (s &&& 31)).toBitVec.toNat % 256)).toInt8.toInt32)) 63 1 (nI (t + 1))) := by
  have hm2 : WFm (si τ 64 t ((nI ((v >>> (s &&& 31)).toBitVec.toNat % 256)).toInt8.toInt32)) := hm
  rw [f_X11_four_3, if_neg hs]
  simp only [m_gI hm, h1, Option.bind_some, m_g0 hm]
  rw [m_sB hm (c := t) rfl ht, Option.bind_some, pk_vb, low8, m_gI hm2, Option.bind_some, m_pI hm2, Option.bind_some, iv_row τ _ _ (show 63 ≠ 64 by decide), h1, nI_1]
theorem feed1 {σ τ : Mm} (hc : WFc σ) (hm : WFm τ) {t : Nat} (h : Tp σ τ t) (ht : t + 4 ≤ 400) (hN : 10 ≤ N) (v : Int32) : ∃ σ' τ', f_X5_append N 1 v σ = some σ' ∧ f_X11_four N 63 v τ = some τ' ∧ WFc σ' ∧ WFm τ' ∧ Tp σ' τ' (t + 4) ∧ QCt σ σ' ∧ QMt τ τ' := by
  have qc : ∀ (s : Mm) (i : Nat) (x y : Int32), QCt s (si (si s 2 i x) 1 1 y) := fun s i x y => ⟨rfl, fun o a b => by rw [iv_row (si s 2 i x) _ _ a, iv_row s _ _ b], fun _ => rfl⟩
  have qm : ∀ (s : Mm) (i : Nat) (x y : Int32), QMt s (si (si s 64 i x) 63 1 y) := fun s i x y => ⟨rfl, fun o a b => by rw [iv_row (si s 64 i x) _ _ a, iv_row s _ _ b], by rw [iv_si, if_neg (by decide), iv_row s _ _ (show 63 ≠ 64 by decide)], fun _ => rfl⟩
  obtain ⟨n, rfl⟩ : ∃ n, N = n + 1 + 1 + 1 + 1 + 1 := ⟨N - 5, by omega⟩
  have lt8 : ∀ x : Int32, x.toBitVec.toNat % 256 < 256 := fun x => Nat.mod_lt _ (by decide)
  have p1 := h.push (lt8 (v >>> ((24 : Int32) &&& 31)))
  have p2 := p1.push (lt8 (v >>> ((16 : Int32) &&& 31)))
  have p3 := p2.push (lt8 (v >>> ((8 : Int32) &&& 31)))
  have p4 := p3.push (lt8 (v >>> ((0 : Int32) &&& 31)))
  unfold f_X5_append f_X11_four
  rw [push_c hc h.choose_spec.2.1 (by omega) (by decide), show (24 : Int32) + (-8) = 16 by decide, push_c (by exact hc) p1.choose_spec.2.1 (by omega) (by decide), show (16 : Int32) + (-8) = 8 by decide, push_c (by exact hc) p2.choose_spec.2.1 (by omega) (by decide), show (8 : Int32) + (-8) = 0 by decide, push_c (by exact hc) p3.choose_spec.2.1 (by omega) (by decide), show (0 : Int32) + (-8) = -8 by decide, f_X5_append_3, if_pos (by decide)]
  rw [push_m hm h.choose_spec.2.2.1 (by omega) (by decide), show (24 : Int32) + (-8) = 16 by decide, push_m (by exact hm) p1.choose_spec.2.2.1 (by omega) (by decide), show (16 : Int32) + (-8) = 8 by decide, push_m (by exact hm) p2.choose_spec.2.2.1 (by omega) (by decide), show (8 : Int32) + (-8) = 0 by decide, push_m (by exact hm) p3.choose_spec.2.2.1 (by omega) (by decide), show (0 : Int32) + (-8) = -8 by decide, f_X11_four_3, if_pos (by decide)]
  exact ⟨_, _, rfl, rfl, hc, hm, p4, (((qc _ _ _ _).tr (qc _ _ _ _)).tr (qc _ _ _ _)).tr (qc _ _ _ _), (((qm _ _ _ _).tr (qm _ _ _ _)).tr (qm _ _ _ _)).tr (qm _ _ _ _)⟩
theorem st_feed (hN : 10 ≤ N) (a1 a2 a3 a4 a5 : Int32) : StepI Inv (f_X10_feed N 0 a1 a2 a3 a4 a5) (f_X11_feed N 63 a1 a2 a3 a4 a5) := by
  refine step_n fun σ τ hi => ?_
  obtain ⟨hc, hm, hnn, ⟨t, by', t1, t2, t3, t4, t5⟩, -, -, -⟩ := id hi
  have hT : Tp σ τ t := ⟨by', t2, t3, t4, t5⟩
  unfold f_X10_feed f_X11_feed
  simp only [k_0_0 hc, k_i1 hc, t3, m_gI hm, t4, Option.bind_some]
  have e : nI t + (20 : Int32) = nI (t + 20) := nI_add t 20
  by_cases h20 : t + 20 ≤ 400
  · have c1 : nI t + (20 : Int32) ≤ 400 := by rw [e, show (400 : Int32) = nI 400 from rfl]; exact nI_le h20 (by decide)
    simp only [if_pos c1]
    obtain ⟨σ1, τ1, f1, g1, hc1, hm1, T1, qc1, qm1⟩ := feed1 hc hm hT (by omega) hN a1
    obtain ⟨σ2, τ2, f2, g2, hc2, hm2, T2, qc2, qm2⟩ := feed1 hc1 hm1 T1 (by omega) hN a2
    obtain ⟨σ3, τ3, f3, g3, hc3, hm3, T3, qc3, qm3⟩ := feed1 hc2 hm2 T2 (by omega) hN a3
    obtain ⟨σ4, τ4, f4, g4, hc4, hm4, T4, qc4, qm4⟩ := feed1 hc3 hm3 T3 (by omega) hN a4
    obtain ⟨σ5, τ5, f5, g5, hc5, hm5, T5, qc5, qm5⟩ := feed1 hc4 hm4 T4 (by omega) hN a5
    have Qc := (((qc1.tr qc2).tr qc3).tr qc4).tr qc5
    have Qm := (((qm1.tr qm2).tr qm3).tr qm4).tr qm5
    obtain ⟨by5, u1, u2, u3, u4⟩ := id T5
    simp only [k_o1 hc, f1, k_0_0 hc1, k_o1 hc1, f2, k_0_0 hc2, k_o1 hc2, f3, k_0_0 hc3, k_o1 hc3, f4, k_0_0 hc4, k_o1 hc4, f5, k_0_0 hc5, k_i1 hc5, u2, m_ob hm, g1, m_ob hm1, g2, m_ob hm2, g3, m_ob hm3, g4, m_ob hm4, g5, m_gI hm5, u3, Option.bind_some]
    exact ⟨_, _, τ5, rfl, rfl, Qc.1, Qm.1, inv_t hi Qc Qm ⟨_, by5, by omega, u1, u2, u3, u4⟩⟩
  · have c1 : ¬ (nI t + (20 : Int32) ≤ 400) := by rw [e, show (400 : Int32) = nI 400 from rfl, nI_leI (by omega) (by decide)]; exact h20
    simp only [if_neg c1]
    exact ⟨_, _, _, rfl, rfl, rfl, rfl, hi⟩
theorem st_end (a1 : Int32) : StepI Inv (f_X10_end N 0 a1) (f_X11_end N 63 a1) := by
  refine step_n fun σ τ hi => ?_
  obtain ⟨hc, hm, hnn, ⟨t, by', t1, t2, t3, t4, t5⟩, -, -, -⟩ := id hi
  unfold f_X10_end f_X10_end_15 f_X11_end f_X11_end_12
  simp only [k_0_0 hc, k_i1 hc, t3, m_gI hm, t4, Option.bind_some, k_p1 hc, m_pI hm]
  by_cases h0 : a1 < 0
  · simp only [if_pos h0]
    exact ⟨_, _, _, rfl, rfl, rfl, rfl, hi⟩
  · obtain ⟨j, hj, rfl⟩ := nI_of h0
    simp only [if_neg h0]
    by_cases h1 : nI j ≤ nI t
    · simp only [if_pos h1]
      rw [nI_leI hj (by omega)] at h1
      refine ⟨_, _, si τ 63 1 (nI j), rfl, rfl, rfl, rfl, inv_t hi ⟨rfl, fun o a _ => iv_row σ _ _ a, fun _ => rfl⟩ ⟨rfl, fun o a _ => iv_row τ _ _ a, by rw [iv_si, if_neg (by decide)], fun _ => rfl⟩ ⟨j, by', by omega, t2, by rw [iv_si, if_pos ⟨rfl, rfl⟩], by rw [iv_si, if_pos ⟨rfl, rfl⟩], fun i hi => ?_⟩⟩
      rw [iv_row σ _ _ (show 2 ≠ 1 by decide), iv_row τ _ _ (show 64 ≠ 63 by decide)]
      exact t5 i (by omega)
    · simp only [if_neg h1]
      exact ⟨_, _, _, rfl, rfl, rfl, rfl, hi⟩
end SQ
