section IM
variable {N : Nat}
theorem img_m {m : Nat → Nat} {k : Nat} (hk : k < 4) (hm0 : m 0 < 2 ^ 31) : ∀ d c fu τ, c + d = 156 → d < fu → WFm τ → (∀ i, i < 156 → iv τ 75 i = nI (m i)) → (∀ i, i < c → iv τ 81 (156 * k + i) = nI (m i)) → ∃ τ', f_X11_image_23 N fu 63 (nI k) (nI c) τ = some (nI (m 0), τ') ∧ RO 81 τ τ' ∧ (∀ i, i < 156 → iv τ' 81 (156 * k + i) = nI (m i)) ∧ ∀ j, ¬ (156 * k ≤ j ∧ j < 156 * k + 156) → iv τ' 81 j = iv τ 81 j := by
  intro d
  induction d with
  | zero =>
    intro c fu τ h1 h2 hm hs hr
    obtain ⟨fu, rfl⟩ : ∃ q, fu = q + 1 := ⟨fu - 1, by omega⟩
    refine ⟨τ, ?_, RO.rf _ _, fun j hj => hr j (by omega), fun _ _ => rfl⟩
    rw [f_X11_image_23, show (156 : Int32) = nI 156 from rfl, if_pos (nI_le (by omega) (by omega)), m_g24 hm, Option.bind_some, m_aI hm (a := 75) (n := 156) (i := 0) (c := 0) (by decide) rfl rfl (by decide) (by decide), Option.bind_some, hs 0 (by decide)]
  | succ d ih =>
    intro c fu τ h1 h2 hm hs hr
    obtain ⟨fu, rfl⟩ : ∃ q, fu = q + 1 := ⟨fu - 1, by omega⟩
    have hm2 : WFm (si τ 81 (156 * k + c) (nI (m c))) := hm
    obtain ⟨τ', f1, f2, f3, f4⟩ := ih (c + 1) fu (si τ 81 (156 * k + c) (nI (m c))) (by omega) (by omega) hm2 (fun i hi => by rw [iv_row τ _ _ (show 75 ≠ 81 by decide)]; exact hs i hi) (fun i hi => by
      rw [iv_si]
      by_cases e : i = c
      · rw [if_pos ⟨rfl, by omega⟩, e]
      · rw [if_neg (by omega)]; exact hr i (by omega))
    refine ⟨τ', ?_, (RO.si 81 τ _ _).tr f2, f3, fun j hj => ?_⟩
    · rw [f_X11_image_23, show (156 : Int32) = nI 156 from rfl, if_neg (nI_ge (by omega) (by omega)), m_g31 hm, Option.bind_some, m_g24 hm, Option.bind_some, m_aI hm (a := 75) (n := 156) (c := c) (by decide) rfl rfl (by omega) (by decide), Option.bind_some, m_sI hm (a := 81) (n := 624) (c := 156 * k + c) (by decide) rfl (by rw [← nI_add, ← pk_mul]) (by omega) (by decide), Option.bind_some, nI_1, hs c (by omega), f1]
    · rw [f4 j hj, iv_si, if_neg (by omega)]
theorem bak_m {m : Nat → Nat} {k : Nat} (hk : k < 4) : ∀ d c fu τ, c + d = 156 → d < fu → WFm τ → (∀ i, i < 156 → iv τ 81 (156 * k + i) = nI (m i)) → (∀ i, i < c → iv τ 75 i = nI (m i)) → ∃ τ', f_X11_back_25 N fu 63 (nI k) (nI c) τ = some (nI (m 0), τ') ∧ RO 75 τ τ' ∧ (∀ i, i < 156 → iv τ' 75 i = nI (m i)) := by
  intro d
  induction d with
  | zero =>
    intro c fu τ h1 h2 hm hs hr
    obtain ⟨fu, rfl⟩ : ∃ q, fu = q + 1 := ⟨fu - 1, by omega⟩
    refine ⟨τ, ?_, RO.rf _ _, fun j hj => hr j (by omega)⟩
    rw [f_X11_back_25, show (156 : Int32) = nI 156 from rfl, if_pos (nI_le (by omega) (by omega)), m_g24 hm, Option.bind_some, m_aI hm (a := 75) (n := 156) (i := 0) (c := 0) (by decide) rfl rfl (by decide) (by decide), Option.bind_some, hr 0 (by omega)]
  | succ d ih =>
    intro c fu τ h1 h2 hm hs hr
    obtain ⟨fu, rfl⟩ : ∃ q, fu = q + 1 := ⟨fu - 1, by omega⟩
    have hm2 : WFm (si τ 75 c (nI (m c))) := hm
    obtain ⟨τ', f1, f2, f3⟩ := ih (c + 1) fu (si τ 75 c (nI (m c))) (by omega) (by omega) hm2 (fun i hi => by rw [iv_row τ _ _ (show 81 ≠ 75 by decide)]; exact hs i hi) (fun i hi => by
      rw [iv_si]
      by_cases e : i = c
      · rw [if_pos ⟨rfl, e⟩, e]
      · rw [if_neg (fun q => e q.2)]; exact hr i (by omega))
    refine ⟨τ', ?_, (RO.si 75 τ _ _).tr f2, f3⟩
    rw [f_X11_back_25, show (156 : Int32) = nI 156 from rfl, if_neg (nI_ge (by omega) (by omega)), m_g24 hm, Option.bind_some, m_g31 hm, Option.bind_some, m_aI hm (a := 81) (n := 624) (c := 156 * k + c) (by decide) rfl (by rw [← nI_add, ← pk_mul]) (by omega) (by decide), Option.bind_some, m_sI hm (a := 75) (n := 156) (c := c) (by decide) rfl rfl (by omega) (by decide), Option.bind_some, nI_1, hs c (by omega), f1]
theorem VW.old {σ σ' : Mm} {v k n : Nat} (h : VW σ v) (h1 : n ≤ nn σ') (h0 : nn σ = n) (e4 : ∀ o i, o < n → ¬ (o = 31 ∧ i = k) → rv σ' o i = rv σ o i) : VW σ' v := by
  obtain ⟨a, b, c⟩ := h
  refine ⟨a, by omega, fun p hp => ?_⟩
  rw [e4 v p.1 (by omega) (by rcases a with e | e | ⟨j, e⟩ <;> omega)]
  exact c p hp
theorem inv_img {σ σ' τ τ' : Mm} {k u : Nat} {m : Nat → Nat} (h : Inv σ τ) (hmm : InvN σ τ m) (hk : k < 4) (e1 : nn σ ≤ nn σ') (e2 : ∃ j, nn σ' = 85 + 11 * j) (e3 : ∀ o, o < nn σ → ¬ (u ≤ o ∧ o ≤ u + 10) → iv σ' o = iv σ o) (e4 : ∀ o i, o < nn σ → ¬ (o = 31 ∧ i = k) → rv σ' o i = rv σ o i) (e5 : rv σ' 31 k = some u) (e6 : ∃ j, u = 85 + 11 * j) (e7 : VW σ' u) (e8 : RelV σ' u m) (e9 : ∀ l, l < 4 → l ≠ k → rv σ 31 l ≠ some u)
    (g1 : nn τ' = nn σ') (g2 : ∀ o, rv τ' o = rv τ o) (g3 : ∀ o, o ≠ 81 → o ≠ 82 → iv τ' o = iv τ o) (g4 : ∀ l, l ≠ k → iv τ' 82 l = iv τ 82 l) (g5 : iv τ' 82 k = 1) (g6 : ∀ j, ¬ (156 * k ≤ j ∧ j < 156 * k + 156) → iv τ' 81 j = iv τ 81 j) (g7 : ∀ i, i < 156 → iv τ' 81 (156 * k + i) = nI (m i)) : Inv σ' τ' := by
  obtain ⟨h1, h2, h3, ⟨t, by', t1, t2, t3, t4, t5⟩, ⟨nl, l1, l2, l3, l4⟩, -, i1, i2, i3⟩ := h
  have c83 := h1.1
  have e31 : ∀ l, l ≠ k → rv σ' 31 l = rv σ 31 l := fun l hl => e4 31 l (by omega) (fun q => hl q.2)
  have eo : ∀ o, o < 85 → iv σ' o = iv σ o := fun o ho => e3 o (by omega) (by obtain ⟨j, e⟩ := e6; omega)
  refine ⟨⟨by omega, fun p hp => ?_, h1.2.2.1.old e1 rfl e4, h1.2.2.2.old e1 rfl e4⟩, ?_, g1.symm, ⟨t, by', t1, t2, ?_, ?_, ?_⟩, ⟨nl, l1, ?_, ?_, ?_⟩, ⟨m, hmm.1, ?_, ?_⟩, e2, ?_, ?_⟩
  · have : ∀ p ∈ crefs, p.1 < 85 ∧ p.1 ≠ 31 := by decide
    rw [e4 p.1 p.2.1 (by have := (this p hp).1; omega) (fun q => (this p hp).2 q.1)]
    exact h1.2.1 p hp
  · unfold WFm at h2 ⊢
    rw [g2 63]
    exact ⟨by omega, h2.2⟩
  · rw [eo 1 (by decide)]; exact t3
  · rw [g3 63 (by decide) (by decide)]; exact t4
  · rw [eo 2 (by decide), g3 64 (by decide) (by decide)]; exact t5
  · rw [eo 0 (by decide)]; exact l2
  · rw [g3 63 (by decide) (by decide)]; exact l3
  · intro w hw
    exact (l4 w hw).cong (eo _ (by omega)) (eo _ (by omega)) (g3 _ (by decide) (by decide)) (g3 _ (by decide) (by decide)) (g3 _ (by decide) (by decide))
  · exact hmm.2.1.cong (fun i hi => eo _ (by omega))
  · rw [g3 75 (by decide) (by decide)]; exact hmm.2.2
  · intro l hl
    by_cases e : l = k
    · subst e
      right
      exact ⟨u, m, e5, g5, by obtain ⟨j, e⟩ := e6; omega, e7, hmm.1, e8, g7⟩
    · rcases i2 l hl with ⟨a, b⟩ | ⟨u', m', a, b, c, d, e', f, g⟩
      · left
        exact ⟨by rw [e31 l e]; exact a, by rw [g4 l e]; exact b⟩
      · right
        have hu : u' ≠ u := fun q => e9 l hl e (by rw [a, q])
        refine ⟨u', m', by rw [e31 l e]; exact a, by rw [g4 l e]; exact b, c, d.old e1 rfl e4, e', f.cong (fun i hi => e3 _ (by have := d.2.1; omega) ?_), fun i hi => ?_⟩
        · obtain ⟨j, q⟩ := e6
          rcases d.1 with z | z | ⟨j', z⟩ <;> omega
        · rw [g6 _ (by omega)]; exact g i hi
  · intro a b v ha hb q1 q2
    by_cases ea : a = k
    · by_cases eb : b = k
      · rw [ea, eb]
      · exfalso
        rw [ea, e5] at q1
        rw [e31 b eb] at q2
        exact e9 b hb eb (q2.trans q1.symm)
    · by_cases eb : b = k
      · exfalso
        rw [eb, e5] at q2
        rw [e31 a ea] at q1
        exact e9 a ha ea (q1.trans q2.symm)
      · rw [e31 a ea] at q1
        rw [e31 b eb] at q2
        exact i3 a b v ha hb q1 q2
theorem k_aQ {σ : Mm} (h : WFc σ) {k : Nat} (hk : k < 4) : aQ 17 σ 31 (nI k) = some (rv σ 31 k) := by
  unfold aQ
  rw [show SH 31 = (17, 4) from rfl, if_pos ⟨⟨pp_lt (by have := h.1; omega) h.1, rfl⟩, nI_pos (by omega), by rw [nI_clamp (by omega)]; exact hk⟩, nI_clamp (by omega)]
theorem k_aN {σ : Mm} (h : WFc σ) {k : Nat} (hk : k < 4) : aN 17 σ 31 (nI k) = rv σ 31 k := by
  unfold aN
  rw [show SH 31 = (17, 4) from rfl, if_pos ⟨⟨pp_lt (by have := h.1; omega) h.1, rfl⟩, nI_pos (by omega), by rw [nI_clamp (by omega)]; exact hk⟩, nI_clamp (by omega)]
theorem k_sN {σ : Mm} (h : WFc σ) {k u : Nat} (hk : k < 4) (hu : VW σ u) : sN 17 7 σ 31 (nI k) u = some (sr σ 31 k (some u)) := by
  unfold sN
  rw [show SH 31 = (17, 4) from rfl, if_pos ⟨⟨⟨pp_lt (by have := h.1; omega) h.1, rfl⟩, nI_pos (by omega), by rw [nI_clamp (by omega)]; exact hk⟩, pp_lt (by have := hu.2.1; omega) hu.2.1.2, hu.sh.1⟩, nI_clamp (by omega)]
theorem WFc.up {σ σ' : Mm} {k : Nat} (h : WFc σ) (e1 : nn σ ≤ nn σ') (e4 : ∀ o i, o < nn σ → ¬ (o = 31 ∧ i = k) → rv σ' o i = rv σ o i) : WFc σ' := by
  have c83 := h.1
  refine ⟨by omega, fun p hp => ?_, h.2.2.1.old e1 rfl e4, h.2.2.2.old e1 rfl e4⟩
  have : ∀ p ∈ crefs, p.1 < 85 ∧ p.1 ≠ 31 := by decide
  rw [e4 p.1 p.2.1 (by have := (this p hp).1; omega) (fun q => (this p hp).2 q.1)]
  exact h.2.1 p hp
theorem e_in4 {τ : Mm} (a1 : Int32) : f_X11_in N (Int32.toInt64 a1) (0 : Int64) (3 : Int64) τ = some (bi (0 ≤ a1 ∧ a1 < nI 4), τ) := e_in_n a1 4 (by decide) (by decide) (by decide)
theorem st_image (hN : 200 ≤ N) (a1 : Int32) : StepI Inv (f_X10_image N 0 a1) (f_X11_image N 63 a1) := by
  intro σ τ hi
  obtain ⟨hc, hm, hnn, -, -, ⟨m, hI⟩, hII⟩ := id hi
  obtain ⟨hw, hr, hs⟩ := id hI
  have h12 := hw.1
  unfold f_X10_image f_X11_image
  simp only [e_isBelow, e_in4, Option.bind_some, show (4 : Int32) = nI 4 from rfl]
  rcases bi_in (x := a1) (n := 4) (by decide) with ⟨k, h1, rfl, h3⟩ | ⟨h1, h2⟩
  · -- the model
    have mod : ∀ n, 85 ≤ n → ∃ τ', ((gN 11 32 (setn τ n) 63).bind fun a3 => (sZ 115 (setn τ n) a3 (nI k) (1 : Int32)).bind fun s4 => f_X11_image_23 N N 63 (nI k) (0 : Int32) s4) = some (nI (m 0), τ') ∧ nn τ' = n ∧ (∀ o, rv τ' o = rv τ o) ∧ (∀ o, o ≠ 81 → o ≠ 82 → iv τ' o = iv τ o) ∧ (∀ l, l ≠ k → iv τ' 82 l = iv τ 82 l) ∧ iv τ' 82 k = 1 ∧ (∀ j, ¬ (156 * k ≤ j ∧ j < 156 * k + 156) → iv τ' 81 j = iv τ 81 j) ∧ (∀ i, i < 156 → iv τ' 81 (156 * k + i) = nI (m i)) := by
      intro n hn
      have hm1 : WFm (setn τ n) := ⟨hn, hm.2⟩
      have hm2 : WFm (si (setn τ n) 82 k 1) := hm1
      obtain ⟨τ', f1, f2, f3, f4⟩ := img_m (N := N) (m := m) h1 (by omega) 156 0 N (si (setn τ n) 82 k 1) (by omega) (by omega) hm2 (fun i hi => by rw [iv_row _ _ _ (show 75 ≠ 82 by decide)]; exact hs i hi) (fun i hi => absurd hi (by omega))
      refine ⟨τ', ?_, f2.1, f2.2.1, fun o o1 o2 => ?_, fun l hl => ?_, ?_, fun j hj => ?_, f3⟩
      · rw [m_g32 hm1, Option.bind_some, m_sZ hm1 rfl h1, Option.bind_some, show vp_nar .boolean 1 = (1 : Int32) from rfl]
        exact f1
      · rw [f2.2.2 o o1, iv_row _ _ _ o2]; rfl
      · rw [f2.2.2 82 (by decide), iv_si, if_neg (fun e => hl e.2)]; rfl
      · rw [f2.2.2 82 (by decide), iv_si, if_pos ⟨rfl, rfl⟩]
      · rw [f4 j hj, iv_row _ _ _ (by decide)]; rfl
    simp only [h3, if_neg z1]
    rw [k_0_6 hc, Option.bind_some, k_aQ hc h1, Option.bind_some]
    rcases hII.2.1 k h1 with ⟨a, b⟩ | ⟨u, m', a, b, c, d, e, f, g⟩
    · rw [a, if_pos rfl]
      obtain ⟨σ1, v1, v2, v3, v4⟩ := e_vinit (N := N) (σ := σ) hII.1
      have r1 : ∀ o i, o < nn σ → rv σ1 o i = rv σ o i := fun o i ho => by rw [(v3 o ho).2]
      have hc1 : WFc σ1 := hc.up (k := 4) (by omega) (fun o i ho _ => r1 o i ho)
      have hd : nn σ + 10 < 9 ∨ 9 + 10 < nn σ := by have := hc.1; omega
      obtain ⟨σ2, b1, b2, b3, b4, b5⟩ := e_become (N := N) (v := nn σ) (w := 9) v4 (now9 hc1) (by omega)
      have hr1 : RelV σ1 9 m := hr.cong (fun i hi' => (v3 _ (by have := hc.1; omega)).1)
      have hc2 : WFc σ2 := hc1.rvc b2 b3
      have hv2 : VW σ2 (nn σ) := v4.rvc b2 b3
      have r3 : ∀ o i, o < nn σ → ¬ (o = 31 ∧ i = k) → rv (sr σ2 31 k (some (nn σ))) o i = rv σ o i := fun o i ho hoi => by rw [rv_sr, if_neg hoi, b3 o]; exact r1 o i ho
      have hc3 : WFc (sr σ2 31 k (some (nn σ))) := hc.up (k := k) (by rw [nn_sr, b2, v2]; omega) r3
      have i3' : ∀ o, o < nn σ → iv (sr σ2 31 k (some (nn σ))) o = iv σ o := fun o ho => by rw [iv_sr, b4 o (by omega), (v3 o ho).1]
      obtain ⟨τ', t1, t2, t3, t4, t5, t6, t7, t8⟩ := mod (nn σ + 11) (by have := hc.1; omega)
      have n3 : nn (sr σ2 31 k (some (nn σ))) = nn σ + 11 := by rw [nn_sr, b2, v2]
      have hv3 : VW (sr σ2 31 k (some (nn σ))) (nn σ) := ⟨hv2.1, by rw [n3]; have := hc.1; omega, fun p hp => by rw [rv_sr, if_neg (by have := hc.1; omega)]; exact hv2.2.2 p hp⟩
      refine ⟨nI (m 0), sr σ2 31 k (some (nn σ)), τ', ?_, ?_, by rw [t2, n3], ?_⟩
      · have pqn : pq (nn σ) = nn σ := pq_ge hc.1
        have s1 : nO 7 σ = some (nw σ) := by unfold nO; rw [pqn, if_pos (by obtain ⟨j, e⟩ := hII.1; rw [show nn σ = nn σ + 0 from rfl]; exact (shn (i := 0) ⟨j, e⟩).1 rfl)]
        rw [s1, Option.bind_some, pqn, v1, Option.bind_some, if_pos (by rw [v2, nn_nw]), k_0_4 hc1, Option.bind_some, v_o v4, Option.bind_some, b1, Option.bind_some, k_0_6 hc2, Option.bind_some, k_sN hc2 h1 hv2, Option.bind_some, k_0_4 hc3, Option.bind_some, v_i (now9 hc3), Option.bind_some, i3' 9 (by have := hc.1; omega), hr.1]
      · rw [n3]; exact t1
      · refine inv_img (u := nn σ) hi hI h1 (by rw [n3]; omega) ?_ (fun o ho _ => i3' o ho) r3 (by rw [rv_sr, if_pos ⟨rfl, rfl⟩]) hII.1 hv3 ?_ (fun l hl hlk q => ?_) (by rw [t2, n3]) t3 t4 t5 t6 t7 t8
        · obtain ⟨j, e⟩ := hII.1; exact ⟨j + 1, by rw [n3]; omega⟩
        · exact (b5 m hw hr1).cong (fun i _ => by rw [iv_sr])
        · rcases hII.2.1 l hl with ⟨a', -⟩ | ⟨u', m', a', -, -, d', -⟩
          · rw [a'] at q; cases q
          · rw [a'] at q; cases q; have := d'.2.1; omega
    · rw [a, if_neg (by simp), Option.bind_some, k_aN hc h1, a, Option.bind_some, k_0_4 hc, Option.bind_some, v_o d, Option.bind_some]
      obtain ⟨σ2, b1, b2, b3, b4, b5⟩ := e_become (N := N) (v := u) (w := 9) d (now9 hc) (by omega)
      have hc2 : WFc σ2 := hc.rvc b2 b3
      have hv2 : VW σ2 u := d.rvc b2 b3
      have hu : ∃ j, u = 85 + 11 * j := by
        rcases d.1 with z | z | z
        · omega
        · omega
        · exact z
      have r3 : ∀ o i, o < nn σ → ¬ (o = 31 ∧ i = k) → rv (sr σ2 31 k (some u)) o i = rv σ o i := fun o i ho hoi => by rw [rv_sr, if_neg hoi, b3 o]
      have n3 : nn (sr σ2 31 k (some u)) = nn σ := by rw [nn_sr, b2]
      have hc3 : WFc (sr σ2 31 k (some u)) := hc.up (k := k) (by rw [n3]; omega) r3
      have i3' : ∀ o, ¬ (u ≤ o ∧ o ≤ u + 10) → iv (sr σ2 31 k (some u)) o = iv σ o := fun o ho => by rw [iv_sr, b4 o ho]
      obtain ⟨τ', t1, t2, t3, t4, t5, t6, t7, t8⟩ := mod (nn σ) hc.1
      refine ⟨nI (m 0), sr σ2 31 k (some u), τ', ?_, ?_, by rw [t2, n3], ?_⟩
      · rw [b1, Option.bind_some, k_0_6 hc2, Option.bind_some, k_sN hc2 h1 hv2, Option.bind_some, k_0_4 hc3, Option.bind_some, v_i (now9 hc3), Option.bind_some, i3' 9 (by omega), hr.1]
      · rw [n3]; exact t1
      · refine inv_img (u := u) hi hI h1 (by rw [n3]; omega) (by rw [n3]; exact hII.1) (fun o _ ho => i3' o ho) r3 (by rw [rv_sr, if_pos ⟨rfl, rfl⟩]) hu ?_ ?_ (fun l hl hlk q => hlk (hII.2.2 l k u hl h1 q a)) (by rw [t2, n3]) t3 t4 t5 t6 t7 t8
        · exact ⟨hv2.1, hv2.2.1, fun p hp => by rw [rv_sr, if_neg (by omega)]; exact hv2.2.2 p hp⟩
        · exact (b5 m hw hr).cong (fun i _ => by rw [iv_sr])
  · refine ⟨-1, σ, τ, ?_, ?_, hnn.symm, hi⟩
    · rw [h2]; rfl
    · rw [hnn, setn_self, h2]; rfl
theorem st_back (hN : 200 ≤ N) (a1 : Int32) : StepI Inv (f_X10_back N 0 a1) (f_X11_back N 63 a1) := by
  refine step_n fun σ τ hi => ?_
  obtain ⟨hc, hm, hnn, -, -, ⟨m, hI⟩, hII⟩ := id hi
  unfold f_X10_back f_X11_back f_X10_back_17 f_X11_back_21
  simp only [e_isBelow, e_in4, Option.bind_some, show (4 : Int32) = nI 4 from rfl]
  rcases bi_in (x := a1) (n := 4) (by decide) with ⟨k, h1, rfl, h3⟩ | ⟨h1, h2⟩
  · rw [h3, if_neg z1, if_neg z1, k_0_6 hc, Option.bind_some, k_aQ hc h1, Option.bind_some, m_g32 hm, Option.bind_some, m_aZ hm rfl h1, Option.bind_some]
    rcases hII.2.1 k h1 with ⟨a, b⟩ | ⟨u, m', a, b, c, d, e, f, g⟩
    · rw [a, b, if_pos rfl, if_pos rfl]
      exact ⟨_, _, _, rfl, rfl, rfl, rfl, hi⟩
    · rw [a, b, if_neg (by simp), if_neg z1, k_0_4 hc, Option.bind_some, Option.bind_some, k_aN hc h1, a, Option.bind_some, v_o (now9 hc), Option.bind_some]
      obtain ⟨σ2, b1, b2, b3, b4, b5⟩ := e_become (N := N) (v := 9) (w := u) (now9 hc) d (by omega)
      have hc2 : WFc σ2 := hc.rvc b2 b3
      have hr2 := b5 m' e f
      obtain ⟨τ', f1, f2, f3⟩ := bak_m (N := N) (m := m') h1 156 0 N τ (by omega) (by omega) hm g (fun i hi => absurd hi (by omega))
      refine ⟨nI (m' 0), σ2, τ', ?_, f1, b2, f2.1, inv_n hi ⟨b2, fun o _ ho => b4 o (by omega), fun o k _ => by rw [b3 o]⟩ f2.qmn ⟨m', e, hr2, f3⟩⟩
      rw [b1, Option.bind_some, k_0_4 hc2, Option.bind_some, v_i (now9 hc2), Option.bind_some, hr2.1]
  · rw [h2]
    exact ⟨_, _, _, rfl, rfl, rfl, rfl, hi⟩
end IM
