/-! the promise of valley -/
section SV
variable {N : Nat} {b : Nat → Nat} {t n : Nat}
theorem v18 : ∀ d j fu τ, j + d = 32 → d < fu → WFm τ → (∀ x, x < j → iv τ 71 x = 0) → ∃ τ', f_X11_valley_18 N fu 63 (nI j) τ = ((f_X11_readsAll N 63 τ').bind fun q2 =>
        if q2.1 = 0 then (
          (gI 11 13 q2.2 63).bind fun x10 =>
          some (((-2 : Int32) - x10), q2.2)) else (
          (gN 11 24 q2.2 63).bind fun a4 =>
          (gI 11 7 q2.2 63).bind fun x5 =>
          (sI 113 q2.2 a4 (0 : Int32) x5).bind fun s6 =>
          (gN 11 24 s6 63).bind fun a7 =>
          (gI 11 8 s6 63).bind fun x8 =>
          (sI 113 s6 a7 (1 : Int32) x8).bind fun s9 =>
          f_X11_valley_74 N N 63 (0 : Int32) s9)) ∧ RO 71 τ τ' ∧ ∀ x, x < 32 → iv τ' 71 x = 0 := by
  intro d
  induction d with
  | zero =>
    intro j fu τ h1 h2 hm hj
    obtain ⟨fu, rfl⟩ : ∃ q, fu = q + 1 := ⟨fu - 1, by omega⟩
    refine ⟨τ, ?_, RO.rf _ _, fun x hx => hj x (by omega)⟩
    rw [f_X11_valley_18, if_pos (by rw [show (32 : Int32) = nI 32 from rfl]; exact nI_le (by omega) (by omega)), m_ob hm, Option.bind_some]
  | succ d ih =>
    intro j fu τ h1 h2 hm hj
    obtain ⟨fu, rfl⟩ : ∃ q, fu = q + 1 := ⟨fu - 1, by omega⟩
    obtain ⟨τ', f1, f2, f3⟩ := ih (j + 1) fu (si τ 71 j 0) (by omega) (by omega) hm (fun x hx => by
      rw [iv_si]
      by_cases q : x = j
      · rw [if_pos ⟨rfl, q⟩]
      · rw [if_neg (fun z => q z.2)]; exact hj x (by omega))
    refine ⟨τ', ?_, (RO.si 71 τ _ _).tr f2, f3⟩
    rw [f_X11_valley_18, if_neg (by rw [show (32 : Int32) = nI 32 from rfl]; exact nI_ge (by omega) (by decide)), m_g11 hm, Option.bind_some, m_sI hm (a := 71) (n := 32) (c := j) (by decide) rfl rfl (by omega) (by decide), Option.bind_some, nI_1, f1]
theorem clr17 : ∀ d j fu σ, j + d = 32 → d < fu → WFc σ → (∀ x, x < j → iv σ 30 x = 0) → ∃ σ', f_X7_clear_17 N fu 20 (nI j) σ = some σ' ∧ RO 30 σ σ' ∧ ∀ x, x < 32 → iv σ' 30 x = 0 := by
  intro d
  induction d with
  | zero =>
    intro j fu σ h1 h2 hc hj
    obtain ⟨fu, rfl⟩ : ∃ q, fu = q + 1 := ⟨fu - 1, by omega⟩
    refine ⟨σ, ?_, RO.rf _ _, fun x hx => hj x (by omega)⟩
    rw [f_X7_clear_17, if_pos (by rw [show (32 : Int32) = nI 32 from rfl]; exact nI_le (by omega) (by omega))]
  | succ d ih =>
    intro j fu σ h1 h2 hc hj
    obtain ⟨fu, rfl⟩ : ∃ q, fu = q + 1 := ⟨fu - 1, by omega⟩
    obtain ⟨σ', f1, f2, f3⟩ := ih (j + 1) fu (si σ 30 j 0) (by omega) (by omega) hc (fun x hx => by
      rw [iv_si]
      by_cases q : x = j
      · rw [if_pos ⟨rfl, q⟩]
      · rw [if_neg (fun z => q z.2)]; exact hj x (by omega))
    refine ⟨σ', ?_, (RO.si 30 σ _ _).tr f2, f3⟩
    rw [f_X7_clear_17, if_neg (by rw [show (32 : Int32) = nI 32 from rfl]; exact nI_ge (by omega) (by decide)), v_g12 hc.2.2.2, Option.bind_some, v_s10 hc.2.2.2 rfl (by omega), Option.bind_some, nI_1]
    exact f1
theorem InvT.mk {σ τ : Mm} (h : InvT σ τ) : ∃ b t, TP b t ∧ CT σ b t ∧ MT τ b t := by
  obtain ⟨t, by', t1, t2, t3, t4, t5⟩ := h
  refine ⟨fun i => if i < t then by' i else 0, t, ⟨t1, fun i => ?_, fun i hi => if_neg (by omega)⟩, ⟨t3, fun i hi => ?_⟩, t4, fun i hi => ?_⟩
  · show (if i < t then by' i else 0) < 256
    by_cases q : i < t
    · rw [if_pos q]; exact t2 i
    · rw [if_neg q]; decide
  · show _ = nI (if i < t then by' i else 0)
    rw [if_pos hi]; exact (t5 i hi).1
  · show _ = sb (if i < t then by' i else 0)
    rw [if_pos hi]; exact (t5 i hi).2
theorem InvT.nil {σ τ : Mm} (h1 : iv σ 1 1 = 0) (h2 : iv τ 63 1 = 0) : InvT σ τ := ⟨0, fun _ => 0, by decide, fun _ => (by decide : 0 < 256), h1, h2, fun i hi => absurd hi (Nat.not_lt_zero _)⟩
theorem InvI.fr {σ σ' τ τ' : Mm} (h : InvI σ τ) (hn : nn σ' = nn σ) (hr : ∀ o, o ≠ 8 → rv σ' o = rv σ o) (hi : ∀ o, 85 ≤ o → iv σ' o = iv σ o) (h81 : iv τ' 81 = iv τ 81) (h82 : iv τ' 82 = iv τ 82) : InvI σ' τ' := by
  obtain ⟨i1, i2, i3⟩ := h
  refine ⟨by rw [hn]; exact i1, fun k hk => ?_, fun k l u hk hl a c => ?_⟩
  · rcases i2 k hk with ⟨a, c⟩ | ⟨u, m, a, c, d, e, f, g, j⟩
    · left; exact ⟨by rw [hr 31 (by decide)]; exact a, by rw [h82]; exact c⟩
    · right
      refine ⟨u, m, by rw [hr 31 (by decide)]; exact a, by rw [h82]; exact c, d, ⟨e.1, by rw [hn]; exact e.2.1, fun p hp => by rw [hr u (by omega)]; exact e.2.2 p hp⟩, f, g.cong (fun i hi' => hi _ (by omega)), by rw [h81]; exact j⟩
  · rw [hr 31 (by decide)] at a c
    exact i3 k l u hk hl a c
theorem InvL.fr {σ σ' τ τ' : Mm} (h : InvL σ τ) (h0 : iv σ' 0 8 = iv σ 0 8) (hi : ∀ o, 51 ≤ o → o ≤ 62 → iv σ' o = iv σ o) (h2 : iv τ' 63 2 = iv τ 63 2) (h65 : iv τ' 65 = iv τ 65) (h67 : iv τ' 67 = iv τ 67) (h68 : iv τ' 68 = iv τ 68) : InvL σ' τ' := by
  obtain ⟨nl, l1, l2, l3, l4⟩ := h
  exact ⟨nl, l1, by rw [h0]; exact l2, by rw [h2]; exact l3, fun w hw => (l4 w hw).cong (hi _ (by omega) (by omega)) (hi _ (by omega) (by omega)) h65 h67 h68⟩
theorem BD.tn {x : Int32} {h : Nat} (hb : BD x h) (h31 : h < 2 ^ 31) : x.toBitVec.toNat ≤ h := by
  obtain ⟨v, h1, h2⟩ := hb
  rw [h2, pk_tn (by omega)]; exact h1
theorem tn_n {v : Nat} (h : v < 2 ^ 32) : (nI v).toBitVec.toNat = v := pk_tn h
theorem fmask0 {m : Nat → Nat} : ∀ k, (∀ j, j < k → m (90 + 3 * j) = 0) → fmask m k = 0 := by
  intro k
  induction k with
  | zero => intro _; rfl
  | succ k ih =>
    intro h
    show fmask m k + m (90 + 3 * k) * 2 ^ k = 0
    rw [ih (fun j hj => h j (by omega)), h k (by omega)]
    simp
theorem taken {σ' τ' u4 : Mm} {m : Nat → Nat} {nc nt : Nat} (hw : WS m) (h75 : ∀ i, i < 156 → iv τ' 75 i = nI (m i)) (h13 : iv σ' 9 13 = nI (m 2)) (hD : DR σ' τ' nc nt)
    (hx : ∀ x, iv u4 75 x = if 124 ≤ x ∧ x < 156 then iv τ' 71 (x - 124) else if 88 ≤ x ∧ x < 88 + 3 * nt then (if (x - 88) % 3 = 2 then 0 else iv τ' 70 (2 * ((x - 88) / 3) + (x - 88) % 3)) else if 4 ≤ x ∧ x < 4 + 7 * nc then iv τ' 69 (6 * ((x - 4) / 7) + min ((x - 4) % 7) 5) else if x = 1 then nI nt else if x = 0 then nI nc else iv τ' 75 x) :
    ∃ m', WS m' ∧ m' 0 = nc ∧ RelV (si (cpy σ' 26 0 27 0 12) 20 13 (nI (m 2))) 20 m' ∧ ∀ i, i < 156 → iv u4 75 i = nI (m' i) := by
  obtain ⟨q1, q2, q3, q4, q5, q6, q7, q8, q9, q10⟩ := hD
  obtain ⟨w1, w2, w3, w4, w5, w6, w7⟩ := hw
  obtain ⟨m', hm'⟩ : ∃ m' : Nat → Nat, m' = fun i => (iv u4 75 i).toBitVec.toNat := ⟨_, rfl⟩
  have nm : ∀ i, iv u4 75 i = nI (m' i) := fun i => by rw [hm']; exact (nI_tn _).symm
  have mv : ∀ i v, v < 2 ^ 32 → iv u4 75 i = nI v → m' i = v := fun i v hv e => by
    rw [hm']
    show (iv u4 75 i).toBitVec.toNat = v
    rw [e, tn_n hv]
  have x0 : iv u4 75 0 = nI nc := by rw [hx, if_neg (by omega), if_neg (by omega), if_neg (by omega), if_neg (by omega), if_pos rfl]
  have x1 : iv u4 75 1 = nI nt := by rw [hx, if_neg (by omega), if_neg (by omega), if_neg (by omega), if_pos rfl]
  have xo : ∀ x, 2 ≤ x → x < 124 → ¬ (88 ≤ x ∧ x < 88 + 3 * nt) → ¬ (4 ≤ x ∧ x < 4 + 7 * nc) → iv u4 75 x = nI (m x) := fun x a1 a2 a3 a4 => by
    rw [hx, if_neg (by omega), if_neg a3, if_neg a4, if_neg (by omega), if_neg (by omega)]; exact h75 x (by omega)
  have xc : ∀ c k, c < nc → k < 7 → iv u4 75 (4 + 7 * c + k) = iv τ' 69 (6 * c + min k 5) := fun c k a1 a2 => by
    rw [hx, if_neg (by omega), if_neg (by omega), if_pos (by omega), show (4 + 7 * c + k - 4) / 7 = c by omega, show (4 + 7 * c + k - 4) % 7 = k by omega]
  have xt : ∀ u k, u < nt → k < 2 → iv u4 75 (88 + 3 * u + k) = iv τ' 70 (2 * u + k) := fun u k a1 a2 => by
    rw [hx, if_neg (by omega), if_pos (show 88 ≤ 88 + 3 * u + k ∧ 88 + 3 * u + k < 88 + 3 * nt by omega), if_neg (show ¬ (88 + 3 * u + k - 88) % 3 = 2 by omega), show (88 + 3 * u + k - 88) / 3 = u by omega, show (88 + 3 * u + k - 88) % 3 = k by omega]
  have xf : ∀ u, u < nt → iv u4 75 (90 + 3 * u) = nI 0 := fun u a1 => by
    rw [hx, if_neg (by omega), if_pos (show 88 ≤ 90 + 3 * u ∧ 90 + 3 * u < 88 + 3 * nt by omega), if_pos (show (90 + 3 * u - 88) % 3 = 2 by omega)]; rfl
  have xg : ∀ j, j < 32 → iv u4 75 (124 + j) = iv τ' 71 j := fun j a1 => by
    rw [hx, if_pos (by omega), show 124 + j - 124 = j by omega]
  have e0 := mv 0 nc (by omega) x0
  have e1 := mv 1 nt (by omega) x1
  have old : ∀ x, 2 ≤ x → x < 124 → m x < 2 ^ 32 → ¬ (88 ≤ x ∧ x < 88 + 3 * nt) → ¬ (4 ≤ x ∧ x < 4 + 7 * nc) → m' x = m x := fun x a1 a2 a0 a3 a4 => mv x (m x) a0 (xo x a1 a2 a3 a4)
  have bdc : ∀ c k, c < nc → k < 7 → m' (4 + 7 * c + k) ≤ lim (min k 5) := fun c k a1 a2 => by
    have := (q8 c (min k 5) a1 (by omega)).2.tn (by have := lim_le (min k 5) (by omega); omega)
    rw [← xc c k a1 a2] at this
    rw [hm']; exact this
  refine ⟨m', ⟨by omega, by omega, ?_, ?_, fun c hc => ?_, fun u hu => ?_, fun j hj => ?_⟩, e0, ⟨?_, ?_, ?_, ?_, fun c hc k hk => ?_, fun u hu => ?_, fun j hj => ?_⟩, fun i _ => nm i⟩
  · rw [old 2 (by decide) (by decide) (by omega) (by omega) (by omega)]; exact w3
  · rw [old 3 (by decide) (by decide) (by omega) (by omega) (by omega)]; exact w4
  · have hb := w5 c hc
    by_cases a : c < nc
    · have b0 := bdc c 0 a (by decide)
      have b1 := bdc c 1 a (by decide)
      have b2 := bdc c 2 a (by decide)
      have b3 := bdc c 3 a (by decide)
      have b4 := bdc c 4 a (by decide)
      have b5 := bdc c 5 a (by decide)
      have b6 := bdc c 6 a (by decide)
      rw [show 4 + 7 * c + 0 = 4 + 7 * c by omega] at b0
      rw [show 4 + 7 * c + 1 = 5 + 7 * c by omega] at b1
      rw [show 4 + 7 * c + 2 = 6 + 7 * c by omega] at b2
      rw [show 4 + 7 * c + 3 = 7 + 7 * c by omega] at b3
      rw [show 4 + 7 * c + 4 = 8 + 7 * c by omega] at b4
      rw [show 4 + 7 * c + 5 = 9 + 7 * c by omega] at b5
      rw [show 4 + 7 * c + 6 = 10 + 7 * c by omega] at b6
      exact ⟨b0, b1, b2, b3, b4, b5, b6⟩
    · rw [old (4 + 7 * c) (by omega) (by omega) (by omega) (by omega) (by omega), old (5 + 7 * c) (by omega) (by omega) (by omega) (by omega) (by omega), old (6 + 7 * c) (by omega) (by omega) (by omega) (by omega) (by omega), old (7 + 7 * c) (by omega) (by omega) (by omega) (by omega) (by omega), old (8 + 7 * c) (by omega) (by omega) (by omega) (by omega) (by omega), old (9 + 7 * c) (by omega) (by omega) (by omega) (by omega) (by omega), old (10 + 7 * c) (by omega) (by omega) (by omega) (by omega) (by omega)]
      exact hb
  · have hb := w6 u hu
    by_cases a : u < nt
    · have b0 := (q9 u 0 a (by decide)).2.tn (by decide)
      have b1 := (q9 u 1 a (by decide)).2.tn (by decide)
      rw [← xt u 0 a (by decide), show 88 + 3 * u + 0 = 88 + 3 * u by omega] at b0
      rw [← xt u 1 a (by decide), show 88 + 3 * u + 1 = 89 + 3 * u by omega] at b1
      rw [mv (90 + 3 * u) 0 (by decide) (xf u a), hm']
      exact ⟨b0, b1, by decide⟩
    · rw [old (88 + 3 * u) (by omega) (by omega) (by omega) (by omega) (by omega), old (89 + 3 * u) (by omega) (by omega) (by omega) (by omega) (by omega), old (90 + 3 * u) (by omega) (by omega) (by omega) (by omega) (by omega)]
      exact hb
  · have := (q10 j hj).2.tn (by decide)
    rw [← xg j hj] at this
    rw [hm']; exact this
  · rw [iv_si, if_neg (by decide), iv_cpy, if_neg (by omega), e0]; exact q3
  · rw [iv_si, if_neg (by decide), iv_cpy, if_neg (by omega), e1]; exact q4
  · rw [iv_si, if_pos ⟨rfl, rfl⟩, old 2 (by decide) (by decide) (by omega) (by omega) (by omega)]
  · rw [iv_si, if_neg (by decide), iv_cpy, if_neg (by omega), e1, fmask0 nt (fun j hj => mv (90 + 3 * j) 0 (by decide) (xf j hj))]; exact q5
  · rw [e0] at hc
    rw [iv_row _ _ _ (by omega), iv_cpy, ← nm, xc c k hc hk]
    by_cases a : k = 6
    · rw [if_pos ⟨by omega, by omega, by omega⟩, a, show (0 : Nat) + (c - 0) = c by omega]
      exact (q8 c 5 hc (by decide)).1
    · rw [if_neg (by omega), show min k 5 = k by omega, show 20 + 1 + k = 20 + (1 + k) by omega]
      exact (q8 c k hc (by omega)).1
  · rw [e1] at hu
    rw [iv_row _ _ _ (by decide), iv_cpy, if_neg (by omega), iv_row _ _ _ (by decide), iv_cpy, if_neg (by omega), ← nm, ← nm]
    have a0 := (q9 u 0 hu (by decide)).1
    have a1 := (q9 u 1 hu (by decide)).1
    rw [← xt u 0 hu (by decide)] at a0
    rw [← xt u 1 hu (by decide), show 88 + 3 * u + 1 = 89 + 3 * u by omega] at a1
    exact ⟨a0, a1⟩
  · rw [iv_row _ _ _ (by decide), iv_cpy, if_neg (by omega), ← nm, xg j hj]
    exact (q10 j hj).1
end SV
