/-! vote, after, felled -/
abbrev ages (m : Nat → Nat) : Nat → Nat := fun c => m (7 + 7 * c)
def rowG (cls : Cls) (m : Nat → Nat) (b : Nat → Bool) (w n : Nat) : Nat → Nat := fun c => goV cls m b c (m (6 + 7 * c)) w n (m (9 + 7 * c))
theorem rowG_lt {cls : Cls} {m : Nat → Nat} {b : Nat → Bool} {w n : Nat} (hw : WS m) : ∀ c, c < m 0 → rowG cls m b w n c < 8 := fun c hc => goV_lt _ _ _ _ _ _ _ (by have := hw.2.2.2.2.1 c (by have := hw.1; omega); omega)
theorem WS.age {m : Nat → Nat} (h : WS m) : ∀ c, c < m 0 → ages m c ≤ 99 := fun c hc => by
  have := h.2.2.2.2.1 c (by have := h.1; omega)
  show m (7 + 7 * c) ≤ 99
  omega
abbrev balL : List Nat := [36, 37, 38, 39, 40, 41]
abbrev aftL : List Nat := [34, 36, 37, 38, 39, 40, 41, 50]
section AF
variable {N : Nat}
theorem e_voteOf {σ : Mm} {m r : Nat → Nat} {row way : Nat} (hN : 20 ≤ N) (hws : WS m) (h0 : 0 < m 0) (hr8 : ∀ c, c < m 0 → r c < 8) (hrow : row < 85) (hsh : SH row = (13, 12)) (hro : row < 36 ∨ 41 ≤ row) (hway : way < 4) (hc : WFc σ) (hr : RelV σ 9 m) (hR : ∀ c, c < m 0 → iv σ row c = nI (r c)) : ∃ σ', f_X10_voteOf N 0 row (nI way) σ = some (nI (voteV way (m 0) r (ages m)), σ') ∧ RS balL σ σ' := by
  obtain ⟨s1, a1, a2, a3⟩ := e_open (N := N) (a := ages m) hN hws.1 (fun _ => rfl) hr8 hrow hsh hro hc hr hR
  obtain ⟨s2, b1, b2⟩ := e_winner (N := N) (way := way) hN h0 hws.1 (a2.wc hc) a3 hr8 hws.age hway
  refine ⟨s2, ?_, (a2.mono (by decide)).tr (b2.rs (by decide))⟩
  unfold f_X10_voteOf
  rw [k_0_10 hc, Option.bind_some, k_0_4 hc, Option.bind_some, k_o36 hc, Option.bind_some, a1, Option.bind_some, k_0_10 (a2.wc hc), Option.bind_some, k_o36 (a2.wc hc), Option.bind_some, b1, Option.bind_some]
theorem st_vote (hN : 20 ≤ N) (a1 : Int32) : StepI Inv (f_X10_vote N 0 a1) (f_X11_vote N 63 a1) := by
  refine step_q fun σ τ hi => ?_
  obtain ⟨hc, hm, hnn, -, -, ⟨m, hw, hr, hs⟩, -⟩ := hi
  have h12 := hw.1
  unfold f_X10_vote f_X10_vote_15 f_X11_vote f_X11_vote_16
  simp only [k_o0 hc, e_isThere hc, hr.1, m_g24 hm, m_aI hm (a := 75) (n := 156) (i := 0) (c := 0) (by decide) rfl rfl (by decide) (by decide), hs 0 (by decide), Option.bind_some, e_isBelow, e_isWay]
  by_cases h0 : m 0 = 0
  · rw [bi_n (by rw [pos_iff (by omega)]; omega), if_pos rfl, if_pos ((nz_iff (by omega)).mpr h0)]
    exact ⟨_, _, _, rfl, rfl, QC.rf _, QM.rf _⟩
  · have hnz : ¬ nI (m 0) = 0 := by rw [nz_iff (by omega)]; exact h0
    rw [bi_y (show 0 < nI (m 0) by rw [pos_iff (by omega)]; omega), if_neg z1, if_neg hnz]
    rcases bi_in (x := a1) (n := 4) (by decide) with ⟨p, p1, rfl, p3⟩ | ⟨p1, p2⟩
    · have p3 : bi (0 ≤ nI p ∧ nI p < 4) = 1 := p3
      have hr8 : ∀ c, c < m 0 → (fun c => m (9 + 7 * c)) c < 8 := fun c hc' => by
        show m (9 + 7 * c) < 8
        have := hw.2.2.2.2.1 c (by omega); omega
      obtain ⟨τ1, f1, f2, f3⟩ := e_asThey (N := N) hN h12 hm hs
      obtain ⟨τ2, g1, g2, g3⟩ := e_votes (N := N) (a := ages m) (way := p) hN hw (by omega) (f2.wm hm) (fun i hi => by rw [f2.2.2 75 (by decide)]; exact hs i hi) f3 hr8 (fun _ => rfl) p1
      obtain ⟨σ1, k1, k2⟩ := e_voteOf (N := N) (row := 9 + 6) (way := p) (r := fun c => m (9 + 7 * c)) hN hw (by omega) hr8 (by decide) rfl (by omega) p1 hc hr (fun c hc' => by
        have := hr.2.2.2.2.1 c hc' 5 (by decide)
        rwa [show 4 + 7 * c + 5 = 9 + 7 * c by omega] at this)
      rw [p3, if_neg z1, if_neg z1, k_0_4 hc, Option.bind_some, v_g6 (now9 hc), Option.bind_some, k1, Option.bind_some, m_ob hm, Option.bind_some, f1, Option.bind_some, m_ob (f2.wm hm), Option.bind_some, g1, Option.bind_some]
      exact ⟨_, _, _, rfl, rfl, k2.qc (by decide), (f2.qm (by unfold scM; omega) (by decide)).tr (g2.qm (by unfold scM; omega) (by decide))⟩
    · have p2 : bi (0 ≤ a1 ∧ a1 < 4) = 0 := p2
      rw [p2]
      exact ⟨_, _, _, rfl, rfl, QC.rf _, QM.rf _⟩
theorem e_voteAfter (hN : 500 ≤ N) {m : Nat → Nat} {t n w F way : Nat} {cls : Cls} {b : Nat → Bool} {σ : Mm} (ht : t < 6) (hL : LWF cls) (hws : WS m) (h0 : 0 < m 0) (hw : w < 8) (hn : n ≤ 24) (hF : F < 4096) (hb : ∀ t, t < m 1 → b t = F.testBit t) (hway : way < 4) (hc : WFc σ) (hr : RelV σ 9 m) (hC : CL σ t cls) : ∃ σ', f_X10_voteAfter N 0 (nI t) (nI w) (nI n) (nI way) (nI F) σ = some (nI (voteV way (m 0) (rowG cls m b w n) (ages m)), σ') ∧ RS aftL σ σ' := by
  obtain ⟨s1, a1, a2, a3⟩ := e_turnAll (N := N) (o := 50) hN ht hL hws hw hn hF hb (Or.inl rfl) hc hr hC
  have c1 := a2.wc hc
  obtain ⟨s2, b1, b2⟩ := e_voteOf (N := N) (row := 50) (way := way) (r := rowG cls m b w n) (by omega) hws h0 (rowG_lt hws) (by decide) rfl (by omega) hway c1 (a2.rel (by decide) hr) a3
  refine ⟨s2, ?_, (a2.mono (by decide)).tr (b2.mono (by decide))⟩
  unfold f_X10_voteAfter
  rw [k_0_9 hc, Option.bind_some, k_0_7 hc, Option.bind_some, k_law hc ht, Option.bind_some, k_0_4 hc, Option.bind_some, k_0_13 hc, Option.bind_some, k_o33 hc, Option.bind_some, a1, Option.bind_some, k_0_13 c1, Option.bind_some, k_o0 c1, Option.bind_some, b1, Option.bind_some]
theorem goes_m (hN : 500 ≤ N) {m : Nat → Nat} {t n w : Nat} {cls : Cls} {b : Nat → Bool} {l4 : Int32} (ht : t < 6) (hL : LWF cls) (hws : WS m) (hw : w < 8) (hn : n ≤ 24) (hb : ∀ t, t < m 1 → (b t = true ↔ nI t = l4 ∨ m (90 + 3 * t) = 1)) : ∀ d c fu τ, c + d = m 0 → d < fu → WFm τ → MLaw τ t cls → (∀ i, i < 156 → iv τ 75 i = nI (m i)) → (∀ j, j < c → iv τ 76 j = nI (rowG cls m b w n j)) → ∃ τ', f_X11_goes_3 N fu 63 (nI t) (nI w) (nI n) l4 (nI c) τ = some τ' ∧ Rw τ' (m 0) (rowG cls m b w n) ∧ FS [76] τ τ' := by
  have h12 := hws.1
  intro d
  induction d with
  | zero =>
    intro c fu τ h1 h2 hm hM hs hj
    obtain ⟨fu, rfl⟩ : ∃ q, fu = q + 1 := ⟨fu - 1, by omega⟩
    refine ⟨τ, ?_, fun j hj' => hj j (by omega), FS.rf _ _⟩
    rw [f_X11_goes_3, m_g24 hm, Option.bind_some, m_aI hm (a := 75) (n := 156) (i := 0) (c := 0) (by decide) rfl rfl (by decide) (by decide), Option.bind_some, hs 0 (by decide), if_pos (nI_le (by omega) (by omega))]
  | succ d ih =>
    intro c fu τ h1 h2 hm hM hs hj
    obtain ⟨fu, rfl⟩ : ∃ q, fu = q + 1 := ⟨fu - 1, by omega⟩
    have b5 := hws.2.2.2.2.1 c (by omega)
    obtain ⟨τ1, k1, k2⟩ := e_goesTo (N := N) (rust := m (6 + 7 * c)) (at' := m (9 + 7 * c)) hN ht hL hws (show c < m 0 by omega) hw hn hb (by omega) hm hM hs
    have m1 := k2.wm hm
    have f2 : FS [76] τ (si τ1 76 c (nI (rowG cls m b w n c))) := (k2.fs [76]).tr ((RO.si 76 τ1 _ _).fs (by decide) (by decide))
    obtain ⟨τ', x1, x2, x3⟩ := ih (c + 1) fu _ (by omega) (by omega) (f2.wm hm) (f2.law (by decide) hM) (f2.said (by decide) hs) (fun j hj' => by
      rw [iv_si]
      by_cases e : j = c
      · rw [if_pos ⟨rfl, e⟩, e]
      · rw [if_neg (fun q => e q.2), k2.2.2.1 76 (by decide)]; exact hj j (by omega))
    refine ⟨τ', ?_, x2, f2.tr x3⟩
    rw [f_X11_goes_3, m_g24 hm, Option.bind_some, m_aI hm (a := 75) (n := 156) (i := 0) (c := 0) (by decide) rfl rfl (by decide) (by decide), Option.bind_some, hs 0 (by decide), if_neg (nI_ge (by omega) (by omega)), m_g25 hm, Option.bind_some, m_ob hm, Option.bind_some, e_c5 hm (by omega), Option.bind_some, m_ob hm, Option.bind_some, e_c2 hm (by omega), Option.bind_some, m_ob hm, Option.bind_some, hs (4 + 7 * c + 5) (by omega), hs (4 + 7 * c + 2) (by omega), show 4 + 7 * c + 5 = 9 + 7 * c by omega, show 4 + 7 * c + 2 = 6 + 7 * c by omega, k1, Option.bind_some, m_sI m1 (a := 76) (n := 12) (c := c) (by decide) rfl rfl (by omega) (by decide), Option.bind_some, nI_1]
    exact x1
theorem e_goes (hN : 500 ≤ N) {m : Nat → Nat} {t n w : Nat} {cls : Cls} {b : Nat → Bool} {l4 : Int32} {τ : Mm} (ht : t < 6) (hL : LWF cls) (hws : WS m) (hw : w < 8) (hn : n ≤ 24) (hb : ∀ t, t < m 1 → (b t = true ↔ nI t = l4 ∨ m (90 + 3 * t) = 1)) (hm : WFm τ) (hM : MLaw τ t cls) (hs : ∀ i, i < 156 → iv τ 75 i = nI (m i)) : ∃ τ', f_X11_goes N 63 (nI t) (nI w) (nI n) l4 τ = some τ' ∧ Rw τ' (m 0) (rowG cls m b w n) ∧ FS [76] τ τ' :=
  goes_m hN ht hL hws hw hn hb (m 0) 0 N τ (by omega) (by have := hws.1; omega) hm hM hs (fun j hj => absurd hj (by omega))
/-- goes, then votes -/
theorem e_goVote (hN : 500 ≤ N) {m : Nat → Nat} {t n w way : Nat} {cls : Cls} {b : Nat → Bool} {l4 : Int32} {τ : Mm} (ht : t < 6) (hL : LWF cls) (hws : WS m) (h0 : 0 < m 0) (hw : w < 8) (hn : n ≤ 24) (hb : ∀ t, t < m 1 → (b t = true ↔ nI t = l4 ∨ m (90 + 3 * t) = 1)) (hway : way < 4) (hm : WFm τ) (hM : MLaw τ t cls) (hs : ∀ i, i < 156 → iv τ 75 i = nI (m i)) : ∃ τ1 τ', f_X11_goes N 63 (nI t) (nI w) (nI n) l4 τ = some τ1 ∧ f_X11_votes N 63 (nI way) τ1 = some (nI (voteV way (m 0) (rowG cls m b w n) (ages m)), τ') ∧ WFm τ1 ∧ FS [76, 77] τ τ' ∧ voteV way (m 0) (rowG cls m b w n) (ages m) < 8 := by
  obtain ⟨τ1, a1, a2, a3⟩ := e_goes (N := N) hN ht hL hws hw hn hb hm hM hs
  obtain ⟨τ2, b1, b2, b3⟩ := e_votes (N := N) (a := ages m) (way := way) (by omega) hws h0 (a3.wm hm) (a3.said (by decide) hs) a2 (rowG_lt hws) (fun _ => rfl) hway
  exact ⟨τ1, τ2, a1, b1, a3.wm hm, (a3.mono (by decide)).tr (b2.fs (by decide) (by decide)), b3⟩
theorem st_after (hN : 500 ≤ N) (a1 a2 a3 a4 a5 : Int32) : StepI Inv (f_X10_after N 0 a1 a2 a3 a4 a5) (f_X11_after N 63 a1 a2 a3 a4 a5) := by
  refine step_q fun σ τ hi => ?_
  obtain ⟨hc, hm, hnn, -, ⟨nl, l1, l2, l3, l4⟩, ⟨m, hw, hr, hs⟩, -⟩ := hi
  have h12 := hw.1
  unfold f_X10_after f_X10_after_28 f_X10_after_64 f_X11_after f_X11_after_29 f_X11_after_63
  rw [k_o0 hc, Option.bind_some, m_ob hm, Option.bind_some]
  by_cases hB : CB m nl a1 a2 a3
  · rw [(e_canBlow hc hr.1 h12 l2 a1 a2 a3).1 hB, (e_canBlowM hm (hs 0 (by decide)) h12 l3 a1 a2 a3).1 hB, Option.bind_some, Option.bind_some]
    simp only [if_neg z1, e_isBelow, e_isWay, e_in_n a5 2 (by decide) (by decide) (show (1 : Int64) = (nI 1).toInt64 by decide), Option.bind_some, show (2 : Int32) = nI 2 from rfl]
    have h0 := hB.1
    obtain ⟨t, w, n, rfl, ht, rfl, hw8, rfl, hn⟩ := hB.ex l1
    rcases bi_in (x := a4) (n := 4) (by decide) with ⟨p, p1, rfl, p3⟩ | ⟨p1, p2⟩
    · have p3 : bi (0 ≤ nI p ∧ nI p < 4) = 1 := p3
      rw [p3, if_neg z1, if_neg z1]
      rcases bi_01 (0 ≤ a5 ∧ a5 < nI 2) with h3 | h3
      · rw [h3]
        exact ⟨_, _, _, rfl, rfl, QC.rf _, QM.rf _⟩
      · rw [h3, if_neg z1, if_neg z1]
        obtain ⟨cls, L1, L2, L3, L4, L5⟩ := l4 t ht
        obtain ⟨σ1, x1, x2⟩ := e_voteAfter (N := N) (way := p) hN (show t < 6 by omega) L1 hw h0 hw8 hn hw.fm (fb_c m) p1 hc hr ⟨L2.1, L2.2⟩
        obtain ⟨τ1, τ2, y1, y2, y3, y4, y5⟩ := e_goVote (N := N) (way := p) hN (show t < 6 by omega) L1 hw h0 hw8 hn (fb_m hw) p1 hm ⟨L3, L4, L5⟩ hs
        rw [k_0_4 hc, Option.bind_some, v_i (now9 hc), Option.bind_some, hr.2.2.2.1, k_o0 hc, Option.bind_some, x1, Option.bind_some, m_ob hm, Option.bind_some, y1, Option.bind_some, m_ob y3, Option.bind_some, y2, Option.bind_some, e_offB y5 hw8, e_off' y5 hw8]
        by_cases z : a5 = 0
        · rw [if_pos z, if_pos z]
          exact ⟨_, _, _, rfl, rfl, x2.qc (by decide), y4.qm (by decide)⟩
        · rw [if_neg z, if_neg z]
          exact ⟨_, _, _, rfl, rfl, x2.qc (by decide), y4.qm (by decide)⟩
    · have p2 : bi (0 ≤ a4 ∧ a4 < 4) = 0 := p2
      rw [p2]
      exact ⟨_, _, _, rfl, rfl, QC.rf _, QM.rf _⟩
  · rw [(e_canBlow hc hr.1 h12 l2 a1 a2 a3).2 hB, (e_canBlowM hm (hs 0 (by decide)) h12 l3 a1 a2 a3).2 hB]
    exact ⟨_, _, _, rfl, rfl, QC.rf _, QM.rf _⟩
/-- one TREE more is felled -/
def bb (m : Nat → Nat) (x : Nat) : Nat → Bool := fun t => (fmask m (m 1) ||| 2 ^ x).testBit t
theorem bb_m {m : Nat → Nat} (hw : WS m) {x : Nat} (hx : x < m 1) : ∀ t, t < m 1 → (bb m x t = true ↔ nI t = nI x ∨ m (90 + 3 * t) = 1) := by
  intro t ht
  have h12 := hw.2.1
  unfold bb
  rw [Nat.testBit_or, Nat.testBit_two_pow, fm_tb hw.bits (m 1) h12 t, nI_eq (by omega) (by omega)]
  simp only [Bool.or_eq_true, decide_eq_true_eq]
  constructor
  · intro h
    rcases h with h | h
    · exact Or.inr h.2
    · exact Or.inl h.symm
  · intro h
    rcases h with h | h
    · exact Or.inr h.symm
    · exact Or.inl ⟨ht, h⟩
theorem rowG_bb {cls : Cls} {m : Nat → Nat} {w n x : Nat} (hw : WS m) (hx : x < m 1) (h : m (90 + 3 * x) = 1) : rowG cls m (bb m x) w n = rowG cls m (fb m) w n := by
  funext c
  unfold rowG goV
  have : leeN m (bb m x) c w = leeN m (fb m) c w := by
    unfold leeN
    apply sg_cong
    intro t _ ht
    have e : bb m x t = fb m t := by
      have h1 := bb_m hw hx t (by omega)
      have h2 := fb_m hw t (by omega)
      have h12 := hw.2.1
      have h3 : (bb m x t = true ↔ fb m t = true) := by
        rw [h1, h2, nI_eq (by omega) (by omega)]
        constructor
        · intro q
          rcases q with q | q
          · right; rw [q]; exact h
          · exact Or.inr q
        · intro q
          rcases q with q | q
          · exact absurd q (nI_ne1 (by omega))
          · exact Or.inr q
      cases e1 : bb m x t <;> cases e2 : fb m t <;> simp_all
    rw [e]
  rw [this]
theorem fel_l (hN : 500 ≤ N) {m : Nat → Nat} {t n w way : Nat} {cls : Cls} (ht : t < 6) (hL : LWF cls) (hws : WS m) (h0 : 0 < m 0) (hw : w < 8) (hn : n ≤ 24) (hway : way < 4) (hv : ¬ voteV way (m 0) (rowG cls m (fb m) w n) (ages m) = w) (hv8 : voteV way (m 0) (rowG cls m (fb m) w n) (ages m) < 8) : ∀ d x fu σ τ, x + d = m 1 → d < fu → WFc σ → RelV σ 9 m → CL σ t cls → WFm τ → MLaw τ t cls → (∀ i, i < 156 → iv τ 75 i = nI (m i)) → ∃ r σ' τ', f_X10_felled_47 N fu 0 (nI t) (nI w) (nI n) (nI way) (nI x) σ = some (r, σ') ∧ f_X11_felled_44 N fu 63 (nI t) (nI w) (nI n) (nI way) (nI x) τ = some (r, τ') ∧ RS aftL σ σ' ∧ FS [76, 77] τ τ' := by
  have h12 := hws.2.1
  intro d
  induction d with
  | zero =>
    intro x fu σ τ h1 h2 hc hr hC hm hM hs
    obtain ⟨fu, rfl⟩ : ∃ q, fu = q + 1 := ⟨fu - 1, by omega⟩
    refine ⟨-2, σ, τ, ?_, ?_, RS.rf _ _, FS.rf _ _⟩
    · rw [f_X10_felled_47, k_0_4 hc, Option.bind_some, v_i (now9 hc), Option.bind_some, hr.2.1, if_pos (nI_le (by omega) (by omega)), f_X10_felled_100]
    · rw [f_X11_felled_44, m_g24 hm, Option.bind_some, m_aI hm (a := 75) (n := 156) (i := 1) (c := 1) (by decide) rfl rfl (by decide) (by decide), Option.bind_some, hs 1 (by decide), if_pos (nI_le (by omega) (by omega))]
  | succ d ih =>
    intro x fu σ τ h1 h2 hc hr hC hm hM hs
    obtain ⟨fu, rfl⟩ : ∃ q, fu = q + 1 := ⟨fu - 1, by omega⟩
    have hfm := hws.fm
    have h2x : 2 ^ x < 2 ^ 12 := Nat.pow_lt_pow_right (by decide) (by omega)
    have hF2 : fmask m (m 1) ||| 2 ^ x < 4096 := Nat.or_lt_two_pow (n := 12) hfm h2x
    obtain ⟨σ1, x1, x2⟩ := e_voteAfter (N := N) (way := way) (b := bb m x) hN ht hL hws h0 hw hn hF2 (fun _ _ => rfl) hway hc hr hC
    have hbt := hws.bits x (by omega)
    rw [f_X10_felled_47, k_0_4 hc, Option.bind_some, v_i (now9 hc), Option.bind_some, hr.2.1, if_neg (nI_ge (by omega) (by omega)), if_neg (no12 (by omega)), Option.bind_some, v_i (now9 hc), Option.bind_some, hr.2.2.2.1, k_o0 hc, Option.bind_some, shl1 (show x < 32 by omega), nI_or _ _ (by omega) (by omega), x1, Option.bind_some,
      f_X11_felled_44, m_g24 hm, Option.bind_some, m_aI hm (a := 75) (n := 156) (i := 1) (c := 1) (by decide) rfl rfl (by decide) (by decide), Option.bind_some, hs 1 (by decide), if_neg (nI_ge (by omega) (by omega)), m_ob hm, Option.bind_some, e_t2 hm (by omega), Option.bind_some, hs (88 + 3 * x + 2) (by omega), show 88 + 3 * x + 2 = 90 + 3 * x by omega]
    unfold f_X11_felled_91
    rw [nI_1]
    by_cases q : m (90 + 3 * x) = 1
    · have nq : ¬ nI (voteV way (m 0) (rowG cls m (bb m x) w n) (ages m)) = nI w := by rw [rowG_bb hws (by omega) q, nI_eq (by omega) (by omega)]; exact hv
      rw [if_pos (show nI (m (90 + 3 * x)) = (1 : Int32) by rw [q]; rfl), if_neg nq]
      obtain ⟨r, σ', τ', y1, y2, y3, y4⟩ := ih (x + 1) fu σ1 τ (by omega) (by omega) (x2.wc hc) (x2.rel (by decide) hr) (x2.cl (by decide) hC) hm hM hs
      exact ⟨r, σ', τ', y1, y2, x2.tr y3, y4⟩
    · rw [if_neg (show ¬ nI (m (90 + 3 * x)) = (1 : Int32) from nIk (by omega) (by decide) q)]
      obtain ⟨τ1, τ2, g1, g2, g3, g4, g5⟩ := e_goVote (N := N) (way := way) (l4 := nI x) hN ht hL hws h0 hw hn (bb_m hws (by omega)) hway hm hM hs
      rw [m_ob hm, Option.bind_some, g1, Option.bind_some, m_ob g3, Option.bind_some, g2, Option.bind_some]
      by_cases q2 : voteV way (m 0) (rowG cls m (bb m x) w n) (ages m) = w
      · have nq : nI (voteV way (m 0) (rowG cls m (bb m x) w n) (ages m)) = nI w := by rw [q2]
        rw [if_pos nq, if_pos nq]
        exact ⟨_, _, _, rfl, rfl, x2, g4⟩
      · have nq : ¬ nI (voteV way (m 0) (rowG cls m (bb m x) w n) (ages m)) = nI w := by rw [nI_eq (by omega) (by omega)]; exact q2
        rw [if_neg nq, if_neg nq]
        obtain ⟨r, σ', τ', y1, y2, y3, y4⟩ := ih (x + 1) fu σ1 τ2 (by omega) (by omega) (x2.wc hc) (x2.rel (by decide) hr) (x2.cl (by decide) hC) (g4.wm hm) (g4.law (by decide) hM) (g4.said (by decide) hs)
        exact ⟨r, σ', τ', y1, y2, x2.tr y3, g4.tr y4⟩
theorem st_felled (hN : 500 ≤ N) (a1 a2 a3 a4 : Int32) : StepI Inv (f_X10_felled N 0 a1 a2 a3 a4) (f_X11_felled N 63 a1 a2 a3 a4) := by
  refine step_q fun σ τ hi => ?_
  obtain ⟨hc, hm, hnn, -, ⟨nl, l1, l2, l3, l4⟩, ⟨m, hw, hr, hs⟩, -⟩ := hi
  have h12 := hw.1
  unfold f_X10_felled f_X10_felled_19 f_X11_felled f_X11_felled_18
  rw [k_o0 hc, Option.bind_some, m_ob hm, Option.bind_some]
  by_cases hB : CB m nl a1 a2 a3
  · rw [(e_canBlow hc hr.1 h12 l2 a1 a2 a3).1 hB, (e_canBlowM hm (hs 0 (by decide)) h12 l3 a1 a2 a3).1 hB, Option.bind_some, Option.bind_some]
    simp only [if_neg z1, e_isBelow, e_isWay, Option.bind_some]
    have h0 := hB.1
    obtain ⟨t, w, n, rfl, ht, rfl, hw8, rfl, hn⟩ := hB.ex l1
    rcases bi_in (x := a4) (n := 4) (by decide) with ⟨p, p1, rfl, p3⟩ | ⟨p1, p2⟩
    · have p3 : bi (0 ≤ nI p ∧ nI p < 4) = 1 := p3
      rw [p3, if_neg z1, if_neg z1]
      obtain ⟨cls, L1, L2, L3, L4, L5⟩ := l4 t ht
      obtain ⟨σ1, x1, x2⟩ := e_voteAfter (N := N) (way := p) hN (show t < 6 by omega) L1 hw h0 hw8 hn hw.fm (fb_c m) p1 hc hr ⟨L2.1, L2.2⟩
      obtain ⟨τ1, τ2, y1, y2, y3, y4, y5⟩ := e_goVote (N := N) (way := p) hN (show t < 6 by omega) L1 hw h0 hw8 hn (fb_m hw) p1 hm ⟨L3, L4, L5⟩ hs
      rw [k_0_4 hc, Option.bind_some, v_i (now9 hc), Option.bind_some, hr.2.2.2.1, k_o0 hc, Option.bind_some, x1, Option.bind_some, m_ob hm, Option.bind_some, y1, Option.bind_some, m_ob y3, Option.bind_some, y2, Option.bind_some]
      by_cases z : voteV p (m 0) (rowG cls m (fb m) w n) (ages m) = w
      · have nq : nI (voteV p (m 0) (rowG cls m (fb m) w n) (ages m)) = nI w := by rw [z]
        rw [if_pos nq, if_pos nq]
        exact ⟨_, _, _, rfl, rfl, x2.qc (by decide), y4.qm (by decide)⟩
      · have nq : ¬ nI (voteV p (m 0) (rowG cls m (fb m) w n) (ages m)) = nI w := by rw [nI_eq (by omega) (by omega)]; exact z
        rw [if_neg nq, if_neg nq]
        obtain ⟨r, σ', τ', k1, k2, k3, k4⟩ := fel_l (N := N) hN (show t < 6 by omega) L1 hw h0 hw8 hn p1 z y5 (m 1) 0 N σ1 τ2 (by omega) (by have := hw.2.1; omega) (x2.wc hc) (x2.rel (by decide) hr) (x2.cl (by decide) ⟨L2.1, L2.2⟩) (y4.wm hm) (y4.law (by decide) ⟨L3, L4, L5⟩) (y4.said (by decide) hs)
        exact ⟨r, σ', τ', k1, k2, (x2.tr k3).qc (by decide), (y4.tr k4).qm (by decide)⟩
    · have p2 : bi (0 ≤ a4 ∧ a4 < 4) = 0 := p2
      rw [p2]
      exact ⟨_, _, _, rfl, rfl, QC.rf _, QM.rf _⟩
  · rw [(e_canBlow hc hr.1 h12 l2 a1 a2 a3).2 hB, (e_canBlowM hm (hs 0 (by decide)) h12 l3 a1 a2 a3).2 hB]
    exact ⟨_, _, _, rfl, rfl, QC.rf _, QM.rf _⟩
end AF
