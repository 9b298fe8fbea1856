/-! lee -/
abbrev ahd (w : Nat) (x y : Int32) (k : Nat) : Prop := x = nI k * stX w ∧ y = nI k * stY w
abbrev ahead (w : Nat) (x y : Int32) : Prop := ahd w x y 1 ∨ ahd w x y 2 ∨ ahd w x y 3
theorem ahd_ex {w : Nat} (hw : w < 8) {x y : Int32} {j k : Nat} (hj : j < 4) (hk : k < 4) (h1 : ahd w x y j) (h2 : ahd w x y k) : j = k := by
  have key : ∀ w, w < 8 → ∀ j, j < 4 → ∀ k, k < 4 → (nI j * stX w = nI k * stX w ∧ nI j * stY w = nI k * stY w) → j = k := by decide
  exact key w hw j hj k hk ⟨h1.1.symm.trans h2.1, h1.2.symm.trans h2.2⟩
def leeN (m : Nat → Nat) (b : Nat → Bool) (c w : Nat) : Nat := sg (fun t => if b t then 0 else if ahead w (nI (m (88 + 3 * t)) - nI (m (4 + 7 * c))) (nI (m (89 + 3 * t)) - nI (m (5 + 7 * c))) then 1 else 0) 0 (m 1)
section LE
variable {N : Nat}
theorem e_across {w : Nat} (hw : w < 8) (τ : Mm) : f_X11_across N (nI w) τ = some (stX w, τ) := by
  have key : ∀ w, w < 8 → (if nI w = 0 then (0 : Int32) else if nI w = 4 then 0 else if 4 ≤ nI w then -1 else 1) = stX w := by decide
  rw [← key w hw]
  unfold f_X11_across f_X11_across_9 f_X11_across_23
  by_cases h1 : nI w = 0
  · rw [if_pos h1, if_pos h1]
  · rw [if_neg h1, if_neg h1]
    by_cases h2 : nI w = 4
    · rw [if_pos h2, if_pos h2]
    · rw [if_neg h2, if_neg h2]
      by_cases h3 : 4 ≤ nI w
      · rw [if_pos h3, if_pos h3]
      · rw [if_neg h3, if_neg h3]
theorem e_down {w : Nat} (hw : w < 8) (τ : Mm) : f_X11_down N (nI w) τ = some (stY w, τ) := by
  have key : ∀ w, w < 8 → (if nI w = 2 then (0 : Int32) else if nI w = 6 then 0 else if nI w ≤ 2 then -1 else if 6 ≤ nI w then -1 else 1) = stY w := by decide
  rw [← key w hw]
  unfold f_X11_down f_X11_down_11 f_X11_down_30 f_X11_down_31
  by_cases h1 : nI w = 2
  · rw [if_pos h1, if_pos h1]
  · rw [if_neg h1, if_neg h1]
    by_cases h2 : nI w = 6
    · rw [if_pos h2, if_pos h2]
    · rw [if_neg h2, if_neg h2]
      by_cases h3 : nI w ≤ 2
      · rw [if_pos h3, if_pos h3]
      · rw [if_neg h3, if_neg h3]
        by_cases h4 : 6 ≤ nI w
        · rw [if_pos h4, if_pos h4]
        · rw [if_neg h4, if_neg h4]
theorem tX {w : Nat} (hw : w < 8) : tAX (nI w &&& 7) = some (stX w) := by
  have : ∀ w, w < 8 → tAX (nI w &&& 7) = some (stX w) := by decide
  exact this w hw
theorem tY {w : Nat} (hw : w < 8) : tAY (nI w &&& 7) = some (stY w) := by
  have : ∀ w, w < 8 → tAY (nI w &&& 7) = some (stY w) := by decide
  exact this w hw
theorem ahd_st {w k n : Nat} (hw : w < 8) (hk : k ≤ 3) (x y : Int32) (σ : Mm) : f_X7_isAhead_2 N (n + 1) x y (nI w) (nI k) σ = if ahd w x y k then some (1, σ) else f_X7_isAhead_2 N n x y (nI w) (nI (k + 1)) σ := by
  rw [f_X7_isAhead_2, if_neg (by rw [show (3 : Int32) = nI 3 from rfl, nI_ltI (by decide) (by omega)]; omega), tX hw, Option.bind_some, tY hw]
  unfold f_X7_isAhead_37
  rw [nI_1]
  unfold ahd
  by_cases h1 : x = nI k * stX w
  · rw [if_pos h1, Option.bind_some]
    by_cases h2 : y = nI k * stY w
    · rw [if_pos h2, if_pos ⟨h1, h2⟩]
    · rw [if_neg h2, if_neg (fun q => h2 q.2)]
  · rw [if_neg h1, if_neg (fun q => h1 q.1)]
theorem e_isAhead (hN : 10 ≤ N) {w : Nat} (hw : w < 8) (x y : Int32) (σ : Mm) : f_X7_isAhead N x y (nI w) σ = some (bi (ahead w x y), σ) := by
  unfold f_X7_isAhead
  obtain ⟨n, e⟩ : ∃ n, N = n + 1 + 1 + 1 + 1 := ⟨N - 4, by omega⟩
  have : ∀ fu, fu = N → f_X7_isAhead_2 N fu x y (nI w) 1 σ = some (bi (ahead w x y), σ) := by
    intro fu h
    rw [h.trans e, show (1 : Int32) = nI 1 from rfl, ahd_st hw (by decide), ahd_st hw (by decide), ahd_st hw (by decide)]
    unfold ahead
    by_cases h1 : ahd w x y 1
    · rw [if_pos h1, bi_y (Or.inl h1)]
    · rw [if_neg h1]
      by_cases h2 : ahd w x y 2
      · rw [if_pos h2, bi_y (Or.inr (Or.inl h2))]
      · rw [if_neg h2]
        by_cases h3 : ahd w x y 3
        · rw [if_pos h3, bi_y (Or.inr (Or.inr h3))]
        · rw [if_neg h3, bi_n (fun q => by rcases q with q | q | q
                                           · exact h1 q
                                           · exact h2 q
                                           · exact h3 q)]
          rw [f_X7_isAhead_2, if_pos (by decide)]
  exact this N rfl
theorem she_c {σ : Mm} {m : Nat → Nat} {v : Nat} (hN : 10 ≤ N) (hv : VW σ v) (hr : RelV σ v m) (hn0 : m 0 ≤ 12) (hn : m 1 ≤ 12) {F c w : Nat} (hF : F < 4096) (hc : c < m 0) (hw : w < 8) {b : Nat → Bool} (hb : ∀ t, t < m 1 → b t = F.testBit t) : ∀ d t a fu, t + d = m 1 → d < fu → f_X7_sheltering_25 N fu v (nI c) (nI w) (nI F) (nI a) (nI t) σ = some (nI (a + sg (fun t => if b t then 0 else if ahead w (nI (m (88 + 3 * t)) - nI (m (4 + 7 * c))) (nI (m (89 + 3 * t)) - nI (m (5 + 7 * c))) then 1 else 0) t d), σ) := by
  have r0 : iv σ (v + 1) c = nI (m (4 + 7 * c)) := hr.2.2.2.2.1 c hc 0 (by decide)
  have r1 : iv σ (v + 2) c = nI (m (5 + 7 * c)) := by have := hr.2.2.2.2.1 c hc 1 (by decide); rwa [show 4 + 7 * c + 1 = 5 + 7 * c by omega] at this
  intro d
  induction d with
  | zero =>
    intro t a fu h1 h2
    obtain ⟨fu, rfl⟩ : ∃ q, fu = q + 1 := ⟨fu - 1, by omega⟩
    rw [f_X7_sheltering_25, v_i hv, Option.bind_some, hr.2.1, if_pos (nI_le (by omega) (by omega))]
    rfl
  | succ d ih =>
    intro t a fu h1 h2
    obtain ⟨fu, rfl⟩ : ∃ q, fu = q + 1 := ⟨fu - 1, by omega⟩
    have rt := hr.2.2.2.2.2.1 t (by omega)
    rw [f_X7_sheltering_25, v_i hv, Option.bind_some, hr.2.1, if_neg (nI_ge (by omega) (by omega)), if_neg (by rw [show (12 : Int32) = nI 12 from rfl]; exact nI_ge (by omega) (by decide)), bitAt (by omega) (by omega)]
    have hbt := hb t (by omega)
    rw [Nat.testBit_eq_decide_div_mod_eq] at hbt
    unfold f_X7_sheltering_55 f_X7_sheltering_100
    simp only [nI_1]
    rw [show sg (fun t => if b t then 0 else if ahead w (nI (m (88 + 3 * t)) - nI (m (4 + 7 * c))) (nI (m (89 + 3 * t)) - nI (m (5 + 7 * c))) then 1 else 0) t (d + 1) = (if b t then 0 else if ahead w (nI (m (88 + 3 * t)) - nI (m (4 + 7 * c))) (nI (m (89 + 3 * t)) - nI (m (5 + 7 * c))) then 1 else 0) + sg (fun t => if b t then 0 else if ahead w (nI (m (88 + 3 * t)) - nI (m (4 + 7 * c))) (nI (m (89 + 3 * t)) - nI (m (5 + 7 * c))) then 1 else 0) (t + 1) d from rfl]
    by_cases hb1 : F / 2 ^ t % 2 = 1
    · rw [hbt, hb1, if_neg (by decide), if_pos trivial, if_pos (by simp), ih (t + 1) a fu (by omega) (by omega), Nat.zero_add]
    · have hb0 : F / 2 ^ t % 2 = 0 := by omega
      rw [hbt, hb0, if_pos (by decide), if_neg z1, v_g9 hv, Option.bind_some, v_a hv rfl (by decide) (by decide) (by omega), Option.bind_some, v_g1 hv, Option.bind_some, v_a hv rfl (by decide) (by decide) (by omega), Option.bind_some, v_g10 hv, Option.bind_some, v_a hv rfl (by decide) (by decide) (by omega), Option.bind_some, v_g2 hv, Option.bind_some, v_a hv rfl (by decide) (by decide) (by omega), Option.bind_some, e_isAhead hN hw, Option.bind_some, r0, r1, rt.1, rt.2, if_neg (show ¬ (decide (0 = 1) = true) by decide)]
      by_cases ha : ahead w (nI (m (88 + 3 * t)) - nI (m (4 + 7 * c))) (nI (m (89 + 3 * t)) - nI (m (5 + 7 * c)))
      · rw [bi_y ha, if_neg z1, if_pos ha, ih (t + 1) (a + 1) fu (by omega) (by omega), Nat.add_assoc]
      · rw [bi_n ha, if_pos rfl, if_neg ha, ih (t + 1) a fu (by omega) (by omega), Nat.zero_add]
theorem e_shelter {σ : Mm} {m : Nat → Nat} {v : Nat} (hN : 20 ≤ N) (hv : VW σ v) (hr : RelV σ v m) (hn0 : m 0 ≤ 12) (hn : m 1 ≤ 12) {F c w : Nat} (hF : F < 4096) (hc : c < m 0) (hw : w < 8) {b : Nat → Bool} (hb : ∀ t, t < m 1 → b t = F.testBit t) : f_X7_sheltering N v (nI c) (nI w) (nI F) σ = some (nI (leeN m b c w), σ) := by
  unfold f_X7_sheltering
  rw [v_o hv, Option.bind_some, e_hasCock hv hr.1 hn0, Option.bind_some, bi_y ⟨nI_pos' (by omega), nI_lt hc (by omega)⟩, if_neg z1, e_isBelow, Option.bind_some, bi_y ⟨nI_pos' (by omega), by rw [show (8 : Int32) = nI 8 from rfl]; exact nI_lt hw (by decide)⟩, if_neg z1, show (0 : Int32) = nI 0 from rfl, she_c (by omega) hv hr hn0 hn hF hc hw hb (m 1) 0 0 N (by omega) (by omega), Nat.zero_add]
  rfl
theorem leek {τ : Mm} {m : Nat → Nat} (hm : WFm τ) (hs : ∀ i, i < 156 → iv τ 75 i = nI (m i)) {c w t : Nat} (hc : c < 12) (hw : w < 8) (ht : t < 12) (r : Nat → Int32 → Int32 → Int32 → Int32 → Int32 → Mm → Option (Int32 × Mm)) (l3 : Int32) {k a fu : Nat} (hk : k < 4) : f_X11_leeOf_40 N r (fu + 1) 63 (nI c) (nI w) l3 (nI a) (nI t) (nI k) τ = f_X11_leeOf_40 N r fu 63 (nI c) (nI w) l3 (nI (a + if ahd w (nI (m (88 + 3 * t)) - nI (m (4 + 7 * c))) (nI (m (89 + 3 * t)) - nI (m (5 + 7 * c))) k then 1 else 0)) (nI t) (nI (k + 1)) τ := by
  have q : ∀ a b c : Int32, a = b + c ↔ a - b = c := by
    intro a b c
    constructor
    · intro h; rw [h, Int32.add_comm, Int32.add_sub_cancel]
    · intro h; rw [← h, Int32.add_comm, Int32.sub_add_cancel]
  rw [f_X11_leeOf_40, if_neg (by rw [show (4 : Int32) = nI 4 from rfl]; exact nI_ge (by omega) (by decide))]
  simp only [m_ob hm, Option.bind_some, e_t0 hm ht, e_t1 hm ht, e_c0 hm hc, e_c1 hm hc, e_across hw, e_down hw, hs (88 + 3 * t + 0) (by omega), hs (88 + 3 * t + 1) (by omega), hs (4 + 7 * c + 0) (by omega), hs (4 + 7 * c + 1) (by omega), q]
  unfold f_X11_leeOf_100 f_X11_leeOf_101
  simp only [nI_1, Nat.add_zero, show 88 + 3 * t + 1 = 89 + 3 * t by omega, show 4 + 7 * c + 1 = 5 + 7 * c by omega]
  unfold ahd
  by_cases h1 : nI (m (88 + 3 * t)) - nI (m (4 + 7 * c)) = nI k * stX w
  · rw [if_pos h1]
    by_cases h2 : nI (m (89 + 3 * t)) - nI (m (5 + 7 * c)) = nI k * stY w
    · rw [if_pos h2, if_pos ⟨h1, h2⟩]
    · rw [if_neg h2, if_neg (fun q => h2 q.2), show (0 : Int32) = nI 0 from rfl, nI_add]
  · rw [if_neg h1, if_neg (fun q => h1 q.1), show (0 : Int32) = nI 0 from rfl, nI_add]
theorem leet {τ : Mm} {m : Nat → Nat} (hN : 10 ≤ N) (hm : WFm τ) (hs : ∀ i, i < 156 → iv τ 75 i = nI (m i)) {c w t : Nat} (hc : c < 12) (hw : w < 8) (ht : t < 12) (r : Nat → Int32 → Int32 → Int32 → Int32 → Int32 → Mm → Option (Int32 × Mm)) (l3 : Int32) (a : Nat) : f_X11_leeOf_40 N r N 63 (nI c) (nI w) l3 (nI a) (nI t) 1 τ = r 63 (nI c) (nI w) l3 (nI (a + if ahead w (nI (m (88 + 3 * t)) - nI (m (4 + 7 * c))) (nI (m (89 + 3 * t)) - nI (m (5 + 7 * c))) then 1 else 0)) (nI (t + 1)) τ := by
  obtain ⟨n, e⟩ : ∃ n, N = n + 1 + 1 + 1 + 1 := ⟨N - 4, by omega⟩
  have : ∀ fu, fu = N → f_X11_leeOf_40 N r fu 63 (nI c) (nI w) l3 (nI a) (nI t) 1 τ = r 63 (nI c) (nI w) l3 (nI (a + if ahead w (nI (m (88 + 3 * t)) - nI (m (4 + 7 * c))) (nI (m (89 + 3 * t)) - nI (m (5 + 7 * c))) then 1 else 0)) (nI (t + 1)) τ := by
    intro fu h
    rw [h.trans e, show (1 : Int32) = nI 1 from rfl, leek hm hs hc hw ht r l3 (by decide), leek hm hs hc hw ht r l3 (by decide), leek hm hs hc hw ht r l3 (by decide), f_X11_leeOf_40, if_pos (by decide)]
    unfold f_X11_leeOf_110
    rw [nI_1]
    congr 2
    unfold ahead
    generalize nI (m (88 + 3 * t)) - nI (m (4 + 7 * c)) = x
    generalize nI (m (89 + 3 * t)) - nI (m (5 + 7 * c)) = y
    by_cases h1 : ahd w x y 1
    · have h2 : ¬ ahd w x y 2 := fun q => absurd (ahd_ex hw (by decide) (by decide) h1 q) (by decide)
      have h3 : ¬ ahd w x y 3 := fun q => absurd (ahd_ex hw (by decide) (by decide) h1 q) (by decide)
      rw [if_pos h1, if_neg h2, if_neg h3, if_pos (Or.inl h1)]
    · rw [if_neg h1]
      by_cases h2 : ahd w x y 2
      · have h3 : ¬ ahd w x y 3 := fun q => absurd (ahd_ex hw (by decide) (by decide) h2 q) (by decide)
        rw [if_pos h2, if_neg h3, if_pos (Or.inr (Or.inl h2))]
      · rw [if_neg h2]
        by_cases h3 : ahd w x y 3
        · rw [if_pos h3, if_pos (Or.inr (Or.inr h3))]
        · rw [if_neg h3, if_neg (fun q => by rcases q with q | q | q
                                             · exact h1 q
                                             · exact h2 q
                                             · exact h3 q)]
  exact this N rfl
theorem lee_m {τ : Mm} {m : Nat → Nat} (hN : 10 ≤ N) (hm : WFm τ) (hs : ∀ i, i < 156 → iv τ 75 i = nI (m i)) (hw : WS m) {c w : Nat} (hc : c < 12) (hw8 : w < 8) {b : Nat → Bool} {l3 : Int32} (hb : ∀ t, t < m 1 → (b t = true ↔ nI t = l3 ∨ m (90 + 3 * t) = 1)) : ∀ d t a fu, t + d = m 1 → d < fu → f_X11_leeOf_6 N fu 63 (nI c) (nI w) l3 (nI a) (nI t) τ = some (nI (a + sg (fun t => if b t then 0 else if ahead w (nI (m (88 + 3 * t)) - nI (m (4 + 7 * c))) (nI (m (89 + 3 * t)) - nI (m (5 + 7 * c))) then 1 else 0) t d), τ) := by
  have hn := hw.2.1
  intro d
  induction d with
  | zero =>
    intro t a fu h1 h2
    obtain ⟨fu, rfl⟩ : ∃ q, fu = q + 1 := ⟨fu - 1, by omega⟩
    rw [f_X11_leeOf_6, m_g24 hm, Option.bind_some, m_aI hm (a := 75) (n := 156) (i := 1) (c := 1) (by decide) rfl rfl (by decide) (by decide), Option.bind_some, hs 1 (by decide), if_pos (nI_le (by omega) (by omega))]
    rfl
  | succ d ih =>
    intro t a fu h1 h2
    obtain ⟨fu, rfl⟩ : ∃ q, fu = q + 1 := ⟨fu - 1, by omega⟩
    have hbt := hb t (by omega)
    have hbi := hw.bits t (by omega)
    rw [f_X11_leeOf_6, m_g24 hm, Option.bind_some, m_aI hm (a := 75) (n := 156) (i := 1) (c := 1) (by decide) rfl rfl (by decide) (by decide), Option.bind_some, hs 1 (by decide), if_neg (nI_ge (by omega) (by omega)), m_ob hm, Option.bind_some, e_t2 hm (by omega), Option.bind_some, hs (88 + 3 * t + 2) (by omega), show 88 + 3 * t + 2 = 90 + 3 * t by omega, leet hN hm hs hc hw8 (by omega)]
    unfold f_X11_leeOf_110
    rw [nI_1, show sg (fun t => if b t then 0 else if ahead w (nI (m (88 + 3 * t)) - nI (m (4 + 7 * c))) (nI (m (89 + 3 * t)) - nI (m (5 + 7 * c))) then 1 else 0) t (d + 1) = (if b t then 0 else if ahead w (nI (m (88 + 3 * t)) - nI (m (4 + 7 * c))) (nI (m (89 + 3 * t)) - nI (m (5 + 7 * c))) then 1 else 0) + sg (fun t => if b t then 0 else if ahead w (nI (m (88 + 3 * t)) - nI (m (4 + 7 * c))) (nI (m (89 + 3 * t)) - nI (m (5 + 7 * c))) then 1 else 0) (t + 1) d from rfl]
    by_cases e1 : nI t = l3
    · rw [if_pos e1, if_pos (hbt.mpr (Or.inl e1)), ih (t + 1) a fu (by omega) (by omega), Nat.zero_add]
    · rw [if_neg e1]
      by_cases e2 : m (90 + 3 * t) = 1
      · rw [if_pos (by rw [e2]; rfl), if_pos (hbt.mpr (Or.inr e2)), ih (t + 1) a fu (by omega) (by omega), Nat.zero_add]
      · have e3 : ¬ b t = true := fun q => (hbt.mp q).elim e1 e2
        rw [if_neg (by rw [show (1 : Int32) = nI 1 from rfl, nI_eq (by omega) (by decide)]; exact e2), if_neg e3, ih (t + 1) _ fu (by omega) (by omega), Nat.add_assoc]
theorem e_leeOf {τ : Mm} {m : Nat → Nat} (hN : 20 ≤ N) (hm : WFm τ) (hs : ∀ i, i < 156 → iv τ 75 i = nI (m i)) (hw : WS m) {c w : Nat} (hc : c < 12) (hw8 : w < 8) {b : Nat → Bool} {l3 : Int32} (hb : ∀ t, t < m 1 → (b t = true ↔ nI t = l3 ∨ m (90 + 3 * t) = 1)) : f_X11_leeOf N 63 (nI c) (nI w) l3 τ = some (nI (leeN m b c w), τ) := by
  unfold f_X11_leeOf
  rw [show (0 : Int32) = nI 0 from rfl, lee_m (by omega) hm hs hw hc hw8 hb (m 1) 0 0 N (by omega) (by have := hw.2.1; omega), Nat.zero_add]
  rfl
def fb (m : Nat → Nat) : Nat → Bool := fun t => (fmask m (m 1)).testBit t
theorem fb_c (m : Nat → Nat) : ∀ t, t < m 1 → fb m t = (fmask m (m 1)).testBit t := fun _ _ => rfl
theorem nI_ne1 {t : Nat} (h : t < 2 ^ 31) : ¬ nI t = -1 := by
  intro e
  have := nI_pos h
  rw [e] at this
  exact this (by decide)
theorem fb_m {m : Nat → Nat} (hw : WS m) : ∀ t, t < m 1 → (fb m t = true ↔ nI t = -1 ∨ m (90 + 3 * t) = 1) := by
  intro t ht
  have h12 := hw.2.1
  unfold fb
  rw [fm_tb hw.bits (m 1) h12 t, decide_eq_true_eq]
  constructor
  · intro h; exact Or.inr h.2
  · intro h
    rcases h with h | h
    · exact absurd h (nI_ne1 (by omega))
    · exact ⟨ht, h⟩
theorem st_lee (hN : 20 ≤ N) (a1 a2 : Int32) : StepI Inv (f_X10_lee N 0 a1 a2) (f_X11_lee N 63 a1 a2) := by
  refine step_q fun σ τ hi => ?_
  obtain ⟨hc, hm, hnn, -, -, ⟨m, hw, hr, hs⟩, -⟩ := hi
  have h12 := hw.1
  unfold f_X10_lee f_X10_lee_20 f_X11_lee f_X11_lee_25 f_X11_lee_26
  simp only [k_0_4 hc, v_o (now9 hc), e_hasCock (now9 hc) hr.1 hw.1, m_ob hm, e_isCock hm, hs 0 (by decide), e_isBelow, e_isPoint, Option.bind_some]
  rcases bi_in (x := a1) (n := m 0) (by omega) with ⟨c, h1, rfl, h3⟩ | ⟨h1, h2⟩
  · rcases bi_in (x := a2) (n := 8) (by decide) with ⟨k, g1, rfl, g3⟩ | ⟨g1, g2⟩
    · have g3 : bi (0 ≤ nI k ∧ nI k < 8) = 1 := g3
      rw [h3, g3, if_neg z1, if_neg z1, if_neg z1, if_neg z1, v_i (now9 hc), Option.bind_some, hr.2.2.2.1, e_shelter hN (now9 hc) hr hw.1 hw.2.1 hw.fm h1 g1 (fb_c m), Option.bind_some, e_leeOf hN hm hs hw (by omega) g1 (fb_m hw), Option.bind_some]
      exact ⟨_, _, _, rfl, rfl, QC.rf _, QM.rf _⟩
    · have g2 : bi (0 ≤ a2 ∧ a2 < 8) = 0 := g2
      rw [h3, g2]
      exact ⟨_, _, _, rfl, rfl, QC.rf _, QM.rf _⟩
  · rw [h2]
    exact ⟨_, _, _, rfl, rfl, QC.rf _, QM.rf _⟩
end LE
