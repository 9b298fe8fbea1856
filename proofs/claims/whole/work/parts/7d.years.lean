/-! years -/
abbrev yrL : List Nat := [34, 36, 37, 38, 39, 40, 41, 47, 48, 49]
def gg (cls : Cls) (m : Nat → Nat) (n c w p : Nat) : Nat := goV cls m (fb m) c (m (6 + 7 * c)) w n p
def EV (cls : Cls) (m : Nat → Nat) (n : Nat) (σ : Mm) : Prop := ∀ c p w, c < 12 → p < 8 → w < 8 → iv σ 49 ((c * 8 + p) * 8 + w) = -1 ∨ iv σ 49 ((c * 8 + p) * 8 + w) = nI (gg cls m n c w p)
def YS (cls : Cls) (m : Nat → Nat) (n t : Nat) (σ : Mm) : Prop := WFc σ ∧ RelV σ 9 m ∧ CL σ t cls ∧ rv σ 47 5 = some (51 + 2 * t) ∧ rv σ 47 0 = some 9 ∧ iv σ 47 6 = nI n ∧ EV cls m n σ
theorem YS.rs {cls : Cls} {m : Nat → Nat} {n t : Nat} {σ σ' : Mm} {l : List Nat} (h : YS cls m n t σ) (r : RS l σ σ') (hl : ∀ x ∈ l, 33 ≤ x ∧ x ≤ 50) (h6 : iv σ' 47 6 = iv σ 47 6) (hE : EV cls m n σ') : YS cls m n t σ' :=
  ⟨r.wc h.1, r.rel hl h.2.1, r.cl hl h.2.2.1, by rw [r.2.1]; exact h.2.2.2.1, by rw [r.2.1]; exact h.2.2.2.2.1, by rw [h6]; exact h.2.2.2.2.2.1, hE⟩
section YE
variable {N : Nat}
theorem k47 {σ : Mm} (h : WFc σ) {j r : Nat} (hr : rv σ 47 j = some r) : gN 0 j σ 47 = some r := by unfold gN; rw [if_pos ⟨pp_lt (by have := h.1; omega) h.1, rfl⟩]; exact hr
theorem e_evening (hN : 500 ≤ N) {cls : Cls} {m : Nat → Nat} {n t c p w : Nat} {σ : Mm} (ht : t < 6) (hL : LWF cls) (hws : WS m) (hn : n ≤ 24) (hcm : c < m 0) (hp : p < 8) (hw : w < 8) (hY : YS cls m n t σ) (h8 : iv σ 47 8 = nI w) : ∃ σ', f_X0_evening N 47 (nI c) (nI p) σ = some (nI (gg cls m n c w p), σ') ∧ RS [34, 49] σ σ' ∧ EV cls m n σ' := by
  obtain ⟨hc, hr, hC, h4, h5, h6, hE⟩ := hY
  have h12 := hws.1
  have hg8 : gg cls m n c w p < 8 := goV_lt _ _ _ _ _ _ _ hp
  have ix : (((nI c * (8 : Int32)) + nI p) * (8 : Int32)) + (nI w &&& (7 : Int32)) = nI ((c * 8 + p) * 8 + w) := by
    rw [and7' hw, i8, pk_mul, nI_add, pk_mul, nI_add]
  have hlt : (c * 8 + p) * 8 + w < 768 := by omega
  unfold f_X0_evening f_X0_evening_31 f_X0_evening_87
  rw [k_i47 hc, Option.bind_some, h8, ix, if_neg (nI_pos (by omega)), k_47_4 hc, Option.bind_some, k_ln hc (a := 49) (n := 768) (by decide) rfl, Option.bind_some, if_pos (nI_lt hlt (by decide)), Option.bind_some, k_aI hc (a := 49) (n := 768) (c := (c * 8 + p) * 8 + w) (by decide) rfl rfl hlt (by decide), Option.bind_some]
  rcases hE c p w (by omega) hp hw with e | e
  · rw [e, if_neg (by decide)]
    obtain ⟨s1, a1, a2, a3⟩ := e_stand (N := N) (by omega) hc hr hws hws.fm hcm hw (fb_c m)
    have c1 := a2.wc hc
    have C1 : CL s1 t cls := hC.cong (fun o ho => a2.2.2 o (by omega))
    obtain ⟨s2, d1, d2⟩ := e_turned (N := N) (at' := p) hN ht hL hw hn hp c1 C1 a3
    have d1 : f_X9_turned N 33 (51 + 2 * t) (nI p) (nI n) s1 = some (nI (gg cls m n c w p), s2) := d1
    have c2 := d2.wc c1
    have c3 : WFc (si s2 49 ((c * 8 + p) * 8 + w) (nI (gg cls m n c w p))) := c2
    have r3 : RS [34, 49] σ (si s2 49 ((c * 8 + p) * 8 + w) (nI (gg cls m n c w p))) := ((a2.tr d2).rs (by decide)).tr ((RO.si 49 s2 _ _).rs (by decide))
    refine ⟨_, ?_, r3, ?_⟩
    · rw [k_47_1 hc, Option.bind_some, k47 hc h5, Option.bind_some, Option.bind_some, Option.bind_some, v_i (now9 hc), Option.bind_some, hr.2.2.2.1, k_o33 hc, Option.bind_some, a1, Option.bind_some, k_47_4 c1, Option.bind_some, k_47_1 c1, Option.bind_some, k47 c1 (by rw [a2.2.1]; exact h4), Option.bind_some, k_i47 c1, Option.bind_some, a2.2.2 47 (by decide), h6, k_o33 c1, Option.bind_some, d1, Option.bind_some, k_sI c2 (a := 49) (n := 768) (c := (c * 8 + p) * 8 + w) (by decide) rfl rfl hlt (by decide), Option.bind_some, k_47_4 c3, Option.bind_some, k_aI c3 (a := 49) (n := 768) (c := (c * 8 + p) * 8 + w) (by decide) rfl rfl hlt (by decide), Option.bind_some, iv_si, if_pos ⟨rfl, rfl⟩]
    · intro c' p' w' hc' hp' hw'
      rw [iv_si]
      by_cases q : (c' * 8 + p') * 8 + w' = (c * 8 + p) * 8 + w
      · have e1 : w' = w := by omega
        have e2 : p' = p := by omega
        have e3 : c' = c := by omega
        subst e1 e2 e3
        rw [if_pos ⟨rfl, rfl⟩]
        exact Or.inr rfl
      · rw [if_neg (fun z => q z.2), d2.2.2 49 (by decide), a2.2.2 49 (by decide)]
        exact hE c' p' w' hc' hp' hw'
  · rw [e, if_pos (nI_pos' (by omega)), Option.bind_some, k_aI hc (a := 49) (n := 768) (c := (c * 8 + p) * 8 + w) (by decide) rfl rfl hlt (by decide), Option.bind_some, e]
    exact ⟨σ, rfl, RS.rf _ _, hE⟩
theorem day_c (hN : 500 ≤ N) {cls : Cls} {m r : Nat → Nat} {n t w way : Nat} (ht : t < 6) (hL : LWF cls) (hws : WS m) (h0 : 0 < m 0) (hn : n ≤ 24) (hw : w < 8) (hway : way < 4) (hr8 : ∀ c, c < m 0 → r c < 8) : ∀ d c fu σ, c + d = m 0 → d < fu → YS cls m n t σ → iv σ 47 8 = nI w → (∀ j, j < m 0 → iv σ 48 j = nI (if j < c then gg cls m n j w (r j) else r j)) → ∃ σ', f_X0_voteOfNextDay_27 N fu 47 (nI way) (nI c) σ = some (nI (voteV way (m 0) (fun j => gg cls m n j w (r j)) (ages m)), σ') ∧ RS [34, 36, 37, 38, 39, 40, 41, 48, 49] σ σ' ∧ EV cls m n σ' ∧ ∀ j, j < m 0 → iv σ' 48 j = nI (gg cls m n j w (r j)) := by
  have h12 := hws.1
  intro d
  induction d with
  | zero =>
    intro c fu σ h1 h2 hY h8 hj
    obtain ⟨fu, rfl⟩ : ∃ q, fu = q + 1 := ⟨fu - 1, by omega⟩
    obtain ⟨hc, hr, hC, h4, h5, h6, hE⟩ := id hY
    have hj' : ∀ j, j < m 0 → iv σ 48 j = nI (gg cls m n j w (r j)) := fun j hj2 => by
      rw [hj j hj2, if_pos (by omega)]
    obtain ⟨s1, a1, a2, a3⟩ := e_open (N := N) (a := ages m) (row := 48) (r := fun j => gg cls m n j w (r j)) (by omega) h12 (fun _ => rfl) (fun c hc' => goV_lt _ _ _ _ _ _ _ (hr8 c hc')) (by decide) rfl (by omega) hc hr hj'
    obtain ⟨s2, b1, b2⟩ := e_winner (N := N) (way := way) (by omega) h0 h12 (a2.wc hc) a3 (fun c hc' => goV_lt _ _ _ _ _ _ _ (hr8 c hc')) hws.age hway
    have r2 : RS balL σ s2 := (a2.mono (by decide)).tr (b2.rs (by decide))
    refine ⟨s2, ?_, r2.mono (by decide), fun c' p' w' x y z => by rw [r2.2.2 49 (by decide)]; exact hE c' p' w' x y z, fun j hj2 => by rw [r2.2.2 48 (by decide)]; exact hj' j hj2⟩
    rw [f_X0_voteOfNextDay_27, k47 hc h5, Option.bind_some, v_i (now9 hc), Option.bind_some, hr.1, if_pos (nI_le (by omega) (by omega))]
    unfold f_X0_voteOfNextDay_70
    rw [k_47_2 hc, Option.bind_some, k47 hc h5, Option.bind_some, k_47_3 hc, Option.bind_some, k_o36 hc, Option.bind_some, a1, Option.bind_some, k_47_2 (a2.wc hc), Option.bind_some, k_o36 (a2.wc hc), Option.bind_some, b1, Option.bind_some]
  | succ d ih =>
    intro c fu σ h1 h2 hY h8 hj
    obtain ⟨fu, rfl⟩ : ∃ q, fu = q + 1 := ⟨fu - 1, by omega⟩
    obtain ⟨hc, hr, hC, h4, h5, h6, hE⟩ := id hY
    have hrc := hr8 c (by omega)
    have hjc : iv σ 48 c = nI (r c) := by rw [hj c (by omega), if_neg (by omega)]
    obtain ⟨s1, a1, a2, a3⟩ := e_evening (N := N) hN ht hL hws hn (show c < m 0 by omega) hrc hw hY h8
    have r2 : RS [34, 36, 37, 38, 39, 40, 41, 48, 49] σ (si s1 48 c (nI (gg cls m n c w (r c)))) := (a2.mono (by decide)).tr ((RO.si 48 s1 _ _).rs (by decide))
    have hY2 : YS cls m n t (si s1 48 c (nI (gg cls m n c w (r c)))) := hY.rs r2 (by decide) (by rw [r2.2.2 47 (by decide)]) (fun c' p' w' x y z => by rw [iv_row s1 _ _ (by decide)]; exact a3 c' p' w' x y z)
    obtain ⟨σ', f1, f2, f3, f4⟩ := ih (c + 1) fu _ (by omega) (by omega) hY2 (by rw [r2.2.2 47 (by decide)]; exact h8) (fun j hj2 => by
      rw [iv_si]
      by_cases q : j = c
      · rw [if_pos ⟨rfl, q⟩, if_pos (by omega), q]
      · rw [if_neg (fun z => q z.2), a2.2.2 48 (by decide), hj j hj2]
        by_cases z : j < c
        · rw [if_pos z, if_pos (by omega)]
        · rw [if_neg z, if_neg (by omega)])
    refine ⟨σ', ?_, r2.tr f2, f3, f4⟩
    rw [f_X0_voteOfNextDay_27, k47 hc h5, Option.bind_some, v_i (now9 hc), Option.bind_some, hr.1, if_neg (nI_ge (by omega) (by omega)), if_neg (by rw [show (12 : Int32) = nI 12 from rfl]; exact nI_ge (by omega) (by decide)), k_47_3 hc, Option.bind_some, Option.bind_some, k_aI hc (a := 48) (n := 12) (c := c) (by decide) rfl rfl (by omega) (by decide), Option.bind_some, hjc, and7' hrc, k_o47 hc, Option.bind_some, a1, Option.bind_some, k_sI (a2.wc hc) (a := 48) (n := 12) (c := c) (by decide) rfl rfl (by omega) (by decide), Option.bind_some, nI_1]
    exact f1
def wnd (d : Nat) : Nat := nxM d / 65536 % 8
theorem e_day (hN : 500 ≤ N) {cls : Cls} {m r : Nat → Nat} {n t way dr : Nat} {σ : Mm} (ht : t < 6) (hL : LWF cls) (hws : WS m) (h0 : 0 < m 0) (hn : n ≤ 24) (hway : way < 4) (hr8 : ∀ c, c < m 0 → r c < 8) (hdr : dr < 2 ^ 31) (hY : YS cls m n t σ) (h7 : iv σ 47 7 = nI dr) (hj : ∀ j, j < m 0 → iv σ 48 j = nI (r j)) : ∃ σ', f_X0_voteOfNextDay N 47 (nI way) σ = some (nI (voteV way (m 0) (fun j => gg cls m n j (wnd dr) (r j)) (ages m)), σ') ∧ RS yrL σ σ' ∧ YS cls m n t σ' ∧ iv σ' 47 7 = nI (nxM dr) ∧ iv σ' 47 8 = nI (wnd dr) ∧ ∀ j, j < m 0 → iv σ' 48 j = nI (gg cls m n j (wnd dr) (r j)) := by
  obtain ⟨hc, hr, hC, h4, h5, h6, hE⟩ := id hY
  have hnx := nxM_lt dr
  obtain ⟨s1, e1⟩ : ∃ s, s = si σ 47 7 (nI (nxM dr)) := ⟨_, rfl⟩
  obtain ⟨s2, e2⟩ : ∃ s, s = si s1 47 8 (nI (wnd dr)) := ⟨_, rfl⟩
  have r1 : RS [47] σ s1 := by rw [e1]; exact (RO.si _ _ _ _).rs (by decide)
  have r2 : RS [47] σ s2 := by rw [e2]; exact r1.tr ((RO.si _ _ _ _).rs (by decide))
  have c1 := r1.wc hc
  have i7 : iv s1 47 7 = nI (nxM dr) := by rw [e1, iv_si, if_pos ⟨rfl, rfl⟩]
  have j7 : iv s2 47 7 = nI (nxM dr) := by rw [e2, iv_si, if_neg (by decide)]; exact i7
  have j8 : iv s2 47 8 = nI (wnd dr) := by rw [e2, iv_si, if_pos ⟨rfl, rfl⟩]
  have j6 : iv s2 47 6 = iv σ 47 6 := by rw [e2, iv_si, if_neg (by decide), e1, iv_si, if_neg (by decide)]
  have hY2 : YS cls m n t s2 := hY.rs r2 (by decide) j6 (fun c' p' w' x y z => by rw [r2.2.2 49 (by decide)]; exact hE c' p' w' x y z)
  obtain ⟨σ', f1, f2, f3, f4⟩ := day_c (N := N) (r := r) (w := wnd dr) hN ht hL hws h0 hn (Nat.mod_lt _ (by decide)) hway hr8 (m 0) 0 N s2 (by omega) (by have := hws.1; omega) hY2 j8 (fun j hj2 => by rw [r2.2.2 48 (by decide), if_neg (by omega)]; exact hj j hj2)
  refine ⟨σ', ?_, (r2.mono (by decide)).tr (f2.mono (by decide)), hY2.rs f2 (by decide) (by rw [f2.2.2 47 (by decide)]) f3, by rw [f2.2.2 47 (by decide)]; exact j7, by rw [f2.2.2 47 (by decide)]; exact j8, f4⟩
  unfold f_X0_voteOfNextDay
  rw [k_i47 hc, Option.bind_some, h7, nx_c hdr, Option.bind_some, k_p47 hc, Option.bind_some, ← e1, k_i47 c1, Option.bind_some, i7, if_neg (by decide), if_neg (by decide), show (65536 : Int32) = nI 65536 from rfl, pk_div hnx (by decide) (by decide), i8, pk_rem (by omega) (by decide) (by decide), k_p47 c1, Option.bind_some, show nxM dr / 65536 % 8 = wnd dr from rfl, ← e2]
  exact f1
theorem day_m (hN : 500 ≤ N) {cls : Cls} {m r : Nat → Nat} {n t w way : Nat} (ht : t < 6) (hL : LWF cls) (hws : WS m) (h0 : 0 < m 0) (hn : n ≤ 24) (hw : w < 8) (hway : way < 4) (hr8 : ∀ c, c < m 0 → r c < 8) (k : Nat → Int32 → Int32 → Int32 → Int32 → Int32 → Int32 → Int64 → Int32 → Int32 → Mm → Option (Int32 × Mm)) (l2 l5 l6 l9 l10 : Int32) (l7 : Int64) : ∀ d c fu τ, c + d = m 0 → d < fu → WFm τ → MLaw τ t cls → (∀ i, i < 156 → iv τ 75 i = nI (m i)) → (∀ j, j < m 0 → iv τ 76 j = nI (if j < c then gg cls m n j w (r j) else r j)) → ∃ τ', f_X11_years_131 N k fu 63 (nI t) l2 (nI n) (nI way) l5 l6 l7 l9 l10 (nI w) (nI c) τ = (if l6 = 2 then (f_X11_worth N 63 l5 (nI (voteV way (m 0) (fun j => gg cls m n j w (r j)) (ages m))) τ').bind fun q7 => k 63 (nI t) l2 (nI n) (nI way) l5 l6 l7 (l9 + q7.1) (l10 + 1) q7.2 else if nI (voteV way (m 0) (fun j => gg cls m n j w (r j)) (ages m)) = (if l6 = 0 then l5 else nI w) then k 63 (nI t) l2 (nI n) (nI way) l5 l6 l7 (l9 + 1) (l10 + 1) τ' else k 63 (nI t) l2 (nI n) (nI way) l5 l6 l7 (l9 + 0) (l10 + 1) τ') ∧ FS [76, 77] τ τ' ∧ (∀ j, j < m 0 → iv τ' 76 j = nI (gg cls m n j w (r j))) ∧ voteV way (m 0) (fun j => gg cls m n j w (r j)) (ages m) < 8 := by
  have h12 := hws.1
  intro d
  induction d with
  | zero =>
    intro c fu τ h1 h2 hm hM hs hj
    obtain ⟨fu, rfl⟩ : ∃ q, fu = q + 1 := ⟨fu - 1, by omega⟩
    have hj' : ∀ j, j < m 0 → iv τ 76 j = nI (gg cls m n j w (r j)) := fun j hj2 => by
      rw [hj j hj2, if_pos (by omega)]
    obtain ⟨τ1, g1, g2, g3⟩ := e_votes (N := N) (a := ages m) (way := way) (r := fun j => gg cls m n j w (r j)) (by omega) hws h0 hm hs hj' (fun c hc' => goV_lt _ _ _ _ _ _ _ (hr8 c hc')) (fun _ => rfl) hway
    refine ⟨τ1, ?_, g2.fs (by decide) (by decide), fun j hj2 => by rw [g2.2.2 76 (by decide)]; exact hj' j hj2, g3⟩
    rw [f_X11_years_131, m_g24 hm, Option.bind_some, m_aI hm (a := 75) (n := 156) (i := 0) (c := 0) (by decide) rfl rfl (by decide) (by decide), Option.bind_some, hs 0 (by decide), if_pos (nI_le (by omega) (by omega)), m_ob hm, Option.bind_some, g1, Option.bind_some]
    unfold f_X11_years_221 f_X11_years_229
    simp only [m_ob (g2.wm hm), Option.bind_some]
    by_cases q : l6 = 2
    · rw [if_pos q, if_pos q]
    · rw [if_neg q, if_neg q]
      by_cases q0 : l6 = 0
      · rw [if_pos q0, if_pos q0]
      · rw [if_neg q0, if_neg q0]
  | succ d ih =>
    intro c fu τ h1 h2 hm hM hs hj
    obtain ⟨fu, rfl⟩ : ∃ q, fu = q + 1 := ⟨fu - 1, by omega⟩
    have hrc := hr8 c (by omega)
    have hjc : iv τ 76 c = nI (r c) := by rw [hj c (by omega), if_neg (by omega)]
    obtain ⟨τ1, k1, k2⟩ := e_goesTo (N := N) (rust := m (6 + 7 * c)) (at' := r c) (l7 := -1) hN ht hL hws (show c < m 0 by omega) hw hn (fb_m hws) hrc hm hM hs
    have k1 : f_X11_goesTo N 63 (nI t) (nI c) (nI (r c)) (nI w) (nI n) (nI (m (6 + 7 * c))) (-1) τ = some (nI (gg cls m n c w (r c)), τ1) := k1
    have m1 := k2.wm hm
    have f2 : FS [76, 77] τ (si τ1 76 c (nI (gg cls m n c w (r c)))) := (k2.fs _).tr ((RO.si 76 τ1 _ _).fs (by decide) (by decide))
    obtain ⟨τ', x1, x2, x3, x4⟩ := ih (c + 1) fu _ (by omega) (by omega) (f2.wm hm) (f2.law (by decide) hM) (f2.said (by decide) hs) (fun j hj2 => by
      rw [iv_si]
      by_cases q : j = c
      · rw [if_pos ⟨rfl, q⟩, if_pos (by omega), q]
      · rw [if_neg (fun z => q z.2), k2.2.2.1 76 (by decide), hj j hj2]
        by_cases z : j < c
        · rw [if_pos z, if_pos (by omega)]
        · rw [if_neg z, if_neg (by omega)])
    refine ⟨τ', ?_, f2.tr x2, x3, x4⟩
    rw [f_X11_years_131, m_g24 hm, Option.bind_some, m_aI hm (a := 75) (n := 156) (i := 0) (c := 0) (by decide) rfl rfl (by decide) (by decide), Option.bind_some, hs 0 (by decide), if_neg (nI_ge (by omega) (by omega)), m_g25 hm, Option.bind_some, Option.bind_some, m_aI hm (a := 76) (n := 12) (c := c) (by decide) rfl rfl (by omega) (by decide), Option.bind_some, hjc, m_ob hm, Option.bind_some, e_c2 hm (by omega), Option.bind_some, m_ob hm, Option.bind_some, hs (4 + 7 * c + 2) (by omega), show 4 + 7 * c + 2 = 6 + 7 * c by omega, k1, Option.bind_some, m_sI m1 (a := 76) (n := 12) (c := c) (by decide) rfl rfl (by omega) (by decide), Option.bind_some, nI_1]
    exact x1
theorem nxL {d : Nat} (hd : d < 2 ^ 31) : (((nI d).toInt64 * (1103515245 : Int64)) + (12345 : Int64)) - (((nI d).toInt64 * (1103515245 : Int64)) + (12345 : Int64)) / (2147483648 : Int64) * (2147483648 : Int64) = (nI (nxM d)).toInt64 := by
  rw [nI_l hd, show (1103515245 : Int64) = lN 1103515245 from rfl, show (12345 : Int64) = lN 12345 from rfl, lN_mul, lN_add, show (2147483648 : Int64) = lN 2147483648 from rfl, pk_lRem (by omega) (by decide) (by decide), nI_l (nxM_lt d)]
  rfl
theorem wndL {d : Nat} : Int64.toInt32 (((nI (nxM d)).toInt64 / (65536 : Int64)) - ((nI (nxM d)).toInt64 / (65536 : Int64)) / (8 : Int64) * (8 : Int64)) = nI (wnd d) := by
  have := nxM_lt d
  rw [nI_l this, show (65536 : Int64) = lN 65536 from rfl, pk_lDiv (by omega) (by decide) (by decide), show (8 : Int64) = lN 8 from rfl, pk_lRem (by omega) (by decide) (by decide), lN_i]
  rfl
theorem yrs (hN : 500 ≤ N) {cls : Cls} {m : Nat → Nat} {n t way mm told : Nat} {l6 : Int32} (ht : t < 6) (hL : LWF cls) (hws : WS m) (h0 : 0 < m 0) (hn : n ≤ 24) (hway : way < 4) (hmm : mm ≤ 366) (htold : l6 = 2 → told < 4) : ∀ d day fu dr (r : Nat → Nat) (acc : Int32) σ τ, day + d = mm → d < fu → dr < 2 ^ 31 → (∀ c, c < m 0 → r c < 8) → YS cls m n t σ → iv σ 47 7 = nI dr → (∀ j, j < m 0 → iv σ 48 j = nI (r j)) → WFm τ → MLaw τ t cls → (∀ i, i < 156 → iv τ 75 i = nI (m i)) → (∀ j, j < m 0 → iv τ 76 j = nI (r j)) → ∃ x σ' τ', f_X10_years_89 N fu 0 (nI mm) (nI way) (nI told) l6 acc (nI day) σ = some (x, σ') ∧ f_X11_years_93 N fu 63 (nI t) (nI mm) (nI n) (nI way) (nI told) l6 (nI dr).toInt64 acc (nI day) τ = some (x, τ') ∧ RS yrL σ σ' ∧ FS [76, 77] τ τ' := by
  have h12 := hws.1
  intro d
  induction d with
  | zero =>
    intro day fu dr r acc σ τ h1 h2 hdr hr8 hY h7 hj hm hM hs hk
    obtain ⟨fu, rfl⟩ : ∃ q, fu = q + 1 := ⟨fu - 1, by omega⟩
    refine ⟨acc, σ, τ, ?_, ?_, RS.rf _ _, FS.rf _ _⟩
    · rw [f_X10_years_89, if_pos (nI_le (by omega) (by omega))]
    · rw [f_X11_years_93, if_pos (nI_le (by omega) (by omega))]
  | succ d ih =>
    intro day fu dr r acc σ τ h1 h2 hdr hr8 hY h7 hj hm hM hs hk
    obtain ⟨fu, rfl⟩ : ∃ q, fu = q + 1 := ⟨fu - 1, by omega⟩
    have hw : wnd dr < 8 := Nat.mod_lt _ (by decide)
    obtain ⟨s1, a1, a2, a3, a4, a5, a6⟩ := e_day (N := N) (way := way) hN ht hL hws h0 hn hway hr8 hdr hY h7 hj
    obtain ⟨τ1, b1, b2, b3, b4⟩ := day_m (N := N) (w := wnd dr) (way := way) hN ht hL hws h0 hn hw hway hr8 (f_X11_years_93 N fu) (nI mm) (nI told) l6 acc (nI day) (nI (nxM dr)).toInt64 (m 0) 0 N τ (by omega) (by omega) hm hM hs (fun j hj2 => by rw [if_neg (by omega)]; exact hk j hj2)
    have c1 := a3.1
    have nx : ∀ acc', ∃ x σ' τ', f_X10_years_89 N fu 0 (nI mm) (nI way) (nI told) l6 acc' (nI (day + 1)) s1 = some (x, σ') ∧ f_X11_years_93 N fu 63 (nI t) (nI mm) (nI n) (nI way) (nI told) l6 (nI (nxM dr)).toInt64 acc' (nI (day + 1)) τ1 = some (x, τ') ∧ RS yrL σ σ' ∧ FS [76, 77] τ τ' := fun acc' => by
      obtain ⟨x, σ', τ', y1, y2, y3, y4⟩ := ih (day + 1) fu (nxM dr) (fun j => gg cls m n j (wnd dr) (r j)) acc' s1 τ1 (by omega) (by omega) (nxM_lt dr) (fun c hc => goV_lt _ _ _ _ _ _ _ (hr8 c hc)) a3 a4 a6 (b2.wm hm) (b2.law (by decide) hM) (b2.said (by decide) hs) b3
      exact ⟨x, σ', τ', y1, y2, a2.tr y3, b2.tr y4⟩
    rw [f_X10_years_89, if_neg (nI_ge (by omega) (by omega)), k_0_12 hY.1, Option.bind_some, k_o47 hY.1, Option.bind_some, a1, Option.bind_some,
      f_X11_years_93, if_neg (nI_ge (by omega) (by omega)), if_neg (show ¬ (2147483648 : Int64) = 0 by decide), if_neg (show ¬ (65536 : Int64) = 0 by decide), if_neg (show ¬ (8 : Int64) = 0 by decide), nxL hdr, wndL, show (0 : Int32) = nI 0 from rfl, b1]
    unfold f_X10_years_150 f_X10_years_156
    simp only [nI_1]
    by_cases q : l6 = 2
    · have ht4 := htold q
      have ew := e_worthM (N := N) (b2.wm hm) (b2.said (by decide) hs) (a := told) rfl h0 h12 ht4 b4
      have eg : f_X7_gain N 9 (nI told) (nI (voteV way (m 0) (fun j => gg cls m n j (wnd dr) (r j)) (ages m))) s1 = some (nI (m (124 + (8 * told + voteV way (m 0) (fun j => gg cls m n j (wnd dr) (r j)) (ages m)))), s1) := by
        rw [e_gain (now9 c1) ht4 b4, a3.2.1.2.2.2.2.2.2 _ (by omega)]
      rw [if_pos q, if_pos q, k_0_4 c1, Option.bind_some, v_o (now9 c1), Option.bind_some, eg, Option.bind_some, ew, Option.bind_some]
      exact nx _
    · rw [if_neg q, if_neg q]
      have hg : gN 10 12 s1 0 = some 47 := k_0_12 c1
      rw [hg, Option.bind_some, k_i47 c1, Option.bind_some, a5]
      have fin : ∀ z : Int32, ∃ x σ' τ', (if nI (voteV way (m 0) (fun j => gg cls m n j (wnd dr) (r j)) (ages m)) = z then f_X10_years_89 N fu 0 (nI mm) (nI way) (nI told) l6 (acc + 1) (nI (day + 1)) s1 else f_X10_years_89 N fu 0 (nI mm) (nI way) (nI told) l6 acc (nI (day + 1)) s1) = some (x, σ') ∧ (if nI (voteV way (m 0) (fun j => gg cls m n j (wnd dr) (r j)) (ages m)) = z then f_X11_years_93 N fu 63 (nI t) (nI mm) (nI n) (nI way) (nI told) l6 (nI (nxM dr)).toInt64 (acc + 1) (nI (day + 1)) τ1 else f_X11_years_93 N fu 63 (nI t) (nI mm) (nI n) (nI way) (nI told) l6 (nI (nxM dr)).toInt64 (acc + 0) (nI (day + 1)) τ1) = some (x, τ') ∧ RS yrL σ σ' ∧ FS [76, 77] τ τ' := fun z => by
        by_cases qz : nI (voteV way (m 0) (fun j => gg cls m n j (wnd dr) (r j)) (ages m)) = z
        · rw [if_pos qz, if_pos qz]; exact nx _
        · rw [if_neg qz, if_neg qz, Int32.add_zero]; exact nx _
      by_cases q0 : l6 = (0 : Int32)
      · rw [if_pos (show l6 = nI 0 from q0), if_pos q0]; exact fin _
      · rw [if_neg (show ¬ l6 = nI 0 from q0), if_neg q0]; exact fin _
theorem opn49 : ∀ d i fu σ, i + d = 768 → d < fu → WFc σ → (∀ j, j < i → iv σ 49 j = -1) → ∃ σ', f_X0_open_41 N fu 47 (nI i) σ = some σ' ∧ RO 49 σ σ' ∧ ∀ j, j < 768 → iv σ' 49 j = -1 := by
  intro d
  induction d with
  | zero =>
    intro i fu σ h1 h2 hc hj
    obtain ⟨fu, rfl⟩ : ∃ q, fu = q + 1 := ⟨fu - 1, by omega⟩
    refine ⟨σ, ?_, RO.rf _ _, fun j hj2 => hj j (by omega)⟩
    rw [f_X0_open_41, show (768 : Int32) = nI 768 from rfl, if_pos (nI_le (by omega) (by omega))]
  | succ d ih =>
    intro i fu σ h1 h2 hc hj
    obtain ⟨fu, rfl⟩ : ∃ q, fu = q + 1 := ⟨fu - 1, by omega⟩
    have c1 : WFc (si σ 49 i (-1)) := hc
    obtain ⟨σ', f1, f2, f3⟩ := ih (i + 1) fu (si σ 49 i (-1)) (by omega) (by omega) c1 (fun j hj2 => by
      rw [iv_si]
      by_cases e : j = i
      · rw [if_pos ⟨rfl, e⟩]
      · rw [if_neg (fun q => e q.2)]; exact hj j (by omega))
    refine ⟨σ', ?_, (RO.si 49 σ _ _).tr f2, f3⟩
    rw [f_X0_open_41, show (768 : Int32) = nI 768 from rfl, if_neg (nI_ge (by omega) (by omega)), k_47_4 hc, Option.bind_some, k_sI hc (a := 49) (n := 768) (c := i) (by decide) rfl rfl (by omega) (by decide), Option.bind_some, nI_1]
    exact f1
theorem e_yopen (hN : 800 ≤ N) {cls : Cls} {m : Nat → Nat} {n t : Nat} {σ : Mm} (ht : t < 6) (hws : WS m) (hc : WFc σ) (hr : RelV σ 9 m) (hC : CL σ t cls) : ∃ σ', f_X0_open N 47 (51 + 2 * t) (nI n) σ = some σ' ∧ QC σ σ' ∧ YS cls m n t σ' ∧ iv σ' 47 7 = nI (m 2) ∧ ∀ j, j < m 0 → iv σ' 48 j = nI (m (9 + 7 * j)) := by
  have h12 := hws.1
  obtain ⟨s2, e2⟩ : ∃ s, s = sr σ 47 5 (some (51 + 2 * t)) := ⟨_, rfl⟩
  obtain ⟨s3, e3⟩ : ∃ s, s = si s2 47 6 (nI n) := ⟨_, rfl⟩
  obtain ⟨s4, e4⟩ : ∃ s, s = si s3 47 7 (nI (m 2)) := ⟨_, rfl⟩
  obtain ⟨s5, e5⟩ : ∃ s, s = cpy s4 (9 + 6) 0 48 0 12 := ⟨_, rfl⟩
  have q2 : QC σ s2 := by rw [e2]; exact QC.sr σ _ (by omega)
  have c2 := hc.q q2
  have r3 : RS [47] s2 s3 := by rw [e3]; exact (RO.si _ _ _ _).rs (by decide)
  have r4 : RS [47] s2 s4 := by rw [e4]; exact r3.tr ((RO.si _ _ _ _).rs (by decide))
  have r5 : RS [47, 48, 49] s2 s5 := by rw [e5]; exact (r4.mono (by decide)).tr ((RO.cpy 48 s4 (9 + 6) 12).rs (by decide))
  have c3 := r3.wc c2
  have c4 := r4.wc c2
  have c5 := r5.wc c2
  obtain ⟨s6, f1, f2, f3⟩ := opn49 (N := N) 768 0 N s5 (by omega) (by omega) c5 (fun j hj => absurd hj (by omega))
  have r6 : RS [47, 48, 49] s2 s6 := r5.tr (f2.rs (by decide))
  have hr2 : RelV s2 9 m := hr.cong (fun i hi => q2.2.1 _ (by unfold scC; omega))
  have i13 : iv s3 9 13 = nI (m 2) := by rw [r3.2.2 9 (by decide)]; exact hr2.2.2.1
  have i47 : ∀ k, iv s6 47 k = iv s4 47 k := fun k => by rw [f2.2.2 47 (by decide), e5, iv_cpy, if_neg (fun q => absurd q.1 (by decide))]
  have w4 : rv s2 47 5 = some (51 + 2 * t) := by rw [e2, rv_sr, if_pos ⟨rfl, rfl⟩]
  have w5 : rv s2 47 0 = some 9 := c2.2.1 (47, 0, 9) (by decide)
  refine ⟨s6, ?_, q2.tr (r6.qc (by decide)), ⟨r6.wc c2, r6.rel (by decide) hr2, ?_, by rw [r6.2.1]; exact w4, by rw [r6.2.1]; exact w5, ?_, ?_⟩, ?_, ?_⟩
  · unfold f_X0_open
    rw [k_pR hc (o := 47) (c := 0) 5 _ (by decide) rfl, Option.bind_some, ← e2, k_p47 c2, Option.bind_some, ← e3, k_47_0 c3, Option.bind_some, v_i (now9 c3), Option.bind_some, i13, k_p47 c3, Option.bind_some, ← e4, k_47_0 c4, Option.bind_some, v_g6 (now9 c4), Option.bind_some, k_47_3 c4, Option.bind_some]
    have hcp : cpA 13 s4 (9 + 6) (0 : Int32) 48 (0 : Int32) (12 : Int32) = some s5 := by
      unfold cpA
      rw [if_pos ⟨⟨⟨pp_lt (by have := c4.1; omega) c4.1, rfl⟩, pp_lt (by have := c4.1; omega) c4.1, rfl⟩, ⟨by decide, by decide, by decide⟩, by decide, by decide⟩, e5]
      rfl
    rw [hcp, Option.bind_some]
    exact f1
  · exact hC.cong (fun o ho => by rw [r6.2.2 o (by simp; omega)]; exact q2.2.1 o (by unfold scC; omega))
  · rw [i47, e4, iv_si, if_neg (by decide), e3, iv_si, if_pos ⟨rfl, rfl⟩]
  · intro c p w x y z
    left
    exact f3 _ (by omega)
  · rw [i47, e4, iv_si, if_pos ⟨rfl, rfl⟩]
  · intro j hj
    rw [f2.2.2 48 (by decide), e5, iv_cpy, if_pos ⟨rfl, by omega, by omega⟩, Nat.zero_add, Nat.sub_zero, r4.2.2 (9 + 6) (by decide)]
    have := hr2.2.2.2.2.1 j hj 5 (by decide)
    rwa [show 4 + 7 * j + 5 = 9 + 7 * j by omega] at this
theorem st_years (hN : 800 ≤ N) (a1 a2 a3 a4 a5 a6 : Int32) : StepI Inv (f_X10_years N 0 a1 a2 a3 a4 a5 a6) (f_X11_years N 63 a1 a2 a3 a4 a5 a6) := by
  refine step_q fun σ τ hi => ?_
  obtain ⟨hc, hm, hnn, -, ⟨nl, l1, l2, l3, l4⟩, ⟨m, hw, hr, hs⟩, -⟩ := hi
  have h12 := hw.1
  unfold f_X10_years f_X10_years_45 f_X11_years f_X11_years_72
  rw [k_o0 hc, Option.bind_some, m_ob hm, Option.bind_some]
  by_cases hB : CB m nl a1 0 a3
  · rw [(e_canBlow hc hr.1 h12 l2 a1 0 a3).1 hB, (e_canBlowM hm (hs 0 (by decide)) h12 l3 a1 0 a3).1 hB, Option.bind_some, Option.bind_some]
    simp only [if_neg z1, e_isBelow, e_isWay, e_in_n a6 3 (by decide) (by decide) (show (2 : Int64) = (nI 2).toInt64 by decide), Option.bind_some, show (3 : Int32) = nI 3 from rfl, e_in32 (N := N) (b := 1) (c := 366) a2 1 366 (by decide) (by decide)]
    have h0 := hB.1
    obtain ⟨t, w, n, rfl, ht, -, -, rfl, hn⟩ := hB.ex l1
    by_cases hn0 : n = 0
    · subst hn0
      rw [if_pos (by decide), if_pos (show nI 0 = (0 : Int32) from rfl)]
      exact ⟨_, _, _, rfl, rfl, QC.rf _, QM.rf _⟩
    · rw [if_neg (show ¬ nI n < (1 : Int32) from nI_nlt (a := n) (b := 1) (by omega) (by omega)), if_neg (show ¬ nI n = (0 : Int32) from nIk (by omega) (by decide) hn0)]
      by_cases q1 : a2 < 1
      · rw [if_pos q1, bi_n (show ¬ ((1 : Int32) ≤ a2 ∧ a2 ≤ 366) from fun q => absurd q1 (Int32.not_lt.mpr q.1))]
        exact ⟨_, _, _, rfl, rfl, QC.rf _, QM.rf _⟩
      · rw [if_neg q1]
        by_cases q2 : 366 < a2
        · rw [if_pos q2, bi_n (show ¬ ((1 : Int32) ≤ a2 ∧ a2 ≤ 366) from fun q => absurd q2 (Int32.not_lt.mpr q.2))]
          exact ⟨_, _, _, rfl, rfl, QC.rf _, QM.rf _⟩
        · rw [if_neg q2, bi_y (show (1 : Int32) ≤ a2 ∧ a2 ≤ 366 from ⟨Int32.not_lt.mp q1, Int32.not_lt.mp q2⟩), if_neg z1]
          obtain ⟨mm, hmm, rfl⟩ : ∃ mm, mm ≤ 366 ∧ a2 = nI mm := by
            obtain ⟨j, hj, e⟩ := nI_of (x := a2) (fun q => q1 (Int32.lt_of_lt_of_le q (by decide)))
            refine ⟨j, ?_, e⟩
            rw [e, show (366 : Int32) = nI 366 from rfl, nI_ltI (by decide) hj] at q2
            omega
          rcases bi_in (x := a4) (n := 4) (by decide) with ⟨p, p1, rfl, p3⟩ | ⟨p1, p2⟩
          · have p3 : bi (0 ≤ nI p ∧ nI p < 4) = 1 := p3
            rw [p3, if_neg z1, if_neg z1]
            rcases bi_01 (0 ≤ a6 ∧ a6 < nI 3) with h3 | h3
            · rw [h3]
              exact ⟨_, _, _, rfl, rfl, QC.rf _, QM.rf _⟩
            · rw [h3, if_neg z1, if_neg z1]
              have fin : ∀ (T : Nat), T ≤ 8 → (a6 = 2 → T = 4) → ∀ (U : Int64), 0 < T → U = (nI (T - 1)).toInt64 → ∃ r σ' τ', f_X10_years_61 N 0 (nI t) (nI mm) (nI n) (nI p) a5 a6 a5 (nI T) σ = some (r, σ') ∧ f_X11_years_66 N 63 (nI t) (nI mm) (nI n) (nI p) a5 a6 (Int32.toInt64 a5) 0 U τ = some (r, τ') ∧ QC σ σ' ∧ QM τ τ' := by
                intro T hT hT4 U hT0 hU
                unfold f_X10_years_61 f_X11_years_66 f_X11_years_72
                rw [e_isBelow, Option.bind_some, e_in_n a5 T hT0 (by omega) hU, Option.bind_some]
                rcases bi_in (x := a5) (n := T) (by omega) with ⟨u, u1, rfl, u3⟩ | ⟨u1, u2⟩
                · rw [u3, if_neg z1, if_neg z1]
                  obtain ⟨cls, L1, L2, L3, L4, L5⟩ := l4 t ht
                  obtain ⟨σ1, x1, x2, x3, x4, x5⟩ := e_yopen (N := N) (n := n) hN (show t < 6 by omega) hw hc hr ⟨L2.1, L2.2⟩
                  obtain ⟨τ1, f1, f2, f3⟩ := e_asThey (N := N) (by omega) h12 hm hs
                  have g2 : FS [76, 77] τ τ1 := f2.fs (by decide) (by decide)
                  obtain ⟨r, σ', τ', y1, y2, y3, y4⟩ := yrs (N := N) (way := p) (mm := mm) (told := u) (l6 := a6) (by omega) (show t < 6 by omega) L1 hw h0 hn p1 hmm (fun q => by rw [hT4 q] at u1; exact u1) mm 0 N (m 2) (fun c => m (9 + 7 * c)) 0 σ1 τ1 (by omega) (by omega) hw.2.2.1 (fun c hc' => by
                    show m (9 + 7 * c) < 8
                    have := hw.2.2.2.2.1 c (by omega); omega) x3 x4 x5 (g2.wm hm) (g2.law (by decide) ⟨L3, L4, L5⟩) (g2.said (by decide) hs) f3
                  rw [k_0_12 hc, Option.bind_some, k_0_7 hc, Option.bind_some, k_law hc (by omega), Option.bind_some, k_o47 hc, Option.bind_some, x1, Option.bind_some, m_g24 hm, Option.bind_some, m_aI hm (a := 75) (n := 156) (i := 2) (c := 2) (by decide) rfl rfl (by decide) (by decide), Option.bind_some, hs 2 (by decide), m_ob hm, Option.bind_some, f1, Option.bind_some]
                  exact ⟨r, σ', τ', y1, y2, x2.tr (y3.qc (by decide)), (g2.tr y4).qm (by decide)⟩
                · rw [u2]
                  exact ⟨_, _, _, rfl, rfl, QC.rf _, QM.rf _⟩
              by_cases q6 : a6 = 2
              · rw [if_pos q6, if_pos q6]
                exact fin 4 (by decide) (fun _ => rfl) 3 (by decide) (by decide)
              · rw [if_neg q6, if_neg q6]
                exact fin 8 (by decide) (fun q => absurd q q6) 7 (by decide) (by decide)
          · have p2 : bi (0 ≤ a4 ∧ a4 < 4) = 0 := p2
            rw [p2]
            exact ⟨_, _, _, rfl, rfl, QC.rf _, QM.rf _⟩
  · rw [(e_canBlow hc hr.1 h12 l2 a1 0 a3).2 hB, (e_canBlowM hm (hs 0 (by decide)) h12 l3 a1 0 a3).2 hB]
    exact ⟨_, _, _, rfl, rfl, QC.rf _, QM.rf _⟩
end YE
