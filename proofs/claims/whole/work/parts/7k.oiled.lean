/-! oiled -/
section OI
variable {N : Nat}
abbrev oF (cls : Cls) (m : Nat → Nat) (w n c : Nat) : Nat := goV cls m (fb m) c (m (6 + 7 * c)) w n (m (9 + 7 * c))
abbrev oT (cls : Cls) (m : Nat → Nat) (w n c : Nat) : Nat := goV cls m (fb m) c 0 w n (m (9 + 7 * c))
abbrev oP (m : Nat → Nat) (c : Nat) : Nat := m (6 + 7 * c)
abbrev oilL : List Nat := [34, 36, 37, 38, 39, 40, 41, 42, 43, 44, 45, 46]
abbrev bsO (cls : Cls) (m : Nat → Nat) (w n way : Nat) : Option Nat := bst (okS (fun _ => true) (fun r => voteV way (m 0) r (ages m)) (oF cls m w n) (oT cls m w n) (m 0) w) (coS (oP m) (m 0)) pc (2 ^ m 0)
theorem o66 (hN : 5000 ≤ N) {m : Nat → Nat} {t n w way : Nat} {cls : Cls} {l5 : Int32} (ht : t < 6) (hL : LWF cls) (hws : WS m) (h0 : 0 < m 0) (hw : w < 8) (hn : n ≤ 24) (hway : way < 4) (hv8 : ∀ r : Nat → Nat, (∀ c, c < m 0 → r c < 8) → voteV way (m 0) r (ages m) < 8) : ∀ d c fu σ, c + d = m 0 → d < fu → WFc σ → RelV σ 9 m → CL σ t cls → (∀ j, j < m 0 → iv σ 43 j = nI (oF cls m w n j)) → (∀ j, j < c → iv σ 44 j = nI (oT cls m w n j) ∧ iv σ 45 j = nI (oP m j)) → ∃ σ', f_X10_oiled_66 N fu 0 (nI t) (nI w) (nI n) (nI way) l5 (nI c) σ = some (tld (coS (oP m) (m 0)) l5 (bsO cls m w n way), σ') ∧ RS oilL σ σ' := by
  have h12 := hws.1
  have hF : ∀ c, c < m 0 → oF cls m w n c < 8 := fun c hc => goV_lt _ _ _ _ _ _ _ (by have := hws.2.2.2.2.1 c (by omega); omega)
  have hT : ∀ c, c < m 0 → oT cls m w n c < 8 := fun c hc => goV_lt _ _ _ _ _ _ _ (by have := hws.2.2.2.2.1 c (by omega); omega)
  have hP : ∀ c, c < m 0 → oP m c ≤ 100 := fun c hc => by have := hws.2.2.2.2.1 c (by omega); show m (6 + 7 * c) ≤ 100; omega
  intro d
  induction d with
  | zero =>
    intro c fu σ h1 h2 hc hr hC h43 hj
    obtain ⟨fu, rfl⟩ : ∃ q, fu = q + 1 := ⟨fu - 1, by omega⟩
    obtain ⟨s1, w1, w2, w3⟩ := e_run (N := N) (m := m) (f := oF cls m w n) (t := oT cls m w n) (P := oP m) (al := fun _ => true) (l4 := -1) (way := way) (p := w) hN hws h0 hF hT hP hway hw hv8 (fun c hcn => ⟨fun z => absurd z (m1_all c (by omega)), fun z => by cases z⟩) hc hr h43 (fun c hcn => (hj c (by omega)).1) (fun c hcn => (hj c (by omega)).2)
    have c1 := w2.wc hc
    refine ⟨s1, ?_, w2.mono (by decide)⟩
    rw [f_X10_oiled_66, k_0_4 hc, Option.bind_some, v_i (now9 hc), Option.bind_some, hr.1, if_pos (nI_le (by omega) (by omega)), f_X10_oiled_176, k_0_11 hc, Option.bind_some, k_0_4 hc, Option.bind_some, k_o42 hc, Option.bind_some, w1, Option.bind_some, k_0_11 c1, Option.bind_some, k_o42 c1, Option.bind_some, e_told c1 w3, Option.bind_some]
  | succ d ih =>
    intro c fu σ h1 h2 hc hr hC h43 hj
    obtain ⟨fu, rfl⟩ : ∃ q, fu = q + 1 := ⟨fu - 1, by omega⟩
    have hcn : c < m 0 := by omega
    obtain ⟨s1, a1, a2, a3⟩ := e_stand (N := N) (by omega) hc hr hws hws.fm hcn hw (fb_c m)
    have c1 := a2.wc hc
    have b5 := hws.2.2.2.2.1 c (by omega)
    obtain ⟨s2, e2⟩ : ∃ s, s = si s1 34 1 0 := ⟨_, rfl⟩
    have r12 : RO 34 σ s2 := by rw [e2]; exact a2.tr (RO.si _ _ _ _)
    have c2 := r12.wc hc
    have S2 : SW s2 c 0 (m (7 + 7 * c)) (m (8 + 7 * c)) w (leeN m (fb m) c w) := by
      obtain ⟨q0, q1, q2, q3, q6, q7⟩ := a3
      rw [e2]
      refine ⟨?_, ?_, ?_, ?_, ?_, ?_⟩
      · rw [iv_si, if_neg (by decide)]; exact q0
      · rw [iv_si, if_pos ⟨rfl, rfl⟩]; rfl
      · rw [iv_si, if_neg (by decide)]; exact q2
      · rw [iv_si, if_neg (by decide)]; exact q3
      · rw [iv_si, if_neg (by decide)]; exact q6
      · rw [iv_si, if_neg (by decide)]; exact q7
    have C2 : CL s2 t cls := (r12.rs (l := [34]) (by simp)).cl (by decide) hC
    obtain ⟨s3, d1, d2⟩ := e_turned (N := N) (at' := m (9 + 7 * c)) (by omega) ht hL hw hn (by omega) c2 C2 S2
    have r13 : RO 34 σ s3 := r12.tr d2
    have c3 := r13.wc hc
    obtain ⟨s4, e4⟩ : ∃ s, s = si s3 44 c (nI (oT cls m w n c)) := ⟨_, rfl⟩
    obtain ⟨s5, e5⟩ : ∃ s, s = si s4 45 c (nI (oP m c)) := ⟨_, rfl⟩
    have r4 : RS oilL σ s4 := by rw [e4]; exact (r13.rs (by decide)).tr ((RO.si 44 s3 _ _).rs (by decide))
    have r5 : RS oilL σ s5 := by rw [e5]; exact r4.tr ((RO.si 45 s4 _ _).rs (by decide))
    have c4 := r4.wc hc
    have i43 : iv s5 43 = iv σ 43 := by rw [e5, iv_row _ _ _ (by decide), e4, iv_row _ _ _ (by decide), r13.2.2 43 (by decide)]
    obtain ⟨σ', f1, f2⟩ := ih (c + 1) fu s5 (by omega) (by omega) (r5.wc hc) (r5.rel (by decide) hr) (r5.cl (by decide) hC) (by rw [i43]; exact h43) (fun j hj' => by
      constructor
      · rw [e5, iv_row _ _ _ (by decide), e4, iv_si]
        by_cases e : j = c
        · rw [if_pos ⟨rfl, e⟩, e]
        · rw [if_neg (fun q => e q.2), r13.2.2 44 (by decide)]; exact (hj j (by omega)).1
      · rw [e5, iv_si]
        by_cases e : j = c
        · rw [if_pos ⟨rfl, e⟩, e]
        · rw [if_neg (fun q => e q.2), e4, iv_row _ _ _ (by decide), r13.2.2 45 (by decide)]; exact (hj j (by omega)).2)
    refine ⟨σ', ?_, r5.tr f2⟩
    have rd : iv s2 (9 + 6) c = nI (m (9 + 7 * c)) := by
      have := hr.2.2.2.2.1 c (by omega) 5 (by decide)
      rw [r12.2.2 _ (by decide)]
      rwa [show 4 + 7 * c + 5 = 9 + 7 * c by omega] at this
    have rust : iv s4 (9 + 3) c = nI (oP m c) := by
      rw [r4.2.2 _ (by decide)]
      have := hr.2.2.2.2.1 c hcn 2 (by decide)
      rwa [show 4 + 7 * c + 2 = 6 + 7 * c by omega] at this
    rw [f_X10_oiled_66, k_0_4 hc, Option.bind_some, v_i (now9 hc), Option.bind_some, hr.1, if_neg (nI_ge (by omega) (by omega)), if_neg (no12 (by omega)), k_0_9 hc, Option.bind_some, Option.bind_some, Option.bind_some, v_i (now9 hc), Option.bind_some, hr.2.2.2.1, k_o33 hc, Option.bind_some, a1, Option.bind_some, k_0_9 c1, Option.bind_some, k_33_0 c1, Option.bind_some, k_sI c1 (a := 34) (n := 9) (i := 1) (c := 1) (by decide) rfl rfl (by decide) (by decide), Option.bind_some, ← e2, k_0_11 c2, Option.bind_some, k_42_2 c2, Option.bind_some, k_0_9 c2, Option.bind_some, k_0_7 c2, Option.bind_some, k_law c2 ht, Option.bind_some, k_0_4 c2, Option.bind_some, v_g6 (now9 c2), Option.bind_some, v_a (now9 c2) rfl (by decide) (by decide) (by omega), Option.bind_some, rd, k_o33 c2, Option.bind_some, d1, Option.bind_some, k_sI c3 (a := 44) (n := 12) (c := c) (by decide) rfl rfl (by omega) (by decide), Option.bind_some]
    rw [show si s3 44 c (nI (goN cls c 0 (m (7 + 7 * c)) (m (8 + 7 * c)) w (leeN m (fb m) c w) n 0 (m (9 + 7 * c)))) = s4 from e4.symm, k_0_11 c4, Option.bind_some, k_42_3 c4, Option.bind_some, k_0_4 c4, Option.bind_some, v_g3 (now9 c4), Option.bind_some, v_a (now9 c4) rfl (by decide) (by decide) (by omega), Option.bind_some, rust, k_sI c4 (a := 45) (n := 12) (c := c) (by decide) rfl rfl (by omega) (by decide), Option.bind_some, ← e5, nI_1]
    exact f1
/-- where a set has been laid out -/
def oEnd (N : Nat) (r : Nat → Int32 → Int32 → Int32 → Int32 → Int32 → Int32 → Mm → Option (Int32 × Mm)) (l2 l4 l5 l6 l7 l8 l9 : Int32) (σ : Mm) : Option (Int32 × Mm) :=
        if l6 < 0 then (
          f_X11_oiled_246 N r 63 l2 l4 l5 l6 l7 l8 l9 σ) else (
          if l7 < l9 then (
            f_X11_oiled_267 N r 63 l2 l4 l5 l6 l7 l8 σ) else (
            if l9 = l7 then (
              (f_X11_bits N l8 σ).bind fun q7 =>
              (f_X11_bits N l6 q7.2).bind fun q8 =>
              if q8.1 ≤ q7.1 then (
                f_X11_oiled_267 N r 63 l2 l4 l5 l6 l7 l8 q8.2) else (
                f_X11_oiled_246 N r 63 l2 l4 l5 l6 l7 l8 l9 q8.2)) else (
              f_X11_oiled_246 N r 63 l2 l4 l5 l6 l7 l8 l9 σ)))
theorem o137 {m f t : Nat → Nat} {S : Nat} {r : Nat → Int32 → Int32 → Int32 → Int32 → Int32 → Int32 → Mm → Option (Int32 × Mm)} {l2 l4 l5 l6 l7 : Int32} (h12 : m 0 ≤ 12) (hS : S < 4096) : ∀ d c fu τ acc, c + d = m 0 → d < fu → WFm τ → (∀ i, i < 156 → iv τ 75 i = nI (m i)) → (∀ j, j < m 0 → iv τ 79 j = nI (f j)) → (∀ j, j < m 0 → iv τ 80 j = nI (t j)) → (∀ j, j < c → iv τ 76 j = nI (roS f t S j)) → ∃ τ', f_X11_oiled_137 N r fu 63 l2 l4 l5 l6 l7 (nI S) (nI acc) (nI c) τ = oEnd N r l2 l4 l5 l6 l7 (nI S) (nI (acc + sg (fun c => if S.testBit c then oP m c else 0) c d)) τ' ∧ RO 76 τ τ' ∧ Rw τ' (m 0) (roS f t S) := by
  intro d
  induction d with
  | zero =>
    intro c fu τ acc h1 h2 hm hs h79 h80 hj
    obtain ⟨fu, rfl⟩ : ∃ q, fu = q + 1 := ⟨fu - 1, by omega⟩
    refine ⟨τ, ?_, RO.rf _ _, fun j h => hj j (by omega)⟩
    rw [f_X11_oiled_137, m_g24 hm, Option.bind_some, m_aI hm (a := 75) (n := 156) (i := 0) (c := 0) (by decide) rfl rfl (by decide) (by decide), Option.bind_some, hs 0 (by decide), if_pos (nI_le (by omega) (by omega))]
    rfl
  | succ d ih =>
    intro c fu τ acc h1 h2 hm hs h79 h80 hj
    obtain ⟨fu, rfl⟩ : ∃ q, fu = q + 1 := ⟨fu - 1, by omega⟩
    have hcn : c < m 0 := by omega
    obtain ⟨s1, e1⟩ : ∃ s, s = si τ 76 c (nI (roS f t S c)) := ⟨_, rfl⟩
    have r1 : RO 76 τ s1 := by rw [e1]; exact RO.si _ _ _ _
    have m1 := r1.wm hm
    have hs1 : ∀ i, i < 156 → iv s1 75 i = nI (m i) := fun i hi => by rw [r1.2.2 75 (by decide)]; exact hs i hi
    have h791 : ∀ j, j < m 0 → iv s1 79 j = nI (f j) := fun j hj => by rw [r1.2.2 79 (by decide)]; exact h79 j hj
    have h801 : ∀ j, j < m 0 → iv s1 80 j = nI (t j) := fun j hj => by rw [r1.2.2 80 (by decide)]; exact h80 j hj
    have hj1 : ∀ j, j < c + 1 → iv s1 76 j = nI (roS f t S j) := fun j hj' => by
      rw [e1, iv_si]
      by_cases e : j = c
      · rw [if_pos ⟨rfl, e⟩, e]
      · rw [if_neg (fun q => e q.2)]; exact hj j (by omega)
    have bt := bitB (F := S) (t := c) (by omega) (by omega)
    rw [f_X11_oiled_137, m_g24 hm, Option.bind_some, m_aI hm (a := 75) (n := 156) (i := 0) (c := 0) (by decide) rfl rfl (by decide) (by decide), Option.bind_some, hs 0 (by decide), if_neg (nI_ge (by omega) (by omega)), m_g25 hm, Option.bind_some, e_isOf, Option.bind_some, bt]
    cases y : S.testBit c
    · obtain ⟨τ', f1, f2, f3⟩ := ih (c + 1) fu s1 acc (by omega) (by omega) m1 hs1 h791 h801 hj1
      refine ⟨τ', ?_, r1.tr f2, f3⟩
      have er : roS f t S c = f c := by unfold roS; rw [y]; rfl
      rw [bi_n (show ¬ (if false = true then (1 : Int32) else 0) = 1 by decide), if_pos rfl, m_g29 hm, Option.bind_some, m_aI hm (a := 79) (n := 12) (c := c) (by decide) rfl rfl (by omega) (by decide), Option.bind_some, h79 c hcn, f_X11_oiled_181, m_sI hm (a := 76) (n := 12) (c := c) (by decide) rfl rfl (by omega) (by decide), Option.bind_some, ← er, ← e1, e_isOf, Option.bind_some, bt, y, bi_n (show ¬ (if false = true then (1 : Int32) else 0) = 1 by decide), if_pos rfl, f_X11_oiled_205, Int32.add_zero, nI_1, f1]
      congr 2
      show _ = acc + ((if S.testBit c then oP m c else 0) + sg (fun c => if S.testBit c then oP m c else 0) (c + 1) d)
      rw [y]
      simp
    · obtain ⟨τ', f1, f2, f3⟩ := ih (c + 1) fu s1 (acc + oP m c) (by omega) (by omega) m1 hs1 h791 h801 hj1
      refine ⟨τ', ?_, r1.tr f2, f3⟩
      have er : roS f t S c = t c := by unfold roS; rw [y]; rfl
      rw [er] at e1
      rw [bi_y (show (if true = true then (1 : Int32) else 0) = 1 from rfl), if_neg z1, m_g30 hm, Option.bind_some, m_aI hm (a := 80) (n := 12) (c := c) (by decide) rfl rfl (by omega) (by decide), Option.bind_some, h80 c hcn, f_X11_oiled_181, m_sI hm (a := 76) (n := 12) (c := c) (by decide) rfl rfl (by omega) (by decide), Option.bind_some, ← e1, e_isOf, Option.bind_some, bt, y, bi_y (show (if true = true then (1 : Int32) else 0) = 1 from rfl), if_neg z1, m_ob m1, Option.bind_some, e_c2 m1 (by omega), Option.bind_some, hs1 _ (by omega), show 4 + 7 * c + 2 = 6 + 7 * c by omega, f_X11_oiled_205, nI_add, nI_1]
      rw [show acc + m (6 + 7 * c) = acc + oP m c from rfl, f1]
      congr 2
      show _ = acc + ((if S.testBit c then oP m c else 0) + sg (fun c => if S.testBit c then oP m c else 0) (c + 1) d)
      rw [y, if_pos rfl]
      omega
def MO (l6 l7 : Int32) (co : Nat → Nat) (o : Option Nat) : Prop := match o with
  | none => l6 = -2 ∧ l7 = -2
  | some b => l6 = nI b ∧ l7 = nI (co b)
theorem o118 (hN : 100 ≤ N) {m f t : Nat → Nat} {way p : Nat} {l5 : Int32} (hws : WS m) (h0 : 0 < m 0) (hf : ∀ c, c < m 0 → f c < 8) (ht : ∀ c, c < m 0 → t c < 8) (hp : p < 8) (hway : way < 4) :
    ∀ d S fu τ l6 l7, S + d = 2 ^ m 0 → d < fu → WFm τ → (∀ i, i < 156 → iv τ 75 i = nI (m i)) → (∀ j, j < m 0 → iv τ 79 j = nI (f j)) → (∀ j, j < m 0 → iv τ 80 j = nI (t j)) → MO l6 l7 (coS (oP m) (m 0)) (bst (okS (fun _ => true) (fun r => voteV way (m 0) r (ages m)) f t (m 0) p) (coS (oP m) (m 0)) pc S) → ∃ τ', f_X11_oiled_118 N fu 63 (nI p) (nI way) l5 l6 l7 (nI S) τ = some (tld (coS (oP m) (m 0)) l5 (bst (okS (fun _ => true) (fun r => voteV way (m 0) r (ages m)) f t (m 0) p) (coS (oP m) (m 0)) pc (2 ^ m 0)), τ') ∧ FS [76, 77] τ τ' := by
  have h12 := hws.1
  have hK : 2 ^ m 0 ≤ 4096 := (Nat.pow_le_pow_right (by decide) (by omega) : 2 ^ m 0 ≤ 2 ^ 12)
  obtain ⟨ok, hok⟩ : ∃ ok, ok = okS (fun _ => true) (fun r => voteV way (m 0) r (ages m)) f t (m 0) p := ⟨_, rfl⟩
  obtain ⟨co, hco⟩ : ∃ co, co = coS (oP m) (m 0) := ⟨_, rfl⟩
  rw [← hok, ← hco]
  have cob : ∀ S, co S < 2 ^ 20 := fun S => by rw [hco]; exact coS_lt h12 (fun c hc => by have := hws.2.2.2.2.1 c (by omega); show m (6 + 7 * c) ≤ 100; omega) S
  have hb4 : ∀ ch, ch ≤ 2 ^ m 0 → ∀ b, bst ok co pc ch = some b → b < 4096 := by
    intro ch hch b hb
    rcases bst_spec ok co pc ch with ⟨e, _⟩ | ⟨b', e, g1, _⟩
    · rw [e] at hb; cases hb
    · rw [e] at hb; cases hb; omega
  intro d
  induction d with
  | zero =>
    intro S fu τ l6 l7 h1 h2 hm hs h79 h80 hb
    obtain ⟨fu, rfl⟩ : ∃ q, fu = q + 1 := ⟨fu - 1, by omega⟩
    refine ⟨τ, ?_, FS.rf _ _⟩
    rw [f_X11_oiled_118, m_g24 hm, Option.bind_some, m_aI hm (a := 75) (n := 156) (i := 0) (c := 0) (by decide) rfl rfl (by decide) (by decide), Option.bind_some, hs 0 (by decide), shl1 (by omega), if_pos (nI_le (by omega) (by omega)), ← show S = 2 ^ m 0 by omega]
    simp only [f_X11_oiled_285]
    cases e : bst ok co pc S with
    | none =>
      rw [e] at hb
      rw [hb.1, hb.2]
      by_cases z : l5 = 0
      · rw [if_pos z]; rfl
      · rw [if_neg z]; rfl
    | some b =>
      rw [e] at hb
      rw [hb.1, hb.2]
      unfold tld
      by_cases z : l5 = 0
      · simp only [if_pos z]
      · simp only [if_neg z]
  | succ d ih =>
    intro S fu τ l6 l7 h1 h2 hm hs h79 h80 hb
    obtain ⟨fu, rfl⟩ : ∃ q, fu = q + 1 := ⟨fu - 1, by omega⟩
    obtain ⟨s1, b1, b2, b3⟩ := o137 (N := N) (S := S) (r := f_X11_oiled_118 N fu) (l2 := nI p) (l4 := nI way) (l5 := l5) (l6 := l6) (l7 := l7) h12 (by omega) (m 0) 0 N τ 0 (by omega) (by omega) hm hs h79 h80 (fun j hj => absurd hj (Nat.not_lt_zero _))
    rw [Nat.zero_add] at b1
    have m1 := b2.wm hm
    have hs1 : ∀ i, i < 156 → iv s1 75 i = nI (m i) := fun i hi => by rw [b2.2.2 75 (by decide)]; exact hs i hi
    have fs1 : FS [76, 77] τ s1 := b2.fs (by decide) (by decide)
    have H267 : ∀ s l l', FS [76, 77] τ s → MO l l' co (bst ok co pc (S + 1)) → ∃ τ', f_X11_oiled_267 N (f_X11_oiled_118 N fu) 63 (nI p) (nI way) l5 l l' (nI S) s = some (tld co l5 (bst ok co pc (2 ^ m 0)), τ') ∧ FS [76, 77] τ τ' := by
      intro s l l' fs hms
      obtain ⟨τ', g1, g2⟩ := ih (S + 1) fu s l l' (by omega) (by omega) (fs.wm hm) (fs.said (by decide) hs) (by rw [fs.2.2.1 79 (by decide) (by decide)]; exact h79) (by rw [fs.2.2.1 80 (by decide) (by decide)]; exact h80) hms
      exact ⟨τ', by rw [f_X11_oiled_267, nI_1]; exact g1, fs.tr g2⟩
    have HB : (bst ok co pc S = none ∨ ∃ b, bst ok co pc S = some b ∧ (co S < co b ∨ (co S = co b ∧ pc S < pc b))) → ∃ τ', f_X11_oiled_246 N (f_X11_oiled_118 N fu) 63 (nI p) (nI way) l5 l6 l7 (nI S) (nI (co S)) s1 = some (tld co l5 (bst ok co pc (2 ^ m 0)), τ') ∧ FS [76, 77] τ τ' := by
      intro hbet
      obtain ⟨s2, v1, v2, v3⟩ := e_votes (N := N) (a := ages m) (by omega) hws h0 m1 hs1 b3 (roS_lt hf ht S) (fun _ => rfl) hway
      have fs2 : FS [76, 77] τ s2 := fs1.tr (v2.fs (by decide) (by decide))
      rw [f_X11_oiled_246, m_ob m1, Option.bind_some, v1, Option.bind_some]
      by_cases z : voteV way (m 0) (roS f t S) (ages m) = p
      · have hoks : ok S = true := by
          rw [hok]; unfold okS
          rw [Bool.and_eq_true, decide_eq_true_eq, decide_eq_true_eq]
          exact ⟨fun _ _ _ => rfl, z⟩
        have hbn : bst ok co pc (S + 1) = some S := by
          rcases hbet with e | ⟨b, e, w⟩
          · exact bst_fst hoks e
          · exact bst_yes hoks e w
        rw [if_pos (by rw [z])]
        exact H267 _ _ _ fs2 (by rw [hbn]; exact ⟨rfl, rfl⟩)
      · have hoks : ok S = false := by
          rw [hok]; unfold okS
          rw [decide_eq_false z, Bool.and_false]
        rw [if_neg (show ¬ nI (voteV way (m 0) (roS f t S) (ages m)) = nI p from nIk (by omega) (by omega) z)]
        exact H267 _ _ _ fs2 (by rw [bst_no hoks]; exact hb)
    have HN : (∃ b, bst ok co pc S = some b ∧ ¬ (co S < co b ∨ (co S = co b ∧ pc S < pc b))) → ∃ τ', f_X11_oiled_267 N (f_X11_oiled_118 N fu) 63 (nI p) (nI way) l5 l6 l7 (nI S) s1 = some (tld co l5 (bst ok co pc (2 ^ m 0)), τ') ∧ FS [76, 77] τ τ' := by
      rintro ⟨b, e, w⟩
      exact H267 _ _ _ fs1 (by rw [bst_old e w, ← e]; exact hb)
    rw [f_X11_oiled_118, m_g24 hm, Option.bind_some, m_aI hm (a := 75) (n := 156) (i := 0) (c := 0) (by decide) rfl rfl (by decide) (by decide), Option.bind_some, hs 0 (by decide), shl1 (by omega), if_neg (nI_ge (by omega) (by omega)), show (0 : Int32) = nI 0 from rfl, b1, show sg (fun c => if S.testBit c then oP m c else 0) 0 (m 0) = co S by rw [hco]; rfl]
    unfold oEnd
    cases e : bst ok co pc S with
    | none =>
      rw [e] at hb
      rw [if_pos (show l6 < 0 by rw [hb.1]; decide)]
      exact HB (Or.inl e)
    | some b =>
      have hb' := hb
      rw [e] at hb'
      obtain ⟨hb1, hb2⟩ := hb'
      have hbl := hb4 S (by omega) b e
      have c1 := cob S
      have c2 := cob b
      rw [if_neg (show ¬ l6 < 0 by rw [hb1]; exact nI_pos (by omega))]
      by_cases q1 : co b < co S
      · rw [if_pos (show l7 < nI (co S) by rw [hb2]; exact nI_lt q1 (by omega))]
        exact HN ⟨b, e, by omega⟩
      · rw [if_neg (show ¬ l7 < nI (co S) by rw [hb2, nI_ltI (by omega) (by omega)]; exact q1)]
        by_cases q2 : co S = co b
        · rw [if_pos (show nI (co S) = l7 by rw [hb2, q2]), e_bits (by omega) (by omega), Option.bind_some]
          have p1 := pc_le S
          have p2 := pc_le b
          rw [show f_X11_bits N l6 (nI (pc S), s1).2 = some (nI (pc b), s1) by rw [hb1]; exact e_bits hbl (by omega), Option.bind_some]
          by_cases q3 : pc b ≤ pc S
          · rw [if_pos (nI_le q3 (by omega))]
            exact HN ⟨b, e, by omega⟩
          · rw [if_neg (nI_ge (by omega) (by omega))]
            exact HB (Or.inr ⟨b, e, Or.inr ⟨q2, by omega⟩⟩)
        · rw [if_neg (show ¬ nI (co S) = l7 by rw [hb2]; exact nIk (by omega) (by omega) q2)]
          exact HB (Or.inr ⟨b, e, Or.inl (by omega)⟩)
theorem o34 (hN : 5000 ≤ N) {m : Nat → Nat} {t n w way : Nat} {cls : Cls} {l5 : Int32} (ht : t < 6) (hL : LWF cls) (hws : WS m) (h0 : 0 < m 0) (hw : w < 8) (hn : n ≤ 24) (hway : way < 4) : ∀ d c fu τ, c + d = m 0 → d < fu → WFm τ → MLaw τ t cls → (∀ i, i < 156 → iv τ 75 i = nI (m i)) → (∀ j, j < c → iv τ 79 j = nI (oF cls m w n j) ∧ iv τ 80 j = nI (oT cls m w n j)) → ∃ τ', f_X11_oiled_34 N fu 63 (nI t) (nI w) (nI n) (nI way) l5 (nI c) τ = some (tld (coS (oP m) (m 0)) l5 (bsO cls m w n way), τ') ∧ FS [76, 77, 79, 80] τ τ' := by
  have h12 := hws.1
  have hK : 2 ^ m 0 ≤ 4096 := (Nat.pow_le_pow_right (by decide) h12 : 2 ^ m 0 ≤ 2 ^ 12)
  intro d
  induction d with
  | zero =>
    intro c fu τ h1 h2 hm hM hs hj
    obtain ⟨fu, rfl⟩ : ∃ q, fu = q + 1 := ⟨fu - 1, by omega⟩
    obtain ⟨τ', g1, g2⟩ := o118 (N := N) (f := oF cls m w n) (t := oT cls m w n) (way := way) (p := w) (l5 := l5) (by omega) hws h0 (fun c hc => goV_lt _ _ _ _ _ _ _ (by have := hws.2.2.2.2.1 c (by omega); omega)) (fun c hc => goV_lt _ _ _ _ _ _ _ (by have := hws.2.2.2.2.1 c (by omega); omega)) hw hway (2 ^ m 0) 0 N τ (-2) (-2) (by omega) (by omega) hm hs (fun j h => (hj j (by omega)).1) (fun j h => (hj j (by omega)).2) ⟨rfl, rfl⟩
    refine ⟨τ', ?_, g2.mono (by decide)⟩
    rw [f_X11_oiled_34, m_g24 hm, Option.bind_some, m_aI hm (a := 75) (n := 156) (i := 0) (c := 0) (by decide) rfl rfl (by decide) (by decide), Option.bind_some, hs 0 (by decide), if_pos (nI_le (by omega) (by omega))]
    exact g1
  | succ d ih =>
    intro c fu τ h1 h2 hm hM hs hj
    obtain ⟨fu, rfl⟩ : ∃ q, fu = q + 1 := ⟨fu - 1, by omega⟩
    have hcn : c < m 0 := by omega
    have b5 := hws.2.2.2.2.1 c (by omega)
    have hl4 : ∀ x ∈ [76, 77, 79, 80], 76 ≤ x ∧ x ≤ 80 := by decide
    obtain ⟨t1, a1, a2⟩ := e_goesTo (N := N) (rust := m (6 + 7 * c)) (at' := m (9 + 7 * c)) (by omega) ht hL hws hcn hw hn (fb_m hws) (by omega) hm hM hs
    have m1 := a2.wm hm
    obtain ⟨s1, e1⟩ : ∃ s, s = si t1 79 c (nI (oF cls m w n c)) := ⟨_, rfl⟩
    have f1 : FS [76, 77, 79, 80] τ s1 := by rw [e1]; exact (a2.fs _).tr ((RO.si 79 t1 _ _).fs (by decide) (by decide))
    have ms1 := f1.wm hm
    have hss1 := f1.said hl4 hs
    obtain ⟨t2, d1, d2⟩ := e_goesTo (N := N) (rust := 0) (at' := m (9 + 7 * c)) (by omega) ht hL hws hcn hw hn (fb_m hws) (by omega) ms1 (f1.law hl4 hM) hss1
    have m2 := d2.wm ms1
    obtain ⟨s2, e2⟩ : ∃ s, s = si t2 80 c (nI (oT cls m w n c)) := ⟨_, rfl⟩
    have f2 : FS [76, 77, 79, 80] τ s2 := by rw [e2]; exact f1.tr ((d2.fs _).tr ((RO.si 80 t2 _ _).fs (by decide) (by decide)))
    obtain ⟨τ', g1, g2⟩ := ih (c + 1) fu s2 (by omega) (by omega) (f2.wm hm) (f2.law hl4 hM) (f2.said hl4 hs) (fun j hj' => by
      constructor
      · rw [e2, iv_row _ _ _ (by decide), d2.2.2.1 79 (by decide), e1, iv_si]
        by_cases e : j = c
        · rw [if_pos ⟨rfl, e⟩, e]
        · rw [if_neg (fun q => e q.2), a2.2.2.1 79 (by decide)]; exact (hj j (by omega)).1
      · rw [e2, iv_si]
        by_cases e : j = c
        · rw [if_pos ⟨rfl, e⟩, e]
        · rw [if_neg (fun q => e q.2), d2.2.2.1 80 (by decide), e1, iv_row _ _ _ (by decide), a2.2.2.1 80 (by decide)]; exact (hj j (by omega)).2)
    refine ⟨τ', ?_, f2.tr g2⟩
    rw [f_X11_oiled_34, m_g24 hm, Option.bind_some, m_aI hm (a := 75) (n := 156) (i := 0) (c := 0) (by decide) rfl rfl (by decide) (by decide), Option.bind_some, hs 0 (by decide), if_neg (nI_ge (by omega) (by omega)), m_g29 hm, Option.bind_some, m_ob hm, Option.bind_some, e_c5 hm (by omega), Option.bind_some, m_ob hm, Option.bind_some, e_c2 hm (by omega), Option.bind_some, m_ob hm, Option.bind_some, hs (4 + 7 * c + 5) (by omega), hs (4 + 7 * c + 2) (by omega), show 4 + 7 * c + 5 = 9 + 7 * c by omega, show 4 + 7 * c + 2 = 6 + 7 * c by omega, a1, Option.bind_some, m_sI m1 (a := 79) (n := 12) (c := c) (by decide) rfl rfl (by omega) (by decide), Option.bind_some]
    rw [show si t1 79 c (nI (goV cls m (fb m) c (m (6 + 7 * c)) w n (m (9 + 7 * c)))) = s1 from e1.symm, m_g30 ms1, Option.bind_some, m_ob ms1, Option.bind_some, e_c5 ms1 (by omega), Option.bind_some, m_ob ms1, Option.bind_some, hss1 (4 + 7 * c + 5) (by omega), show 4 + 7 * c + 5 = 9 + 7 * c by omega, show (0 : Int32) = nI 0 from rfl, d1, Option.bind_some, m_sI m2 (a := 80) (n := 12) (c := c) (by decide) rfl rfl (by omega) (by decide), Option.bind_some]
    rw [show si t2 80 c (nI (goV cls m (fb m) c 0 w n (m (9 + 7 * c)))) = s2 from e2.symm, nI_1]
    exact g1
theorem st_oiled (hN : 5000 ≤ N) (a1 a2 a3 a4 a5 : Int32) : StepI Inv (f_X10_oiled N 0 a1 a2 a3 a4 a5) (f_X11_oiled N 63 a1 a2 a3 a4 a5) := by
  refine step_q fun σ τ hi => ?_
  obtain ⟨hc, hm, hnn, -, ⟨nl, l1, l2, l3, l4⟩, ⟨m, hw, hr, hs⟩, -⟩ := hi
  have h12 := hw.1
  unfold f_X10_oiled f_X10_oiled_28 f_X11_oiled f_X11_oiled_29
  rw [k_o0 hc, Option.bind_some, m_ob hm, Option.bind_some]
  by_cases hB : CB m nl a1 a2 a3
  · rw [(e_canBlow hc hr.1 h12 l2 a1 a2 a3).1 hB, (e_canBlowM hm (hs 0 (by decide)) h12 l3 a1 a2 a3).1 hB, Option.bind_some, Option.bind_some, if_neg z1, if_neg z1, e_isBelow, e_isWay, Option.bind_some, Option.bind_some]
    have h0 := hB.1
    obtain ⟨t, w, n, rfl, ht, rfl, hw8, rfl, hn⟩ := hB.ex l1
    by_cases hW : 0 ≤ a4 ∧ a4 < 4
    · rw [bi_y hW, if_neg z1, if_neg z1, e_isBelow, Option.bind_some, e_in_n a5 2 (by decide) (by decide) (show (1 : Int64) = (nI 1).toInt64 by decide), Option.bind_some, show bi (0 ≤ a5 ∧ a5 < nI 2) = bi (0 ≤ a5 ∧ a5 < 2) from rfl]
      by_cases hX : 0 ≤ a5 ∧ a5 < 2
      · rw [bi_y hX, if_neg z1, if_neg z1]
        obtain ⟨way, rfl, hway⟩ := cy_n (n := 4) (by decide) hW
        have hv8 : ∀ r : Nat → Nat, (∀ c, c < m 0 → r c < 8) → voteV way (m 0) r (ages m) < 8 := fun r hr8 => voteV_lt hw h0 hr8 hway hm hs
        obtain ⟨cls, L1, L2, L3, L4, L5⟩ := l4 t ht
        have ht6 : t < 6 := by omega
        obtain ⟨s1, x1, x2, x3⟩ := e_turnAll (N := N) (o := 43) (by omega) ht6 L1 hw hw8 hn hw.fm (fb_c m) (Or.inr rfl) hc hr ⟨L2.1, L2.2⟩
        have c1 := x2.wc hc
        obtain ⟨s2, y1, y2⟩ := o66 (N := N) (l5 := a5) (way := way) hN ht6 L1 hw h0 hw8 hn hway hv8 (m 0) 0 N s1 (by omega) (by omega) c1 (x2.rel (by decide) hr) (x2.cl (by decide) ⟨L2.1, L2.2⟩) x3 (fun j hj => absurd hj (Nat.not_lt_zero _))
        obtain ⟨t1, u1, u2⟩ := o34 (N := N) (l5 := a5) (way := way) hN ht6 L1 hw h0 hw8 hn hway (m 0) 0 N τ (by omega) (by omega) hm ⟨L3, L4, L5⟩ hs (fun j hj => absurd hj (Nat.not_lt_zero _))
        have rs2 : RS oilL σ s2 := (x2.mono (by decide)).tr y2
        refine ⟨_, s2, t1, ?_, u1, rs2.qc (by decide), u2.qm (by decide)⟩
        rw [k_0_9 hc, Option.bind_some, k_0_7 hc, Option.bind_some, k_law hc ht6, Option.bind_some, k_0_4 hc, Option.bind_some, Option.bind_some, v_i (now9 hc), Option.bind_some, hr.2.2.2.1, k_0_11 hc, Option.bind_some, k_42_1 hc, Option.bind_some, k_o33 hc, Option.bind_some, x1, Option.bind_some]
        exact y1
      · rw [bi_n hX]
        exact ⟨_, _, _, rfl, rfl, QC.rf _, QM.rf _⟩
    · rw [bi_n hW]
      exact ⟨_, _, _, rfl, rfl, QC.rf _, QM.rf _⟩
  · rw [(e_canBlow hc hr.1 h12 l2 a1 a2 a3).2 hB, (e_canBlowM hm (hs 0 (by decide)) h12 l3 a1 a2 a3).2 hB]
    exact ⟨_, _, _, rfl, rfl, QC.rf _, QM.rf _⟩
end OI
