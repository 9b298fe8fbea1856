/-! swings: sums over sets -/
def SBn (D : Nat → Bool) : Nat → (Nat → Nat) → Nat
  | 0, H => H 0
  | c + 1, H => if D c then SBn D c H + SBn D c (fun E => H (E + 2 ^ c)) else SBn D c H
theorem SBn_y {D : Nat → Bool} {c : Nat} (h : D c = true) (H : Nat → Nat) : SBn D (c + 1) H = SBn D c H + SBn D c (fun E => H (E + 2 ^ c)) := by
  show (if D c then _ else _) = _
  rw [if_pos h]
theorem SBn_n {D : Nat → Bool} {c : Nat} (h : D c = false) (H : Nat → Nat) : SBn D (c + 1) H = SBn D c H := by
  show (if D c then _ else _) = _
  rw [if_neg (by rw [h]; decide)]
theorem SBn_cong {D : Nat → Bool} : ∀ c (H H' : Nat → Nat), (∀ S, S < 2 ^ c → H S = H' S) → SBn D c H = SBn D c H' := by
  intro c
  induction c with
  | zero => intro H H' h; exact h 0 (by decide)
  | succ c ih =>
    intro H H' h
    have e : 2 ^ (c + 1) = 2 ^ c + 2 ^ c := by rw [Nat.pow_succ]; omega
    have a := ih H H' (fun S hS => h S (by omega))
    cases q : D c
    · rw [SBn_n q, SBn_n q, a]
    · rw [SBn_y q, SBn_y q, a, ih (fun E => H (E + 2 ^ c)) (fun E => H' (E + 2 ^ c)) (fun S hS => h (S + 2 ^ c) (by omega))]
theorem sg_shift (f : Nat → Nat) (a : Nat) : ∀ d c, sg f (c + a) d = sg (fun j => f (j + a)) c d := by
  intro d
  induction d with
  | zero => intro c; rfl
  | succ d ih =>
    intro c
    show f (c + a) + sg f (c + a + 1) d = f (c + a) + sg (fun j => f (j + a)) (c + 1) d
    rw [← ih (c + 1), show c + a + 1 = c + 1 + a by omega]
theorem tbp {j c q : Nat} (h : j < 2 ^ c) : (j + 2 ^ c).testBit q = (j.testBit q || decide (c = q)) := by
  rw [← or_pow h, Nat.testBit_or, Nat.testBit_two_pow]
theorem sum_m {q : Nat} {D : Nat → Bool} (hD : ∀ j, D j = decide (j ≠ q)) : ∀ c (H : Nat → Nat), sg (fun S => if S.testBit q then 0 else H S) 0 (2 ^ c) = SBn D c H := by
  intro c
  induction c with
  | zero =>
    intro H
    show (if (0 : Nat).testBit q then 0 else H 0) + 0 = H 0
    rw [Nat.zero_testBit]; rfl
  | succ c ih =>
    intro H
    have e : 2 ^ (c + 1) = 2 ^ c + 2 ^ c := by rw [Nat.pow_succ]; omega
    rw [e, sg_add, ih H, sg_shift]
    by_cases z : c = q
    · rw [SBn_n (by rw [hD]; simp [z]), sg_zero]
      · rfl
      · intro j _ hj
        rw [tbp (by omega)]
        simp [z]
    · rw [SBn_y (by rw [hD]; simp [z]), ← ih (fun E => H (E + 2 ^ c))]
      congr 1
      apply sg_cong
      intro j _ hj
      rw [tbp (by omega)]
      simp [z]
theorem sum_c {D : Nat → Bool} : ∀ c (H : Nat → Nat), sg (fun ch => H (exS D ch c)) 0 (2 ^ kd D c) = SBn D c H := by
  intro c
  induction c with
  | zero => intro H; rfl
  | succ c ih =>
    intro H
    cases q : D c
    · rw [kd_n q, SBn_n q, ← ih]
      apply sg_cong
      intro j _ hj
      show H (exS D j c + (if D c && j.testBit (kd D c) then 2 ^ c else 0)) = _
      rw [q]
      rfl
    · have e : 2 ^ (kd D c + 1) = 2 ^ kd D c + 2 ^ kd D c := by rw [Nat.pow_succ]; omega
      rw [kd_y q, e, sg_add, SBn_y q, ← ih, ← ih, sg_shift]
      congr 1
      · apply sg_cong
        intro j _ hj
        show H (exS D j c + (if D c && j.testBit (kd D c) then 2 ^ c else 0)) = _
        rw [tb_out (show j < 2 ^ kd D c by omega) (Nat.le_refl _), Bool.and_false]
        rfl
      · apply sg_cong
        intro j _ hj
        show H (exS D (j + 2 ^ kd D c) c + (if D c && (j + 2 ^ kd D c).testBit (kd D c) then 2 ^ c else 0)) = _
        rw [tbp (by omega), q]
        simp only [decide_true, Bool.or_true, Bool.and_self, if_true]
        congr 2
        apply exS_cong
        intro i hi
        rw [tbp (by omega)]
        simp [show ¬ kd D c = i by omega]
def cmp' (D : Nat → Bool) (c S : Nat) : Nat := msk (fun j => D j && !S.testBit j) c
theorem sum_x {D : Nat → Bool} : ∀ c (H : Nat → Nat), SBn D c (fun S => H (cmp' D c S)) = SBn D c H := by
  intro c
  induction c with
  | zero => intro H; rfl
  | succ c ih =>
    intro H
    have cs : ∀ S, cmp' D (c + 1) S = cmp' D c S + (if D c && !S.testBit c then 2 ^ c else 0) := fun _ => rfl
    have cl : ∀ S, S < 2 ^ c → cmp' D c (S + 2 ^ c) = cmp' D c S := by
      intro S hS
      apply msk_cong
      intro j hj
      rw [tbp hS]
      simp [show ¬ c = j by omega]
    cases q : D c
    · rw [SBn_n q, SBn_n q, ← ih H]
      apply SBn_cong
      intro S hS
      rw [cs, q]
      rfl
    · rw [SBn_y q, SBn_y q, ← ih H, ← ih (fun E => H (E + 2 ^ c)), Nat.add_comm]
      congr 1
      · apply SBn_cong
        intro S hS
        rw [cs, cl S hS, tbp hS, q]
        simp
      · apply SBn_cong
        intro S hS
        rw [cs, q, tb_out hS (Nat.le_refl _)]
        rfl
theorem nI_tn (x : Int32) : nI x.toBitVec.toNat = x := by
  apply Int32.toBitVec_inj.mp
  apply BitVec.eq_of_toNat_eq
  rw [pk_tn x.toBitVec.isLt]
section SW
variable {N : Nat}
abbrev nq (q : Nat) : Nat → Bool := fun j => decide (j ≠ q)
def rwS (one other q E y : Nat) : Nat → Nat := um (roS (fun _ => one) (fun _ => other) E) q y
def XS (way n : Nat) (a : Nat → Nat) (one other q E : Nat) : Nat := if voteV way n (rwS one other q E other) a = voteV way n (rwS one other q E one) a then 0 else 1
theorem XS_le (way n : Nat) (a : Nat → Nat) (one other q E : Nat) : XS way n a one other q E ≤ 1 := by
  unfold XS
  by_cases h : voteV way n (rwS one other q E other) a = voteV way n (rwS one other q E one) a
  · rw [if_pos h]; omega
  · rw [if_neg h]; omega
theorem roB_um {q : Nat} {f t : Nat → Nat} {b : Nat → Bool} (y : Nat) : um (roB (nq q) f t b) q y = roB (nq q) (um f q y) t b := by
  funext c
  by_cases e : c = q
  · rw [e, um_s]
    unfold roB
    simp [um_s]
  · rw [um_n _ _ e]
    unfold roB
    rw [um_n _ _ e]
theorem roB_rwS {one other q y n ch : Nat} : ∀ c, c < n → roB (nq q) (um (fun _ => one) q y) (fun _ => other) ch.testBit c = rwS one other q (exS (nq q) ch n) y c := by
  intro c hc
  unfold rwS
  by_cases e : c = q
  · rw [e, um_s]
    unfold roB
    simp [um_s]
  · rw [um_n _ _ e]
    unfold roB roS
    rw [um_n _ _ e, exS_tb]
    simp [hc, e]
theorem u93 (hN : 20 ≤ N) {P a : Nat → Nat} {n way q one other : Nat} (hn : 0 < n) (h12 : n ≤ 12) (hq : q < n) (h1o : one < 8) (h2o : other < 8) (ha9 : ∀ c, c < n → a c ≤ 99) (hway : way < 4) (hv8 : ∀ r : Nat → Nat, (∀ c, c < n → r c < 8) → voteV way n r a < 8) :
    ∀ d ch fu σ x, ch + d = 2 ^ kd (nq q) n → d < fu → x < 8 → SR σ (nq q) (fun _ => one) (fun _ => other) P n → Bal σ n (roB (nq q) (um (fun _ => one) q x) (fun _ => other) (ch - 1).testBit) a → ∃ σ', f_X4_unlikeCases_78 N fu 42 (nI way) (nI q) (nI one) (nI other) (nI (sg (fun ch => XS way n a one other q (exS (nq q) ch n)) 0 ch)) (nI ch) σ = some (nI (sg (fun ch => XS way n a one other q (exS (nq q) ch n)) 0 (2 ^ kd (nq q) n)), σ') ∧ RS [38, 39, 40, 41] σ σ' := by
  have hk := kd_le (nq q) n
  have hK : 2 ^ kd (nq q) n ≤ 4096 := (Nat.pow_le_pow_right (by decide) (by omega) : 2 ^ kd (nq q) n ≤ 2 ^ 12)
  intro d
  induction d with
  | zero =>
    intro ch fu σ x h1 h2 hx hS hB
    obtain ⟨fu, rfl⟩ : ∃ q, fu = q + 1 := ⟨fu - 1, by omega⟩
    refine ⟨σ, ?_, RS.rf _ _⟩
    rw [f_X4_unlikeCases_78, k_i42 hS.1, Option.bind_some, hS.2.1, shl1 (by omega), if_pos (nI_le (by omega) (by omega)), f_X4_unlikeCases_156, show ch = 2 ^ kd (nq q) n by omega]
  | succ d ih =>
    intro ch fu σ x h1 h2 hx hS hB
    obtain ⟨fu, rfl⟩ : ∃ q, fu = q + 1 := ⟨fu - 1, by omega⟩
    have fl8 : ∀ y, y < 8 → ∀ c, c < n → um (fun _ => one) q y c < 8 := fun y hy c _ => by
      by_cases e : c = q
      · rw [e, um_s]; exact hy
      · rw [um_n _ _ e]; exact h1o
    have hS' : ∀ s y, SR s (nq q) (fun _ => one) (fun _ => other) P n → SR s (nq q) (um (fun _ => one) q y) (fun _ => other) P n := fun s y h => ⟨h.1, h.2.1, h.2.2.1, fun c hc hd => by
      rw [um_n _ _ (by simpa using hd)]
      exact h.2.2.2.1 c hc hd, h.2.2.2.2⟩
    obtain ⟨s1, dl, f1, f2, f3, f4⟩ := e_flip hN h12 (fl8 x hx) (fun _ _ => h2o) (ch := ch) (by omega) (hS' σ x hS) hB
    have hS1 : SR s1 (nq q) (fun _ => one) (fun _ => other) P n := hS.rs f2 (by decide) (by rw [f2.2.2 42 (by decide)])
    obtain ⟨s2, p1, p2, p3⟩ := e_put (N := N) h12 hS1.1 f3 (roB_lt (fl8 x hx) (fun _ _ => h2o) _) hq h1o
    rw [roB_um] at p3
    have uu : ∀ y z, um (um (fun _ => one) q y) q z = um (fun _ => one) q z := fun y z => by
      funext c
      by_cases e : c = q
      · rw [e, um_s, um_s]
      · rw [um_n _ _ e, um_n _ _ e, um_n _ _ e]
    rw [uu] at p3
    have hS2 : SR s2 (nq q) (fun _ => one) (fun _ => other) P n := hS1.rs p2 (by decide) (by rw [p2.2.2 42 (by decide)])
    obtain ⟨s3, w1, w2⟩ := e_winner (way := way) hN hn h12 hS2.1 p3 (roB_lt (fl8 one h1o) (fun _ _ => h2o) _) ha9 hway
    have w2' : RS [38, 39, 40, 41] s2 s3 := w2.rs (by decide)
    have hS3 : SR s3 (nq q) (fun _ => one) (fun _ => other) P n := hS2.rs w2' (by decide) (by rw [w2.2.2 42 (by decide)])
    have hB3 : Bal s3 n (roB (nq q) (um (fun _ => one) q one) (fun _ => other) ch.testBit) a := p3.cong (fun o o1 o2 => w2.2.2 o (by omega))
    obtain ⟨s4, g1, g2, g3⟩ := e_put (N := N) h12 hS3.1 hB3 (roB_lt (fl8 one h1o) (fun _ _ => h2o) _) hq h2o
    rw [roB_um, uu] at g3
    have hS4 : SR s4 (nq q) (fun _ => one) (fun _ => other) P n := hS3.rs g2 (by decide) (by rw [g2.2.2 42 (by decide)])
    obtain ⟨s5, x1, x2⟩ := e_winner (way := way) hN hn h12 hS4.1 g3 (roB_lt (fl8 other h2o) (fun _ _ => h2o) _) ha9 hway
    have x2' : RS [38, 39, 40, 41] s4 s5 := x2.rs (by decide)
    have hS5 : SR s5 (nq q) (fun _ => one) (fun _ => other) P n := hS4.rs x2' (by decide) (by rw [x2.2.2 42 (by decide)])
    have hB5 : Bal s5 n (roB (nq q) (um (fun _ => one) q other) (fun _ => other) ch.testBit) a := g3.cong (fun o o1 o2 => x2.2.2 o (by omega))
    obtain ⟨σ', i1, i2⟩ := ih (ch + 1) fu s5 other (by omega) (by omega) h2o hS5 (by rw [Nat.add_sub_cancel]; exact hB5)
    have rs5 : RS [38, 39, 40, 41] σ s5 := (f2.mono (by decide)).tr ((p2.mono (by decide)).tr (w2'.tr ((g2.mono (by decide)).tr x2')))
    refine ⟨σ', ?_, rs5.tr i2⟩
    have v1 : voteV way n (roB (nq q) (um (fun _ => one) q one) (fun _ => other) ch.testBit) a = voteV way n (rwS one other q (exS (nq q) ch n) one) a := voteV_cong roB_rwS
    have v2 : voteV way n (roB (nq q) (um (fun _ => one) q other) (fun _ => other) ch.testBit) a = voteV way n (rwS one other q (exS (nq q) ch n) other) a := voteV_cong roB_rwS
    have l1 := hv8 _ (roB_lt (D := nq q) (fl8 one h1o) (fun _ _ => h2o) ch.testBit)
    have l2 := hv8 _ (roB_lt (D := nq q) (fl8 other h2o) (fun _ _ => h2o) ch.testBit)
    rw [v1] at w1 l1
    rw [v2] at x1 l2
    rw [sg_succ, Nat.zero_add] at i1
    rw [f_X4_unlikeCases_78, k_i42 hS.1, Option.bind_some, hS.2.1, shl1 (by omega), if_neg (nI_ge (by omega) (by omega)), if_neg (no4096 (by omega)), k_o42 hS.1, Option.bind_some, f1, Option.bind_some, k_42_0 hS1.1, Option.bind_some, k_o36 hS1.1, Option.bind_some, p1, Option.bind_some, k_42_0 hS2.1, Option.bind_some, k_o36 hS2.1, Option.bind_some, w1, Option.bind_some, k_42_0 hS3.1, Option.bind_some, k_o36 hS3.1, Option.bind_some, g1, Option.bind_some, k_42_0 hS4.1, Option.bind_some, k_o36 hS4.1, Option.bind_some, x1, Option.bind_some]
    by_cases z : voteV way n (rwS one other q (exS (nq q) ch n) other) a = voteV way n (rwS one other q (exS (nq q) ch n) one) a
    · rw [show XS way n a one other q (exS (nq q) ch n) = 0 from if_pos z, Nat.add_zero] at i1
      rw [if_pos (by rw [z]), f_X4_unlikeCases_150, nI_1]
      exact i1
    · rw [show XS way n a one other q (exS (nq q) ch n) = 1 from if_neg z] at i1
      rw [if_neg (show ¬ nI _ = nI _ from nIk (by omega) (by omega) z), f_X4_unlikeCases_150, nI_1, nI_1]
      exact i1
theorem u8 {m : Nat → Nat} {way q one other : Nat} {P : Nat → Nat} (h12 : m 0 ≤ 12) (h0 : 0 < m 0) (hq : q < m 0) : ∀ d c fu σ, c + d = m 0 → d < fu → WFc σ → RelV σ 9 m → (∀ j, iv σ 45 j = nI (P j)) → iv σ 42 5 = nI (kd (nq q) c) → (∀ i, i < kd (nq q) c → iv σ 46 i = nI (fr (nq q) c i)) → (∀ j, j < c → iv σ 43 j = nI one ∧ iv σ 44 j = nI other) → ∃ σ', f_X4_unlikeCases_8 N fu 42 9 (nI way) (nI q) (nI one) (nI other) (nI c) σ = f_X4_unlikeCases_60 N 42 9 (nI way) (nI q) (nI one) (nI other) σ' ∧ RS [42, 43, 44, 46] σ σ' ∧ SR σ' (nq q) (fun _ => one) (fun _ => other) P (m 0) ∧ ∀ j, j < m 0 → iv σ' 43 j = nI one := by
  intro d
  induction d with
  | zero =>
    intro c fu σ h1 h2 hc hr h45 hk hi hj
    obtain ⟨fu, rfl⟩ : ∃ q, fu = q + 1 := ⟨fu - 1, by omega⟩
    have e : m 0 = c := by omega
    refine ⟨σ, ?_, RS.rf _ _, ⟨hc, by rw [e]; exact hk, by rw [e]; exact hi, fun j h _ => (hj j (by omega)).1, fun j h _ => (hj j (by omega)).2, fun j _ _ => h45 j⟩, fun j h => (hj j (by omega)).1⟩
    rw [f_X4_unlikeCases_8, v_i (now9 hc), Option.bind_some, hr.1, if_pos (nI_le (by omega) (by omega))]
  | succ d ih =>
    intro c fu σ h1 h2 hc hr h45 hk hi hj
    obtain ⟨fu, rfl⟩ : ∃ q, fu = q + 1 := ⟨fu - 1, by omega⟩
    have hkl := kd_le (nq q) c
    obtain ⟨s1, e1⟩ : ∃ s, s = si (si σ 43 c (nI one)) 44 c (nI other) := ⟨_, rfl⟩
    have r1 : RS [42, 43, 44, 46] σ s1 := by rw [e1]; exact ((RO.si 43 _ _ _).rs (by decide)).tr ((RO.si 44 _ _ _).rs (by decide))
    have c1 := r1.wc hc
    have hj1 : ∀ j, j < c + 1 → iv s1 43 j = nI one ∧ iv s1 44 j = nI other := fun j hj' => by
      constructor
      · rw [e1, iv_row _ _ _ (by decide), iv_si]
        by_cases e : j = c
        · rw [if_pos ⟨rfl, e⟩]
        · rw [if_neg (fun w => e w.2)]; exact (hj j (by omega)).1
      · rw [e1, iv_si]
        by_cases e : j = c
        · rw [if_pos ⟨rfl, e⟩]
        · rw [if_neg (fun w => e w.2), iv_row _ _ _ (by decide)]; exact (hj j (by omega)).2
    have i42 : iv s1 42 = iv σ 42 := by rw [e1, iv_row _ _ _ (by decide), iv_row _ _ _ (by decide)]
    have i46 : iv s1 46 = iv σ 46 := by rw [e1, iv_row _ _ _ (by decide), iv_row _ _ _ (by decide)]
    have hrr : ∀ {s}, RS [42, 43, 44, 46] σ s → RelV s 9 m := fun r => r.rel (by decide) hr
    rw [f_X4_unlikeCases_8, v_i (now9 hc), Option.bind_some, hr.1, if_neg (nI_ge (by omega) (by omega)), if_neg (by rw [show (12 : Int32) = nI 12 from rfl]; exact nI_ge (by omega) (by decide)), k_42_1 hc, Option.bind_some, k_sI hc (a := 43) (n := 12) (c := c) (by decide) rfl rfl (by omega) (by decide), Option.bind_some, k_42_2 (show WFc (si σ 43 c (nI one)) from hc), Option.bind_some, k_sI (show WFc (si σ 43 c (nI one)) from hc) (a := 44) (n := 12) (c := c) (by decide) rfl rfl (by omega) (by decide), Option.bind_some, ← e1]
    by_cases z : c = q
    · have hd : nq q c = false := by simp [z]
      obtain ⟨σ', f1, f2, f3⟩ := ih (c + 1) fu s1 (by omega) (by omega) c1 (hrr r1) (by rw [r1.2.2 45 (by decide)]; exact h45) (by rw [kd_n hd, i42]; exact hk) (by rw [kd_n hd, fr_n hd, i46]; exact hi) hj1
      refine ⟨σ', ?_, r1.tr f2, f3⟩
      rw [if_pos (by rw [z]), f_X4_unlikeCases_54, nI_1]
      exact f1
    · have hd : nq q c = true := by simp [z]
      obtain ⟨s2, e2⟩ : ∃ s, s = si (si s1 46 (kd (nq q) c) (nI c)) 42 5 (nI (kd (nq q) c + 1)) := ⟨_, rfl⟩
      have r2 : RS [42, 43, 44, 46] σ s2 := by rw [e2]; exact r1.tr (((RO.si 46 _ _ _).rs (by decide)).tr ((RO.si 42 _ _ _).rs (by decide)))
      obtain ⟨σ', f1, f2, f3⟩ := ih (c + 1) fu s2 (by omega) (by omega) (r2.wc hc) (hrr r2) (by rw [r2.2.2 45 (by decide)]; exact h45) (by rw [kd_y hd, e2, iv_si, if_pos ⟨rfl, rfl⟩]) (by
        intro i hi'
        rw [kd_y hd] at hi'
        rw [fr_y hd, e2, iv_row _ _ _ (by decide), iv_si]
        by_cases y : i = kd (nq q) c
        · rw [if_pos ⟨rfl, y⟩, y, um_s]
        · rw [if_neg (fun w => y w.2), um_n _ _ y, i46]
          exact hi i (by omega)) (fun j hj' => by
        have := hj1 j hj'
        rw [e2, iv_row _ _ _ (by decide), iv_row _ _ _ (by decide), iv_row _ _ _ (by decide), iv_row _ _ _ (by decide)]
        exact this)
      refine ⟨σ', ?_, r2.tr f2, f3⟩
      rw [if_neg (show ¬ nI c = nI q from nIk (by omega) (by omega) z), k_o42 c1, Option.bind_some, e_addFree c1 (by rw [i42]; exact hk) (by omega), Option.bind_some, ← e2, f_X4_unlikeCases_54, nI_1]
      exact f1
theorem e_unlike (hN : 5000 ≤ N) {m : Nat → Nat} {way q one other : Nat} {σ : Mm} (hws : WS m) (h0 : 0 < m 0) (hq : q < m 0) (h1o : one < 8) (h2o : other < 8) (hway : way < 4) (hv8 : ∀ r : Nat → Nat, (∀ c, c < m 0 → r c < 8) → voteV way (m 0) r (ages m) < 8) (hc : WFc σ) (hr : RelV σ 9 m) : ∃ σ', f_X4_unlikeCases N 42 9 (nI way) (nI q) (nI one) (nI other) σ = some (nI (SBn (nq q) (m 0) (XS way (m 0) (ages m) one other q)), σ') ∧ RS buyL σ σ' := by
  have h12 := hws.1
  have hk := kd_le (nq q) (m 0)
  have hK : 2 ^ kd (nq q) (m 0) ≤ 4096 := (Nat.pow_le_pow_right (by decide) (by omega) : 2 ^ kd (nq q) (m 0) ≤ 2 ^ 12)
  obtain ⟨s0, e0⟩ : ∃ s, s = si σ 42 5 0 := ⟨_, rfl⟩
  have r0 : RS buyL σ s0 := by rw [e0]; exact (RO.si _ _ _ _).rs (by decide)
  obtain ⟨s1, f1, f2, f3, f4⟩ := u8 (N := N) (way := way) (one := one) (other := other) (P := fun j => (iv σ 45 j).toBitVec.toNat) h12 h0 hq (m 0) 0 N s0 (by omega) (by omega) (r0.wc hc) (r0.rel (by decide) hr) (fun j => by rw [e0, iv_row _ _ _ (by decide), nI_tn]) (by rw [e0, iv_si, if_pos ⟨rfl, rfl⟩]; rfl) (fun i hi => absurd hi (Nat.not_lt_zero _)) (fun i hi => absurd hi (Nat.not_lt_zero _))
  have r1 : RS buyL σ s1 := r0.tr (f2.mono (by decide))
  obtain ⟨s2, g1, g2, g3⟩ := e_open (N := N) (a := ages m) (r := fun _ => one) (row := 43) (σ := s1) (by omega) h12 (fun _ => rfl) (fun _ _ => h1o) (by decide) rfl (Or.inr (by decide)) f3.1 (r1.rel (by decide) hr) f4
  have hS : SR s2 (nq q) (fun _ => one) (fun _ => other) (fun j => (iv σ 45 j).toBitVec.toNat) (m 0) := f3.rs g2 (by decide) (by rw [g2.2.2 42 (by decide)])
  obtain ⟨s3, i1, i2⟩ := u93 (N := N) (way := way) (by omega) h0 h12 hq h1o h2o hws.age hway hv8 (2 ^ kd (nq q) (m 0)) 0 N s2 one (by omega) (by omega) h1o hS (by
    refine g3.row (fun c hc => ?_)
    unfold roB
    rw [Nat.zero_sub, Nat.zero_testBit, Bool.and_false]
    show one = um (fun _ => one) q one c
    by_cases e : c = q
    · rw [e, um_s]
    · rw [um_n _ _ e])
  rw [sum_c] at i1
  refine ⟨s3, ?_, r1.tr ((g2.mono (by decide)).tr (i2.mono (by decide)))⟩
  unfold f_X4_unlikeCases
  rw [k_p42 hc, Option.bind_some, ← e0, show (0 : Int32) = nI 0 from rfl, f1, f_X4_unlikeCases_60, k_42_0 f3.1, Option.bind_some, k_42_1 f3.1, Option.bind_some, k_o36 f3.1, Option.bind_some, g1, Option.bind_some]
  exact i1
/-! the model's swings -/
abbrev rM (one other S : Nat) : Nat → Nat := roS (fun _ => other) (fun _ => one) S
def hM (way n : Nat) (a : Nat → Nat) (one other q S : Nat) : Nat := if voteV way n (um (rM one other S) q one) a = voteV way n (rM one other S) a then 0 else 1
theorem s81 {m : Nat → Nat} {way one other S : Nat} {r : Nat → Int32 → Int32 → Int32 → Int32 → Int32 → Int32 → Mm → Option (Int32 × Mm)} {l2 l5 : Int32} (h12 : m 0 ≤ 12) (hS : S < 4096) : ∀ d c fu τ, c + d = m 0 → d < fu → WFm τ → (∀ i, i < 156 → iv τ 75 i = nI (m i)) → (∀ j, j < c → iv τ 76 j = nI (rM one other S j)) → ∃ τ', f_X11_swings_81 N r fu 63 (nI way) l2 (nI one) (nI other) l5 (nI S) (nI c) τ = ((f_X11_votes N 63 (nI way) τ').bind fun q4 =>
        (gN 11 25 q4.2 63).bind fun a5 =>
        (sI 113 q4.2 a5 l2 (nI one)).bind fun s6 =>
        (ob 11 s6 63).bind fun _ =>
        (f_X11_votes N 63 (nI way) s6).bind fun q7 =>
        if q7.1 = q4.1 then (
          f_X11_swings_152 N r 63 (nI way) l2 (nI one) (nI other) (nI S) l5 (0 : Int32) q7.2) else (
          f_X11_swings_152 N r 63 (nI way) l2 (nI one) (nI other) (nI S) l5 (1 : Int32) q7.2)) ∧ RO 76 τ τ' ∧ Rw τ' (m 0) (rM one other S) := by
  intro d
  induction d with
  | zero =>
    intro c fu τ h1 h2 hm hs hj
    obtain ⟨fu, rfl⟩ : ∃ q, fu = q + 1 := ⟨fu - 1, by omega⟩
    refine ⟨τ, ?_, RO.rf _ _, fun j h => hj j (by omega)⟩
    rw [f_X11_swings_81, m_g24 hm, Option.bind_some, m_aI hm (a := 75) (n := 156) (i := 0) (c := 0) (by decide) rfl rfl (by decide) (by decide), Option.bind_some, hs 0 (by decide), if_pos (nI_le (by omega) (by omega)), m_ob hm, Option.bind_some]
  | succ d ih =>
    intro c fu τ h1 h2 hm hs hj
    obtain ⟨fu, rfl⟩ : ∃ q, fu = q + 1 := ⟨fu - 1, by omega⟩
    obtain ⟨s1, e1⟩ : ∃ s, s = si τ 76 c (nI (rM one other S c)) := ⟨_, rfl⟩
    have r1 : RO 76 τ s1 := by rw [e1]; exact RO.si _ _ _ _
    obtain ⟨τ', f1, f2, f3⟩ := ih (c + 1) fu s1 (by omega) (by omega) (r1.wm hm) (fun i hi => by rw [r1.2.2 75 (by decide)]; exact hs i hi) (fun j hj' => by
      rw [e1, iv_si]
      by_cases e : j = c
      · rw [if_pos ⟨rfl, e⟩, e]
      · rw [if_neg (fun q => e q.2)]; exact hj j (by omega))
    refine ⟨τ', ?_, r1.tr f2, f3⟩
    rw [f_X11_swings_81, m_g24 hm, Option.bind_some, m_aI hm (a := 75) (n := 156) (i := 0) (c := 0) (by decide) rfl rfl (by decide) (by decide), Option.bind_some, hs 0 (by decide), if_neg (nI_ge (by omega) (by omega)), m_g25 hm, Option.bind_some, e_isOf, Option.bind_some, bitB (by omega) (by omega)]
    cases y : S.testBit c
    · have er : rM one other S c = other := by show (if S.testBit c then one else other) = other; rw [y]; rfl
      rw [er] at e1
      rw [bi_n (show ¬ (if false = true then (1 : Int32) else 0) = 1 by decide), if_pos rfl, f_X11_swings_114, m_sI hm (a := 76) (n := 12) (c := c) (by decide) rfl rfl (by omega) (by decide), Option.bind_some, ← e1, nI_1]
      exact f1
    · have er : rM one other S c = one := by show (if S.testBit c then one else other) = one; rw [y]; rfl
      rw [er] at e1
      rw [bi_y (show (if true = true then (1 : Int32) else 0) = 1 from rfl), if_neg z1, f_X11_swings_114, m_sI hm (a := 76) (n := 12) (c := c) (by decide) rfl rfl (by omega) (by decide), Option.bind_some, ← e1, nI_1]
      exact f1
theorem s53 (hN : 100 ≤ N) {m : Nat → Nat} {way q one other : Nat} (hws : WS m) (h0 : 0 < m 0) (hq : q < m 0) (h1o : one < 8) (h2o : other < 8) (hway : way < 4) : ∀ d S fu τ, S + d = 2 ^ m 0 → d < fu → WFm τ → (∀ i, i < 156 → iv τ 75 i = nI (m i)) → ∃ τ', f_X11_swings_53 N fu 63 (nI way) (nI q) (nI one) (nI other) (nI (sg (fun S => if S.testBit q then 0 else hM way (m 0) (ages m) one other q S) 0 S)) (nI S) τ = some (nI (sg (fun S => if S.testBit q then 0 else hM way (m 0) (ages m) one other q S) 0 (2 ^ m 0)), τ') ∧ FS [76, 77] τ τ' := by
  have h12 := hws.1
  have hK : 2 ^ m 0 ≤ 4096 := (Nat.pow_le_pow_right (by decide) h12 : 2 ^ m 0 ≤ 2 ^ 12)
  intro d
  induction d with
  | zero =>
    intro S fu τ h1 h2 hm hs
    obtain ⟨fu, rfl⟩ : ∃ q, fu = q + 1 := ⟨fu - 1, by omega⟩
    refine ⟨τ, ?_, FS.rf _ _⟩
    rw [f_X11_swings_53, m_g24 hm, Option.bind_some, m_aI hm (a := 75) (n := 156) (i := 0) (c := 0) (by decide) rfl rfl (by decide) (by decide), Option.bind_some, hs 0 (by decide), shl1 (by omega), if_pos (nI_le (by omega) (by omega)), show S = 2 ^ m 0 by omega]
  | succ d ih =>
    intro S fu τ h1 h2 hm hs
    obtain ⟨fu, rfl⟩ : ∃ q, fu = q + 1 := ⟨fu - 1, by omega⟩
    have nx : ∀ τ2, FS [76, 77] τ τ2 → ∃ τ', f_X11_swings_53 N fu 63 (nI way) (nI q) (nI one) (nI other) (nI (sg (fun S => if S.testBit q then 0 else hM way (m 0) (ages m) one other q S) 0 (S + 1))) (nI (S + 1)) τ2 = some (nI (sg (fun S => if S.testBit q then 0 else hM way (m 0) (ages m) one other q S) 0 (2 ^ m 0)), τ') ∧ FS [76, 77] τ τ' := by
      intro τ2 fs
      obtain ⟨τ', g1, g2⟩ := ih (S + 1) fu τ2 (by omega) (by omega) (fs.wm hm) (fs.said (by decide) hs)
      exact ⟨τ', g1, fs.tr g2⟩
    rw [sg_succ, Nat.zero_add] at nx
    rw [f_X11_swings_53, m_g24 hm, Option.bind_some, m_aI hm (a := 75) (n := 156) (i := 0) (c := 0) (by decide) rfl rfl (by decide) (by decide), Option.bind_some, hs 0 (by decide), shl1 (by omega), if_neg (nI_ge (by omega) (by omega)), e_isOf, Option.bind_some, bitB (by omega) (by omega)]
    cases y : S.testBit q
    · rw [y] at nx
      rw [bi_n (show ¬ (if false = true then (1 : Int32) else 0) = 1 by decide), if_pos rfl]
      obtain ⟨t1, b1, b2, b3⟩ := s81 (N := N) (way := way) (one := one) (other := other) (S := S) (r := f_X11_swings_53 N fu) (l2 := nI q) (l5 := nI (sg (fun S => if S.testBit q then 0 else hM way (m 0) (ages m) one other q S) 0 S)) h12 (by omega) (m 0) 0 N τ (by omega) (by omega) hm hs (fun j hj => absurd hj (Nat.not_lt_zero _))
      have m1 := b2.wm hm
      have hs1 : ∀ i, i < 156 → iv t1 75 i = nI (m i) := fun i hi => by rw [b2.2.2 75 (by decide)]; exact hs i hi
      have hr1 : ∀ c, c < m 0 → rM one other S c < 8 := roS_lt (fun _ _ => h2o) (fun _ _ => h1o) S
      obtain ⟨t2, v1, v2, v3⟩ := e_votes (N := N) (a := ages m) (by omega) hws h0 m1 hs1 b3 hr1 (fun _ => rfl) hway
      have m2 := v2.wm m1
      obtain ⟨t3, e3⟩ : ∃ s, s = si t2 76 q (nI one) := ⟨_, rfl⟩
      have r3 : RO 76 t2 t3 := by rw [e3]; exact RO.si _ _ _ _
      have m3 := r3.wm m2
      have hs3 : ∀ i, i < 156 → iv t3 75 i = nI (m i) := fun i hi => by rw [r3.2.2 75 (by decide), v2.2.2 75 (by decide)]; exact hs1 i hi
      have hR3 : Rw t3 (m 0) (um (rM one other S) q one) := fun c hc => by
        rw [e3, iv_si]
        by_cases e : c = q
        · rw [if_pos ⟨rfl, e⟩, e, um_s]
        · rw [if_neg (fun w => e w.2), um_n _ _ e, v2.2.2 76 (by decide)]; exact b3 c hc
      have hr3 : ∀ c, c < m 0 → um (rM one other S) q one c < 8 := fun c hc => by
        by_cases e : c = q
        · rw [e, um_s]; exact h1o
        · rw [um_n _ _ e]; exact hr1 c hc
      obtain ⟨t4, w1, w2, w3⟩ := e_votes (N := N) (a := ages m) (by omega) hws h0 m3 hs3 hR3 hr3 (fun _ => rfl) hway
      have fs4 : FS [76, 77] τ t4 := (b2.fs (by decide) (by decide)).tr ((v2.fs (by decide) (by decide)).tr ((r3.fs (by decide) (by decide)).tr (w2.fs (by decide) (by decide))))
      rw [show (0 : Int32) = nI 0 from rfl, b1, v1, Option.bind_some, m_g25 m2, Option.bind_some, m_sI m2 (a := 76) (n := 12) (c := q) (by decide) rfl rfl (by omega) (by decide), Option.bind_some, ← e3, m_ob m3, Option.bind_some, w1, Option.bind_some]
      simp only [f_X11_swings_152, f_X11_swings_155, nI_1]
      have N4 := nx t4 fs4
      rw [if_neg (by decide)] at N4
      by_cases z : voteV way (m 0) (um (rM one other S) q one) (ages m) = voteV way (m 0) (rM one other S) (ages m)
      · rw [show hM way (m 0) (ages m) one other q S = 0 from if_pos z, Nat.add_zero] at N4
        rw [if_pos (by rw [z]), Int32.add_zero]
        exact N4
      · rw [show hM way (m 0) (ages m) one other q S = 1 from if_neg z] at N4
        rw [if_neg (show ¬ nI _ = nI _ from nIk (by omega) (by omega) z)]
        exact N4
    · rw [y, if_pos rfl, Nat.add_zero] at nx
      rw [bi_y (show (if true = true then (1 : Int32) else 0) = 1 from rfl), if_neg z1, f_X11_swings_155, nI_1]
      exact nx τ (FS.rf _ _)
theorem hM_XS {way n one other q : Nat} {a : Nat → Nat} (hq : q < n) : sg (fun S => if S.testBit q then 0 else hM way n a one other q S) 0 (2 ^ n) = SBn (nq q) n (XS way n a one other q) := by
  rw [← sum_x, ← sum_m (q := q) (D := nq q) (fun _ => rfl)]
  apply sg_cong
  intro S _ hS
  cases y : S.testBit q
  · simp only [Bool.false_eq_true, if_false]
    have k : ∀ c, c < n → c ≠ q → roS (fun _ => one) (fun _ => other) (cmp' (nq q) n S) c = rM one other S c := by
      intro c hc e
      show (if (msk (fun j => nq q j && !S.testBit j) n).testBit c then other else one) = (if S.testBit c then one else other)
      rw [msk_tb]
      cases S.testBit c <;> simp [hc, e]
    have v1 : voteV way n (rwS one other q (cmp' (nq q) n S) one) a = voteV way n (um (rM one other S) q one) a := voteV_cong (fun c hc => by
      unfold rwS
      by_cases e : c = q
      · rw [e, um_s, um_s]
      · rw [um_n _ _ e, um_n _ _ e]; exact k c hc e)
    have v2 : voteV way n (rwS one other q (cmp' (nq q) n S) other) a = voteV way n (rM one other S) a := voteV_cong (fun c hc => by
      unfold rwS
      by_cases e : c = q
      · rw [e, um_s]
        show other = if S.testBit q then one else other
        rw [y]; rfl
      · rw [um_n _ _ e]; exact k c hc e)
    unfold hM XS
    rw [v1, v2]
    by_cases z : voteV way n (um (rM one other S) q one) a = voteV way n (rM one other S) a
    · rw [if_pos z, if_pos z.symm]
    · rw [if_neg z, if_neg (fun w => z w.symm)]
  · rfl
theorem st_swings (hN : 5000 ≤ N) (a1 a2 a3 a4 : Int32) : StepI Inv (f_X10_swings N 0 a1 a2 a3 a4) (f_X11_swings N 63 a1 a2 a3 a4) := by
  refine step_q fun σ τ hi => ?_
  obtain ⟨hc, hm, hnn, -, -, ⟨m, hw, hr, hs⟩, -⟩ := hi
  have h12 := hw.1
  have hK : 2 ^ m 0 ≤ 4096 := (Nat.pow_le_pow_right (by decide) h12 : 2 ^ m 0 ≤ 2 ^ 12)
  unfold f_X10_swings f_X10_swings_36 f_X11_swings f_X11_swings_45
  rw [k_o0 hc, Option.bind_some, e_canBuy hc hr.1 h12, Option.bind_some, m_g24 hm, Option.bind_some, m_aI hm (a := 75) (n := 156) (i := 0) (c := 0) (by decide) rfl rfl (by decide) (by decide), Option.bind_some, hs 0 (by decide)]
  by_cases h0 : 0 < m 0
  · rw [if_neg (show ¬ nI (m 0) = 0 from fun z => by rw [nz_iff (by omega)] at z; omega), e_isWay, Option.bind_some]
    by_cases hW : 0 ≤ a1 ∧ a1 < 4
    · rw [bi_y hW, if_neg z1, m_ob hm, Option.bind_some, e_isCock hm, Option.bind_some, hs 0 (by decide)]
      by_cases hC : 0 ≤ a2 ∧ a2 < nI (m 0)
      · rw [bi_y hC, if_neg z1, e_isPoint, Option.bind_some]
        by_cases h3 : 0 ≤ a3 ∧ a3 < 8
        · rw [bi_y h3, bi_y ⟨h0, hW, h3⟩, if_neg z1, if_neg z1, k_0_4 hc, Option.bind_some, v_o (now9 hc), Option.bind_some, e_hasCock (now9 hc) hr.1 h12, Option.bind_some, bi_y hC, if_neg z1, e_isPoint, Option.bind_some, e_isBelow, Option.bind_some]
          by_cases h4 : 0 ≤ a4 ∧ a4 < 8
          · rw [bi_y h4, if_neg z1, if_neg z1]
            by_cases e34 : a3 = a4
            · rw [if_pos e34, if_pos e34]
              exact ⟨_, _, _, rfl, rfl, QC.rf _, QM.rf _⟩
            · rw [if_neg e34, if_neg e34]
              obtain ⟨way, rfl, hway⟩ := cy_n (n := 4) (by decide) hW
              obtain ⟨q, rfl, hq⟩ := cy_n (n := m 0) (by omega) hC
              obtain ⟨one, rfl, h1o⟩ := cy_n (n := 8) (by decide) h3
              obtain ⟨other, rfl, h2o⟩ := cy_n (n := 8) (by decide) h4
              have hv8 : ∀ r : Nat → Nat, (∀ c, c < m 0 → r c < 8) → voteV way (m 0) r (ages m) < 8 := fun r hr8 => voteV_lt hw h0 hr8 hway hm hs
              obtain ⟨s1, x1, x2⟩ := e_unlike (N := N) hN hw h0 hq h1o h2o hway hv8 hc hr
              obtain ⟨t1, u1, u2⟩ := s53 (N := N) (by omega) hw h0 hq h1o h2o hway (2 ^ m 0) 0 N τ (by omega) (by omega) hm hs
              rw [hM_XS hq] at u1
              refine ⟨_, s1, t1, ?_, u1, x2.qc (by decide), u2.qm (by decide)⟩
              rw [k_0_11 hc, Option.bind_some, k_0_4 hc, Option.bind_some, k_o42 hc, Option.bind_some, x1, Option.bind_some]
          · rw [bi_n h4]
            exact ⟨_, _, _, rfl, rfl, QC.rf _, QM.rf _⟩
        · rw [bi_n h3, bi_n (fun z => h3 z.2.2)]
          exact ⟨_, _, _, rfl, rfl, QC.rf _, QM.rf _⟩
      · rw [bi_n hC, if_pos rfl]
        by_cases h3 : 0 ≤ a3 ∧ a3 < 8
        · rw [bi_y ⟨h0, hW, h3⟩, if_neg z1, k_0_4 hc, Option.bind_some, v_o (now9 hc), Option.bind_some, e_hasCock (now9 hc) hr.1 h12, Option.bind_some, bi_n hC, if_pos rfl]
          exact ⟨_, _, _, rfl, rfl, QC.rf _, QM.rf _⟩
        · rw [bi_n (fun z => h3 z.2.2)]
          exact ⟨_, _, _, rfl, rfl, QC.rf _, QM.rf _⟩
    · rw [bi_n hW, bi_n (fun z => hW z.2.1)]
      exact ⟨_, _, _, rfl, rfl, QC.rf _, QM.rf _⟩
  · rw [bi_n (fun z => h0 z.1), if_pos rfl, if_pos (show nI (m 0) = 0 from (nz_iff (by omega)).2 (by omega))]
    exact ⟨_, _, _, rfl, rfl, QC.rf _, QM.rf _⟩
end SW
