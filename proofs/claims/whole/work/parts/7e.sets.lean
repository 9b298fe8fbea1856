/-! sets of cocks: the best of them -/
abbrev lxl (a b c a' b' c' : Nat) : Prop := a < a' ∨ (a = a' ∧ (b < b' ∨ (b = b' ∧ c ≤ c')))
def bst (ok : Nat → Bool) (co bt : Nat → Nat) : Nat → Option Nat
  | 0 => none
  | S + 1 => if ok S then (match bst ok co bt S with
    | none => some S
    | some b => if co S < co b ∨ (co S = co b ∧ bt S < bt b) then some S else some b) else bst ok co bt S
theorem bst_no {ok : Nat → Bool} {co bt : Nat → Nat} {S : Nat} (h : ok S = false) : bst ok co bt (S + 1) = bst ok co bt S := by
  show (if ok S then _ else _) = _
  rw [if_neg (by rw [h]; decide)]
theorem bst_fst {ok : Nat → Bool} {co bt : Nat → Nat} {S : Nat} (h : ok S = true) (e : bst ok co bt S = none) : bst ok co bt (S + 1) = some S := by
  show (if ok S then (match bst ok co bt S with
    | none => some S
    | some b => if co S < co b ∨ (co S = co b ∧ bt S < bt b) then some S else some b) else _) = _
  rw [if_pos h, e]
theorem bst_yes {ok : Nat → Bool} {co bt : Nat → Nat} {S b : Nat} (h : ok S = true) (e : bst ok co bt S = some b) (q : co S < co b ∨ (co S = co b ∧ bt S < bt b)) : bst ok co bt (S + 1) = some S := by
  show (if ok S then (match bst ok co bt S with
    | none => some S
    | some b => if co S < co b ∨ (co S = co b ∧ bt S < bt b) then some S else some b) else _) = _
  rw [if_pos h, e]
  exact if_pos q
theorem bst_old {ok : Nat → Bool} {co bt : Nat → Nat} {S b : Nat} (e : bst ok co bt S = some b) (q : ¬ (co S < co b ∨ (co S = co b ∧ bt S < bt b))) : bst ok co bt (S + 1) = some b := by
  by_cases h : ok S = true
  · show (if ok S then (match bst ok co bt S with
      | none => some S
      | some b => if co S < co b ∨ (co S = co b ∧ bt S < bt b) then some S else some b) else _) = _
    rw [if_pos h, e]
    exact if_neg q
  · rw [bst_no (by simpa using h)]; exact e
theorem bst_spec (ok : Nat → Bool) (co bt : Nat → Nat) : ∀ K, (bst ok co bt K = none ∧ ∀ S, S < K → ok S = false) ∨ ∃ b, bst ok co bt K = some b ∧ b < K ∧ ok b = true ∧ ∀ S, S < K → ok S = true → lxl (co b) (bt b) b (co S) (bt S) S := by
  intro K
  induction K with
  | zero => left; exact ⟨rfl, fun S h => absurd h (Nat.not_lt_zero _)⟩
  | succ K ih =>
    by_cases h : ok K = true
    · rcases ih with ⟨e, z⟩ | ⟨b, e, h1, h2, h3⟩
      · right
        refine ⟨K, bst_fst h e, Nat.lt_succ_self _, h, fun S hS hk => ?_⟩
        by_cases q : S = K
        · rw [q]; right; exact ⟨rfl, Or.inr ⟨rfl, Nat.le_refl _⟩⟩
        · rw [z S (by omega)] at hk; cases hk
      · right
        by_cases q : co K < co b ∨ (co K = co b ∧ bt K < bt b)
        · refine ⟨K, bst_yes h e q, Nat.lt_succ_self _, h, fun S hS hk => ?_⟩
          by_cases z : S = K
          · rw [z]; right; exact ⟨rfl, Or.inr ⟨rfl, Nat.le_refl _⟩⟩
          · have := h3 S (by omega) hk
            unfold lxl at *
            omega
        · refine ⟨b, bst_old e q, by omega, h2, fun S hS hk => ?_⟩
          by_cases z : S = K
          · rw [z]; unfold lxl; omega
          · exact h3 S (by omega) hk
    · have h' : ok K = false := by simpa using h
      rw [bst_no h']
      rcases ih with ⟨e, z⟩ | ⟨b, e, h1, h2, h3⟩
      · left
        refine ⟨e, fun S hS => ?_⟩
        by_cases q : S = K
        · rw [q]; exact h'
        · exact z S (by omega)
      · right
        refine ⟨b, e, by omega, h2, fun S hS hk => ?_⟩
        by_cases q : S = K
        · rw [q, h'] at hk; cases hk
        · exact h3 S (by omega) hk
theorem bst_is {ok : Nat → Bool} {co bt : Nat → Nat} {K b : Nat} (h1 : b < K) (h2 : ok b = true) (h3 : ∀ S, S < K → ok S = true → lxl (co b) (bt b) b (co S) (bt S) S) : bst ok co bt K = some b := by
  rcases bst_spec ok co bt K with ⟨e, z⟩ | ⟨b', e, g1, g2, g3⟩
  · rw [z b h1] at h2; cases h2
  · rw [e]
    have := h3 b' g1 g2
    have := g3 b h1 h2
    unfold lxl at *
    congr 1
    omega
theorem bst_none {ok : Nat → Bool} {co bt : Nat → Nat} {K : Nat} (h : ∀ S, S < K → ok S = false) : bst ok co bt K = none := by
  rcases bst_spec ok co bt K with ⟨e, z⟩ | ⟨b', e, g1, g2, g3⟩
  · exact e
  · rw [h b' g1] at g2; cases g2
theorem bst_stay {ok : Nat → Bool} {co bt : Nat → Nat} {K : Nat} (h : bst ok co bt K = some 0) (h1 : co 0 = 0) (h2 : bt 0 = 0) : ∀ d, bst ok co bt (K + d) = some 0 := by
  intro d
  induction d with
  | zero => exact h
  | succ d ih => exact bst_old ih (by rw [h1, h2]; omega)
/-! the cocks that may change, and their places -/
def kd (D : Nat → Bool) : Nat → Nat
  | 0 => 0
  | c + 1 => kd D c + (if D c then 1 else 0)
def fr (D : Nat → Bool) : Nat → Nat → Nat
  | 0 => fun _ => 0
  | c + 1 => if D c then um (fr D c) (kd D c) c else fr D c
theorem kd_y {D : Nat → Bool} {c : Nat} (h : D c = true) : kd D (c + 1) = kd D c + 1 := by
  show kd D c + (if D c then 1 else 0) = _
  rw [if_pos h]
theorem kd_n {D : Nat → Bool} {c : Nat} (h : D c = false) : kd D (c + 1) = kd D c := by
  show kd D c + (if D c then 1 else 0) = _
  rw [if_neg (by rw [h]; decide)]; rfl
theorem fr_y {D : Nat → Bool} {c : Nat} (h : D c = true) : fr D (c + 1) = um (fr D c) (kd D c) c := by
  show (if D c then _ else _) = _
  rw [if_pos h]
theorem fr_n {D : Nat → Bool} {c : Nat} (h : D c = false) : fr D (c + 1) = fr D c := by
  show (if D c then _ else _) = _
  rw [if_neg (by rw [h]; decide)]
theorem kd_le (D : Nat → Bool) : ∀ c, kd D c ≤ c := by
  intro c
  induction c with
  | zero => exact Nat.le_refl _
  | succ c ih =>
    cases h : D c
    · rw [kd_n h]; omega
    · rw [kd_y h]; omega
theorem kd_mono (D : Nat → Bool) (c : Nat) : ∀ d, kd D c ≤ kd D (c + d) := by
  intro d
  induction d with
  | zero => exact Nat.le_refl _
  | succ d ih =>
    show kd D c ≤ kd D (c + d + 1)
    cases h : D (c + d)
    · rw [kd_n h]; exact ih
    · rw [kd_y h]; omega
theorem kd_lt {D : Nat → Bool} {c j : Nat} (h : j < c) (hD : D j = true) : kd D j < kd D c := by
  have h1 := kd_mono D (j + 1) (c - (j + 1))
  rw [show j + 1 + (c - (j + 1)) = c by omega, kd_y hD] at h1
  omega
theorem kd_inj {D : Nat → Bool} {j k : Nat} (hj : D j = true) (hk : D k = true) (h : kd D j = kd D k) : j = k := by
  rcases Nat.lt_trichotomy j k with q | q | q
  · have := kd_lt q hj; omega
  · exact q
  · have := kd_lt q hk; omega
theorem fr_ok {D : Nat → Bool} : ∀ c i, i < kd D c → fr D c i < c ∧ D (fr D c i) = true ∧ kd D (fr D c i) = i := by
  intro c
  induction c with
  | zero => intro i h; exact absurd h (Nat.not_lt_zero _)
  | succ c ih =>
    intro i hi
    cases h : D c
    · rw [kd_n h] at hi
      rw [fr_n h]
      have := ih i hi
      exact ⟨by omega, this.2⟩
    · rw [kd_y h] at hi
      rw [fr_y h]
      by_cases q : i = kd D c
      · rw [q, um_s]; exact ⟨by omega, h, rfl⟩
      · rw [um_n _ _ q]
        have := ih i (by omega)
        exact ⟨by omega, this.2⟩
theorem fr_kd {D : Nat → Bool} {n c : Nat} (hc : c < n) (hD : D c = true) : fr D n (kd D c) = c := by
  have := fr_ok n (kd D c) (kd_lt hc hD)
  exact kd_inj this.2.1 hD this.2.2
theorem sg_fr {D : Nat → Bool} (b : Nat → Bool) (g : Nat → Nat) : ∀ c, sg (fun j => if D j && b (kd D j) then g j else 0) 0 c = sg (fun i => if b i then g (fr D c i) else 0) 0 (kd D c) := by
  intro c
  induction c with
  | zero => rfl
  | succ c ih =>
    rw [sg_succ, ih, Nat.zero_add]
    cases h : D c
    · rw [kd_n h, fr_n h]
      simp [h]
    · rw [kd_y h, fr_y h, sg_succ, Nat.zero_add, um_s]
      simp only [h, Bool.true_and]
      congr 1
      apply sg_cong
      intro j _ hj
      rw [um_n _ _ (by omega)]
/-! sets as numbers -/
theorem msk_tb (p : Nat → Bool) : ∀ n j, (msk p n).testBit j = (decide (j < n) && p j) := by
  intro n
  induction n with
  | zero => intro j; simp [msk]
  | succ n ih =>
    intro j
    have hl := msk_lt p n
    have e : msk p (n + 1) = if p n then msk p n ||| 2 ^ n else msk p n := by
      show msk p n + (if p n then 2 ^ n else 0) = _
      by_cases h : p n = true
      · rw [if_pos h, if_pos h, or_pow hl]
      · rw [if_neg h, if_neg h]; rfl
    rw [e]
    by_cases h : p n = true
    · rw [if_pos h, Nat.testBit_or, ih, Nat.testBit_two_pow]
      by_cases q : n = j
      · subst q; simp [h]
      · have : (j < n + 1) ↔ j < n := by omega
        simp [q, this]
    · rw [if_neg h, ih]
      have h' : p n = false := by simpa using h
      by_cases q : n = j
      · subst q; simp [h']
      · have : (j < n + 1) ↔ j < n := by omega
        simp [this]
theorem msk_cong {p q : Nat → Bool} : ∀ n, (∀ j, j < n → p j = q j) → msk p n = msk q n := by
  intro n h
  apply Nat.eq_of_testBit_eq
  intro j
  rw [msk_tb, msk_tb]
  by_cases z : j < n
  · rw [h j z]
  · simp [z]
def exS (D : Nat → Bool) (ch n : Nat) : Nat := msk (fun j => D j && ch.testBit (kd D j)) n
theorem exS_tb (D : Nat → Bool) (ch n j : Nat) : (exS D ch n).testBit j = (decide (j < n) && (D j && ch.testBit (kd D j))) := msk_tb _ n j
theorem exS_cong {D : Nat → Bool} {ch ch' n : Nat} (h : ∀ i, i < kd D n → ch.testBit i = ch'.testBit i) : exS D ch n = exS D ch' n := by
  apply msk_cong
  intro j hj
  cases q : D j
  · rfl
  · simp only [Bool.true_and]; exact h _ (kd_lt hj q)
theorem tb_top {x k : Nat} (h : x < 2 ^ (k + 1)) : x.testBit k = decide (2 ^ k ≤ x) := by
  rw [Nat.pow_succ] at h
  by_cases q : 2 ^ k ≤ x
  · rw [decide_eq_true q, Nat.testBit_eq_decide_div_mod_eq]
    have : x / 2 ^ k = 1 := by
      apply Nat.div_eq_of_lt_le
      · omega
      · omega
    rw [this]; rfl
  · rw [decide_eq_false q]
    exact Nat.testBit_lt_two_pow (by omega)
theorem exS_mono {D : Nat → Bool} : ∀ n ch ch', ch ≤ ch' → ch' < 2 ^ kd D n → exS D ch n ≤ exS D ch' n := by
  intro n
  induction n with
  | zero => intro _ _ _ _; exact Nat.le_refl _
  | succ n ih =>
    intro ch ch' h1 h2
    cases h : D n
    · rw [kd_n h] at h2
      show exS D ch n + (if D n && ch.testBit (kd D n) then 2 ^ n else 0) ≤ exS D ch' n + (if D n && ch'.testBit (kd D n) then 2 ^ n else 0)
      rw [if_neg (by rw [h]; simp), if_neg (by rw [h]; simp)]
      exact ih ch ch' h1 h2
    · rw [kd_y h] at h2
      show exS D ch n + (if D n && ch.testBit (kd D n) then 2 ^ n else 0) ≤ exS D ch' n + (if D n && ch'.testBit (kd D n) then 2 ^ n else 0)
      have t1 := tb_top (show ch < 2 ^ (kd D n + 1) by omega)
      have t2 := tb_top h2
      have m1 : exS D ch n = exS D (ch % 2 ^ kd D n) n := exS_cong (fun i hi => by rw [Nat.testBit_mod_two_pow]; simp [hi])
      have m2 : exS D ch' n = exS D (ch' % 2 ^ kd D n) n := exS_cong (fun i hi => by rw [Nat.testBit_mod_two_pow]; simp [hi])
      have p0 : 0 < 2 ^ kd D n := Nat.pow_pos (by decide)
      have l2 := Nat.mod_lt ch' p0
      rw [Nat.pow_succ] at h2
      have l0 : exS D ch n < 2 ^ n := msk_lt _ n
      simp only [h, Bool.true_and, t1, t2, decide_eq_true_eq]
      by_cases q1 : 2 ^ kd D n ≤ ch
      · have q2 : 2 ^ kd D n ≤ ch' := by omega
        rw [if_pos q1, if_pos q2, m1, m2]
        have e1 : ch % 2 ^ kd D n = ch - 2 ^ kd D n := by rw [Nat.mod_eq_sub_mod q1, Nat.mod_eq_of_lt (by omega)]
        have e2 : ch' % 2 ^ kd D n = ch' - 2 ^ kd D n := by rw [Nat.mod_eq_sub_mod q2, Nat.mod_eq_of_lt (by omega)]
        have := ih (ch % 2 ^ kd D n) (ch' % 2 ^ kd D n) (by omega) l2
        omega
      · rw [if_neg q1]
        by_cases q2 : 2 ^ kd D n ≤ ch'
        · rw [if_pos q2]; omega
        · rw [if_neg q2]
          exact ih ch ch' h1 (by omega)
theorem exS_on {D : Nat → Bool} {n S : Nat} (hS : S < 2 ^ n) (h : ∀ j, j < n → S.testBit j = true → D j = true) : ∃ ch, ch < 2 ^ kd D n ∧ exS D ch n = S := by
  refine ⟨msk (fun i => S.testBit (fr D n i)) (kd D n), msk_lt _ _, ?_⟩
  apply Nat.eq_of_testBit_eq
  intro j
  rw [exS_tb, msk_tb]
  by_cases hj : j < n
  · cases q : D j
    · cases z : S.testBit j
      · simp
      · rw [h j hj z] at q; cases q
    · rw [fr_kd hj q]
      simp [hj, kd_lt hj q]
  · have : S.testBit j = false := Nat.testBit_lt_two_pow (Nat.lt_of_lt_of_le hS (Nat.pow_le_pow_right (by decide) (by omega)))
    simp [hj, this]
theorem sg_ext {f : Nat → Nat} {n k : Nat} (hn : n ≤ k) (h : ∀ j, n ≤ j → f j = 0) : sg f 0 k = sg f 0 n := by
  obtain ⟨d, rfl⟩ : ∃ d, k = n + d := ⟨k - n, by omega⟩
  rw [sg_add, sg_zero d (0 + n) (fun j q _ => h j (by omega))]; rfl
theorem tb_out {S n j : Nat} (hS : S < 2 ^ n) (h : n ≤ j) : S.testBit j = false := Nat.testBit_lt_two_pow (Nat.lt_of_lt_of_le hS (Nat.pow_le_pow_right (by decide) h))
theorem pc_n {S n : Nat} (hn : n ≤ 12) (hS : S < 2 ^ n) : pc S = sg (fun i => if S.testBit i then 1 else 0) 0 n := by
  rw [pc_sg]
  exact sg_ext hn (fun j hj => by rw [tb_out hS hj]; rfl)
theorem exS_lt (D : Nat → Bool) (ch n : Nat) : exS D ch n < 2 ^ n := msk_lt _ n
theorem pc_ex {D : Nat → Bool} {ch n : Nat} (hn : n ≤ 12) (h : ch < 2 ^ kd D n) : pc (exS D ch n) = pc ch := by
  rw [pc_n hn (exS_lt D ch n), pc_n (by have := kd_le D n; omega) h, ← sg_fr (D := D) (fun i => ch.testBit i) (fun _ => 1) n]
  apply sg_cong
  intro j _ hj
  rw [exS_tb]
  simp [show j < n by omega]
/-- what a set costs -/
def coS (P : Nat → Nat) (n S : Nat) : Nat := sg (fun c => if S.testBit c then P c else 0) 0 n
def coB (D : Nat → Bool) (P : Nat → Nat) (n : Nat) (b : Nat → Bool) : Nat := sg (fun j => if D j && b (kd D j) then P j else 0) 0 n
theorem co_ex (D : Nat → Bool) (P : Nat → Nat) (n ch : Nat) : coS P n (exS D ch n) = coB D P n ch.testBit := by
  apply sg_cong
  intro j _ hj
  rw [exS_tb]
  simp [show j < n by omega]
def roS (f t : Nat → Nat) (S : Nat) : Nat → Nat := fun c => if S.testBit c then t c else f c
def roB (D : Nat → Bool) (f t : Nat → Nat) (b : Nat → Bool) : Nat → Nat := fun c => if D c && b (kd D c) then t c else f c
theorem ro_ex (D : Nat → Bool) (f t : Nat → Nat) {n ch c : Nat} (hc : c < n) : roS f t (exS D ch n) c = roB D f t ch.testBit c := by
  unfold roS roB
  rw [exS_tb]
  simp [hc]
theorem sg_le {f g : Nat → Nat} : ∀ d c, (∀ j, c ≤ j → j < c + d → f j ≤ g j) → sg f c d ≤ sg g c d := by
  intro d
  induction d with
  | zero => intro c _; exact Nat.le_refl _
  | succ d ih =>
    intro c h
    have h1 := h c (by omega) (by omega)
    have h2 := ih (c + 1) (fun j a b => h j (by omega) (by omega))
    show f c + sg f (c + 1) d ≤ g c + sg g (c + 1) d
    omega
/-- what the sets are measured by -/
def okS (al : Nat → Bool) (V : (Nat → Nat) → Nat) (f t : Nat → Nat) (n p S : Nat) : Bool := decide (∀ c, c < n → S.testBit c = true → al c = true) && decide (V (roS f t S) = p)
def dif (al : Nat → Bool) (f t : Nat → Nat) : Nat → Bool := fun c => al c && decide (f c ≠ t c)
theorem srch {al : Nat → Bool} {V : (Nat → Nat) → Nat} {f t P : Nat → Nat} {n p : Nat} (hn : n ≤ 12) (hV : ∀ r r' : Nat → Nat, (∀ c, c < n → r c = r' c) → V r = V r') :
    bst (okS al V f t n p) (coS P n) pc (2 ^ n) = (bst (fun ch => decide (V (roB (dif al f t) f t ch.testBit) = p)) (fun ch => coB (dif al f t) P n ch.testBit) pc (2 ^ kd (dif al f t) n)).map (fun ch => exS (dif al f t) ch n) := by
  obtain ⟨D, hD⟩ : ∃ D, D = dif al f t := ⟨_, rfl⟩
  rw [← hD]
  have dn : ∀ S, okS al V f t n p S = true → S < 2 ^ n → ∃ ch, ch < 2 ^ kd D n ∧ V (roB D f t ch.testBit) = p ∧ lxl (coB D P n ch.testBit) (pc ch) (exS D ch n) (coS P n S) (pc S) S := by
    intro S hk hS
    unfold okS at hk
    rw [Bool.and_eq_true, decide_eq_true_eq, decide_eq_true_eq] at hk
    obtain ⟨k1, k2⟩ := hk
    have hm : msk (fun j => D j && S.testBit j) n < 2 ^ n := msk_lt _ n
    obtain ⟨ch, c1, c2⟩ := exS_on (D := D) hm (fun j hj z => by
      rw [msk_tb] at z
      simp only [Bool.and_eq_true] at z
      exact z.2.1)
    have tb : ∀ j, (exS D ch n).testBit j = true → S.testBit j = true := by
      intro j z
      rw [c2, msk_tb] at z
      simp only [Bool.and_eq_true] at z
      exact z.2.2
    refine ⟨ch, c1, ?_, ?_⟩
    · rw [← k2]
      apply hV
      intro c hc
      rw [← ro_ex D f t hc]
      unfold roS
      rw [c2, msk_tb, decide_eq_true hc, Bool.true_and]
      cases z : S.testBit c
      · simp
      · cases y : D c
        · simp only [Bool.false_and]
          rw [hD] at y
          unfold dif at y
          rw [k1 c hc z] at y
          simp at y
          simp [y]
        · simp
    · have a1 : coB D P n ch.testBit ≤ coS P n S := by
        rw [← co_ex]
        apply sg_le
        intro j _ _
        cases z : (exS D ch n).testBit j
        · simp
        · rw [tb j z]; simp
      have a2 : pc ch ≤ pc S := by
        rw [← pc_ex hn c1, pc_n hn (exS_lt D ch n), pc_n hn hS]
        apply sg_le
        intro j _ _
        cases z : (exS D ch n).testBit j
        · simp
        · rw [tb j z]; simp
      have a3 : exS D ch n ≤ S := Nat.le_of_testBit (fun i => tb i)
      unfold lxl
      omega
  rcases bst_spec (fun ch => decide (V (roB D f t ch.testBit) = p)) (fun ch => coB D P n ch.testBit) pc (2 ^ kd D n) with ⟨e, z⟩ | ⟨b, e, g1, g2, g3⟩
  · rw [e]
    apply bst_none
    intro S hS
    cases q : okS al V f t n p S
    · rfl
    · obtain ⟨ch, c1, c2, _⟩ := dn S q hS
      have := z ch c1
      simp only [decide_eq_false_iff_not] at this
      exact absurd c2 this
  · rw [e]
    show _ = some (exS D b n)
    apply bst_is (exS_lt D b n)
    · unfold okS
      rw [Bool.and_eq_true, decide_eq_true_eq, decide_eq_true_eq]
      refine ⟨fun c hc q => ?_, ?_⟩
      · rw [exS_tb, hD] at q
        unfold dif at q
        simp only [Bool.and_eq_true] at q
        exact q.2.1.1
      · rw [hV _ (roB D f t b.testBit) (fun c hc => ro_ex D f t hc)]
        simpa using g2
    · intro S hS hk
      obtain ⟨ch, c1, c2, c3⟩ := dn S hk hS
      have h3 := g3 ch c1 (by simpa using c2)
      rw [co_ex, pc_ex hn g1]
      have hmo : b ≤ ch → exS D b n ≤ exS D ch n := fun q => exS_mono n b ch q c1
      unfold lxl at *
      rcases h3 with q | ⟨q, r | ⟨r, s⟩⟩
      · omega
      · omega
      · have := hmo s
        omega
theorem vMost_cong {r r' k k' a : Nat → Nat} {n : Nat} (h : ∀ c, c < n → r c = r' c) (hk : k = k') : vMost r k a n = vMost r' k' a n := by
  subst hk
  have e : ∀ M c, c ≤ n → old r k a M c = old r' k a M c := by
    intro M c
    induction c with
    | zero => intro _; rfl
    | succ c ih =>
      intro hc
      unfold old
      rw [ih (by omega), h c (by omega)]
  unfold vMost
  rw [e _ n (Nat.le_refl _)]
  cases q : old r' k a (gr k 8) n with
  | none => rfl
  | some o => exact h o (old_in _ _ _ _ _ _ q).1
theorem voteV_cong {r r' a : Nat → Nat} {way n : Nat} (h : ∀ c, c < n → r c = r' c) : voteV way n r a = voteV way n r' a := by
  have e : ∀ w, cnt r w n = cnt r' w n := fun w => funext (fun p => cnt_cong h)
  unfold voteV
  rw [e, e, vMost_cong h rfl, vMost_cong h rfl]
