/-! the class's ballot -/
def Bal (σ : Mm) (n : Nat) (r a : Nat → Nat) : Prop := iv σ 36 0 = nI n ∧ (∀ c, c < n → iv σ 37 c = nI (a c)) ∧ (∀ c, c < n → iv σ 38 c = nI (r c)) ∧ (∀ p, p < 8 → iv σ 39 p = nI (cnt r (fun _ => 1) n p)) ∧ ∀ p, p < 8 → iv σ 40 p = nI (cnt r (fun c => a c + 1) n p)
theorem Bal.cong {σ σ' : Mm} {n : Nat} {r a : Nat → Nat} (h : Bal σ n r a) (e : ∀ o, 36 ≤ o → o ≤ 40 → iv σ' o = iv σ o) : Bal σ' n r a := by
  unfold Bal at h ⊢
  rw [e 36 (by decide) (by decide), e 37 (by decide) (by decide), e 38 (by decide) (by decide), e 39 (by decide) (by decide), e 40 (by decide) (by decide)]
  exact h
section VC
variable {N : Nat}
theorem and7' {x : Nat} (h : x < 8) : nI x &&& 7 = nI x := by
  have : ∀ x, x < 8 → nI x &&& 7 = nI x := by decide
  exact this x h
theorem e_tally {σ : Mm} (hc : WFc σ) {c p ag : Nat} (h12 : c < 12) (hp : p < 8) (h38 : iv σ 38 c = nI p) (h37 : iv σ 37 c = nI ag) (l2 : Int32) : f_X1_tally N 36 (nI c) l2 σ = some (si (si σ 39 p (iv σ 39 p + l2)) 40 p (iv σ 40 p + l2 * (nI ag + 1))) := by
  have c1 : WFc (si σ 39 p (iv σ 39 p + l2)) := hc
  unfold f_X1_tally
  rw [k_36_2 hc, Option.bind_some, k_aI hc (a := 38) (n := 12) (c := c) (by decide) rfl rfl h12 (by decide), Option.bind_some, h38, and7' hp, k_36_3 hc, Option.bind_some, k_aI hc (a := 39) (n := 8) (c := p) (by decide) rfl rfl hp (by decide), Option.bind_some, k_sI hc (a := 39) (n := 8) (c := p) (by decide) rfl rfl hp (by decide), Option.bind_some, k_36_4 c1, Option.bind_some, k_aI c1 (a := 40) (n := 8) (c := p) (by decide) rfl rfl hp (by decide), Option.bind_some, k_36_1 c1, Option.bind_some, k_aI c1 (a := 37) (n := 12) (c := c) (by decide) rfl rfl h12 (by decide), Option.bind_some, iv_row σ _ _ (show 37 ≠ 39 by decide), h37, iv_row σ _ _ (show 40 ≠ 39 by decide), k_sI c1 (a := 40) (n := 8) (c := p) (by decide) rfl rfl hp (by decide), Option.bind_some]
/-- the first so many of the ballot -/
def BalP (σ : Mm) (c : Nat) (r a : Nat → Nat) : Prop := (∀ j, j < c → iv σ 37 j = nI (a j)) ∧ (∀ j, j < c → iv σ 38 j = nI (r j)) ∧ (∀ p, p < 8 → iv σ 39 p = nI (cnt r (fun _ => 1) c p)) ∧ ∀ p, p < 8 → iv σ 40 p = nI (cnt r (fun c => a c + 1) c p)
theorem opn {m r a : Nat → Nat} {row : Nat} (h12 : m 0 ≤ 12) (ha : ∀ c, a c = m (7 + 7 * c)) (hr8 : ∀ c, c < m 0 → r c < 8) (hrow : row < 85) (hsh : SH row = (13, 12)) (hro : row < 36 ∨ 41 ≤ row) : ∀ d c fu σ, c + d = m 0 → d < fu → WFc σ → RelV σ 9 m → iv σ 36 0 = nI (m 0) → (∀ c, c < m 0 → iv σ row c = nI (r c)) → BalP σ c r a → ∃ σ', f_X1_open_48 N fu 36 9 row (nI c) σ = some σ' ∧ RS [36, 37, 38, 39, 40] σ σ' ∧ Bal σ' (m 0) r a := by
  intro d
  induction d with
  | zero =>
    intro c fu σ h1 h2 hc hr h36 hR hB
    obtain ⟨fu, rfl⟩ : ∃ q, fu = q + 1 := ⟨fu - 1, by omega⟩
    refine ⟨σ, ?_, RS.rf _ _, h36, ?_⟩
    · rw [f_X1_open_48, k_i36 hc, Option.bind_some, h36, if_pos (nI_le (by omega) (by omega))]
    · rw [show m 0 = c by omega]; exact hB
  | succ d ih =>
    intro c fu σ h1 h2 hc hr h36 hR hB
    obtain ⟨fu, rfl⟩ : ∃ q, fu = q + 1 := ⟨fu - 1, by omega⟩
    have h8 := hr8 c (by omega)
    obtain ⟨s1, e1⟩ : ∃ s, s = si σ 37 c (nI (a c)) := ⟨_, rfl⟩
    obtain ⟨s2, e2⟩ : ∃ s, s = si s1 38 c (nI (r c)) := ⟨_, rfl⟩
    obtain ⟨s3, e3⟩ : ∃ s, s = si (si s2 39 (r c) (iv s2 39 (r c) + 1)) 40 (r c) (iv s2 40 (r c) + 1 * (nI (a c) + 1)) := ⟨_, rfl⟩
    have r1 : RS [36, 37, 38, 39, 40] σ s1 := by rw [e1]; exact (RO.si _ _ _ _).rs (by decide)
    have r2 : RS [36, 37, 38, 39, 40] σ s2 := by rw [e2]; exact r1.tr ((RO.si _ _ _ _).rs (by decide))
    have r3 : RS [36, 37, 38, 39, 40] σ s3 := by rw [e3]; exact r2.tr (((RO.si _ _ _ _).rs (by decide)).tr ((RO.si _ _ _ _).rs (by decide)))
    have c1 := r1.wc hc
    have c2 := r2.wc hc
    have c3 := r3.wc hc
    have r5 : iv σ (9 + 4) c = nI (a c) := by
      have := hr.2.2.2.2.1 c (by omega) 3 (by decide)
      rw [ha]
      rwa [show 4 + 7 * c + 3 = 7 + 7 * c by omega] at this
    have i37 : iv s2 37 c = nI (a c) := by rw [e2, iv_row s1 _ _ (by decide), e1, iv_si, if_pos ⟨rfl, rfl⟩]
    have i38 : iv s2 38 c = nI (r c) := by rw [e2, iv_si, if_pos ⟨rfl, rfl⟩]
    have i39 : ∀ p, iv s2 39 p = iv σ 39 p := fun p => by rw [e2, iv_row s1 _ _ (by decide), e1, iv_row σ _ _ (by decide)]
    have i40 : ∀ p, iv s2 40 p = iv σ 40 p := fun p => by rw [e2, iv_row s1 _ _ (by decide), e1, iv_row σ _ _ (by decide)]
    have hrow' : iv s1 row c = nI (r c) := by rw [r1.2.2 row (by simp; omega)]; exact hR c (by omega)
    have hB3 : BalP s3 (c + 1) r a := by
      refine ⟨fun j hj => ?_, fun j hj => ?_, fun p hp => ?_, fun p hp => ?_⟩
      · rw [e3, iv_row _ _ _ (by decide), iv_row _ _ _ (by decide), e2, iv_row _ _ _ (by decide), e1, iv_si]
        by_cases q : j = c
        · rw [if_pos ⟨rfl, q⟩, q]
        · rw [if_neg (fun z => q z.2)]; exact hB.1 j (by omega)
      · rw [e3, iv_row _ _ _ (by decide), iv_row _ _ _ (by decide), e2, iv_si]
        by_cases q : j = c
        · rw [if_pos ⟨rfl, q⟩, q]
        · rw [if_neg (fun z => q z.2), e1, iv_row _ _ _ (by decide)]; exact hB.2.1 j (by omega)
      · rw [e3, iv_row _ _ _ (by decide), iv_si, cnt_succ]
        by_cases q : p = r c
        · rw [if_pos ⟨rfl, q⟩, if_pos q.symm, i39, hB.2.2.1 _ (by omega), nI_1, q]
        · rw [if_neg (fun z => q z.2), if_neg (fun z => q z.symm), i39, hB.2.2.1 p hp, Nat.add_zero]
      · rw [e3, iv_si, cnt_succ]
        by_cases q : p = r c
        · rw [if_pos ⟨rfl, q⟩, if_pos q.symm, i40, hB.2.2.2 _ (by omega), Int32.one_mul, nI_1, nI_add, q]
        · rw [if_neg (fun z => q z.2), if_neg (fun z => q z.symm), iv_row _ _ _ (by decide), i40, hB.2.2.2 p hp, Nat.add_zero]
    obtain ⟨σ', f1, f2, f3⟩ := ih (c + 1) fu s3 (by omega) (by omega) c3 (r3.rel (by decide) hr) (by rw [e3, iv_row _ _ _ (by decide), iv_row _ _ _ (by decide), e2, iv_row _ _ _ (by decide), e1, iv_row _ _ _ (by decide)]; exact h36) (fun j hj => by rw [r3.2.2 row (by simp; omega)]; exact hR j hj) hB3
    refine ⟨σ', ?_, r3.tr f2, f3⟩
    rw [f_X1_open_48, k_i36 hc, Option.bind_some, h36, if_neg (nI_ge (by omega) (by omega)), k_36_1 hc, Option.bind_some, v_g4 (now9 hc), Option.bind_some, v_a (now9 hc) rfl (by decide) (by decide) (by omega), Option.bind_some, r5, k_sI hc (a := 37) (n := 12) (c := c) (by decide) rfl rfl (by omega) (by decide), Option.bind_some, ← e1, k_36_2 c1, Option.bind_some, k_aI c1 hrow hsh rfl (show c < 12 by omega) (by decide), Option.bind_some, hrow', k_sI c1 (a := 38) (n := 12) (c := c) (by decide) rfl rfl (by omega) (by decide), Option.bind_some, ← e2, k_o36 c2, Option.bind_some, e_tally c2 (by omega) h8 i38 i37, Option.bind_some, ← e3, nI_1]
    exact f1
theorem opn0 {row : Nat} : ∀ d p fu σ, p + d = 8 → d < fu → WFc σ → (∀ j, j < p → iv σ 39 j = 0 ∧ iv σ 40 j = 0) → ∃ σ', f_X1_open_20 N fu 36 9 row (nI p) σ = f_X1_open_48 N N 36 9 row 0 σ' ∧ RS [39, 40] σ σ' ∧ ∀ j, j < 8 → iv σ' 39 j = 0 ∧ iv σ' 40 j = 0 := by
  intro d
  induction d with
  | zero =>
    intro p fu σ h1 h2 hc hz
    obtain ⟨fu, rfl⟩ : ∃ q, fu = q + 1 := ⟨fu - 1, by omega⟩
    refine ⟨σ, ?_, RS.rf _ _, fun j hj => hz j (by omega)⟩
    rw [f_X1_open_20, i8, if_pos (nI_le (by omega) (by omega))]
  | succ d ih =>
    intro p fu σ h1 h2 hc hz
    obtain ⟨fu, rfl⟩ : ∃ q, fu = q + 1 := ⟨fu - 1, by omega⟩
    have c1 : WFc (si σ 39 p 0) := hc
    have c2 : WFc (si (si σ 39 p 0) 40 p 0) := hc
    obtain ⟨σ', f1, f2, f3⟩ := ih (p + 1) fu (si (si σ 39 p 0) 40 p 0) (by omega) (by omega) c2 (fun j hj => by
      constructor
      · rw [iv_row _ _ _ (by decide), iv_si]
        by_cases e : j = p
        · rw [if_pos ⟨rfl, e⟩]
        · rw [if_neg (fun q => e q.2)]; exact (hz j (by omega)).1
      · rw [iv_si]
        by_cases e : j = p
        · rw [if_pos ⟨rfl, e⟩]
        · rw [if_neg (fun q => e q.2), iv_row _ _ _ (by decide)]; exact (hz j (by omega)).2)
    refine ⟨σ', ?_, (((RO.si 39 σ _ _).rs (by decide)).tr ((RO.si 40 _ _ _).rs (by decide))).tr f2, f3⟩
    rw [f_X1_open_20, i8, if_neg (nI_ge (by omega) (by omega)), k_36_3 hc, Option.bind_some, k_sI hc (a := 39) (n := 8) (c := p) (by decide) rfl rfl (by omega) (by decide), Option.bind_some, k_36_4 c1, Option.bind_some, k_sI c1 (a := 40) (n := 8) (c := p) (by decide) rfl rfl (by omega) (by decide), Option.bind_some, nI_1, f1]
theorem e_open {σ : Mm} {m r a : Nat → Nat} {row : Nat} (hN : 20 ≤ N) (h12 : m 0 ≤ 12) (ha : ∀ c, a c = m (7 + 7 * c)) (hr8 : ∀ c, c < m 0 → r c < 8) (hrow : row < 85) (hsh : SH row = (13, 12)) (hro : row < 36 ∨ 41 ≤ row) (hc : WFc σ) (hr : RelV σ 9 m) (hR : ∀ c, c < m 0 → iv σ row c = nI (r c)) : ∃ σ', f_X1_open N 36 9 row σ = some σ' ∧ RS [36, 37, 38, 39, 40] σ σ' ∧ Bal σ' (m 0) r a := by
  obtain ⟨s1, e1⟩ : ∃ s, s = si σ 36 0 (nI (m 0)) := ⟨_, rfl⟩
  have r1 : RS [36, 37, 38, 39, 40] σ s1 := by rw [e1]; exact (RO.si _ _ _ _).rs (by decide)
  have c1 := r1.wc hc
  obtain ⟨s2, f1, f2, f3⟩ := opn0 (N := N) (row := row) 8 0 N s1 (by omega) (by omega) c1 (fun j hj => absurd hj (by omega))
  have r2 : RS [36, 37, 38, 39, 40] σ s2 := r1.tr (f2.mono (by decide))
  obtain ⟨s3, g1, g2, g3⟩ := opn (N := N) (a := a) h12 ha hr8 hrow hsh hro (m 0) 0 N s2 (by omega) (by omega) (r2.wc hc) (r2.rel (by decide) hr) (by rw [f2.2.2 36 (by decide), e1, iv_si, if_pos ⟨rfl, rfl⟩]) (fun j hj => by rw [r2.2.2 row (by simp; omega)]; exact hR j hj) ⟨fun j hj => absurd hj (by omega), fun j hj => absurd hj (by omega), fun p hp => (f3 p hp).1, fun p hp => (f3 p hp).2⟩
  refine ⟨s3, ?_, r2.tr g2, g3⟩
  unfold f_X1_open
  have e12 : (if (if nI 12 < (12 : Int32) then nI 12 else (12 : Int32)) < nI (m 0) then (if nI 12 < (12 : Int32) then nI 12 else (12 : Int32)) else nI (m 0)) = nI (m 0) := by
    rw [if_neg (show ¬ nI 12 < (12 : Int32) by decide), show (12 : Int32) = nI 12 from rfl, if_neg (nI_nlt h12 (by omega))]
  rw [v_i (now9 hc), Option.bind_some, hr.1, k_ln hc hrow hsh, Option.bind_some, e12, k_p36 hc, Option.bind_some, ← e1]
  exact f1.trans g1
theorem cnt_upd {r w : Nat → Nat} {n c q : Nat} (hc : c < n) (p : Nat) : cnt (um r c q) w n p + (if r c = p then w c else 0) = cnt r w n p + (if q = p then w c else 0) := by
  unfold cnt
  have := sg_upd (f := fun j => if r j = p then w j else 0) (g := fun j => if um r c q j = p then w j else 0) (c := c) n 0 (by omega) (by omega) (fun j hj => by
    show (if um r c q j = p then w j else 0) = if r j = p then w j else 0
    rw [um_n r q hj])
  simp only [um_s] at this
  exact this
theorem neg1_mul (x : Int32) : (-1 : Int32) * x = -x := by rw [Int32.neg_mul, Int32.one_mul]
theorem add_m1 {a b : Nat} (h : b ≤ a) : nI a + (-1 : Int32) * nI b = nI (a - b) := by
  rw [neg1_mul, ← Int32.sub_eq_add_neg, pk_sub h]
theorem e_put {σ : Mm} {n c q : Nat} {r a : Nat → Nat} (h12 : n ≤ 12) (hc : WFc σ) (hB : Bal σ n r a) (hr8 : ∀ c, c < n → r c < 8) (hcn : c < n) (hq : q < 8) : ∃ σ', f_X1_put N 36 (nI c) (nI q) σ = some σ' ∧ RS [38, 39, 40] σ σ' ∧ Bal σ' n (um r c q) a := by
  have h8 := hr8 c hcn
  have x1 := cnt_pos (r := r) (w := fun _ => 1) hcn
  have x2 := cnt_pos (r := r) (w := fun c => a c + 1) hcn
  obtain ⟨s1, e1⟩ : ∃ s, s = si (si σ 39 (r c) (iv σ 39 (r c) + (-1))) 40 (r c) (iv σ 40 (r c) + (-1) * (nI (a c) + 1)) := ⟨_, rfl⟩
  obtain ⟨s2, e2⟩ : ∃ s, s = si s1 38 c (nI q) := ⟨_, rfl⟩
  obtain ⟨s3, e3⟩ : ∃ s, s = si (si s2 39 q (iv s2 39 q + 1)) 40 q (iv s2 40 q + 1 * (nI (a c) + 1)) := ⟨_, rfl⟩
  have r1 : RS [38, 39, 40] σ s1 := by rw [e1]; exact ((RO.si _ _ _ _).rs (by decide)).tr ((RO.si _ _ _ _).rs (by decide))
  have r2 : RS [38, 39, 40] σ s2 := by rw [e2]; exact r1.tr ((RO.si _ _ _ _).rs (by decide))
  have r3 : RS [38, 39, 40] σ s3 := by rw [e3]; exact r2.tr (((RO.si _ _ _ _).rs (by decide)).tr ((RO.si _ _ _ _).rs (by decide)))
  have c1 := r1.wc hc
  have c2 := r2.wc hc
  have i38 : iv s2 38 c = nI q := by rw [e2, iv_si, if_pos ⟨rfl, rfl⟩]
  have i37 : iv s2 37 c = nI (a c) := by rw [r2.2.2 37 (by decide)]; exact hB.2.1 c hcn
  have a1 : iv σ 39 (r c) + (-1) = nI (cnt r (fun _ => 1) n (r c) - 1) := by
    rw [hB.2.2.2.1 _ h8]
    have := add_m1 (a := cnt r (fun _ => 1) n (r c)) (b := 1) x1
    rw [show nI 1 = (1 : Int32) from rfl, Int32.mul_one] at this
    exact this
  have a2 : iv σ 40 (r c) + (-1) * (nI (a c) + 1) = nI (cnt r (fun c => a c + 1) n (r c) - (a c + 1)) := by
    rw [hB.2.2.2.2 _ h8, nI_1]
    exact add_m1 x2
  have i39 : ∀ p, p < 8 → iv s2 39 p = nI (cnt r (fun _ => 1) n p - if r c = p then 1 else 0) := fun p hp => by
    rw [e2, iv_row _ _ _ (by decide), e1, iv_row _ _ _ (by decide), iv_si]
    by_cases z : p = r c
    · rw [if_pos ⟨rfl, z⟩, a1, if_pos z.symm, z]
    · rw [if_neg (fun q => z q.2), if_neg (fun q => z q.symm), hB.2.2.2.1 p hp, Nat.sub_zero]
  have i40 : ∀ p, p < 8 → iv s2 40 p = nI (cnt r (fun c => a c + 1) n p - if r c = p then a c + 1 else 0) := fun p hp => by
    rw [e2, iv_row _ _ _ (by decide), e1, iv_si]
    by_cases z : p = r c
    · rw [if_pos ⟨rfl, z⟩, a2, if_pos z.symm, z]
    · rw [if_neg (fun q => z q.2), if_neg (fun q => z q.symm), iv_row _ _ _ (by decide), hB.2.2.2.2 p hp, Nat.sub_zero]
  refine ⟨s3, ?_, r3, ?_, ?_, ?_, ?_, ?_⟩
  · unfold f_X1_put f_X1_put_36
    rw [e_isBelow, Option.bind_some, bi_y ⟨nI_pos' (by omega), by rw [show (12 : Int32) = nI 12 from rfl]; exact nI_lt (by omega) (by decide)⟩, if_neg z1, k_i36 hc, Option.bind_some, hB.1, if_neg (nI_ge hcn (by omega)), k_o36 hc, Option.bind_some, e_tally hc (by omega) h8 (hB.2.2.1 c hcn) (hB.2.1 c hcn), Option.bind_some, ← e1, k_36_2 c1, Option.bind_some, k_sI c1 (a := 38) (n := 12) (c := c) (by decide) rfl rfl (by omega) (by decide), Option.bind_some, ← e2, k_o36 c2, Option.bind_some, e_tally c2 (by omega) hq i38 i37, Option.bind_some, ← e3]
  · rw [r3.2.2 36 (by decide)]; exact hB.1
  · intro j hj
    rw [r3.2.2 37 (by decide)]; exact hB.2.1 j hj
  · intro j hj
    rw [e3, iv_row _ _ _ (by decide), iv_row _ _ _ (by decide), e2, iv_si]
    by_cases z : j = c
    · rw [if_pos ⟨rfl, z⟩, z, um_s]
    · rw [if_neg (fun q => z q.2), um_n r q z, e1, iv_row _ _ _ (by decide), iv_row _ _ _ (by decide)]
      exact hB.2.2.1 j hj
  · intro p hp
    have := cnt_upd (r := r) (w := fun _ => 1) (q := q) hcn p
    rw [e3, iv_row _ _ _ (by decide), iv_si]
    by_cases z : p = q
    · rw [if_pos ⟨rfl, z⟩, i39 q hq, nI_1]
      rw [z, if_pos rfl] at this
      rw [z]
      congr 1
      by_cases z2 : r c = q
      · rw [if_pos z2] at this ⊢
        rw [z2] at x1
        omega
      · rw [if_neg z2] at this ⊢
        omega
    · rw [if_neg (fun q => z q.2), i39 p hp]
      rw [if_neg (show ¬ q = p from fun e => z e.symm)] at this
      congr 1
      omega
  · intro p hp
    have := cnt_upd (r := r) (w := fun c => a c + 1) (q := q) hcn p
    rw [e3, iv_si]
    by_cases z : p = q
    · rw [if_pos ⟨rfl, z⟩, i40 q hq, Int32.one_mul, nI_1, nI_add]
      rw [z, if_pos rfl] at this
      rw [z]
      congr 1
      by_cases z2 : r c = q
      · rw [if_pos z2] at this ⊢
        rw [z2] at x2
        omega
      · rw [if_neg z2] at this ⊢
        omega
    · rw [if_neg (fun q => z q.2), iv_row _ _ _ (by decide), i40 p hp]
      rw [if_neg (show ¬ q = p from fun e => z e.symm)] at this
      congr 1
      omega
end VC
