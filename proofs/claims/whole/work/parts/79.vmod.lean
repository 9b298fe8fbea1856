/-! the model's VOTE -/
section VM
variable {N : Nat}
theorem i8 : (8 : Int32) = nI 8 := rfl
theorem rd77 {τ : Mm} {k : Nat → Nat} (hm : WFm τ) (hk : ∀ p, p < 8 → iv τ 77 p = nI (k p)) {p : Nat} (hp : p < 8) : aI 113 τ 77 (nI p) = some (nI (k p)) := by
  rw [m_aI hm (a := 77) (n := 8) (c := p) (by decide) rfl rfl hp (by decide), hk p hp]
theorem gr_m {τ : Mm} {k : Nat → Nat} (hm : WFm τ) (hk : ∀ p, p < 8 → iv τ 77 p = nI (k p)) (hb : ∀ p, k p < 2 ^ 20) : ∀ d p fu, p + d = 8 → d < fu → f_X11_greatest_4 N fu 63 (nI (gr k p)) (nI p) τ = some (nI (gr k 8), τ) := by
  intro d
  induction d with
  | zero =>
    intro p fu h1 h2
    obtain ⟨fu, rfl⟩ : ∃ q, fu = q + 1 := ⟨fu - 1, by omega⟩
    rw [f_X11_greatest_4, i8, if_pos (nI_le (by omega) (by omega)), show p = 8 by omega]
  | succ d ih =>
    intro p fu h1 h2
    obtain ⟨fu, rfl⟩ : ∃ q, fu = q + 1 := ⟨fu - 1, by omega⟩
    have g1 : gr k p < 2 ^ 20 := Nat.lt_of_le_of_lt (gr_le p (B := 2 ^ 20 - 1) (fun j _ => by have := hb j; omega)) (by decide)
    have g2 := hb p
    rw [f_X11_greatest_4, i8, if_neg (nI_ge (by omega) (by omega)), m_g26 hm, Option.bind_some, rd77 hm hk (by omega), Option.bind_some, Option.bind_some, rd77 hm hk (by omega), Option.bind_some]
    unfold f_X11_greatest_30
    rw [nI_1, ← ih (p + 1) fu (by omega) (by omega)]
    have e : gr k (p + 1) = if k p ≤ gr k p then gr k p else k p := rfl
    rw [e]
    by_cases q : k p ≤ gr k p
    · rw [if_pos (nI_le q (by omega)), if_pos q]
    · rw [if_neg (nI_ge (by omega) (by omega)), if_neg q]
theorem e_gr {τ : Mm} {k : Nat → Nat} (hN : 20 ≤ N) (hm : WFm τ) (hk : ∀ p, p < 8 → iv τ 77 p = nI (k p)) (hb : ∀ p, k p < 2 ^ 20) : f_X11_greatest N 63 τ = some (nI (gr k 8), τ) := gr_m hm hk hb 8 0 N (by omega) (by omega)
def oI (o : Option Nat) : Int32 := match o with
  | none => -1
  | some o => nI o
theorem most_m {τ : Mm} {m r k a : Nat → Nat} {M : Nat} (hm : WFm τ) (hs : ∀ i, i < 156 → iv τ 75 i = nI (m i)) (h12 : m 0 ≤ 12) (hk : ∀ p, p < 8 → iv τ 77 p = nI (k p)) (hb : ∀ p, k p < 2 ^ 20) (hM : M < 2 ^ 20) (hr : Rw τ (m 0) r) (hr8 : ∀ c, c < m 0 → r c < 8) (ha : ∀ c, a c = m (7 + 7 * c)) (ha9 : ∀ c, c < 12 → a c ≤ 99) (hex : ∃ o, old r k a M (m 0) = some o) : ∀ d c fu, c + d = m 0 → d < fu → f_X11_byMost_15 N fu 63 (nI M) (oI (old r k a M c)) (nI c) τ = some (nI (match old r k a M (m 0) with
    | some o => r o
    | none => 0), τ) := by
  intro d
  induction d with
  | zero =>
    intro c fu h1 h2
    obtain ⟨fu, rfl⟩ : ∃ q, fu = q + 1 := ⟨fu - 1, by omega⟩
    obtain ⟨o, ho⟩ := hex
    have ho2 := old_in r k a M _ o ho
    rw [f_X11_byMost_15, m_g24 hm, Option.bind_some, m_aI hm (a := 75) (n := 156) (i := 0) (c := 0) (by decide) rfl rfl (by decide) (by decide), Option.bind_some, hs 0 (by decide), if_pos (nI_le (by omega) (by omega)), m_g25 hm, Option.bind_some, show c = m 0 by omega, ho]
    unfold oI
    rw [m_aI hm (a := 76) (n := 12) (c := o) (by decide) rfl rfl (by omega) (by decide), Option.bind_some, hr o ho2.1]
  | succ d ih =>
    intro c fu h1 h2
    obtain ⟨fu, rfl⟩ : ∃ q, fu = q + 1 := ⟨fu - 1, by omega⟩
    have h8 := hr8 c (by omega)
    rw [f_X11_byMost_15, m_g24 hm, Option.bind_some, m_aI hm (a := 75) (n := 156) (i := 0) (c := 0) (by decide) rfl rfl (by decide) (by decide), Option.bind_some, hs 0 (by decide), if_neg (nI_ge (by omega) (by omega)), m_g26 hm, Option.bind_some, m_g25 hm, Option.bind_some, m_aI hm (a := 76) (n := 12) (c := c) (by decide) rfl rfl (by omega) (by decide), Option.bind_some, hr c (by omega), rd77 hm hk h8, Option.bind_some]
    unfold f_X11_byMost_65 f_X11_byMost_62 f_X11_byMost_65
    rw [nI_1, ← ih (c + 1) fu (by omega) (by omega)]
    have hb' := hb (r c)
    have e : old r k a M (c + 1) = if k (r c) = M then (match old r k a M c with
      | none => some c
      | some o => if a c ≤ a o then some o else some c) else old r k a M c := rfl
    rw [e]
    by_cases q : k (r c) = M
    · rw [if_pos (by rw [q]), if_pos q]
      cases eo : old r k a M c with
      | none =>
        rw [show oI none = -1 from rfl, if_pos (by decide)]
        rfl
      | some o =>
        have ho2 := old_in r k a M _ o eo
        have hac := ha9 c (by omega)
        rw [show oI (some o) = nI o from rfl, if_neg (nI_pos (by omega)), m_ob hm, Option.bind_some, e_c3 hm (by omega), Option.bind_some, m_ob hm, Option.bind_some, e_c3 hm (by omega), Option.bind_some, hs _ (by omega), hs _ (by omega), show 4 + 7 * c + 3 = 7 + 7 * c by omega, show 4 + 7 * o + 3 = 7 + 7 * o by omega, ← ha, ← ha]
        have hao := ha9 o (by omega)
        by_cases z : a c ≤ a o
        · simp only [if_pos z]
          rw [if_pos (nI_le z (by omega))]
          rfl
        · simp only [if_neg z]
          rw [if_neg (nI_ge (by omega) (by omega))]
          rfl
    · rw [if_neg (by rw [nI_eq (by omega) (by omega)]; exact q), if_neg q]
theorem mid_m {τ : Mm} {k : Nat → Nat} {pl : Nat} (hm : WFm τ) (hk : ∀ p, p < 8 → iv τ 77 p = nI (k p)) (hp : pl < sg k 0 8) (hB : sg k 0 8 < 2 ^ 20) : ∀ d p fu, p + d = 8 → 0 < d → d ≤ fu → f_X11_byMiddle_40 N fu 63 (nI pl) (nI p) (nI (sg k 0 (p + 1))) τ = some (nI (mid k pl d p), τ) ∧ mid k pl d p < 8 := by
  have hle : ∀ p, p ≤ 8 → sg k 0 p ≤ sg k 0 8 := fun p hp => by
    have := sg_add k p (8 - p) 0
    rw [show p + (8 - p) = 8 by omega] at this
    omega
  intro d
  induction d with
  | zero => intro p fu h1 h2; omega
  | succ d ih =>
    intro p fu h1 h2 h3
    obtain ⟨fu, rfl⟩ : ∃ q, fu = q + 1 := ⟨fu - 1, by omega⟩
    have := hle (p + 1) (by omega)
    rw [f_X11_byMiddle_40]
    unfold mid
    by_cases q : pl < sg k 0 (p + 1)
    · rw [if_pos (nI_lt q (by omega)), if_pos q]
      exact ⟨rfl, by omega⟩
    · rw [if_neg (nI_nlt (by omega) (by omega)), if_neg q]
      have hp7 : p + 1 < 8 := by
        rcases Nat.lt_or_ge (p + 1) 8 with z | z
        · exact z
        · rw [show p + 1 = 8 by omega] at q; omega
      rw [m_g26 hm, Option.bind_some, nI_1, rd77 hm hk hp7, Option.bind_some, nI_add]
      have e : sg k 0 (p + 1 + 1) = sg k 0 (p + 1) + k (p + 1) := by rw [sg_succ, Nat.zero_add]
      rw [← e]
      exact ih (p + 1) fu (by omega) (by omega) (by omega)
theorem wst_m {τ : Mm} {k : Nat → Nat} (hm : WFm τ) (hk : ∀ p, p < 8 → iv τ 77 p = nI (k p)) (hb : ∀ p, k p < 2 ^ 20) : ∀ d p fu, p + d = 8 → d < fu → f_X11_worst_4 N fu 63 (oI (wst k p)) (nI p) τ = some (oI (wst k 8), τ) := by
  intro d
  induction d with
  | zero =>
    intro p fu h1 h2
    obtain ⟨fu, rfl⟩ : ∃ q, fu = q + 1 := ⟨fu - 1, by omega⟩
    rw [f_X11_worst_4, i8, if_pos (nI_le (by omega) (by omega)), show p = 8 by omega]
  | succ d ih =>
    intro p fu h1 h2
    obtain ⟨fu, rfl⟩ : ∃ q, fu = q + 1 := ⟨fu - 1, by omega⟩
    have g2 := hb p
    rw [f_X11_worst_4, i8, if_neg (nI_ge (by omega) (by omega)), m_g26 hm, Option.bind_some, rd77 hm hk (by omega), Option.bind_some, Option.bind_some, rd77 hm hk (by omega), Option.bind_some, Option.bind_some]
    unfold f_X11_worst_38 f_X11_worst_40
    rw [nI_1, ← ih (p + 1) fu (by omega) (by omega)]
    have e : wst k (p + 1) = if 0 < k p then (match wst k p with
      | none => some p
      | some q => if k q < k p then some q else some p) else wst k p := rfl
    rw [e]
    by_cases q : 0 < k p
    · rw [if_neg (nI_nle q (by omega)), if_pos q]
      cases eo : wst k p with
      | none =>
        rw [show oI none = -1 from rfl, if_pos (by decide)]
        rfl
      | some o =>
        have ho2 := wst_in k _ o eo
        have hbo := hb o
        rw [show oI (some o) = nI o from rfl, if_neg (nI_pos (by omega)), rd77 hm hk (show o < 8 by omega), Option.bind_some]
        by_cases z : k o < k p
        · simp only [if_pos z]
          rw [if_pos (nI_lt z (by omega))]
          rfl
        · simp only [if_neg z]
          rw [if_neg (nI_nlt (by omega) (by omega))]
          rfl
    · rw [if_pos (show nI (k p) ≤ 0 by rw [show k p = 0 by omega]; decide), if_neg q]
theorem rt8 : ∀ p, p < 8 → ∀ d, d < 5 → (nI p + nI d) &&& 7 = nI ((p + d) % 8) ∧ (nI p - nI d) &&& 7 = nI ((p + 8 - d) % 8) := by decide
theorem nrs_m {τ : Mm} {k : Nat → Nat} {p : Nat} (hm : WFm τ) (hk : ∀ p, p < 8 → iv τ 77 p = nI (k p)) (hb : ∀ p, k p < 2 ^ 20) (hp : p < 8) : ∀ f d fu, d + f = 5 → f < fu → f_X11_nearest_2 N fu 63 (nI p) (nI d) τ = some (nI (nrs k p f d), τ) := by
  intro f
  induction f with
  | zero =>
    intro d fu h1 h2
    obtain ⟨fu, rfl⟩ : ∃ q, fu = q + 1 := ⟨fu - 1, by omega⟩
    rw [f_X11_nearest_2, show (5 : Int32) = nI 5 from rfl, if_pos (nI_le (by omega) (by omega))]
    rfl
  | succ f ih =>
    intro d fu h1 h2
    obtain ⟨fu, rfl⟩ : ∃ q, fu = q + 1 := ⟨fu - 1, by omega⟩
    obtain ⟨r1, r2⟩ := rt8 p hp d (by omega)
    have b1 := hb ((p + d) % 8)
    have b2 := hb ((p + 8 - d) % 8)
    rw [f_X11_nearest_2, show (5 : Int32) = nI 5 from rfl, if_neg (nI_ge (by omega) (by omega)), m_g26 hm, Option.bind_some, r1, rd77 hm hk (by omega), Option.bind_some, Option.bind_some, r2, rd77 hm hk (by omega), Option.bind_some, nI_1, ih (d + 1) fu (by omega) (by omega)]
    have e : nrs k p (f + 1) d = if 0 < k ((p + d) % 8) then (p + d) % 8 else if 0 < k ((p + 8 - d) % 8) then (p + 8 - d) % 8 else nrs k p f (d + 1) := rfl
    rw [e]
    by_cases q1 : 0 < k ((p + d) % 8)
    · rw [if_neg (nI_nle q1 (by omega)), if_pos q1]
    · rw [if_pos (show nI (k ((p + d) % 8)) ≤ 0 by rw [show k ((p + d) % 8) = 0 by omega]; decide), if_neg q1]
      by_cases q2 : 0 < k ((p + 8 - d) % 8)
      · rw [if_neg (nI_nle q2 (by omega)), if_pos q2]
      · rw [if_pos (show nI (k ((p + 8 - d) % 8)) ≤ 0 by rw [show k ((p + 8 - d) % 8) = 0 by omega]; decide), if_neg q2]
theorem pss_m {τ : Mm} {k : Nat → Nat} (hm : WFm τ) (hk : ∀ p, p < 8 → iv τ 77 p = nI (k p)) (hb : ∀ p, k p < 2 ^ 20) : ∀ d p a fu, p + d = 8 → d < fu → f_X11_pointsSaid_4 N fu 63 (nI a) (nI p) τ = some (nI (a + sg (fun p => if 0 < k p then 1 else 0) p d), τ) := by
  intro d
  induction d with
  | zero =>
    intro p a fu h1 h2
    obtain ⟨fu, rfl⟩ : ∃ q, fu = q + 1 := ⟨fu - 1, by omega⟩
    rw [f_X11_pointsSaid_4, i8, if_pos (nI_le (by omega) (by omega))]
    rfl
  | succ d ih =>
    intro p a fu h1 h2
    obtain ⟨fu, rfl⟩ : ∃ q, fu = q + 1 := ⟨fu - 1, by omega⟩
    have b1 := hb p
    rw [f_X11_pointsSaid_4, i8, if_neg (nI_ge (by omega) (by omega)), m_g26 hm, Option.bind_some, rd77 hm hk (by omega), Option.bind_some]
    unfold f_X11_pointsSaid_25
    rw [nI_1, nI_1, show sg (fun p => if 0 < k p then 1 else 0) p (d + 1) = (if 0 < k p then 1 else 0) + sg (fun p => if 0 < k p then 1 else 0) (p + 1) d from rfl]
    by_cases q : 0 < k p
    · rw [if_neg (nI_nle q (by omega)), if_pos q, ih (p + 1) (a + 1) fu (by omega) (by omega), Nat.add_assoc]
    · rw [if_pos (show nI (k p) ≤ 0 by rw [show k p = 0 by omega]; decide), if_neg q, show (0 : Int32) = nI 0 from rfl, nI_add, ih (p + 1) (a + 0) fu (by omega) (by omega), Nat.add_assoc]
theorem fst_m {τ : Mm} {k : Nat → Nat} (hN : 20 ≤ N) (hm : WFm τ) (hk : ∀ p, p < 8 → iv τ 77 p = nI (k p)) (hb : ∀ p, k p < 2 ^ 20) : ∀ d p fu, p + d = 8 → d < fu → (∃ j, p ≤ j ∧ j < 8 ∧ k j = gr k 8) → f_X11_byStriking_66 N fu 63 (nI p) τ = some (nI (fstG k (gr k 8) d p), τ) ∧ fstG k (gr k 8) d p < 8 := by
  intro d
  induction d with
  | zero => intro p fu h1 h2 ⟨j, a, b, c⟩; omega
  | succ d ih =>
    intro p fu h1 h2 hj
    obtain ⟨fu, rfl⟩ : ∃ q, fu = q + 1 := ⟨fu - 1, by omega⟩
    have b1 := hb p
    have g1 : gr k 8 < 2 ^ 20 := Nat.lt_of_le_of_lt (gr_le 8 (B := 2 ^ 20 - 1) (fun j _ => by have := hb j; omega)) (by decide)
    rw [f_X11_byStriking_66, m_g26 hm, Option.bind_some, rd77 hm hk (by omega), Option.bind_some, m_ob hm, Option.bind_some, e_gr hN hm hk hb, Option.bind_some]
    unfold fstG
    by_cases q : k p = gr k 8
    · rw [if_pos (by rw [q]), if_pos q]
      exact ⟨rfl, by omega⟩
    · rw [if_neg (by rw [nI_eq (by omega) (by omega)]; exact q), if_neg q, nI_1]
      obtain ⟨j, j1, j2, j3⟩ := hj
      have : j ≠ p := fun e => q (e ▸ j3)
      exact ih (p + 1) fu (by omega) (by omega) ⟨j, by omega, j2, j3⟩
theorem stk_m {m : Nat → Nat} {n : Nat} (hN : 20 ≤ N) (hn : 0 < n) (hn0 : m 0 = n) (hn12 : n ≤ 12) : ∀ s k fu τ, WFm τ → (∀ i, i < 156 → iv τ 75 i = nI (m i)) → (∀ p, p < 8 → iv τ 77 p = nI (k p)) → (∀ p, k p < 2 ^ 20) → sg k 0 8 = n → ps k ≤ s → 1 ≤ s → s < fu → ∃ τ', f_X11_byStriking_5 N fu 63 τ = some (nI (vs n s k), τ') ∧ RO 77 τ τ' ∧ vs n s k < 8 := by
  intro s
  induction s with
  | zero => intro k fu τ _ _ _ _ _ _ h; omega
  | succ s ih =>
    intro k fu τ hm hs hk hb hsum hps h1 hf
    obtain ⟨fu, rfl⟩ : ∃ q, fu = q + 1 := ⟨fu - 1, by omega⟩
    have g1 : gr k 8 < 2 ^ 20 := Nat.lt_of_le_of_lt (gr_le 8 (B := 2 ^ 20 - 1) (fun j _ => by have := hb j; omega)) (by decide)
    have hpss : f_X11_pointsSaid N 63 τ = some (nI (ps k), τ) := by
      have := pss_m (N := N) hm hk hb 8 0 0 N (by omega) (by omega)
      rw [Nat.zero_add] at this
      exact this
    have hps8 : ps k ≤ 8 := by
      have := sg_bd (f := fun p => if 0 < k p then 1 else 0) (B := 1) 8 0 (fun j _ _ => by
        show (if 0 < k j then 1 else 0) ≤ 1
        by_cases e : 0 < k j
        · rw [if_pos e]; omega
        · rw [if_neg e]; omega)
      unfold ps
      omega
    rw [f_X11_byStriking_5, m_ob hm, Option.bind_some, hpss, Option.bind_some]
    unfold f_X11_byStriking_64
    by_cases hg : n < 2 * gr k 8
    · obtain ⟨j, j1, j2⟩ := gr_at k 8 (by omega)
      obtain ⟨f1, f2⟩ := fst_m (N := N) hN hm hk hb 8 0 N (by omega) (by omega) ⟨j, by omega, j1, j2⟩
      have e : vs n (s + 1) k = fstG k (gr k 8) 8 0 := by unfold vs; rw [if_pos hg]
      refine ⟨τ, ?_, RO.rf _ _, by rw [e]; exact f2⟩
      rw [e]
      by_cases q : nI (ps k) ≤ 1
      · rw [if_pos q]; exact f1
      · rw [if_neg q, m_ob hm, Option.bind_some, e_gr hN hm hk hb, Option.bind_some, m_g24 hm, Option.bind_some, m_aI hm (a := 75) (n := 156) (i := 0) (c := 0) (by decide) rfl rfl (by decide) (by decide), Option.bind_some, hs 0 (by decide), hn0, show (2 : Int32) = nI 2 from rfl, pk_mul, if_pos (nI_lt hg (by omega))]
        exact f1
    · have q : ¬ nI (ps k) ≤ 1 := by
        intro z
        rw [show (1 : Int32) = nI 1 from rfl, nI_leI (by omega) (by decide)] at z
        exact hg (one_said hsum hn z)
      obtain ⟨j0, _, i1, i2⟩ := sg_pos k 8 0 (by omega)
      obtain ⟨o, ho⟩ := wst_ex k 8 j0 (by omega) i2
      obtain ⟨o1, o2⟩ := wst_in k 8 o ho
      obtain ⟨j, j1, j2, j3⟩ := two_said hsum hn hg o1
      obtain ⟨t1, t2, t3⟩ := nrs_ok o1 j1 j2 j3
      have hst : strike k = strk k o (nrs k o 4 1) := by unfold strike; rw [ho]; rfl
      have e : vs n (s + 1) k = vs n s (strike k) := by conv => lhs; unfold vs; rw [if_neg hg]
      have bt := hb (nrs k o 4 1)
      have bo := hb o
      have hle : k (nrs k o 4 1) + k o ≤ n := by
        rw [← hsum, ← strk_sum o1 t1 t2]
        have := sg_ge (strk k o (nrs k o 4 1)) 8 0 (nrs k o 4 1) (by omega) (by omega)
        unfold strk at this
        rw [if_neg t2, if_pos rfl] at this
        exact this
      obtain ⟨τ1, e1⟩ : ∃ x, x = si τ 77 (nrs k o 4 1) (nI (k (nrs k o 4 1) + k o)) := ⟨_, rfl⟩
      obtain ⟨τ2, e2⟩ : ∃ x, x = si τ1 77 o 0 := ⟨_, rfl⟩
      have r1 : RO 77 τ τ1 := by rw [e1]; exact RO.si _ _ _ _
      have r2 : RO 77 τ τ2 := by rw [e2]; exact r1.tr (RO.si _ _ _ _)
      have m1 := r1.wm hm
      have hps2 := strk_ps (k := k) o1 t1 t2 o2 t3
      have hk2 : ∀ p, p < 8 → iv τ2 77 p = nI (strike k p) := by
        intro p hp
        rw [hst]
        unfold strk
        rw [e2, iv_si]
        by_cases z : p = o
        · rw [if_pos ⟨rfl, z⟩, if_pos z]; rfl
        · rw [if_neg (fun q => z q.2), if_neg z, e1, iv_si]
          by_cases z2 : p = nrs k o 4 1
          · rw [if_pos ⟨rfl, z2⟩, if_pos z2]
          · rw [if_neg (fun q => z2 q.2), if_neg z2, hk p hp]
      obtain ⟨τ', f1, f2, f3⟩ := ih (strike k) fu τ2 (r2.wm hm) (fun i hi => by rw [r2.2.2 75 (by decide)]; exact hs i hi) hk2 (fun p => by
        rw [hst]
        unfold strk
        by_cases z : p = o
        · rw [if_pos z]; omega
        · rw [if_neg z]
          by_cases z2 : p = nrs k o 4 1
          · rw [if_pos z2]; omega
          · rw [if_neg z2]; exact hb p) (by rw [hst, strk_sum o1 t1 t2]; exact hsum) (by rw [hst]; omega) (by
        rw [show (1 : Int32) = nI 1 from rfl, nI_leI (by omega) (by decide)] at q
        omega) (by omega)
      have hw1 : f_X11_worst N 63 τ = some (nI o, τ) := by
        have := wst_m (N := N) hm hk hb 8 0 N (by omega) (by omega)
        rw [ho] at this
        exact this
      have hn1 : f_X11_nearest N 63 (nI o) τ = some (nI (nrs k o 4 1), τ) := nrs_m hm hk hb o1 4 1 N (by omega) (by omega)
      refine ⟨τ', ?_, r2.tr f2, by rw [e]; exact f3⟩
      rw [e, if_neg q, m_ob hm, Option.bind_some, e_gr hN hm hk hb, Option.bind_some, m_g24 hm, Option.bind_some, m_aI hm (a := 75) (n := 156) (i := 0) (c := 0) (by decide) rfl rfl (by decide) (by decide), Option.bind_some, hs 0 (by decide), hn0, show (2 : Int32) = nI 2 from rfl, pk_mul, if_neg (nI_nlt (by omega) (by omega)), m_ob hm, Option.bind_some, hw1, Option.bind_some, m_ob hm, Option.bind_some, hn1, Option.bind_some, m_g26 hm, Option.bind_some, rd77 hm hk t1, Option.bind_some, Option.bind_some, rd77 hm hk o1, Option.bind_some, nI_add, m_sI hm (a := 77) (n := 8) (c := nrs k o 4 1) (by decide) rfl rfl t1 (by decide), Option.bind_some, ← e1, m_g26 m1, Option.bind_some, m_sI m1 (a := 77) (n := 8) (c := o) (by decide) rfl rfl o1 (by decide), Option.bind_some, ← e2]
      exact f1
/-- what most say is said by one -/
theorem most_ex {r w a : Nat → Nat} {n : Nat} (hn : 0 < n) (hr8 : ∀ c, c < n → r c < 8) (hw1 : ∀ c, c < n → 1 ≤ w c) : ∃ o, old r (cnt r w n) a (gr (cnt r w n) 8) n = some o ∧ o < n := by
  have h0 : 0 < gr (cnt r w n) 8 := by
    have a1 := gr_ge (cnt r w n) 8 (r 0) (hr8 0 hn)
    have a2 := cnt_pos (r := r) (w := w) hn
    have a3 := hw1 0 hn
    omega
  obtain ⟨j, j1, j2⟩ := gr_at _ 8 h0
  obtain ⟨c, c1, c2⟩ := cnt_ex (r := r) (w := w) (n := n) (p := j) (by omega)
  obtain ⟨o, ho⟩ := old_ex r (cnt r w n) a (gr (cnt r w n) 8) n c c1 (by rw [c2]; exact j2)
  exact ⟨o, ho, (old_in _ _ _ _ _ _ ho).1⟩
theorem bm_m {τ : Mm} {m r w a : Nat → Nat} {b : Int32} (hN : 20 ≤ N) (hws : WS m) (h0 : 0 < m 0) (hm : WFm τ) (hs : ∀ i, i < 156 → iv τ 75 i = nI (m i)) (hr : Rw τ (m 0) r) (hr8 : ∀ c, c < m 0 → r c < 8) (ha : ∀ c, a c = m (7 + 7 * c)) (hw : ∀ c, c < m 0 → (b = 0 ∧ w c = 1) ∨ (¬ b = 0 ∧ w c = m (7 + 7 * c) + 1)) (hwb : ∀ p, cnt r w (m 0) p < 2 ^ 20) : ∃ τ', f_X11_byMost N 63 b τ = some (nI (vMost r (cnt r w (m 0)) a (m 0)), τ') ∧ RO 77 τ τ' ∧ vMost r (cnt r w (m 0)) a (m 0) < 8 := by
  have h12 := hws.1
  obtain ⟨τ1, f1, f2, f3⟩ := e_counts (N := N) (b := b) hN h12 hr8 hw hm hs hr
  have m1 := f2.wm hm
  have hs1 : ∀ i, i < 156 → iv τ1 75 i = nI (m i) := fun i hi => by rw [f2.2.2 75 (by decide)]; exact hs i hi
  have hr1 : Rw τ1 (m 0) r := fun c hc => by rw [f2.2.2 76 (by decide)]; exact hr c hc
  obtain ⟨o, o1, o2⟩ := most_ex (r := r) (w := w) (a := a) h0 hr8 (fun c hc => by rcases hw c hc with ⟨_, e⟩ | ⟨_, e⟩ <;> omega)
  have g1 : gr (cnt r w (m 0)) 8 < 2 ^ 20 := Nat.lt_of_le_of_lt (gr_le 8 (B := 2 ^ 20 - 1) (fun j _ => by have := hwb j; omega)) (by decide)
  have key := most_m (N := N) (a := a) m1 hs1 h12 f3 hwb g1 hr1 hr8 ha (fun c hc => by rw [ha]; have := hws.2.2.2.2.1 c hc; omega) ⟨o, o1⟩ (m 0) 0 N (by omega) (by omega)
  refine ⟨τ1, ?_, f2, ?_⟩
  · unfold f_X11_byMost
    rw [m_ob hm, Option.bind_some, f1, Option.bind_some, m_ob m1, Option.bind_some, e_gr hN m1 f3 hwb, Option.bind_some]
    exact key
  · unfold vMost
    rw [o1]
    exact hr8 o o2
theorem e_votes {τ : Mm} {m r a : Nat → Nat} {way : Nat} (hN : 20 ≤ N) (hws : WS m) (h0 : 0 < m 0) (hm : WFm τ) (hs : ∀ i, i < 156 → iv τ 75 i = nI (m i)) (hr : Rw τ (m 0) r) (hr8 : ∀ c, c < m 0 → r c < 8) (ha : ∀ c, a c = m (7 + 7 * c)) (hway : way < 4) : ∃ τ', f_X11_votes N 63 (nI way) τ = some (nI (voteV way (m 0) r a), τ') ∧ RO 77 τ τ' ∧ voteV way (m 0) r a < 8 := by
  have h12 := hws.1
  have b1 : ∀ p, cnt r (fun _ => 1) (m 0) p < 2 ^ 20 := fun p => by have := cnt_bd1 r (m 0) p; omega
  have b2 : ∀ p, cnt r (fun c => a c + 1) (m 0) p < 2 ^ 20 := fun p => by
    have := cnt_bd (r := r) (w := fun c => a c + 1) (n := m 0) p (fun c hc => by
      show a c + 1 ≤ 100
      rw [ha]
      have := hws.2.2.2.2.1 c (by omega)
      omega)
    omega
  unfold f_X11_votes f_X11_votes_41 voteV
  by_cases w0 : way = 0
  · subst w0
    obtain ⟨τ', f1, f2, f3⟩ := bm_m (N := N) (b := 0) (w := fun _ => 1) hN hws h0 hm hs hr hr8 ha (fun _ _ => Or.inl ⟨rfl, rfl⟩) b1
    refine ⟨τ', ?_, f2, by rw [if_pos rfl]; exact f3⟩
    rw [if_pos (show nI 0 = (0 : Int32) from rfl), m_ob hm, Option.bind_some, f1, Option.bind_some, if_pos rfl]
  · rw [if_neg (show ¬ nI way = (0 : Int32) from nIk (by omega) (by decide) w0), if_neg w0]
    by_cases w1 : way = 1
    · subst w1
      obtain ⟨τ', f1, f2, f3⟩ := bm_m (N := N) (b := 1) (w := fun c => a c + 1) hN hws h0 hm hs hr hr8 ha (fun c _ => Or.inr ⟨z1, by rw [ha]⟩) b2
      refine ⟨τ', ?_, f2, by rw [if_pos rfl]; exact f3⟩
      rw [if_pos (show nI 1 = (1 : Int32) from rfl), m_ob hm, Option.bind_some, f1, Option.bind_some, if_pos rfl]
    · rw [if_neg (show ¬ nI way = (1 : Int32) from nIk (by omega) (by decide) w1), if_neg w1]
      obtain ⟨τ1, f1, f2, f3⟩ := e_counts (N := N) (b := 0) (w := fun _ => 1) hN h12 hr8 (fun _ _ => Or.inl ⟨rfl, rfl⟩) hm hs hr
      have m1 := f2.wm hm
      have hs1 : ∀ i, i < 156 → iv τ1 75 i = nI (m i) := fun i hi => by rw [f2.2.2 75 (by decide)]; exact hs i hi
      have hsum := cnt_sum (m 0) hr8
      by_cases w2 : way = 2
      · subst w2
        obtain ⟨g1, g2⟩ := mid_m (N := N) (pl := (m 0 - 1) / 2) m1 f3 (by omega) (by omega) 8 0 N (by omega) (by omega) (by omega)
        refine ⟨τ1, ?_, f2, by rw [if_pos rfl]; exact g2⟩
        have r0 : aI 113 τ1 77 (0 : Int32) = some (nI (cnt r (fun _ => 1) (m 0) 0)) := rd77 m1 f3 (show 0 < 8 by decide)
        rw [if_pos (show nI 2 = (2 : Int32) from rfl), m_ob hm, Option.bind_some, if_pos rfl]
        unfold f_X11_byMiddle f_X11_byMiddle_29
        have e1 : sg (cnt r (fun _ => 1) (m 0)) 0 (0 + 1) = cnt r (fun _ => 1) (m 0) 0 := by show cnt r (fun _ => 1) (m 0) 0 + 0 = _; omega
        rw [e1] at g1
        rw [m_ob hm, Option.bind_some, f1, Option.bind_some, m_g24 m1, Option.bind_some, m_aI m1 (a := 75) (n := 156) (i := 0) (c := 0) (by decide) rfl rfl (by decide) (by decide), Option.bind_some, hs1 0 (by decide), if_neg (by decide), Option.bind_some, m_aI m1 (a := 75) (n := 156) (i := 0) (c := 0) (by decide) rfl rfl (by decide) (by decide), Option.bind_some, hs1 0 (by decide), if_neg (by decide), show (2 : Int32) = nI 2 from rfl, pk_rem (by omega) (by decide) (by decide), pk_div (by omega) (by decide) (by decide), m_g26 m1, Option.bind_some, r0, Option.bind_some]
        by_cases q : m 0 % 2 = 0
        · rw [if_pos (show nI (m 0 % 2) = 0 by rw [q]; rfl), show (1 : Int32) = nI 1 from rfl, pk_sub (by omega), show m 0 / 2 - 1 = (m 0 - 1) / 2 by omega, show (0 : Int32) = nI 0 from rfl, g1, Option.bind_some]
        · rw [if_neg (show ¬ nI (m 0 % 2) = (0 : Int32) from nIk (by omega) (by decide) q), show nI (m 0 / 2) - (0 : Int32) = nI (m 0 / 2 - 0) from pk_sub (b := 0) (by omega), show m 0 / 2 - 0 = (m 0 - 1) / 2 by omega, Option.bind_some, r0, Option.bind_some, show (0 : Int32) = nI 0 from rfl, g1, Option.bind_some]
      · rw [if_neg (show ¬ nI way = (2 : Int32) from nIk (by omega) (by decide) w2), if_neg w2]
        have hps8 : ps (cnt r (fun _ => 1) (m 0)) ≤ 8 := by
          have := sg_bd (f := fun p => if 0 < cnt r (fun _ => 1) (m 0) p then 1 else 0) (B := 1) 8 0 (fun j _ _ => by
            show (if 0 < cnt r (fun _ => 1) (m 0) j then 1 else 0) ≤ 1
            by_cases e : 0 < cnt r (fun _ => 1) (m 0) j
            · rw [if_pos e]; omega
            · rw [if_neg e]; omega)
          unfold ps
          omega
        obtain ⟨τ2, g1, g2, g3⟩ := stk_m (N := N) (m := m) hN h0 rfl h12 8 (cnt r (fun _ => 1) (m 0)) N τ1 m1 hs1 f3 b1 hsum hps8 (by omega) (by omega)
        refine ⟨τ2, ?_, f2.tr g2, g3⟩
        unfold f_X11_byStriking
        rw [m_ob hm, Option.bind_some, Option.bind_some, f1, Option.bind_some, g1, Option.bind_some]
end VM
