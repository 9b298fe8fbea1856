/-! the class's winner -/
section VW2
variable {N : Nat}
def oR (r : Nat → Nat) (o : Option Nat) : Int32 := match o with
  | none => 0
  | some o => nI (r o)
def oA (a : Nat → Nat) (o : Option Nat) : Int32 := match o with
  | none => -1
  | some o => nI (a o)
theorem rdk {σ : Mm} {k : Nat → Nat} {o : Nat} (hc : WFc σ) (ho : o = 39 ∨ o = 40 ∨ o = 41) (hk : ∀ p, p < 8 → iv σ o p = nI (k p)) {p : Nat} (hp : p < 8) : aI 13 σ o (nI p) = some (nI (k p)) := by
  have hsh : SH o = (13, 8) := by rcases ho with rfl | rfl | rfl <;> rfl
  rw [k_aI hc (a := o) (n := 8) (c := p) (by omega) hsh rfl hp (by decide), hk p hp]
theorem poo {σ : Mm} {r k a : Nat → Nat} {n M o : Nat} (hc : WFc σ) (ho : o = 39 ∨ o = 40 ∨ o = 41) (h12 : n ≤ 12) (hB : Bal σ n r a) (hk : ∀ p, p < 8 → iv σ o p = nI (k p)) (hb : ∀ p, k p < 2 ^ 20) (hM : M < 2 ^ 20) (hr8 : ∀ c, c < n → r c < 8) (ha9 : ∀ c, c < n → a c ≤ 99) : ∀ d c fu, c + d = n → d < fu → f_X1_pointOfOldest_8 N fu 36 o (nI M) (oR r (old r k a M c)) (oA a (old r k a M c)) (nI c) σ = some (oR r (old r k a M n), σ) := by
  intro d
  induction d with
  | zero =>
    intro c fu h1 h2
    obtain ⟨fu, rfl⟩ : ∃ q, fu = q + 1 := ⟨fu - 1, by omega⟩
    rw [f_X1_pointOfOldest_8, k_i36 hc, Option.bind_some, hB.1, if_pos (nI_le (by omega) (by omega)), f_X1_pointOfOldest_74, show c = n by omega]
  | succ d ih =>
    intro c fu h1 h2
    obtain ⟨fu, rfl⟩ : ∃ q, fu = q + 1 := ⟨fu - 1, by omega⟩
    have h8 := hr8 c (by omega)
    have hb' := hb (r c)
    have rp : aI 13 σ 38 (nI c) = some (nI (r c)) := by rw [k_aI hc (a := 38) (n := 12) (c := c) (by decide) rfl rfl (by omega) (by decide), hB.2.2.1 c (by omega)]
    have ra : aI 13 σ 37 (nI c) = some (nI (a c)) := by rw [k_aI hc (a := 37) (n := 12) (c := c) (by decide) rfl rfl (by omega) (by decide), hB.2.1 c (by omega)]
    rw [f_X1_pointOfOldest_8, k_i36 hc, Option.bind_some, hB.1, if_neg (nI_ge (by omega) (by omega)), if_neg (no12 (by omega)), k_36_2 hc, Option.bind_some, rp, Option.bind_some, and7' h8, rdk hc ho hk h8, Option.bind_some]
    unfold f_X1_pointOfOldest_68
    rw [nI_1, ← ih (c + 1) fu (by omega) (by omega)]
    have e : old r k a M (c + 1) = if k (r c) = M then (match old r k a M c with
      | none => some c
      | some o => if a c ≤ a o then some o else some c) else old r k a M c := rfl
    rw [e]
    by_cases q : k (r c) = M
    · rw [if_pos (by rw [q]), if_pos q, k_36_1 hc, Option.bind_some, ra, Option.bind_some, Option.bind_some, ra, Option.bind_some]
      have hac := ha9 c (by omega)
      cases eo : old r k a M c with
      | none =>
        rw [show oA a none = -1 from rfl, if_neg (fun z => nI_pos (n := a c) (by omega) (Int32.lt_of_le_of_lt z (by decide)))]
        rfl
      | some x =>
        have ho2 := old_in r k a M _ x eo
        have hao := ha9 x (by omega)
        rw [show oA a (some x) = nI (a x) from rfl]
        by_cases z : a c ≤ a x
        · simp only [if_pos z]
          rw [if_pos (nI_le z (by omega))]
          rfl
        · simp only [if_neg z]
          rw [if_neg (nI_ge (by omega) (by omega))]
          rfl
    · rw [if_neg (by rw [nI_eq (by omega) (by omega)]; exact q), if_neg q]
theorem ldr {σ : Mm} {r k a : Nat → Nat} {n o x : Nat} (hN : 20 ≤ N) (hc : WFc σ) (ho : o = 39 ∨ o = 40 ∨ o = 41) (h12 : n ≤ 12) (hB : Bal σ n r a) (hk : ∀ p, p < 8 → iv σ o p = nI (k p)) (hb : ∀ p, k p < 2 ^ 20) (hr8 : ∀ c, c < n → r c < 8) (ha9 : ∀ c, c < n → a c ≤ 99) (hx : old r k a (gr k 8) n = some x) (hg : 0 < gr k 8) : ∀ d p best fu (tied : Int32), p + d = 8 → d < fu → best < p → (∀ j, j < p → k j ≤ k best) → (tied = 1 ∨ (tied = 0 ∧ ∀ j, j < p → j ≠ best → k j ≠ k best)) → f_X1_leader_7 N fu 36 o (nI best) tied (nI p) σ = some (nI (r x), σ) := by
  obtain ⟨x1, x2⟩ := old_in _ _ _ _ _ _ hx
  intro d
  induction d with
  | zero =>
    intro p best fu tied h1 h2 h3 h4 h5
    obtain ⟨fu, rfl⟩ : ∃ q, fu = q + 1 := ⟨fu - 1, by omega⟩
    have hp : p = 8 := by omega
    subst hp
    have e : gr k 8 = k best := by
      obtain ⟨j, j1, j2⟩ := gr_at k 8 hg
      have a1 := h4 j j1
      have a2 := gr_ge k 8 best h3
      omega
    rw [f_X1_leader_7, i8, if_pos (nI_le (by omega) (by omega))]
    unfold f_X1_leader_73
    rcases h5 with h5 | ⟨h5, h6⟩
    · rw [h5, if_neg z1, rdk hc ho hk h3, Option.bind_some, k_o36 hc, Option.bind_some]
      have g1 : k best < 2 ^ 20 := hb best
      have key := poo (N := N) (M := k best) hc ho h12 hB hk hb g1 hr8 ha9 n 0 N (by omega) (by omega)
      rw [← e, hx] at key
      have key2 : f_X1_pointOfOldest N 36 o (nI (gr k 8)) σ = some (nI (r x), σ) := key
      rw [← e, key2, Option.bind_some]
    · rw [h5, if_pos rfl]
      have : r x = best := by
        apply Classical.byContradiction
        intro q
        exact h6 (r x) (hr8 x x1) q (by rw [x2, e])
      rw [this]
  | succ d ih =>
    intro p best fu tied h1 h2 h3 h4 h5
    obtain ⟨fu, rfl⟩ : ∃ q, fu = q + 1 := ⟨fu - 1, by omega⟩
    have b1 := hb p
    have b2 := hb best
    rw [f_X1_leader_7, i8, if_neg (nI_ge (by omega) (by omega)), rdk hc ho hk (show p < 8 by omega), Option.bind_some, rdk hc ho hk (show best < 8 by omega), Option.bind_some, Option.bind_some, Option.bind_some]
    unfold f_X1_leader_39 f_X1_leader_50 f_X1_leader_51
    simp only [nI_1]
    by_cases q1 : k p < k best
    · rw [if_pos (nI_lt q1 (by omega))]
      refine ih (p + 1) best fu tied (by omega) (by omega) (by omega) (fun j hj => ?_) ?_
      · by_cases e : j = p
        · rw [e]; omega
        · exact h4 j (by omega)
      · rcases h5 with h5 | ⟨h5, h6⟩
        · exact Or.inl h5
        · refine Or.inr ⟨h5, fun j hj hjb => ?_⟩
          by_cases e : j = p
          · rw [e]; omega
          · exact h6 j (by omega) hjb
    · rw [if_neg (nI_nlt (by omega) (by omega))]
      by_cases q2 : k p = k best
      · rw [if_pos (by rw [q2]), if_neg z1]
        refine ih (p + 1) best fu 1 (by omega) (by omega) (by omega) (fun j hj => ?_) (Or.inl rfl)
        by_cases e : j = p
        · rw [e]; omega
        · exact h4 j (by omega)
      · rw [if_neg (by rw [nI_eq (by omega) (by omega)]; exact q2), if_pos trivial]
        refine ih (p + 1) p fu 0 (by omega) (by omega) (by omega) (fun j hj => ?_) (Or.inr ⟨rfl, fun j hj hjb => ?_⟩)
        · by_cases e : j = p
          · rw [e]; omega
          · have := h4 j (by omega); omega
        · have := h4 j (by omega); omega
theorem e_leader {σ : Mm} {r w a : Nat → Nat} {n o : Nat} (hN : 20 ≤ N) (hc : WFc σ) (ho : o = 39 ∨ o = 40 ∨ o = 41) (hn : 0 < n) (h12 : n ≤ 12) (hB : Bal σ n r a) (hk : ∀ p, p < 8 → iv σ o p = nI (cnt r w n p)) (hb : ∀ p, cnt r w n p < 2 ^ 20) (hw1 : ∀ c, c < n → 1 ≤ w c) (hr8 : ∀ c, c < n → r c < 8) (ha9 : ∀ c, c < n → a c ≤ 99) : f_X1_leader N 36 o σ = some (nI (vMost r (cnt r w n) a n), σ) := by
  obtain ⟨x, hx, hxn⟩ := most_ex (a := a) hn hr8 hw1
  have hg : 0 < gr (cnt r w n) 8 := by
    have a1 := gr_ge (cnt r w n) 8 (r 0) (hr8 0 hn)
    have a2 := cnt_pos (r := r) (w := w) hn
    have a3 := hw1 0 hn
    omega
  have e : vMost r (cnt r w n) a n = r x := by unfold vMost; rw [hx]
  rw [e]
  exact ldr hN hc ho h12 hB hk hb hr8 ha9 hx hg 7 1 0 N 0 (by omega) (by omega) (by omega) (fun j hj => by rw [show j = 0 by omega]; exact Nat.le_refl _) (Or.inr ⟨rfl, fun j hj hj0 => absurd hj (by omega)⟩)
theorem mid_c {σ : Mm} {k : Nat → Nat} {pl : Nat} (hc : WFc σ) (hk : ∀ p, p < 8 → iv σ 39 p = nI (k p)) (hp : pl < sg k 0 8) (hB : sg k 0 8 < 2 ^ 20) : ∀ d p fu, p + d = 8 → 0 < d → d ≤ fu → sg k 0 p ≤ pl → f_X1_middle_11 N fu 36 (nI (pl - sg k 0 p)) (nI p) σ = some (nI (mid k pl d p), σ) := by
  have hle : ∀ p, p ≤ 8 → sg k 0 p ≤ sg k 0 8 := fun p hp => by
    have := sg_add k p (8 - p) 0
    rw [show p + (8 - p) = 8 by omega] at this
    omega
  intro d
  induction d with
  | zero => intro p fu h1 h2; omega
  | succ d ih =>
    intro p fu h1 h2 h3 h4
    obtain ⟨fu, rfl⟩ : ∃ q, fu = q + 1 := ⟨fu - 1, by omega⟩
    have e : sg k 0 (p + 1) = sg k 0 p + k p := by rw [sg_succ, Nat.zero_add]
    have := hle (p + 1) (by omega)
    rw [f_X1_middle_11, i8, if_neg (nI_ge (by omega) (by omega)), k_36_3 hc, Option.bind_some, rdk hc (Or.inl rfl) hk (by omega), Option.bind_some]
    unfold mid
    by_cases q : pl < sg k 0 (p + 1)
    · rw [if_neg (Int32.not_le.mpr (pk_sneg (by omega) (by omega))), if_pos q]
    · rw [pk_sub (by omega), if_pos (nI_pos' (by omega)), if_neg q, nI_1, show pl - sg k 0 p - k p = pl - sg k 0 (p + 1) by omega]
      have hp7 : p + 1 < 8 := by
        rcases Nat.lt_or_ge (p + 1) 8 with z | z
        · exact z
        · rw [show p + 1 = 8 by omega] at q; omega
      exact ih (p + 1) fu (by omega) (by omega) (by omega) (by omega)
/-- one that has more than half is the greatest -/
theorem half_gr {k : Nat → Nat} {n p : Nat} (hs : sg k 0 8 = n) (hp : p < 8) (h : n < 2 * k p) : k p = gr k 8 := by
  have h1 := gr_ge k 8 p hp
  obtain ⟨j, j1, j2⟩ := gr_at k 8 (by omega)
  apply Classical.byContradiction
  intro q
  have hne : j ≠ p := fun e => q (by rw [← e]; exact j2)
  have e := sg_upd (f := k) (g := fun x => if x = p then 0 else k x) (c := p) 8 0 (by omega) (by omega) (fun x hx => if_neg hx)
  simp only [if_true] at e
  have := sg_ge (fun x => if x = p then 0 else k x) 8 0 j (by omega) (by omega)
  simp only [if_neg hne] at this
  omega
theorem ll_found {σ : Mm} {k : Nat → Nat} {n : Nat} (hc : WFc σ) (h36 : iv σ 36 0 = nI n) (hk : ∀ p, p < 8 → iv σ 41 p = nI (k p)) (hb : ∀ p, k p < 2 ^ 20) (hn : n ≤ 12) (hs : sg k 0 8 = n) (hg : n < 2 * gr k 8) (r17 : Nat → Int32 → Mm → Option (Int32 × Mm)) (l1 : Int32) : ∀ d p fu, p + d = 8 → d < fu → (∃ j, p ≤ j ∧ j < 8 ∧ k j = gr k 8) → f_X1_lastLeft_27 N r17 fu 36 l1 (oI (wst k p)) (nI p) σ = some (nI (fstG k (gr k 8) d p), σ) := by
  intro d
  induction d with
  | zero => intro p fu h1 h2 ⟨j, a, b, c⟩; omega
  | succ d ih =>
    intro p fu h1 h2 hj
    obtain ⟨fu, rfl⟩ : ∃ q, fu = q + 1 := ⟨fu - 1, by omega⟩
    have b1 := hb p
    rw [f_X1_lastLeft_27, i8, if_neg (nI_ge (by omega) (by omega)), k_36_5 hc, Option.bind_some, rdk hc (Or.inr (Or.inr rfl)) hk (by omega), Option.bind_some, k_i36 hc, Option.bind_some, h36, show (2 : Int32) = nI 2 from rfl, pk_mul, Option.bind_some, rdk hc (Or.inr (Or.inr rfl)) hk (by omega), Option.bind_some, Option.bind_some]
    unfold fstG
    by_cases q : n < 2 * k p
    · rw [if_neg (nI_ge (by omega) (by omega)), if_pos (half_gr hs (by omega) q)]
    · have q2 : ¬ k p = gr k 8 := fun e => q (by rw [e]; exact hg)
      rw [if_pos (nI_le (by omega) (by omega)), if_neg q2]
      unfold f_X1_lastLeft_78 f_X1_lastLeft_80
      obtain ⟨j, j1, j2, j3⟩ := hj
      have hjp : j ≠ p := fun e => q2 (e ▸ j3)
      rw [nI_1, ← ih (p + 1) fu (by omega) (by omega) ⟨j, by omega, j2, j3⟩]
      have e : wst k (p + 1) = if 0 < k p then (match wst k p with
        | none => some p
        | some q => if k q < k p then some q else some p) else wst k p := rfl
      rw [e]
      by_cases q3 : 0 < k p
      · rw [if_neg (nI_nle q3 (by omega)), if_pos q3]
        cases eo : wst k p with
        | none =>
          rw [show oI none = -1 from rfl, if_pos (by decide)]
          rfl
        | some o =>
          have ho2 := wst_in k _ o eo
          have hbo := hb o
          rw [show oI (some o) = nI o from rfl, if_neg (nI_pos (by omega)), rdk hc (Or.inr (Or.inr rfl)) hk (show p < 8 by omega), Option.bind_some, Option.bind_some, rdk hc (Or.inr (Or.inr rfl)) hk (show o < 8 by omega), Option.bind_some]
          by_cases z : k o < k p
          · simp only [if_pos z]
            rw [if_pos (nI_lt z (by omega))]
            rfl
          · simp only [if_neg z]
            rw [if_neg (nI_nlt (by omega) (by omega))]
            rfl
      · rw [if_pos (show nI (k p) ≤ 0 by rw [show k p = 0 by omega]; decide), if_neg q3]
theorem ll_none {σ : Mm} {k : Nat → Nat} {n : Nat} (hc : WFc σ) (h36 : iv σ 36 0 = nI n) (hk : ∀ p, p < 8 → iv σ 41 p = nI (k p)) (hb : ∀ p, k p < 2 ^ 20) (hn : n ≤ 12) (hg : ¬ n < 2 * gr k 8) (r17 : Nat → Int32 → Mm → Option (Int32 × Mm)) (l1 : Int32) : ∀ d p fu, p + d = 8 → d < fu → f_X1_lastLeft_27 N r17 fu 36 l1 (oI (wst k p)) (nI p) σ = (f_X1_strikeOut N 36 (oI (wst k 8)) σ).bind fun q2 => r17 36 (l1 + 1) q2 := by
  intro d
  induction d with
  | zero =>
    intro p fu h1 h2
    obtain ⟨fu, rfl⟩ : ∃ q, fu = q + 1 := ⟨fu - 1, by omega⟩
    rw [f_X1_lastLeft_27, i8, if_pos (nI_le (by omega) (by omega)), k_o36 hc, Option.bind_some, show p = 8 by omega]
  | succ d ih =>
    intro p fu h1 h2
    obtain ⟨fu, rfl⟩ : ∃ q, fu = q + 1 := ⟨fu - 1, by omega⟩
    have b1 := hb p
    have g1 := gr_ge k 8 p (by omega)
    rw [f_X1_lastLeft_27, i8, if_neg (nI_ge (by omega) (by omega)), k_36_5 hc, Option.bind_some, rdk hc (Or.inr (Or.inr rfl)) hk (by omega), Option.bind_some, k_i36 hc, Option.bind_some, h36, show (2 : Int32) = nI 2 from rfl, pk_mul, Option.bind_some, rdk hc (Or.inr (Or.inr rfl)) hk (by omega), Option.bind_some, Option.bind_some, if_pos (nI_le (by omega) (by omega))]
    unfold f_X1_lastLeft_78 f_X1_lastLeft_80
    rw [nI_1, ← ih (p + 1) fu (by omega) (by omega)]
    have e : wst k (p + 1) = if 0 < k p then (match wst k p with
      | none => some p
      | some q => if k q < k p then some q else some p) else wst k p := rfl
    rw [e]
    by_cases q3 : 0 < k p
    · rw [if_neg (nI_nle q3 (by omega)), if_pos q3]
      cases eo : wst k p with
      | none =>
        rw [show oI none = -1 from rfl, if_pos (by decide)]
        rfl
      | some o =>
        have ho2 := wst_in k _ o eo
        have hbo := hb o
        rw [show oI (some o) = nI o from rfl, if_neg (nI_pos (by omega)), rdk hc (Or.inr (Or.inr rfl)) hk (show p < 8 by omega), Option.bind_some, Option.bind_some, rdk hc (Or.inr (Or.inr rfl)) hk (show o < 8 by omega), Option.bind_some]
        by_cases z : k o < k p
        · simp only [if_pos z]
          rw [if_pos (nI_lt z (by omega))]
          rfl
        · simp only [if_neg z]
          rw [if_neg (nI_nlt (by omega) (by omega))]
          rfl
    · rw [if_pos (show nI (k p) ≤ 0 by rw [show k p = 0 by omega]; decide), if_neg q3]
theorem so_c {σ : Mm} {k : Nat → Nat} {o : Nat} (hc : WFc σ) (hk : ∀ p, p < 8 → iv σ 41 p = nI (k p)) (hb : ∀ p, k p < 2 ^ 20) (ho : o < 8) : ∀ f d fu, d + f = 5 → 1 ≤ d → f < fu → nrs k o f d ≠ o → f_X1_strikeOut_12 N fu 36 (nI o) (nI d) σ = some (si (si σ 41 (nrs k o f d) (nI (k (nrs k o f d) + k o))) 41 o 0) := by
  have fin : ∀ t, t < 8 → 0 < k t → ∀ (r : Nat → Int32 → Int32 → Mm → Option Mm) (l2 : Int32), f_X1_strikeOut_43 N r 36 (nI o) l2 (nI t) σ = some (si (si σ 41 t (nI (k t + k o))) 41 o 0) := by
    intro t ht hkt r l2
    have c1 : WFc (si σ 41 t (nI (k t + k o))) := hc
    have bt := hb t
    unfold f_X1_strikeOut_43
    rw [k_36_5 hc, Option.bind_some, rdk hc (Or.inr (Or.inr rfl)) hk ht, Option.bind_some, if_neg (nI_nle hkt (by omega)), Option.bind_some, rdk hc (Or.inr (Or.inr rfl)) hk ht, Option.bind_some, Option.bind_some, rdk hc (Or.inr (Or.inr rfl)) hk ho, Option.bind_some, nI_add, k_sI hc (a := 41) (n := 8) (c := t) (by decide) rfl rfl ht (by decide), Option.bind_some, k_36_5 c1, Option.bind_some, k_sI c1 (a := 41) (n := 8) (c := o) (by decide) rfl rfl ho (by decide), Option.bind_some]
  intro f
  induction f with
  | zero => intro d fu h1 h2 h3 h4; exact absurd rfl h4
  | succ f ih =>
    intro d fu h1 h2 h3 h4
    obtain ⟨fu, rfl⟩ : ∃ q, fu = q + 1 := ⟨fu - 1, by omega⟩
    obtain ⟨r1, r2⟩ := rt8 o ho d (by omega)
    have b1 := hb ((o + d) % 8)
    have b2 := hb ((o + 8 - d) % 8)
    have e : nrs k o (f + 1) d = if 0 < k ((o + d) % 8) then (o + d) % 8 else if 0 < k ((o + 8 - d) % 8) then (o + 8 - d) % 8 else nrs k o f (d + 1) := rfl
    rw [e] at h4 ⊢
    rw [f_X1_strikeOut_12, show (4 : Int32) = nI 4 from rfl, if_neg (nI_nlt (by omega) (by omega)), k_36_5 hc, Option.bind_some, r1, rdk hc (Or.inr (Or.inr rfl)) hk (by omega), Option.bind_some, r2]
    by_cases q1 : 0 < k ((o + d) % 8)
    · rw [if_neg (nI_nle q1 (by omega)), if_pos q1, fin _ (by omega) q1]
    · rw [if_neg q1] at h4
      rw [if_pos (show nI (k ((o + d) % 8)) ≤ 0 by rw [show k ((o + d) % 8) = 0 by omega]; decide), if_neg q1]
      by_cases q2 : 0 < k ((o + 8 - d) % 8)
      · rw [if_pos q2, fin _ (by omega) q2]
      · rw [if_neg q2] at h4 ⊢
        unfold f_X1_strikeOut_43
        rw [k_36_5 hc, Option.bind_some, rdk hc (Or.inr (Or.inr rfl)) hk (by omega), Option.bind_some, if_pos (show nI (k ((o + 8 - d) % 8)) ≤ 0 by rw [show k ((o + 8 - d) % 8) = 0 by omega]; decide), nI_1]
        exact ih (d + 1) fu (by omega) (by omega) (by omega) h4
theorem ll_c {n : Nat} (hN : 20 ≤ N) (hn : 0 < n) (hn12 : n ≤ 12) : ∀ s k fu rd σ, WFc σ → iv σ 36 0 = nI n → (∀ p, p < 8 → iv σ 41 p = nI (k p)) → (∀ p, k p < 2 ^ 20) → sg k 0 8 = n → ps k ≤ s → 1 ≤ s → s < fu → rd + s = 8 → ∃ σ', f_X1_lastLeft_17 N fu 36 (nI rd) σ = some (nI (vs n s k), σ') ∧ RO 41 σ σ' := by
  intro s
  induction s with
  | zero => intro k fu rd σ _ _ _ _ _ _ h; omega
  | succ s ih =>
    intro k fu rd σ hc h36 hk hb hsum hps h1 hf hrd
    obtain ⟨fu, rfl⟩ : ∃ q, fu = q + 1 := ⟨fu - 1, by omega⟩
    rw [f_X1_lastLeft_17, i8, if_neg (nI_ge (by omega) (by omega)), show (-1 : Int32) = oI (wst k 0) from rfl, show (0 : Int32) = nI 0 from rfl]
    by_cases hg : n < 2 * gr k 8
    · obtain ⟨j, j1, j2⟩ := gr_at k 8 (by omega)
      have e : vs n (s + 1) k = fstG k (gr k 8) 8 0 := by unfold vs; rw [if_pos hg]
      refine ⟨σ, ?_, RO.rf _ _⟩
      rw [ll_found hc h36 hk hb hn12 hsum hg _ _ 8 0 N (by omega) (by omega) ⟨j, by omega, j1, j2⟩, e]
    · obtain ⟨j0, _, i1, i2⟩ := sg_pos k 8 0 (by omega)
      obtain ⟨o, ho⟩ := wst_ex k 8 j0 (by omega) i2
      obtain ⟨o1, o2⟩ := wst_in k 8 o ho
      obtain ⟨j, j1, j2, j3⟩ := two_said hsum hn hg o1
      obtain ⟨t1, t2, t3⟩ := nrs_ok o1 j1 j2 j3
      have hst : strike k = strk k o (nrs k o 4 1) := by unfold strike; rw [ho]; rfl
      have e : vs n (s + 1) k = vs n s (strike k) := by conv => lhs; unfold vs; rw [if_neg hg]
      have bt := hb (nrs k o 4 1)
      have bo := hb o
      have hle : k (nrs k o 4 1) + k o ≤ n := by
        rw [← hsum, ← strk_sum o1 t1 t2]
        have := sg_ge (strk k o (nrs k o 4 1)) 8 0 (nrs k o 4 1) (by omega) (by omega)
        unfold strk at this
        rw [if_neg t2, if_pos rfl] at this
        exact this
      have hps2 := strk_ps (k := k) o1 t1 t2 o2 t3
      obtain ⟨s2, e2⟩ : ∃ x, x = si (si σ 41 (nrs k o 4 1) (nI (k (nrs k o 4 1) + k o))) 41 o 0 := ⟨_, rfl⟩
      have r2 : RO 41 σ s2 := by rw [e2]; exact (RO.si _ _ _ _).tr (RO.si _ _ _ _)
      have hk2 : ∀ p, p < 8 → iv s2 41 p = nI (strike k p) := by
        intro p hp
        rw [hst]
        unfold strk
        rw [e2, iv_si]
        by_cases z : p = o
        · rw [if_pos ⟨rfl, z⟩, if_pos z]; rfl
        · rw [if_neg (fun q => z q.2), if_neg z, iv_si]
          by_cases z2 : p = nrs k o 4 1
          · rw [if_pos ⟨rfl, z2⟩, if_pos z2]
          · rw [if_neg (fun q => z2 q.2), if_neg z2, hk p hp]
      have hs1 : 1 ≤ s := by
        rcases Nat.eq_zero_or_pos s with z | z
        · exfalso
          exact hg (one_said hsum hn (by omega))
        · exact z
      obtain ⟨σ', f1, f2⟩ := ih (strike k) fu (rd + 1) s2 (r2.wc hc) (by rw [r2.2.2 36 (by decide)]; exact h36) hk2 (fun p => by
        rw [hst]
        unfold strk
        by_cases z : p = o
        · rw [if_pos z]; omega
        · rw [if_neg z]
          by_cases z2 : p = nrs k o 4 1
          · rw [if_pos z2]; omega
          · rw [if_neg z2]; exact hb p) (by rw [hst, strk_sum o1 t1 t2]; exact hsum) (by rw [hst]; omega) hs1 (by omega) (by omega)
      refine ⟨σ', ?_, r2.tr f2⟩
      rw [ll_none hc h36 hk hb hn12 hg _ _ 8 0 N (by omega) (by omega), ho, show oI (some o) = nI o from rfl]
      unfold f_X1_strikeOut
      rw [e_isBelow, Option.bind_some, bi_y ⟨nI_pos' (by omega), by rw [i8]; exact nI_lt o1 (by decide)⟩, if_neg z1, show (1 : Int32) = nI 1 from rfl, so_c hc hk hb o1 4 1 N (by omega) (by omega) (by omega) t2, Option.bind_some, ← e2, nI_add, e]
      exact f1
theorem e_winner {σ : Mm} {r a : Nat → Nat} {n way : Nat} (hN : 20 ≤ N) (hn : 0 < n) (h12 : n ≤ 12) (hc : WFc σ) (hB : Bal σ n r a) (hr8 : ∀ c, c < n → r c < 8) (ha9 : ∀ c, c < n → a c ≤ 99) (hway : way < 4) : ∃ σ', f_X1_winner N 36 (nI way) σ = some (nI (voteV way n r a), σ') ∧ RO 41 σ σ' := by
  have b1 : ∀ p, cnt r (fun _ => 1) n p < 2 ^ 20 := fun p => by have := cnt_bd1 r n p; omega
  have b2 : ∀ p, cnt r (fun c => a c + 1) n p < 2 ^ 20 := fun p => by
    have := cnt_bd (r := r) (w := fun c => a c + 1) (n := n) p (fun c hc => by
      show a c + 1 ≤ 100
      have := ha9 c hc
      omega)
    omega
  have hsum := cnt_sum n hr8
  unfold f_X1_winner voteV
  by_cases w0 : way = 0
  · subst w0
    refine ⟨σ, ?_, RO.rf _ _⟩
    rw [if_pos (show nI 0 = (0 : Int32) from rfl), k_36_3 hc, Option.bind_some, k_o36 hc, Option.bind_some, e_leader (w := fun _ => 1) hN hc (Or.inl rfl) hn h12 hB hB.2.2.2.1 b1 (fun _ _ => Nat.le_refl _) hr8 ha9, Option.bind_some, if_pos rfl]
  · rw [if_neg (show ¬ nI way = (0 : Int32) from nIk (by omega) (by decide) w0), if_neg w0]
    by_cases w1 : way = 1
    · subst w1
      refine ⟨σ, ?_, RO.rf _ _⟩
      rw [if_pos (show nI 1 = (1 : Int32) from rfl), k_36_4 hc, Option.bind_some, k_o36 hc, Option.bind_some, e_leader (w := fun c => a c + 1) hN hc (Or.inr (Or.inl rfl)) hn h12 hB hB.2.2.2.2 b2 (fun _ _ => by show 1 ≤ _ + 1; omega) hr8 ha9, Option.bind_some, if_pos rfl]
    · rw [if_neg (show ¬ nI way = (1 : Int32) from nIk (by omega) (by decide) w1), if_neg w1]
      by_cases w2 : way = 2
      · subst w2
        refine ⟨σ, ?_, RO.rf _ _⟩
        rw [if_pos (show nI 2 = (2 : Int32) from rfl), k_o36 hc, Option.bind_some, if_pos rfl]
        unfold f_X1_middle
        have key := mid_c (N := N) (pl := (n - 1) / 2) hc hB.2.2.2.1 (by omega) (by omega) 8 0 N (by omega) (by omega) (by omega) (Nat.zero_le _)
        rw [show sg (cnt r (fun _ => 1) n) 0 0 = 0 from rfl, Nat.sub_zero] at key
        rw [k_i36 hc, Option.bind_some, hB.1, if_neg (by decide), show (1 : Int32) = nI 1 from rfl, pk_sub (by omega), show (2 : Int32) = nI 2 from rfl, pk_div (by omega) (by decide) (by decide), show (0 : Int32) = nI 0 from rfl, key, Option.bind_some]
      · rw [if_neg (show ¬ nI way = (2 : Int32) from nIk (by omega) (by decide) w2), if_neg w2]
        have hps8 : ps (cnt r (fun _ => 1) n) ≤ 8 := by
          have := sg_bd (f := fun p => if 0 < cnt r (fun _ => 1) n p then 1 else 0) (B := 1) 8 0 (fun j _ _ => by
            show (if 0 < cnt r (fun _ => 1) n j then 1 else 0) ≤ 1
            by_cases e : 0 < cnt r (fun _ => 1) n j
            · rw [if_pos e]; omega
            · rw [if_neg e]; omega)
          unfold ps
          omega
        obtain ⟨s1, e1⟩ : ∃ s, s = cpy σ 39 0 41 0 8 := ⟨_, rfl⟩
        have r1 : RO 41 σ s1 := by rw [e1]; exact RO.cpy 41 σ 39 8
        have hcp : cpA 13 σ 39 (0 : Int32) 41 (0 : Int32) (8 : Int32) = some s1 := by
          unfold cpA
          rw [if_pos ⟨⟨⟨pp_lt (by have := hc.1; omega) hc.1, rfl⟩, pp_lt (by have := hc.1; omega) hc.1, rfl⟩, ⟨by decide, by decide, by decide⟩, by decide, by decide⟩, e1]
          rfl
        obtain ⟨σ', f1, f2⟩ := ll_c (N := N) hN hn h12 8 (cnt r (fun _ => 1) n) N 0 s1 (r1.wc hc) (by rw [r1.2.2 36 (by decide)]; exact hB.1) (fun p hp => by rw [e1, iv_cpy, if_pos ⟨rfl, by omega, by omega⟩, Nat.zero_add, Nat.sub_zero]; exact hB.2.2.2.1 p hp) b1 hsum hps8 (by omega) (by omega) (by omega)
        refine ⟨σ', ?_, r1.tr f2⟩
        rw [k_o36 hc, Option.bind_some]
        unfold f_X1_lastLeft
        rw [k_36_3 hc, Option.bind_some, k_36_5 hc, Option.bind_some, hcp, Option.bind_some, show (0 : Int32) = nI 0 from rfl, f1, Option.bind_some]
end VW2
