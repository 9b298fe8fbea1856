/-! the class's steps -/
section TU
variable {N : Nat} {σ : Mm}
theorem k_iL (h : WFc σ) {t : Nat} (ht : t < 6) (j : Nat) : gI 2 j σ (51 + 2 * t) = some (iv σ (51 + 2 * t) j) := k_gI h j (by omega) (by
  have : ∀ t, t < 6 → (SH (51 + 2 * t)).1 = 2 := by decide
  exact this t ht)
theorem k_oL (h : WFc σ) {t : Nat} (ht : t < 6) : ob 2 σ (51 + 2 * t) = some () := k_ob h (by omega) (by
  have : ∀ t, t < 6 → (SH (51 + 2 * t)).1 = 2 := by decide
  exact this t ht)
theorem k_gL (h : WFc σ) {t : Nat} (ht : t < 6) : gN 2 0 σ (51 + 2 * t) = some (52 + 2 * t) := k_gN h (by
  have : ∀ t, t < 6 → (51 + 2 * t, 0, 52 + 2 * t) ∈ crefs := by decide
  exact this t ht) (by omega) (by
  have : ∀ t, t < 6 → (SH (51 + 2 * t)).1 = 2 := by decide
  exact this t ht)
theorem k_aL (h : WFc σ) {t c : Nat} (ht : t < 6) (hc : c < 400) : aI 13 σ (52 + 2 * t) (nI c) = some (iv σ (52 + 2 * t) c) := k_aI h (n := 400) (by omega) (by
  have : ∀ t, t < 6 → SH (52 + 2 * t) = (13, 400) := by decide
  exact this t ht) rfl hc (by decide)
theorem k_ln35 (h : WFc σ) : ln 0 σ 35 = some (nI 64) := by unfold ln; rw [show SH 35 = (14, 64) from rfl, if_pos ⟨pp_lt (by have := h.1; omega) h.1, (by decide : 12 ≤ 14 % 100), (by decide : 14 % 100 < 18), (rfl : bkc 14 = 0)⟩]; rfl
theorem neg_le0 {v : Nat} (h : v < 2 ^ 31) : -(nI v) ≤ 0 := by
  rw [Int32.le_iff_toInt_le, Int32.toInt_neg, nI_toInt h]
  show (-(v : Int)).bmod (2 ^ 32) ≤ 0
  rw [Int.bmod_eq_of_le (by omega) (by omega)]
  omega
theorem e_isW (k : Nat) (hk : k < 2 ^ 31) : f_X2_isWord N (nI k) σ = some (bi (25 ≤ k ∧ k ≤ 33), σ) := by
  unfold f_X2_isWord f_X2_isWord_16 f_X2_isWord_17
  have q1 : nI k < (25 : Int32) ↔ k < 25 := nI_ltI hk (by decide)
  have q2 : (33 : Int32) < nI k ↔ 33 < k := nI_ltI (by decide) hk
  by_cases h1 : k < 25
  · rw [if_pos (q1.mpr h1), bi_n (by omega)]; rfl
  · by_cases h2 : 33 < k
    · rw [if_neg (fun q => h1 (q1.mp q)), if_pos (q2.mpr h2), bi_n (by omega)]; rfl
    · rw [if_neg (fun q => h1 (q1.mp q)), if_neg (fun q => h2 (q2.mp q)), bi_y (by omega)]; rfl
def SC (σ : Mm) (s : List Int64) : Prop := ∀ i, i < s.length → jv σ 35 i = s.getD (s.length - 1 - i) 0
def FK (σ σ' : Mm) : Prop := nn σ' = nn σ ∧ (∀ o, rv σ' o = rv σ o) ∧ ∀ o, iv σ' o = iv σ o
theorem FK.rf (σ : Mm) : FK σ σ := ⟨rfl, fun _ => rfl, fun _ => rfl⟩
theorem FK.tr {a b c : Mm} (h : FK a b) (g : FK b c) : FK a c := ⟨g.1.trans h.1, fun x => (g.2.1 x).trans (h.2.1 x), fun x => (g.2.2 x).trans (h.2.2 x)⟩
theorem FK.sj (σ : Mm) (o k : Nat) (v : Int64) : FK σ (sj σ o k v) := ⟨rfl, fun _ => rfl, fun _ => rfl⟩
theorem FK.wc {σ σ' : Mm} (h : FK σ σ') (hc : WFc σ) : WFc σ' := hc.rvc h.1 h.2.1
theorem SC.push {s : List Int64} (h : SC σ s) (v : Int64) : SC (sj σ 35 s.length v) (v :: s) := by
  intro i hi
  rw [List.length_cons] at hi ⊢
  rw [jv_sj]
  by_cases e : i = s.length
  · rw [if_pos ⟨rfl, e⟩, e, show s.length + 1 - 1 - s.length = 0 by omega]; rfl
  · rw [if_neg (fun q => e q.2), h i (by omega), show s.length + 1 - 1 - i = (s.length - 1 - i) + 1 by omega]; rfl
theorem SC.tail {x : Int64} {s : List Int64} (h : SC σ (x :: s)) : SC σ s := by
  intro i hi
  have := h i (by rw [List.length_cons]; omega)
  rw [this, List.length_cons, show s.length + 1 - 1 - i = (s.length - 1 - i) + 1 by omega]; rfl
theorem SC.top {x : Int64} {s : List Int64} (h : SC σ (x :: s)) : jv σ 35 s.length = x := by
  have := h s.length (by rw [List.length_cons]; omega)
  rw [this, List.length_cons, show s.length + 1 - 1 - s.length = 0 by omega]; rfl
/-- the step at a place, by its kind -/
theorem tf_push {t i k len fu v : Nat} (hc : WFc σ) (ht : t < 6) (hl : iv σ (51 + 2 * t) 1 = nI len) (hlen : len ≤ 400) (hi : i < len) (hk : k < 64) (hx : iv σ (52 + 2 * t) i = nI v) (hv : v < 2 ^ 31) : f_X2_turnFor_5 N (fu + 1) (51 + 2 * t) 34 35 (nI k) (nI i) σ = f_X2_turnFor_5 N fu (51 + 2 * t) 34 35 (nI (k + 1)) (nI (i + 1)) (sj σ 35 k (lN v)) := by
  have hneg : ¬ 0 < -(nI v) := Int32.not_lt.mpr (neg_le0 hv)
  rw [f_X2_turnFor_5, k_iL hc ht, Option.bind_some, hl, if_neg (nI_ge hi (by omega)), if_neg (by rw [show (400 : Int32) = nI 400 from rfl]; exact nI_ge (by omega) (by decide)), k_gL hc ht, Option.bind_some, k_aL hc ht (by omega), Option.bind_some, hx, if_pos (neg_le0 hv)]
  unfold f_X2_turnFor_45 f_X2_turnFor_83 f_X2_turnFor_203
  rw [if_neg (by rw [show (64 : Int32) = nI 64 from rfl]; exact nI_ge hk (by decide)), k_ln35 hc, Option.bind_some, if_pos (nI_lt hk (by decide)), if_neg hneg, k_gL hc ht, Option.bind_some, k_aL hc ht (by omega), Option.bind_some, hx, k_sJ hc rfl hk, Option.bind_some, nI_l hv, nI_1, nI_1]
theorem tf_word {t i k len fu v : Nat} (hc : WFc σ) (ht : t < 6) (hl : iv σ (51 + 2 * t) 1 = nI len) (hlen : len ≤ 400) (hi : i < len) (hk : k < 64) (hx : iv σ (52 + 2 * t) i = -(nI (25 + v))) (hv : v < 9) : f_X2_turnFor_5 N (fu + 1) (51 + 2 * t) 34 35 (nI k) (nI i) σ = f_X2_turnFor_5 N fu (51 + 2 * t) 34 35 (nI (k + 1)) (nI (i + 1)) (sj σ 35 k (iv σ 34 v).toInt64) := by
  rw [f_X2_turnFor_5, k_iL hc ht, Option.bind_some, hl, if_neg (nI_ge hi (by omega)), if_neg (by rw [show (400 : Int32) = nI 400 from rfl]; exact nI_ge (by omega) (by decide)), k_gL hc ht, Option.bind_some, k_aL hc ht (by omega), Option.bind_some, hx, Int32.neg_neg, if_neg (nI_nle (by omega) (by omega)), e_isW _ (by omega), Option.bind_some, bi_y (by omega), if_neg z1]
  unfold f_X2_turnFor_45 f_X2_turnFor_83 f_X2_turnFor_203 f_X2_wordOf f_X2_wordOf_22 f_X2_wordOf_23
  rw [if_neg (by rw [show (64 : Int32) = nI 64 from rfl]; exact nI_ge hk (by decide)), k_ln35 hc, Option.bind_some, if_pos (nI_lt hk (by decide)), if_pos (show (0 : Int32) < nI (25 + v) from Int32.not_le.mp (nI_nle (by omega) (by omega))), show (25 : Int32) = nI 25 from rfl, pk_sub (by omega), show 25 + v - 25 = v by omega, if_neg (nI_pos (by omega)), k_ln hc (a := 34) (n := 9) (by decide) rfl, Option.bind_some, if_neg (nI_ge hv (by decide)), k_aI hc (a := 34) (n := 9) (c := v) (by decide) rfl rfl hv (by decide), Option.bind_some, Option.bind_some, k_sJ hc rfl hk, Option.bind_some, nI_1, nI_1]
theorem tf_116 {t i k len fu g : Nat} (hc : WFc σ) (ht : t < 6) (hl : iv σ (51 + 2 * t) 1 = nI len) (hlen : len ≤ 400) (hi : i < len) (hk : k < 2 ^ 31) (hx : iv σ (52 + 2 * t) i = -(nI g)) (hg : g < 25) (hg0 : 0 < g) (h1 : 1 ≤ k) (h2 : g = 20 ∨ g = 24 ∨ 2 ≤ k) : f_X2_turnFor_5 N (fu + 1) (51 + 2 * t) 34 35 (nI k) (nI i) σ = f_X2_turnFor_116 N (f_X2_turnFor_5 N fu) (51 + 2 * t) 34 35 (nI k) (nI i) (nI g) σ := by
  rw [f_X2_turnFor_5, k_iL hc ht, Option.bind_some, hl, if_neg (nI_ge hi (by omega)), if_neg (by rw [show (400 : Int32) = nI 400 from rfl]; exact nI_ge (by omega) (by decide)), k_gL hc ht, Option.bind_some, k_aL hc ht (by omega), Option.bind_some, hx, Int32.neg_neg, if_neg (nI_nle hg0 (by omega)), e_isW _ (by omega), Option.bind_some, bi_n (by omega), if_pos rfl, if_neg (by rw [show (1 : Int32) = nI 1 from rfl, nI_ltI hk (by decide)]; omega)]
  by_cases e1 : g = 20
  · rw [if_pos (show nI g = 20 by rw [e1]; rfl)]
  · rw [if_neg (show ¬ nI g = (20 : Int32) from nIk (by omega) (by decide) e1)]
    by_cases e2 : g = 24
    · rw [if_pos (show nI g = 24 by rw [e2]; rfl)]
    · rw [if_neg (show ¬ nI g = (24 : Int32) from nIk (by omega) (by decide) e2), if_pos (by rw [show (2 : Int32) = nI 2 from rfl]; exact nI_le (by omega) hk)]
theorem tf_not {t i len fu : Nat} {x : Int64} {s : List Int64} (hc : WFc σ) (ht : t < 6) (hl : iv σ (51 + 2 * t) 1 = nI len) (hlen : len ≤ 400) (hi : i < len) (hk : s.length < 64) (hx : iv σ (52 + 2 * t) i = -24) (hS : SC σ (x :: s)) : f_X2_turnFor_5 N (fu + 1) (51 + 2 * t) 34 35 (nI (x :: s).length) (nI i) σ = f_X2_turnFor_5 N fu (51 + 2 * t) 34 35 (nI ((1 - x) :: s).length) (nI (i + 1)) (sj σ 35 s.length (1 - x)) := by
  rw [List.length_cons, List.length_cons, tf_116 (g := 24) hc ht hl hlen hi (by omega) hx (by decide) (by decide) (by omega) (Or.inr (Or.inl rfl))]
  unfold f_X2_turnFor_116 f_X2_turnFor_203
  rw [if_neg (by decide), if_pos (show nI 24 = (24 : Int32) from rfl), nI_pred, k_aJ hc rfl hk, Option.bind_some, hS.top, k_sJ hc rfl hk, Option.bind_some, nI_1]
theorem tf_two {t i len fu q : Nat} {x y : Int64} {s : List Int64} (hc : WFc σ) (ht : t < 6) (hl : iv σ (51 + 2 * t) 1 = nI len) (hlen : len ≤ 400) (hi : i < len) (hk : s.length + 1 < 64) (hq : q ≤ 13) (hq2 : 2 ≤ q) (hq11 : q ≠ 11) (hx : iv σ (52 + 2 * t) i = -(nI (cs q))) (hS : SC σ (y :: x :: s)) : f_X2_turnFor_5 N (fu + 1) (51 + 2 * t) 34 35 (nI (y :: x :: s).length) (nI i) σ = f_X2_turnFor_5 N fu (51 + 2 * t) 34 35 (nI (op2 q x y :: s).length) (nI (i + 1)) (sj σ 35 s.length (op2 q x y)) := by
  have c1 : cs q < 25 ∧ 0 < cs q ∧ cs q ≠ 20 ∧ cs q ≠ 24 ∧ cs q ≠ 21 := by
    unfold cs
    by_cases e1 : q = 12
    · rw [if_pos e1]; decide
    · rw [if_neg e1]
      by_cases e2 : q = 13
      · rw [if_pos e2]; decide
      · rw [if_neg e2]; omega
  have t1 : jv σ 35 (s.length + 1) = y := hS.top
  have t2 : jv σ 35 s.length = x := hS.tail.top
  have m2 : nI (s.length + 1 + 1) - 2 = nI s.length := by rw [show (2 : Int32) = nI 2 from rfl, pk_sub (by omega)]; congr 1
  rw [List.length_cons, List.length_cons, List.length_cons, tf_116 (g := cs q) hc ht hl hlen hi (by omega) hx c1.1 c1.2.1 (by omega) (Or.inr (Or.inr (by omega)))]
  unfold f_X2_turnFor_116 f_X2_turnFor_203
  rw [if_neg (show ¬ nI (cs q) = (20 : Int32) from nIk (by omega) (by decide) c1.2.2.1), if_neg (show ¬ nI (cs q) = (24 : Int32) from nIk (by omega) (by decide) c1.2.2.2.1), if_neg (show ¬ nI (cs q) = (21 : Int32) from nIk (by omega) (by decide) c1.2.2.2.2), m2, nI_pred, k_aJ hc rfl (by omega), Option.bind_some, k_aJ hc rfl (by omega), Option.bind_some, t1, t2, e_joined hq hq2 hq11, Option.bind_some, k_sJ hc rfl (by omega), Option.bind_some, nI_1, pk_m1]
theorem trn {w : Nat → Int64} {t len : Nat} (ht : t < 6) (hlen : len ≤ 400) : ∀ (l : List Nat) (i fu : Nat) (σ : Mm) (s s' : List Int64), WFc σ → SC σ s → (∀ v, v < 9 → (iv σ 34 v).toInt64 = w v) → iv σ (51 + 2 * t) 1 = nI len → (∀ k, k < l.length → iv σ (52 + 2 * t) (i + k) = clT (l.getD k 0)) → (∀ x ∈ l, okT x) → rpn w l s = some s' → s.length + pushes l ≤ 64 → i + l.length ≤ len → l.length < fu → ∃ σ', f_X2_turnFor_5 N fu (51 + 2 * t) 34 35 (nI s.length) (nI i) σ = f_X2_turnFor_5 N (fu - l.length) (51 + 2 * t) 34 35 (nI s'.length) (nI (i + l.length)) σ' ∧ SC σ' s' ∧ FK σ σ' := by
  intro l
  induction l with
  | nil =>
    intro i fu σ s s' hc hS hw hl hv ok hr hp hi hf
    have : s = s' := Option.some.inj hr
    subst this
    exact ⟨σ, rfl, hS, FK.rf σ⟩
  | cons T l ih =>
    intro i fu σ s s' hc hS hw hl hv ok hr hp hi hf
    obtain ⟨fu, rfl⟩ : ∃ q, fu = q + 1 := ⟨fu - 1, by omega⟩
    rw [List.length_cons] at hi hf
    obtain ⟨ok1, ok2, ok3⟩ := ok T List.mem_cons_self
    have hv0 : iv σ (52 + 2 * t) i = clT T := hv 0 (by simp)
    rw [pushes_cons] at hp
    have next : ∀ (σ1 : Mm) (s1 : List Int64), FK σ σ1 → SC σ1 s1 → rpn w l s1 = some s' → s1.length + pushes l ≤ 64 → ∃ σ', f_X2_turnFor_5 N fu (51 + 2 * t) 34 35 (nI s1.length) (nI (i + 1)) σ1 = f_X2_turnFor_5 N (fu + 1 - (T :: l).length) (51 + 2 * t) 34 35 (nI s'.length) (nI (i + (T :: l).length)) σ' ∧ SC σ' s' ∧ FK σ σ' := by
      intro σ1 s1 f1 hS1 hr1 hp1
      obtain ⟨σ', g1, g2, g3⟩ := ih (i + 1) fu σ1 s1 s' (f1.wc hc) hS1 (fun v hv' => by rw [f1.2.2 34]; exact hw v hv') (by rw [f1.2.2]; exact hl) (fun k hk => by
        rw [f1.2.2, show i + 1 + k = i + (k + 1) by omega]
        exact hv (k + 1) (by simpa using hk)) (fun x hx => ok x (List.mem_cons_of_mem _ hx)) hr1 hp1 (by omega) (by omega)
      exact ⟨σ', by rw [g1, List.length_cons, show fu + 1 - (l.length + 1) = fu - l.length by omega, show i + 1 + l.length = i + (l.length + 1) by omega], g2, f1.tr g3⟩
    unfold clT at hv0
    by_cases e0 : T % 16 = 0
    · rw [rpn_0 w l s e0] at hr
      rw [if_pos (show T % 16 ≤ 1 by omega)] at hp
      rw [if_pos e0] at hv0
      rw [tf_push hc ht hl hlen (by omega) (by omega) hv0 (by omega)]
      exact next _ (lN (T / 16) :: s) (FK.sj σ _ _ _) (hS.push _) hr (by rw [List.length_cons]; omega)
    · rw [if_neg e0] at hv0
      by_cases e1 : T % 16 = 1
      · rw [rpn_1 w l s e1] at hr
        rw [if_pos (show T % 16 ≤ 1 by omega)] at hp
        rw [if_pos e1] at hv0
        have h8 := ok3 e1
        rw [tf_word hc ht hl hlen (by omega) (by omega) hv0 (by omega), hw _ (by omega)]
        exact next _ (w (T / 16) :: s) (FK.sj σ _ _ _) (hS.push _) hr (by rw [List.length_cons]; omega)
      · rw [if_neg (show ¬ T % 16 ≤ 1 by omega)] at hp
        rw [if_neg e1] at hv0
        by_cases e11 : T % 16 = 11
        · obtain ⟨x, r, rfl, hr2⟩ := rpn_11 w l e11 hr
          rw [if_pos e11] at hv0
          rw [List.length_cons] at hp
          rw [tf_not hc ht hl hlen (by omega) (by omega) hv0 hS]
          exact next _ ((1 - x) :: r) (FK.sj σ _ _ _) (hS.tail.push _) hr2 (by rw [List.length_cons]; omega)
        · obtain ⟨x, y, r, rfl, hr2⟩ := rpn_2 w l e0 e1 e11 hr
          rw [if_neg e11] at hv0
          have hx : iv σ (52 + 2 * t) i = -(nI (cs (T % 16))) := by
            rw [hv0]
            unfold cs
            by_cases e12 : T % 16 = 12
            · rw [if_pos e12, if_pos e12]; rfl
            · rw [if_neg e12, if_neg e12]
              by_cases e13 : T % 16 = 13
              · rw [if_pos e13, if_pos e13]; rfl
              · rw [if_neg e13, if_neg e13]
          rw [List.length_cons, List.length_cons] at hp
          rw [tf_two hc ht hl hlen (by omega) (by omega) ok1 (by omega) e11 hx hS]
          exact next _ (op2 (T % 16) x y :: r) (FK.sj σ _ _ _) (hS.tail.tail.push _) hr2 (by rw [List.length_cons]; omega)
end TU
