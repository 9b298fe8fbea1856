/-! the class's tokens -/
section TO
variable {N : Nat} {b : Nat → Nat} {t : Nat}
theorem RS.ct {l : List Nat} {σ σ' : Mm} (h : RS l σ σ') (hl : ∀ x ∈ l, 3 ≤ x) (hT : CT σ b t) : CT σ' b t := by
  refine ⟨?_, fun i hi => ?_⟩
  · rw [h.2.2 1 (fun e => by have := hl _ e; omega)]; exact hT.1
  · rw [h.2.2 2 (fun e => by have := hl _ e; omega)]; exact hT.2 i hi
theorem tK_lt {p : Nat} (hp : p < t) : tK b t p = if dg (b p) then 3 else if lt' (b p) then wK b t p else if wd' b p then sK (b p) + (if b p = 60 then 1 else 0) - (if b p = 62 then 1 else 0) else sK (b p) := if_neg (by omega)
theorem tV_lt {p : Nat} (hp : p < t) : tV b t p = if dg (b p) then nV b p (dE b t p - p) else 0 := if_neg (by omega)
theorem e_cutOne {σ : Mm} {k : Nat} (hN : 500 ≤ N) (hb : TP b t) (hc : WFc σ) (hT : CT σ b t) (hK : CK σ b t k) (hk : k ≤ 400) {p : Nat} (hp : p < t) : (b p = 32 → f_X6_cutOne N 3 1 (nI p) σ = some (nI (p + 1), σ)) ∧ (pl b t k = p → b p ≠ 32 → ∃ σ', f_X6_cutOne N 3 1 (nI p) σ = some (nI (tE b t p), σ') ∧ RS cutL σ σ' ∧ CK σ' b t (k + 1) ∧ iv σ' 3 4 = iv σ 3 4) := by
  have h4 := hb.1
  have b256 := hb.2.1 p
  constructor
  · intro h
    rw [f_X6_cutOne, k_o1 hc, Option.bind_some, e_at hb hc hT (by omega), Option.bind_some, h, if_pos (show nI 32 = 32 from rfl), nI_1]
  · intro hpl h32
    obtain ⟨σ', f1, f2, f3, f4⟩ := hK.add (N := N) hc hk
    rw [hpl] at f1
    refine ⟨σ', ?_, f2, f3, f4⟩
    rw [f_X6_cutOne, k_o1 hc, Option.bind_some, e_at hb hc hT (by omega), Option.bind_some, if_neg (show ¬ nI (b p) = 32 from nIk (by omega) (by decide) h32), e_isDg b256, Option.bind_some]
    rw [tK_lt hp, tV_lt hp] at f1
    unfold tE
    cases d : dg (b p)
    · rw [d] at f1
      simp only [Bool.false_eq_true, if_false] at f1 ⊢
      rw [bi_n (by decide), if_pos rfl, e_isLt b256, Option.bind_some]
      cases l : lt' (b p)
      · rw [l] at f1
        simp only [Bool.false_eq_true, if_false] at f1 ⊢
        rw [bi_n (by decide), if_pos rfl, k_o3 hc, Option.bind_some]
        unfold f_X6_cutSign
        rw [k_o1 hc, Option.bind_some, e_at hb hc hT (by omega), Option.bind_some, sK_c _ b256, Option.bind_some]
        have sk : sK (b p) < 16 := by
          unfold sK
          (repeat' split) <;> omega
        have s11 : (sK (b p) = 11) ↔ b p = 60 := by
          unfold sK
          constructor
          · intro h
            by_cases q : b p = 60
            · exact q
            · rw [if_neg q] at h
              repeat (split at h; · omega)
              omega
          · intro h; rw [h]; rfl
        have s15 : (sK (b p) = 15) ↔ b p = 62 := by
          unfold sK
          constructor
          · intro h
            by_cases q : b p = 62
            · exact q
            · rw [if_neg q] at h
              repeat (split at h; · omega)
              omega
          · intro h; rw [h]; rfl
        simp only [f_X6_cutOne_52]
        have plain : wd' b p = false → (f_X6_cutSign_37 N 3 (nI p) (nI (sK (b p))) σ).bind (fun q7 => some (q7.1, q7.2)) = some (nI (if wd' b p = true then p + 2 else p + 1), σ') := by
          intro w
          rw [w] at f1
          simp only [Bool.false_eq_true, if_false] at f1
          rw [f_X6_cutSign_37, f_X6_cutSign_38, if_pos rfl, f_X6_cutSign_59, k_o3 hc, Option.bind_some, f1, Option.bind_some, if_pos rfl, f_X6_cutSign_80, Option.bind_some, nI_1, w]
          rfl
        have wide : ∀ x, (x = 60 ∨ x = 62) → b p = x → (f_X6_cutSign_21 N 3 1 (nI p) (nI (sK (b p))) σ).bind (fun q7 => some (q7.1, q7.2)) = some (nI (if wd' b p = true then p + 2 else p + 1), σ') := by
          intro x hx hbx
          rw [f_X6_cutSign_21, k_o1 hc, Option.bind_some, nI_1, e_at hb hc hT (by omega), Option.bind_some]
          have hb1 := hb.2.1 (p + 1)
          by_cases q : b (p + 1) = 61
          · have w : wd' b p = true := by unfold wd'; rcases hx with hx | hx <;> simp [hbx, hx, q]
            rw [w] at f1
            simp only [if_true] at f1
            rw [if_pos (show nI (b (p + 1)) = 61 by rw [q]; rfl), f_X6_cutSign_38, if_neg z1]
            rcases hx with hx | hx
            · rw [hbx, hx] at f1 ⊢
              rw [if_pos (show nI (sK 60) = 11 from rfl), f_X6_cutSign_58, f_X6_cutSign_59, k_o3 hc, Option.bind_some, show (12 : Int32) = nI (sK 60 + (if 60 = 60 then 1 else 0) - (if 60 = 62 then 1 else 0)) from rfl, f1, Option.bind_some, if_neg z1, f_X6_cutSign_80, Option.bind_some, w, if_pos rfl, show (2 : Int32) = nI 2 from rfl, nI_add]
            · rw [hbx, hx] at f1 ⊢
              rw [if_neg (show ¬ nI (sK 62) = 11 by decide), f_X6_cutSign_58, f_X6_cutSign_59, k_o3 hc, Option.bind_some, show (14 : Int32) = nI (sK 62 + (if 62 = 60 then 1 else 0) - (if 62 = 62 then 1 else 0)) from rfl, f1, Option.bind_some, if_neg z1, f_X6_cutSign_80, Option.bind_some, w, if_pos rfl, show (2 : Int32) = nI 2 from rfl, nI_add]
          · rw [if_neg (show ¬ nI (b (p + 1)) = 61 from nIk (by omega) (by decide) q)]
            exact plain (by unfold wd'; simp [q])
        by_cases q1 : sK (b p) = 11
        · rw [if_pos (show nI (sK (b p)) = 11 by rw [q1]; rfl)]
          exact wide 60 (Or.inl rfl) (s11.1 q1)
        · rw [if_neg (show ¬ nI (sK (b p)) = 11 from nIk (by omega) (by decide) q1)]
          by_cases q2 : sK (b p) = 15
          · rw [if_pos (show nI (sK (b p)) = 15 by rw [q2]; rfl)]
            exact wide 62 (Or.inr rfl) (s15.1 q2)
          · rw [if_neg (show ¬ nI (sK (b p)) = 15 from nIk (by omega) (by decide) q2)]
            exact plain (by
              unfold wd'
              rw [decide_eq_false (fun z => q1 (s11.2 z)), decide_eq_false (fun z => q2 (s15.2 z))]
              rfl)
      · rw [l] at f1
        simp only [if_true] at f1 ⊢
        rw [bi_y trivial, if_neg z1, k_o3 hc, Option.bind_some]
        obtain ⟨g1, g2, _⟩ := rE_spec lt0 hb (t - p) p rfl
        have g2 : lE b t p ≤ t := g2 (by omega)
        have g1 : p ≤ lE b t p := g1
        have e1 := cwrd (N := N) hb hp hc hT (lE b t p - p) 0 N (by omega) (by omega)
        have e2 := cwk (N := N) (by omega) hb hc hT hp 16 0 N (by omega) (by omega)
        unfold f_X6_cutWord
        rw [show f_X6_cutWord_5 N N 3 1 (nI p) (nI p) 0 σ = f_X6_cutWord_33 N 3 1 (nI p) (nI (lE b t p)) σ from e1, f_X6_cutWord_33, show f_X6_wordKind N 1 (nI p) (nI (lE b t p)) σ = some (nI (wK b t p), σ) from e2, Option.bind_some, k_o3 hc, Option.bind_some, f1, Option.bind_some, Option.bind_some, f_X6_cutOne_52]
    · rw [d] at f1
      simp only [if_true] at f1 ⊢
      rw [bi_y trivial, if_neg z1, k_o3 hc, Option.bind_some]
      obtain ⟨g1, g2, _⟩ := rE_spec dg0 hb (t - p) p rfl
      have g2 : dE b t p ≤ t := g2 (by omega)
      have g1 : p ≤ dE b t p := g1
      have e1 := cnum (N := N) hb hp hc hT (dE b t p - p) 0 N (by omega) (by omega)
      unfold f_X6_cutNumber
      rw [show f_X6_cutNumber_8 N N 3 1 (nI p) (nI p) 0 0 σ = f_X6_cutNumber_63 N 3 (nI p) (nI (dE b t p)) (nV b p (dE b t p - p)) σ from e1, f_X6_cutNumber_63, k_o3 hc, Option.bind_some, show (3 : Int32) = nI 3 from rfl, f1, Option.bind_some, Option.bind_some]
theorem cut19 (hN : 500 ≤ N) (hb : TP b t) : ∀ d p i k fu σ, t - p = d → d < fu → p ≤ t → i ≤ p → skp b t p = pl b t k → (∀ j, j < k → pl b t j < t) → WFc σ → CT σ b t → CK σ b t k → ∃ n σ', f_X6_cut_19 N fu 3 1 (nI p) (nI i) σ = some σ' ∧ RS cutL σ σ' ∧ CK σ' b t (n + 1) ∧ pl b t n = t ∧ (∀ j, j < n → pl b t j < t) ∧ iv σ' 3 4 = iv σ 3 4 := by
  have h4 := hb.1
  intro d
  induction d using Nat.strongRecOn with
  | ind d ih =>
    intro p i k fu σ h1 h2 hp hi hpl hj hc hT hK
    obtain ⟨fu, rfl⟩ : ∃ q, fu = q + 1 := ⟨fu - 1, by omega⟩
    have hkp := (pl_le hb k hj).1
    have hkt := (pl_le hb k hj).2.1
    by_cases q : p < t
    · have hk : k ≤ 400 := by omega
      obtain ⟨o1, o2⟩ := e_cutOne hN hb hc hT hK hk q
      rw [f_X6_cut_19, if_neg (by rw [show (400 : Int32) = nI 400 from rfl]; exact nI_ge (by omega) (by decide)), k_i1 hc, Option.bind_some, hT.1, if_neg (nI_ge q (by omega)), k_o3 hc, Option.bind_some]
      by_cases h32 : b p = 32
      · rw [o1 h32, Option.bind_some, nI_1]
        exact ih (t - (p + 1)) (by omega) (p + 1) (i + 1) k fu σ rfl (by omega) (by omega) (by omega) ((rE_y sp0 hb (by unfold sp'; exact decide_eq_true h32)).1.symm.trans hpl) hj hc hT hK
      · have hpk : pl b t k = p := by rw [← hpl]; exact rE_n (by unfold sp'; exact decide_eq_false h32)
        obtain ⟨s1, f1, f2, f3, f4⟩ := o2 hpk h32
        obtain ⟨e1, e2⟩ := tE_sp hb q
        obtain ⟨n, σ', g1, g2, g3⟩ := ih (t - tE b t p) (by omega) (tE b t p) (i + 1) (k + 1) fu s1 rfl (by omega) e2 (by omega) (by show _ = skp b t (tE b t (pl b t k)); rw [hpk]) (fun j hj' => by
          by_cases e : j = k
          · rw [e, hpk]; exact q
          · exact hj j (by omega)) (f2.wc hc) (f2.ct (by decide) hT) f3
        refine ⟨n, σ', ?_, f2.tr g2, g3.1, g3.2.1, g3.2.2.1, g3.2.2.2.trans f4⟩
        rw [f1, Option.bind_some, nI_1]
        exact g1
    · have hpt : p = t := by omega
      have hlast : pl b t k = t := by
        rw [← hpl, hpt]
        exact rE_n (by rw [hb.2.2 t (Nat.le_refl _)]; rfl)
      obtain ⟨σ', f1, f2, f3, f4⟩ := hK.add (N := N) hc (by omega)
      rw [hlast, show tK b t t = 1 from if_pos (Nat.le_refl _), show tV b t t = 0 from if_pos (Nat.le_refl _)] at f1
      refine ⟨k, σ', ?_, f2, f3, hlast, hj, f4⟩
      have e47 : f_X6_cut_47 N 3 1 σ = some σ' := by
        rw [f_X6_cut_47, k_i1 hc, Option.bind_some, hT.1, k_o3 hc, Option.bind_some, show (1 : Int32) = nI 1 from rfl, f1, Option.bind_some]
      rw [f_X6_cut_19]
      by_cases z : (400 : Int32) ≤ nI i
      · rw [if_pos z, e47]
      · rw [if_neg z, k_i1 hc, Option.bind_some, hT.1, if_pos (nI_le (by omega) (by omega)), e47]
/-- what a reader has before it -/
def TK (σ : Mm) (b : Nat → Nat) (t n : Nat) : Prop := CK σ b t (n + 1) ∧ pl b t n = t ∧ ∀ j, j < n → pl b t j < t
theorem e_cut (hN : 500 ≤ N) {σ : Mm} (hb : TP b t) (hc : WFc σ) (hT : CT σ b t) : ∃ n σ', f_X6_cut N 3 1 σ = some σ' ∧ RS cutL σ σ' ∧ TK σ' b t n ∧ iv σ' 3 4 = nI 0 := by
  have h4 := hb.1
  obtain ⟨s1, e1⟩ : ∃ s, s = si (si (si σ 3 3 0) 3 4 0) 3 5 0 := ⟨_, rfl⟩
  have r1 : RS cutL σ s1 := by rw [e1]; exact (((RO.si 3 _ _ _).rs (by decide)).tr ((RO.si 3 _ _ _).rs (by decide))).tr ((RO.si 3 _ _ _).rs (by decide))
  obtain ⟨n, σ', f1, f2, f3, f4, f5, f6⟩ := cut19 (N := N) hN hb (t - 0) 0 0 0 N s1 rfl (by omega) (Nat.zero_le _) (Nat.le_refl _) rfl (fun j hj => absurd hj (Nat.not_lt_zero _)) (r1.wc hc) (r1.ct (by decide) hT) ⟨by rw [e1, iv_si, if_neg (by decide), iv_si, if_neg (by decide), iv_si, if_pos ⟨rfl, rfl⟩]; rfl, fun j hj => absurd hj (Nat.not_lt_zero _)⟩
  refine ⟨n, σ', ?_, r1.tr f2, ⟨f3, f4, f5⟩, ?_⟩
  · unfold f_X6_cut
    rw [k_p3 hc, Option.bind_some, k_p3 (show WFc (si σ 3 3 0) from hc), Option.bind_some, k_p3 (show WFc (si (si σ 3 3 0) 3 4 0) from hc), Option.bind_some, ← e1]
    exact f1
  · rw [f6, e1, iv_si, if_neg (by decide), iv_si, if_pos ⟨rfl, rfl⟩]; rfl
theorem TK.n4 {σ : Mm} {n : Nat} (hb : TP b t) (h : TK σ b t n) : n ≤ t ∧ n ≤ 400 := by
  have := (pl_le hb n h.2.2).1
  have := h.2.1
  have := hb.1
  omega
theorem TK.cong {σ σ' : Mm} {n : Nat} (h : TK σ b t n) (e3 : iv σ' 3 3 = iv σ 3 3) (e4 : iv σ' 4 = iv σ 4) (e5 : iv σ' 5 = iv σ 5) (e6 : iv σ' 6 = iv σ 6) : TK σ' b t n := by
  refine ⟨⟨e3.trans h.1.1, ?_⟩, h.2⟩
  rw [e4, e5, e6]; exact h.1.2
theorem e_kind {σ : Mm} {n k : Nat} (hb : TP b t) (hc : WFc σ) (hT : TK σ b t n) (hk : iv σ 3 4 = nI k) (hkn : k ≤ n) : f_X6_kind N 3 σ = some (nI (tK b t (pl b t k)), σ) := by
  have h4 := hT.n4 hb
  unfold f_X6_kind f_X6_kind_40 f_X6_kind_41
  rw [k_i3 hc, Option.bind_some, hk, if_neg (nI_pos (by omega)), Option.bind_some, k_i3 hc, Option.bind_some, hT.1.1, if_neg (nI_ge (by omega) (by omega)), Option.bind_some, if_neg (by rw [show (400 : Int32) = nI 400 from rfl, nI_ltI (by decide) (by omega)]; omega), k_3_0 hc, Option.bind_some, Option.bind_some, k_aI hc (a := 4) (n := 401) (c := k) (by decide) rfl rfl (by omega) (by decide), Option.bind_some, (hT.1.2 k (by omega)).1]
theorem e_tval {σ : Mm} {n k : Nat} (hb : TP b t) (hc : WFc σ) (hT : TK σ b t n) (hk : iv σ 3 4 = nI k) (hkn : k ≤ n) : f_X6_value N 3 σ = some (tV b t (pl b t k), σ) := by
  have h4 := hT.n4 hb
  unfold f_X6_value f_X6_value_40 f_X6_value_41
  rw [k_i3 hc, Option.bind_some, hk, if_neg (nI_pos (by omega)), Option.bind_some, k_i3 hc, Option.bind_some, hT.1.1, if_neg (nI_ge (by omega) (by omega)), Option.bind_some, if_neg (by rw [show (400 : Int32) = nI 400 from rfl, nI_ltI (by decide) (by omega)]; omega), k_3_2 hc, Option.bind_some, Option.bind_some, k_aI hc (a := 6) (n := 401) (c := k) (by decide) rfl rfl (by omega) (by decide), Option.bind_some, (hT.1.2 k (by omega)).2.2]
/-- a FAULT, as both tell it -/
def flt (p w : Nat) : Int32 := nI (1 + 8 * p + w)
theorem e_tfail {σ : Mm} {n k w : Nat} (hb : TP b t) (hc : WFc σ) (hT : TK σ b t n) (hk : iv σ 3 4 = nI k) (hkn : k ≤ n) : f_X6_fails N 3 (nI w) σ = some (0, si σ 3 5 (flt (pl b t k) w)) := by
  have h4 := hT.n4 hb
  unfold f_X6_fails f_X6_fails_40 f_X6_fails_41
  rw [k_i3 hc, Option.bind_some, hk, if_neg (nI_pos (by omega)), Option.bind_some, k_i3 hc, Option.bind_some, hT.1.1, if_neg (nI_ge (by omega) (by omega)), Option.bind_some, if_neg (by rw [show (400 : Int32) = nI 400 from rfl, nI_ltI (by decide) (by omega)]; omega), k_3_1 hc, Option.bind_some, Option.bind_some, k_aI hc (a := 5) (n := 401) (c := k) (by decide) rfl rfl (by omega) (by decide), Option.bind_some, (hT.1.2 k (by omega)).2.1, k_p3 hc, Option.bind_some, show (1 : Int32) = nI 1 from rfl, i8, pk_mul, nI_add, nI_add]
  rfl
theorem e_skip {σ : Mm} {k : Nat} (hc : WFc σ) (hk : iv σ 3 4 = nI k) : f_X6_skip N 3 σ = some (si σ 3 4 (nI (k + 1))) := by
  unfold f_X6_skip
  rw [k_i3 hc, Option.bind_some, hk, nI_1, k_p3 hc, Option.bind_some]
end TO
