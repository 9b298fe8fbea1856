section LW
variable {N : Nat} {b : Nat → Nat} {t n w : Nat}
/-- both have read so much -/
def OKL (w : Nat) (b : Nat → Nat) (t n k p m a : Nat) (σ τ : Mm) (cC : List Int32) (cM : List Nat) (rc rm : Option (Int32 × Mm)) : Prop := ∃ l k' p' σ' τ', rc = some (1, σ') ∧ rm = some (1, τ') ∧ RS (lwL w) σ σ' ∧ VF w τ τ' ∧ LC σ' b t n w k' p' (cC ++ l.map clT) ∧ LM τ' b t w k' p' (cM ++ l) ∧ k < k' ∧ l.length + k ≤ k' + (pm m).length + (pm a).length ∧ OVp m a l ∧ (∀ x ∈ l, okT x) ∧ p + pushes l ≤ p' ∧ p' ≤ 60
theorem sumL (hN : 500 ≤ N) (hb : TP b t) (hw : w < 6) : ∀ d k fu fu1 fu2 i p m a σ τ cC cM, n - k = d → d < fu → d < fu1 → d < fu2 → 2 * i ≤ k → p ≤ 60 → (m = 0 ∨ m = 4 ∨ m = 5) → (a = 0 ∨ a = 2 ∨ a = 3) → LC σ b t n w k p cC → LM τ b t w k p cM → cM.length ≤ cC.length → cC.length + 1 + (pm m).length + (pm a).length ≤ k →
    FLw w σ τ (f_X3_readsSum_6 N fu 8 (nI (cm m)) (nI (cm a)) (nI i) σ) (MV N fu1 fu2 m a τ) ∨ OKL w b t n k p m a σ τ cC cM (f_X3_readsSum_6 N fu 8 (nI (cm m)) (nI (cm a)) (nI i) σ) (MV N fu1 fu2 m a τ) := by
  intro d
  induction d using Nat.strongRecOn with
  | ind d ih =>
    intro k fu fu1 fu2 i p m a σ τ cC cM h1 h2 h3 h4 h5 h6 hm ha hC hM hl hlk
    obtain ⟨fu, rfl⟩ : ∃ q, fu = q + 1 := ⟨fu - 1, by omega⟩
    obtain ⟨fu1, rfl⟩ : ∃ q, fu1 = q + 1 := ⟨fu1 - 1, by omega⟩
    have n400 := (plt hb hC.1).2.2.2.2
    have hkn := hC.1.2.2.2
    have hm2 : m = 0 ∨ (2 ≤ m ∧ m ≤ 10) := by omega
    have ha2 : a = 0 ∨ (2 ≤ a ∧ a ≤ 10) := by omega
    have hcl : f_X3_readsSum_6 N (fu + 1) 8 (nI (cm m)) (nI (cm a)) (nI i) σ = (f_X3_readsValue N 8 σ).bind fun q4 =>
        if q4.1 = 0 then (
          some ((0 : Int32), q4.2)) else (
          (ob 3 q4.2 8).bind fun _ =>
          (f_X3_addIfThere N 8 (nI (cm m)) q4.2).bind fun q6 =>
          (gN 3 0 q6 8).bind fun a7 =>
          (ob 6 q6 a7).bind fun _ =>
          (f_X6_kind N a7 q6).bind fun q8 =>
          if q8.1 = (9 : Int32) then (
            f_X3_readsSum_50 N (f_X3_readsSum_6 N fu) 8 (nI (cm a)) (nI i) q8.1 q8.2) else (
            if q8.1 = (10 : Int32) then (
              f_X3_readsSum_50 N (f_X3_readsSum_6 N fu) 8 (nI (cm a)) (nI i) q8.1 q8.2) else (
              f_X3_readsSum_56 N (f_X3_readsSum_6 N fu) 8 (nI (cm a)) (nI i) q8.1 (0 : Int32) q8.2))) := by
      rw [f_X3_readsSum_6, if_neg (by rw [show (400 : Int32) = nI 400 from rfl]; exact nI_ge (by omega) (by decide)), k_o8 hC.1.1, Option.bind_some]
    rw [hcl]
    unfold MV
    rcases e_lval hN hb hw h6 hC hM (by omega) (by omega) with ⟨σ', τ', F, g1, g2, g3⟩ | ⟨v, s1, t1, hv, hp, hk, g1, g2, g3, g4, g5, g6⟩
    · left
      exact ⟨σ', τ', F, by rw [g1, Option.bind_some, if_pos rfl], by rw [g2, Option.bind_some, if_pos rfl], g3⟩
    have lC1 : (cC ++ [clT v]).length = cC.length + 1 := by rw [List.length_append]; rfl
    have lM1 : (cM ++ [v]).length = cM.length + 1 := by rw [List.length_append]; rfl
    obtain ⟨s2, a1, a2, a3⟩ := e_addIf (N := N) hw hm2 g5 (by omega)
    obtain ⟨t2, b1, b2, b3⟩ := e_put' (N := N) hw hm2 g6 (by omega)
    have lC2 : (cC ++ [clT v] ++ (pm m).map clT).length = cC.length + 1 + (pm m).length := by rw [List.length_append, lC1, List.length_map]
    have lM2 : (cM ++ [v] ++ pm m).length = cM.length + 1 + (pm m).length := by rw [List.length_append, lM1]
    have r2 : RS (lwL w) σ s2 := g3.tr a2
    have v2 : VF w τ t2 := g4.tr b2
    have kind := e_kind (N := N) hb a3.1.1 a3.1.2.1 a3.1.2.2.1 a3.1.2.2.2
    obtain ⟨pt1, pt2, pt3, pt4, pt5⟩ := plt hb a3.1
    obtain ⟨T1, T2, T3⟩ := term9 (N := N) (fu1 := fu1) (fu2 := fu2) (a := a) hN hb a3.1 b3.1
    have k40 := tK_31 b t (pl b t (k + 1))
    rw [g1, Option.bind_some, if_neg z1, k_o8 g5.1.1, Option.bind_some, a1, Option.bind_some, k_8_0 a3.1.1, Option.bind_some, k_o3 a3.1.1, Option.bind_some, kind, Option.bind_some, g2, Option.bind_some, if_neg z1, b1, Option.bind_some]
    -- one sign on
    have adv : ∀ {c kk : Nat}, (c, kk) ∈ ([(42, 9), (43, 7), (45, 8), (47, 10), (59, 4), (91, 5), (93, 6)] : List (Nat × Nat)) → tK b t (pl b t (k + 1)) = kk → k + 1 < n ∧ pl b t (k + 1) + 1 ≤ t ∧ skp b t (pl b t (k + 1) + 1) = pl b t (k + 2) := by
      intro c kk hck hK
      obtain ⟨q1, q2⟩ := (tK_sg hb hck).1 hK
      have e := tE_sg hb hck q2
      refine ⟨pt2 q1, by omega, ?_⟩
      rw [← e]; rfl
    have cont : ∀ (m' cc kk : Nat), (m' = 4 ∨ m' = 5) → (cc, kk) ∈ ([(42, 9), (43, 7), (45, 8), (47, 10), (59, 4), (91, 5), (93, 6)] : List (Nat × Nat)) → tK b t (pl b t (k + 1)) = kk → kk = 5 + m' → FLw w σ τ (f_X3_readsSum_50 N (f_X3_readsSum_6 N fu) 8 (nI (cm a)) (nI i) (nI kk) s2) (MV N fu1 fu2 m' a (ps' t2 (pl b t (k + 1) + 1))) ∨ OKL w b t n k p m a σ τ cC cM (f_X3_readsSum_50 N (f_X3_readsSum_6 N fu) 8 (nI (cm a)) (nI i) (nI kk) s2) (MV N fu1 fu2 m' a (ps' t2 (pl b t (k + 1) + 1))) := by
      intro m' cc kk hm' hck hK hkk
      obtain ⟨q1, q2, q3⟩ := adv hck hK
      have ce : f_X3_readsSum_50 N (f_X3_readsSum_6 N fu) 8 (nI (cm a)) (nI i) (nI kk) s2 = f_X3_readsSum_6 N fu 8 (nI (cm m')) (nI (cm a)) (nI (i + 1)) (si s2 3 4 (nI (k + 1 + 1))) := by
        rw [f_X3_readsSum_50, f_X3_readsSum_56, if_neg (show ¬ nI kk = 0 from nIk (s := kk) (k := 0) (by omega) (by decide) (by omega)), f_X3_readsSum_85, k_8_0 a3.1.1, Option.bind_some, k_o3 a3.1.1, Option.bind_some, e_skip a3.1.1 a3.1.2.2.1, Option.bind_some, nI_1, show nI (cm m') = nI kk by rw [hkk]; unfold cm; rw [if_neg (by omega)]]
      rw [ce]
      have lp : (pm m').length = 1 := by unfold pm; rw [if_neg (by omega)]; rfl
      rcases ih (n - (k + 2)) (by omega) (k + 2) fu fu1 fu2 (i + 1) (p + 1) m' a (si s2 3 4 (nI (k + 1 + 1))) (ps' t2 (pl b t (k + 1) + 1)) _ _ rfl (by omega) (by omega) (by omega) (by omega) (by omega) (by omega) ha (a3.skip q1) (LM.at hb b3 q2 q3) (by omega) (by omega) with hF | ⟨l, k', p', σ', τ', o1, o2, o3, o4, o5, o6, o7, o8, o9, o10, o11, o12⟩
      · left
        exact hF.pre (r2.tr (rsL (by omega))) (v2.tr (VF.fld (by decide))) rfl rfl
      · right
        refine ⟨v :: (pm m ++ l), k', p', σ', τ', o1, o2, (r2.tr (rsL (by omega))).tr o3, (v2.tr (VF.fld (by decide))).tr o4, by simpa [List.map_append, List.append_assoc] using o5, by simpa [List.append_assoc] using o6, by omega, ?_, OVp.cont hv.2 hm2 (by omega) o9, ?_, ?_, o12⟩
        · rw [List.length_cons, List.length_append]; omega
        · intro x hx
          rcases List.mem_cons.1 hx with e | e
          · rw [e]; exact hv.1
          · rcases List.mem_append.1 e with e | e
            · exact (pm_ok hm2).1 x e
            · exact o10 x e
        · rw [pushes_cons, if_pos hv.2, pushes_app, (pm_ok hm2).2]; omega
    by_cases K9 : tK b t (pl b t (k + 1)) = 9
    · rw [if_pos (show nI (tK b t (pl b t (k + 1))) = 9 by rw [K9]; rfl), T1 K9, K9]
      exact cont 4 42 9 (Or.inl rfl) (by decide) K9 rfl
    rw [if_neg (show ¬ nI (tK b t (pl b t (k + 1))) = 9 from nIk (by omega) (by decide) K9)]
    by_cases K10 : tK b t (pl b t (k + 1)) = 10
    · rw [if_pos (show nI (tK b t (pl b t (k + 1))) = 10 by rw [K10]; rfl), T2 K10, K10]
      exact cont 5 47 10 (Or.inr rfl) (by decide) K10 rfl
    rw [if_neg (show ¬ nI (tK b t (pl b t (k + 1))) = 10 from nIk (by omega) (by decide) K10), T3 K9 K10]
    obtain ⟨s3, c1, c2, c3⟩ := e_addIf (N := N) hw ha2 a3 (by omega)
    have b3q : LM (ps' t2 (pl b t (k + 1))) b t w (k + 1) (p + 1) (cM ++ [v] ++ pm m) := LM.at hb b3 pt1 (by rw [pt4])
    obtain ⟨t3, d1, d2, d3⟩ := e_put' (N := N) hw ha2 b3q (by omega)
    have lC3 : (cC ++ [clT v] ++ (pm m).map clT ++ (pm a).map clT).length = cC.length + 1 + (pm m).length + (pm a).length := by rw [List.length_append, lC2, List.length_map]
    have lM3 : (cM ++ [v] ++ pm m ++ pm a).length = cM.length + 1 + (pm m).length + (pm a).length := by rw [List.length_append, lM2]
    have r3 : RS (lwL w) σ s3 := r2.tr c2
    have v3 : VF w τ t3 := (v2.tr (VF.fld (by decide))).tr d2
    obtain ⟨fu2, rfl⟩ : ∃ q, fu2 = q + 1 := ⟨fu2 - 1, by omega⟩
    obtain ⟨S1, S2, S3⟩ := sum9 (N := N) (fu2 := fu2) hN hb c3.1 d3.1
    rw [d1, Option.bind_some, f_X3_readsSum_56, if_pos rfl, k_o8 a3.1.1, Option.bind_some, c1, Option.bind_some]
    have plus : ∀ (a' cc kk : Nat), (a' = 2 ∨ a' = 3) → (cc, kk) ∈ ([(42, 9), (43, 7), (45, 8), (47, 10), (59, 4), (91, 5), (93, 6)] : List (Nat × Nat)) → tK b t (pl b t (k + 1)) = kk → kk = 5 + a' → FLw w σ τ (f_X3_readsSum_85 N (f_X3_readsSum_6 N fu) 8 (0 : Int32) (nI kk) (nI i) s3) (MV N N fu2 0 a' (ps' t3 (pl b t (k + 1) + 1))) ∨ OKL w b t n k p m a σ τ cC cM (f_X3_readsSum_85 N (f_X3_readsSum_6 N fu) 8 (0 : Int32) (nI kk) (nI i) s3) (MV N N fu2 0 a' (ps' t3 (pl b t (k + 1) + 1))) := by
      intro a' cc kk ha' hck hK hkk
      obtain ⟨q1, q2, q3⟩ := adv hck hK
      have ce : f_X3_readsSum_85 N (f_X3_readsSum_6 N fu) 8 (0 : Int32) (nI kk) (nI i) s3 = f_X3_readsSum_6 N fu 8 (nI (cm 0)) (nI (cm a')) (nI (i + 1)) (si s3 3 4 (nI (k + 1 + 1))) := by
        rw [f_X3_readsSum_85, k_8_0 c3.1.1, Option.bind_some, k_o3 c3.1.1, Option.bind_some, e_skip c3.1.1 c3.1.2.2.1, Option.bind_some, nI_1, show nI (cm a') = nI kk by rw [hkk]; unfold cm; rw [if_neg (by omega)]]
        rfl
      rw [ce]
      have lp : (pm a').length = 1 := by unfold pm; rw [if_neg (by omega)]; rfl
      have l0 : (pm 0).length = 0 := rfl
      rcases ih (n - (k + 2)) (by omega) (k + 2) fu N fu2 (i + 1) (p + 1) 0 a' (si s3 3 4 (nI (k + 1 + 1))) (ps' t3 (pl b t (k + 1) + 1)) _ _ rfl (by omega) (by omega) (by omega) (by omega) (by omega) (Or.inl rfl) (by omega) (c3.skip q1) (LM.at hb d3 q2 q3) (by omega) (by omega) with hF | ⟨l, k', p', σ', τ', o1, o2, o3, o4, o5, o6, o7, o8, o9, o10, o11, o12⟩
      · left
        exact hF.pre (r3.tr (rsL (by omega))) (v3.tr (VF.fld (by decide))) rfl rfl
      · right
        refine ⟨v :: (pm m ++ (pm a ++ l)), k', p', σ', τ', o1, o2, (r3.tr (rsL (by omega))).tr o3, (v3.tr (VF.fld (by decide))).tr o4, by simpa [List.map_append, List.append_assoc] using o5, by simpa [List.append_assoc] using o6, by omega, ?_, OVp.plus hv.2 hm2 ha2 (by omega) o9, ?_, ?_, o12⟩
        · rw [List.length_cons, List.length_append, List.length_append]; omega
        · intro x hx
          rcases List.mem_cons.1 hx with e | e
          · rw [e]; exact hv.1
          · rcases List.mem_append.1 e with e | e
            · exact (pm_ok hm2).1 x e
            · rcases List.mem_append.1 e with e | e
              · exact (pm_ok ha2).1 x e
              · exact o10 x e
        · rw [pushes_cons, if_pos hv.2, pushes_app, pushes_app, (pm_ok hm2).2, (pm_ok ha2).2]; omega
    by_cases K7 : tK b t (pl b t (k + 1)) = 7
    · rw [if_pos (show nI (tK b t (pl b t (k + 1))) = 7 by rw [K7]; rfl), S1 K7, K7]
      exact plus 2 43 7 (Or.inl rfl) (by decide) K7 rfl
    rw [if_neg (show ¬ nI (tK b t (pl b t (k + 1))) = 7 from nIk (by omega) (by decide) K7)]
    by_cases K8 : tK b t (pl b t (k + 1)) = 8
    · rw [if_pos (show nI (tK b t (pl b t (k + 1))) = 8 by rw [K8]; rfl), S2 K8, K8]
      exact plus 3 45 8 (Or.inr rfl) (by decide) K8 rfl
    rw [if_neg (show ¬ nI (tK b t (pl b t (k + 1))) = 8 from nIk (by omega) (by decide) K8), S3 K7 K8]
    right
    refine ⟨v :: (pm m ++ pm a), k + 1, p + 1, s3, ps' t3 (pl b t (k + 1)), rfl, rfl, r3, v3.tr (VF.fld (by decide)), by simpa [List.map_append, List.append_assoc] using c3, by
      have := LM.at hb d3 pt1 (show skp b t (pl b t (k + 1)) = pl b t (k + 1) by rw [pt4])
      simpa [List.append_assoc] using this, by omega, ?_, OVp.fin hv.2 hm2 ha2, ?_, ?_, by omega⟩
    · rw [List.length_cons, List.length_append]; omega
    · intro x hx
      rcases List.mem_cons.1 hx with e | e
      · rw [e]; exact hv.1
      · rcases List.mem_append.1 e with e | e
        · exact (pm_ok hm2).1 x e
        · exact (pm_ok ha2).1 x e
    · have e1 : pushes (v :: (pm m ++ pm a)) = 1 := by rw [pushes_cons, if_pos hv.2, pushes_app, (pm_ok hm2).2, (pm_ok ha2).2]
      omega
theorem e_sum (hN : 500 ≤ N) (hb : TP b t) (hw : w < 6) {k p : Nat} {σ τ : Mm} {cC : List Int32} {cM : List Nat} (hp : p ≤ 60) (hC : LC σ b t n w k p cC) (hM : LM τ b t w k p cM) (hl : cM.length ≤ cC.length) (hlk : cC.length + 1 ≤ k) : FLw w σ τ (f_X3_readsSum N 8 σ) (f_X11_sum N 63 τ) ∨ OKL w b t n k p 0 0 σ τ cC cM (f_X3_readsSum N 8 σ) (f_X11_sum N 63 τ) := by
  have n400 := (plt hb hC.1).2.2.2.2
  have e : f_X11_sum N 63 τ = MV N N N 0 0 τ := by
    unfold f_X11_sum f_X11_term MV TC
    have hm := hM.1.1
    rw [m_ob hm, Option.bind_some, Option.bind_some]
    cases e : f_X11_value N 63 τ with
    | none => rfl
    | some v =>
      rw [Option.bind_some, Option.bind_some]
      by_cases z : v.1 = 0
      · rw [if_pos z, if_pos z, Option.bind_some, if_pos rfl]
      · rw [if_neg z, if_neg z, show PUT N 0 v.2 = some v.2 from rfl, Option.bind_some]
        cases e3 : f_X11_term_9 N N 63 v.2 with
        | none => rfl
        | some v => rfl
  rw [e]
  exact sumL hN hb hw (n - k) k N N N 0 p 0 0 σ τ cC cM rfl (by omega) (by omega) (by omega) (by omega) hp (Or.inl rfl) (Or.inl rfl) hC hM hl (by show cC.length + 1 + 0 + 0 ≤ k; omega)
end LW
