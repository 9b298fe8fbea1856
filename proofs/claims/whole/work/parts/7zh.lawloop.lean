section LLo
variable {N : Nat} {b : Nat → Nat} {t n w : Nat}
def LD (w : Nat) (τ τ' : Mm) : Prop := nn τ' = nn τ ∧ (∀ o, rv τ' o = rv τ o) ∧ (∀ o, o ≠ 63 → ¬ (65 ≤ o ∧ o ≤ 68) → o ≠ 72 → iv τ' o = iv τ o) ∧ iv τ' 63 1 = 0 ∧ iv τ' 63 2 = iv τ 63 2 ∧ (∀ i, i < 400 * w → iv τ' 65 i = iv τ 65 i) ∧ (∀ i, i < 48 * w → iv τ' 67 i = iv τ 67 i) ∧ ∀ i, i < w → iv τ' 68 i = iv τ 68 i
theorem LF.done {τ τ' : Mm} (h : LF w τ τ') : LD w τ (si τ' 63 1 0) := ⟨h.1, h.2.1, fun o q r s => by rw [iv_row _ _ _ q]; exact h.2.2.1 o q r s, by rw [iv_si, if_pos ⟨rfl, rfl⟩], by rw [iv_si, if_neg (by decide)]; exact h.2.2.2.1 2 (by decide), fun i hi => by rw [iv_row _ _ _ (by decide)]; exact h.2.2.2.2.1 i hi, fun i hi => by rw [iv_row _ _ _ (by decide)]; exact h.2.2.2.2.2.1 i hi, fun i hi => by rw [iv_row _ _ _ (by decide)]; exact h.2.2.2.2.2.2 i hi⟩
theorem LD.pre {a c d : Mm} (h : LF w a c) (g : LD w c d) : LD w a d := ⟨g.1.trans h.1, fun x => (g.2.1 x).trans (h.2.1 x), fun x q r s => (g.2.2.1 x q r s).trans (h.2.2.1 x q r s), g.2.2.2.1, g.2.2.2.2.1.trans (h.2.2.2.1 2 (by decide)), fun i hi => (g.2.2.2.2.2.1 i hi).trans (h.2.2.2.2.1 i hi), fun i hi => (g.2.2.2.2.2.2.1 i hi).trans (h.2.2.2.2.2.1 i hi), fun i hi => (g.2.2.2.2.2.2.2 i hi).trans (h.2.2.2.2.2.2 i hi)⟩
/-- a law's reading comes out alike -/
def LRes (w : Nat) (σ τ : Mm) (rc rm : Option (Int32 × Mm)) : Prop := (∃ σ' τ' F, rc = some (0, σ') ∧ rm = some (0, τ') ∧ RS (lwL w) σ σ' ∧ LD w τ τ' ∧ iv σ' 3 5 = F ∧ iv τ' 63 13 = F) ∨ ∃ σ' τ', rc = some (1, σ') ∧ rm = some (1, τ') ∧ RS (lwL w) σ σ' ∧ LD w τ τ' ∧ RelL σ' τ' w
theorem lstep (hN : 500 ≤ N) (hb : TP b t) (hw : w < 6) (cls : Cls) (σ τ : Mm) (k p fu fu' : Nat) (h12 : cls.length ≤ 12) (hcl : ∀ c ∈ cls, clWF c) (hC : LC σ b t n w k p (progC cls)) (hM : LM τ b t w k p (progM cls)) (hR : MR τ w cls) (h18 : iv τ 63 18 = nI cls.length) (hlk : (progC cls).length ≤ k) (hlm : (progM cls).length ≤ (progC cls).length) (hpu : pushes (progM cls) ≤ p) (hp : p ≤ 60)
    (nx : cls.length < 12 → ∀ (c : List Nat × Option (List Nat)) (s u : Mm) (k' p' : Nat), (∀ x ∈ cls ++ [c], clWF x) → LC s b t n w k' p' (progC (cls ++ [c])) → LM u b t w k' p' (progM (cls ++ [c])) → MR u w (cls ++ [c]) → iv u 63 18 = nI (cls ++ [c]).length → (progC (cls ++ [c])).length ≤ k' → (progM (cls ++ [c])).length ≤ (progC (cls ++ [c])).length → pushes (progM (cls ++ [c])) ≤ p' → p' ≤ 60 → LRes w s u (f_X3_reads_27 N fu 8 (51 + 2 * w) (nI (cls ++ [c]).length) s) ((f_X11_clauseHere N 63 u).bind (fun q8 => f_X11_readsAll_35 N fu' 63 q8.1 q8.2))) :
    LRes w σ τ (f_X3_reads_27 N (fu + 1) 8 (51 + 2 * w) (nI cls.length) σ) ((f_X11_clauseHere N 63 τ).bind (fun q8 => f_X11_readsAll_35 N (fu' + 1) 63 q8.1 q8.2)) := by
  have hc := hC.1.1
  obtain ⟨s1, s2⟩ := see_k (N := N) hN hb hC.1 hM.1
  obtain ⟨pt1, pt2, pt3, pt4, pt5⟩ := plt hb hC.1
  have hkn := hC.1.2.2.2
  obtain ⟨q, hq⟩ : ∃ q, q = pl b t k := ⟨_, rfl⟩
  have kind := e_kind (N := N) hb hc hC.1.2.1 hC.1.2.2.1 hC.1.2.2.2
  rw [← hq] at s1 s2 pt1 pt2 pt3 pt4 kind
  have k40 := tK_31 b t q
  obtain ⟨tq, htq⟩ : ∃ s, s = ps' τ q := ⟨_, rfl⟩
  rw [← htq] at s1 s2
  have hMq : LM tq b t w k p (progM cls) := by rw [htq]; exact LM.at hb hM pt1 (by rw [pt4, hq])
  have lfq : LF w τ tq := by rw [htq]; exact LF.f12 (Or.inl rfl)
  have posq : iv tq 63 12 = nI q := by rw [htq]; exact iv_ps _ _
  have mq := hMq.1.1
  have q18 : iv tq 63 18 = nI cls.length := by rw [htq, iv_si, if_neg (by decide)]; exact h18
  have f13 := hMq.1.2.2.1
  have isw : f_X11_isWord N 63 (1953854062 : Int64) tq = some (bi (tK b t q = 20 + 0), tq) := wordAt hN hb (w := (1953854062 : Int64)) (j := 0) rfl (by decide) pt1 pt4 mq hMq.1.2.1 posq
  have mh : f_X11_clauseHere N 63 τ = f_X11_clauseHere_74 N 63 (nI q) (0 : Int32) (bi (tK b t q = 20 + 0)) tq := by
    unfold f_X11_clauseHere
    rw [m_ob hM.1.1, Option.bind_some, s1, Option.bind_some]
    simp only []
    rw [m_gI mq, Option.bind_some, posq, m_gI mq, Option.bind_some, hMq.2.1, if_neg (show ¬ nI w = 6 from nIk (s := w) (k := 6) (by omega) (by decide) (by omega)), f_X11_clauseHere_24, if_pos rfl, m_ob mq, Option.bind_some, isw, Option.bind_some]
  have ch : f_X3_reads_27 N (fu + 1) 8 (51 + 2 * w) (nI cls.length) σ = if tK b t q = 20 then (if cls.length = 12 then f_X6_fails N 3 (nI 4) σ else CBd N (f_X3_reads_27 N fu) w (nI cls.length) (si σ 3 4 (nI (k + 1)))) else f_X6_fails N 3 (nI 0) σ := by
    rw [f_X3_reads_27, if_neg (show ¬ (12 : Int32) < nI cls.length by rw [show (12 : Int32) = nI 12 from rfl, nI_ltI (by decide) (by omega)]; omega), k_8_0 hc, Option.bind_some, k_o3 hc, Option.bind_some, kind, Option.bind_some]
    by_cases y : tK b t q = 20
    · rw [if_pos y, if_pos (show nI (tK b t q) = 20 by rw [y]; rfl)]
      by_cases z : cls.length = 12
      · rw [if_pos z, if_pos (show nI cls.length = 12 by rw [z]; rfl), k_8_0 hc, Option.bind_some, k_o3 hc, Option.bind_some, show (4 : Int32) = nI 4 from rfl, (lfail (N := N) hb hC (show 4 ≤ 7 by decide)).1, Option.bind_some]
        rfl
      · rw [if_neg z, if_neg (show ¬ nI cls.length = 12 from nIk (s := cls.length) (k := 12) (by omega) (by decide) z), k_8_0 hc, Option.bind_some, k_o3 hc, Option.bind_some, e_skip hc hC.1.2.2.1, Option.bind_some]
        rfl
    · rw [if_neg y, if_neg (show ¬ nI (tK b t q) = 20 from nIk (by omega) (by decide) y), k_8_0 hc, Option.bind_some, k_o3 hc, Option.bind_some, show (0 : Int32) = nI 0 from rfl, (lfail (N := N) hb hC (show 0 ≤ 7 by decide)).1, Option.bind_some]
      rfl
  have FF : ∀ (f : Nat) (rm : Option (Int32 × Mm)) (τ' : Mm), f ≤ 7 → rm = some (0, τ') → WFm τ' → LF w τ τ' → iv τ' 63 13 = flt q f → LRes w σ τ (f_X6_fails N 3 (nI f) σ) (rm.bind (fun q8 => f_X11_readsAll_35 N (fu' + 1) 63 q8.1 q8.2)) := by
    intro f rm τ' hf a1 a2 a3 a4
    obtain ⟨g1, g2, g3, g4⟩ := lfail (N := N) hb hC hf
    rw [← hq] at g1 g2 g3 g4
    left
    refine ⟨_, si τ' 63 1 0, flt q f, g1, ?_, g2, a3.done, g3, by rw [iv_si, if_neg (by decide)]; exact a4⟩
    rw [a1, Option.bind_some]
    exact bad35 a2 (by rw [a4]; exact g4)
  rw [ch, mh]
  by_cases K : tK b t q = 20
  · rw [if_pos K, bi_y (show tK b t q = 20 + 0 from K), f_X11_clauseHere_74, if_neg z1, m_gI mq, Option.bind_some, q18, if_pos rfl, f_X11_clauseHere_101]
    by_cases c12 : cls.length = 12
    · rw [if_pos c12, if_pos (show nI cls.length = 12 by rw [c12]; rfl)]
      refine FF 4 _ (si tq 63 13 (flt q 4)) (by decide) ?_ mq (lfq.tr (LF.f12 (Or.inr rfl))) (by rw [iv_si, if_pos ⟨rfl, rfl⟩])
      rw [m_ob mq, Option.bind_some, show (4 : Int32) = nI 4 from rfl, e_mfail mq f13, Option.bind_some]
      rfl
    · rw [if_neg c12, if_neg (show ¬ nI cls.length = 12 from nIk (s := cls.length) (k := 12) (by omega) (by decide) c12), m_gI mq, Option.bind_some, q18, nI_1, m_pI mq, Option.bind_some, if_pos rfl]
      obtain ⟨tL, hL⟩ : ∃ s, s = si tq 63 18 (nI (cls.length + 1)) := ⟨_, rfl⟩
      rw [← hL]
      have hML : LM tL b t w k p (progM cls) := by rw [hL]; exact hMq.f18
      have lfL : LF w τ tL := by rw [hL]; exact lfq.tr LF.f18
      have posL : iv tL 63 12 = nI (pl b t k) := by rw [hL, iv_si, if_neg (by decide), posq, hq]
      have hRL : MR tL w cls := by
        refine ⟨?_, ?_⟩
        · rw [hL, iv_row _ _ _ (by decide), htq, iv_row _ _ _ (by decide)]; exact hR.1
        · rw [hL, iv_row _ _ _ (by decide), htq, iv_row _ _ _ (by decide)]; exact hR.2
      have l18 : iv tL 63 18 = nI (cls.length + 1) := by rw [hL, iv_si, if_pos ⟨rfl, rfl⟩]
      rw [m_ob hML.1.1, Option.bind_some]
      rcases turnB hN hb hw (f_X3_reads_27 N fu) (nI cls.length) (by omega) (by rw [← hq]; exact K) hp hC hML posL hRL hlk hlm hpu with ⟨σ', τ', F, g1, g2, g3, g4, g5, g6, g7⟩ | ⟨c, k', p', σ', τ', d0, d1, d2, d3, d4, d5, d6, d7, d8, d9, d10, d11, d12, d13⟩
      · left
        refine ⟨σ', si τ' 63 1 0, F, g1, ?_, g3, LF.done (lfL.tr g4), g5, by rw [iv_si, if_neg (by decide)]; exact g6⟩
        rw [g2, Option.bind_some, if_pos (Or.inl rfl), Option.bind_some]
        exact bad35 (hML.1.1.rvc g4.1 g4.2.1) (by rw [g6]; exact g7)
      · have hcl' : ∀ x ∈ cls ++ [c], clWF x := fun x hx => by
          rcases List.mem_append.1 hx with e | e
          · exact hcl x e
          · rw [List.mem_singleton.1 e]; exact d0
        have len' : (cls ++ [c]).length = cls.length + 1 := by rw [List.length_append]; rfl
        have LF1 : LF w τ τ' := lfL.tr d4
        have hc1 := d6.1.1
        obtain ⟨v1, v2⟩ := see_k (N := N) hN hb d6.1 d7.1
        obtain ⟨ot1, ot2, ot3, ot4, ot5⟩ := plt hb d6.1
        have k'n := d6.1.2.2.2
        obtain ⟨r, hr⟩ : ∃ r, r = pl b t k' := ⟨_, rfl⟩
        have kind' := e_kind (N := N) hb hc1 d6.1.2.1 d6.1.2.2.1 d6.1.2.2.2
        obtain ⟨T1, T2⟩ := e_takes (N := N) hb (x := 4) (by decide) d6
        rw [← hr] at v1 v2 ot1 ot2 ot3 ot4 kind' T1 T2
        have r40 := tK_31 b t r
        have hMr : LM (ps' τ' r) b t w k' p' (progM (cls ++ [c])) := LM.at hb d7 ot1 (by rw [ot4, hr])
        have mr := hMr.1.1
        have LFr : LF w τ (ps' τ' r) := LF1.tr (LF.f12 (Or.inl rfl))
        have s59 := seen_sg (p := r) hb (show 59 < 128 by decide)
        have k59 := tK_sg hb (p := r) (c := 59) (k := 4) (by decide)
        rw [d1, d2, Option.bind_some, if_pos (Or.inr rfl), Option.bind_some, f_X11_readsAll_35, if_neg z1, m_ob d7.1.1, Option.bind_some, v1, Option.bind_some]
        simp only []
        unfold PST
        rw [k_8_0 hc1, Option.bind_some, k_o3 hc1, Option.bind_some, kind', Option.bind_some]
        by_cases K4 : tK b t r = 4
        · -- another clause
          have hb4 := k59.1 K4
          have tEr := tE_sg hb (c := 59) (k := 4) (by decide) hb4.2
          have hMn : LM (ps' τ' (r + 1)) b t w (k' + 1) p' (progM (cls ++ [c])) := LM.at hb d7 (by omega) (by rw [← tEr, hr]; rfl)
          have hRn : MR (ps' τ' (r + 1)) w (cls ++ [c]) := by
            refine ⟨?_, ?_⟩
            · rw [iv_row _ _ _ (by decide)]; exact d8.1
            · rw [iv_row _ _ _ (by decide)]; exact d8.2
          have key := nx (by omega) c (si σ' 3 4 (nI (k' + 1))) (ps' τ' (r + 1)) (k' + 1) p' hcl' (d6.skip (ot2 hb4.1)) hMn hRn (by rw [iv_si, if_neg (by decide), d5, l18, len']) (by omega) d11 d12 d13
          rw [if_neg (show ¬ nI (tK b t r) = 1 by rw [K4]; decide), k_o8 hc1, Option.bind_some, show f_X3_takes N 8 (4 : Int32) σ' = _ from T1 K4, Option.bind_some, if_neg z1, nI_1, if_pos (show seen b t r = 59 from s59.2 hb4), m_gI mr, Option.bind_some, iv_ps, nI_1, m_pI mr, Option.bind_some, show si (ps' τ' r) 63 12 (nI (r + 1)) = ps' τ' (r + 1) from si_si, m_ob hMn.1.1, Option.bind_some]
          simp only []
          rw [len'] at key
          have rr : RS (lwL w) σ (si σ' 3 4 (nI (k' + 1))) := d3.tr (rsL (by omega))
          have lr : LF w τ (ps' τ' (r + 1)) := LF1.tr (LF.f12 (Or.inl rfl))
          rcases key with ⟨s9, t9, F, z1', z2, z3, z4, z5⟩ | ⟨s9, t9, z1', z2, z3, z4, z5⟩
          · left; exact ⟨s9, t9, F, z1', z2, rr.tr z3, LD.pre lr z4, z5⟩
          · right; exact ⟨s9, t9, z1', z2, rr.tr z3, LD.pre lr z4, z5⟩
        · have n59 : ¬ seen b t r = 59 := fun z => K4 (k59.2 (s59.1 z))
          have m66 : f_X11_readsAll_66 N 63 (1 : Int32) (ps' τ' r) = if seen b t r = (-1 : Int32) then f_X11_readsAll_88 N 63 (1 : Int32) (ps' τ' r) else f_X11_readsAll_88 N 63 (0 : Int32) (si (ps' τ' r) 63 13 (flt r 0)) := by
            rw [f_X11_readsAll_66, if_neg z1, m_ob mr, Option.bind_some, v2, Option.bind_some]
            simp only []
            by_cases z : seen b t r = -1
            · rw [if_pos z, if_pos z]
            · rw [if_neg z, if_neg z, m_gI mr, Option.bind_some, iv_ps, m_ob mr, Option.bind_some, show f_X11_fails N 63 (0 : Int32) (nI r) (ps' τ' r) = some (0, si (ps' τ' r) 63 13 (flt r 0)) from e_mfail mr hMr.1.2.2.1, Option.bind_some]
          rw [if_neg n59, m66]
          by_cases K1 : tK b t r = 1
          · right
            have hrt := (tK_1 hb).1 K1
            obtain ⟨s2', y1, y2, y3, y4⟩ := e_lbecome (N := N) hw hc1 d6.2.2.2.1
            rw [if_pos (show nI (tK b t r) = 1 by rw [K1]; rfl), k_8_1 hc1, Option.bind_some, k_oL hc1 hw, Option.bind_some, y1, Option.bind_some, if_pos (show seen b t r = -1 from if_neg (by omega)), f_X11_readsAll_88, if_neg z1, m_gI mr, Option.bind_some, hMr.2.1, if_neg (show ¬ nI w = 6 from nIk (s := w) (k := 6) (by omega) (by decide) (by omega)), r118 mr, bi_y hMr.1.2.2.1]
            refine ⟨s2', si (ps' τ' r) 63 1 0, rfl, rfl, d3.tr y2, LFr.done, cls ++ [c], ⟨by omega, by omega, by omega, by omega, hcl'⟩, ⟨y3, fun i hi => by rw [y4 i (by omega)]; exact d6.2.2.2.2 i hi⟩, ?_, ?_, ?_⟩
            · rw [iv_row _ _ _ (by decide), iv_row _ _ _ (by decide)]; exact d8.1
            · rw [iv_row _ _ _ (by decide), iv_row _ _ _ (by decide)]; exact d7.2.2.2.2
            · rw [iv_row _ _ _ (by decide), iv_row _ _ _ (by decide)]; exact d8.2
          · left
            have hrt : r < t := by
              by_cases y : t ≤ r
              · exact absurd ((tK_1 hb).2 y) K1
              · omega
            have b256 := hb.2.1 r
            obtain ⟨g1, g2, g3, g4⟩ := lfail (N := N) hb d6 (show 0 ≤ 7 by decide)
            rw [← hr] at g1 g2 g3 g4
            rw [if_neg (show ¬ nI (tK b t r) = 1 from nIk (by omega) (by decide) K1), k_o8 hc1, Option.bind_some, show f_X3_takes N 8 (4 : Int32) σ' = _ from T2 K4, Option.bind_some, if_pos rfl, k_8_0 hc1, Option.bind_some, k_o3 hc1, Option.bind_some, show f_X6_fails N 3 (0 : Int32) σ' = _ from g1, Option.bind_some, if_neg (show ¬ seen b t r = -1 by rw [show seen b t r = nI (b r) from if_pos hrt]; exact nI_ne1 (by omega)), f_X11_readsAll_88, if_pos rfl, r118 (τ := si (ps' τ' r) 63 13 (flt r 0)) mr, bi_n (by rw [iv_si, if_pos ⟨rfl, rfl⟩]; exact g4), if_pos (Or.inl rfl)]
            exact ⟨_, _, flt r 0, rfl, rfl, d3.tr g2, LF.done (LFr.tr (LF.f12 (Or.inr rfl))), g3, by rw [iv_si, if_neg (by decide), iv_si, if_pos ⟨rfl, rfl⟩]⟩
  · rw [if_neg K, bi_n (show ¬ tK b t q = 20 + 0 from K), f_X11_clauseHere_74, if_pos rfl]
    refine FF 0 _ (si tq 63 13 (flt q 0)) (by decide) ?_ mq (lfq.tr (LF.f12 (Or.inr rfl))) (by rw [iv_si, if_pos ⟨rfl, rfl⟩])
    rw [m_ob mq, Option.bind_some, show f_X11_fails N 63 (0 : Int32) (nI q) tq = some (0, si tq 63 13 (flt q 0)) from e_mfail mq f13, Option.bind_some]
    rfl
theorem lloop (hN : 500 ≤ N) (hb : TP b t) (hw : w < 6) : ∀ d fu fu' (cls : Cls) σ τ k p, cls.length + d = 12 → d < fu → d < fu' → (∀ c ∈ cls, clWF c) → LC σ b t n w k p (progC cls) → LM τ b t w k p (progM cls) → MR τ w cls → iv τ 63 18 = nI cls.length → (progC cls).length ≤ k → (progM cls).length ≤ (progC cls).length → pushes (progM cls) ≤ p → p ≤ 60 →
    (∃ σ' τ' F, f_X3_reads_27 N fu 8 (51 + 2 * w) (nI cls.length) σ = some (0, σ') ∧ (f_X11_clauseHere N 63 τ).bind (fun q8 => f_X11_readsAll_35 N (fu' + 1) 63 q8.1 q8.2) = some (0, τ') ∧ RS (lwL w) σ σ' ∧ LD w τ τ' ∧ iv σ' 3 5 = F ∧ iv τ' 63 13 = F) ∨
    ∃ σ' τ', f_X3_reads_27 N fu 8 (51 + 2 * w) (nI cls.length) σ = some (1, σ') ∧ (f_X11_clauseHere N 63 τ).bind (fun q8 => f_X11_readsAll_35 N (fu' + 1) 63 q8.1 q8.2) = some (1, τ') ∧ RS (lwL w) σ σ' ∧ LD w τ τ' ∧ RelL σ' τ' w := by
  intro d
  induction d with
  | zero =>
    intro fu fu' cls σ τ k p h1 h2 h3 hcl hC hM hR h18 hlk hlm hpu hp
    obtain ⟨fu, rfl⟩ : ∃ q, fu = q + 1 := ⟨fu - 1, by omega⟩
    exact lstep hN hb hw cls σ τ k p fu fu' (by omega) hcl hC hM hR h18 hlk hlm hpu hp (fun h => by omega)
  | succ d ih =>
    intro fu fu' cls σ τ k p h1 h2 h3 hcl hC hM hR h18 hlk hlm hpu hp
    obtain ⟨fu, rfl⟩ : ∃ q, fu = q + 1 := ⟨fu - 1, by omega⟩
    obtain ⟨fu', rfl⟩ : ∃ q, fu' = q + 1 := ⟨fu' - 1, by omega⟩
    exact lstep hN hb hw cls σ τ k p fu (fu' + 1) (by omega) hcl hC hM hR h18 hlk hlm hpu hp (fun h c s u k' p' a1 a2 a3 a4 a5 a6 a7 a8 a9 => ih fu fu' (cls ++ [c]) s u k' p' (by rw [List.length_append]; show cls.length + 1 + d = 12; omega) (by omega) (by omega) a1 a2 a3 a4 a5 a6 a7 a8 a9)
end LLo
