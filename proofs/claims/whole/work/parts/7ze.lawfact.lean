section LFa
variable {N : Nat} {b : Nat → Nat} {t n w : Nat}
theorem e_opens {τ : Mm} {k p q x : Nat} {cM st : List Nat} (hx : x = 11 ∨ x = 91) (hM : LM τ b t w k p cM) (hS : SK τ st) (hl : st.length < 400) (hd : dp st ≤ 10) (hpos : iv τ 63 12 = nI q) : (dp st = 10 → f_X11_opens N 63 (nI x) τ = some (0, si τ 63 13 (flt q 2))) ∧ (dp st < 10 → ∃ τ', f_X11_opens N 63 (nI x) τ = some (1, τ') ∧ SF w τ τ' ∧ LM τ' b t w k p cM ∧ SK τ' (x :: st) ∧ iv τ' 63 12 = nI q) := by
  have hm := hM.1.1
  unfold f_X11_opens
  constructor
  · intro e
    rw [m_gI hm, Option.bind_some, hS.2.1, if_pos (show nI (dp st) = 10 by rw [e]; rfl), m_gI hm, Option.bind_some, hpos, m_ob hm, Option.bind_some, show (2 : Int32) = nI 2 from rfl, e_mfail hm hM.1.2.2.1, Option.bind_some]
    rfl
  · intro e
    refine ⟨si (si (si τ 63 17 (nI (dp st + 1))) 72 st.length (nI x)) 63 20 (nI (st.length + 1)), ?_, (SF.fld (by decide)).tr (SF.row.tr (SF.fld (by decide))), ((hM.stk (Or.inl rfl)).r72).stk (Or.inr rfl), hS.push _ (by rw [dp_cons, if_pos hx, Nat.add_comm]), by rw [iv_si, if_neg (by decide), iv_row _ _ _ (by decide), iv_si, if_neg (by decide)]; exact hpos⟩
    have m1 : WFm (si τ 63 17 (nI (dp st + 1))) := hm
    have m2 : WFm (si (si τ 63 17 (nI (dp st + 1))) 72 st.length (nI x)) := hm
    rw [m_gI hm, Option.bind_some, hS.2.1, if_neg (show ¬ nI (dp st) = 10 from nIk (s := dp st) (k := 10) (by omega) (by decide) (by omega)), Option.bind_some, nI_1, m_pI hm, Option.bind_some, m_g19 m1, Option.bind_some, m_gI m1, Option.bind_some, iv_si, if_neg (show ¬ (63 = 63 ∧ 20 = 17) by decide), hS.1, m_sI m1 (a := 72) (n := 400) (c := st.length) (by decide) rfl rfl hl (by decide), Option.bind_some, m_gI m2, Option.bind_some, iv_row _ _ _ (show 63 ≠ 72 by decide), iv_si, if_neg (show ¬ (63 = 63 ∧ 20 = 17) by decide), hS.1, nI_1, m_pI m2, Option.bind_some]
theorem factD (hN : 500 ≤ N) (hb : TP b t) (hw : w < 6) : ∀ D, FactP N b t n w D := by
  intro D
  induction D using Nat.strongRecOn with
  | ind D IH =>
    intro dep k p σ τ cC cM st fu n' hd hD hC hM hS ho hdp hp hl hlk hfu hn'
    obtain ⟨D, rfl⟩ : ∃ q, D = q + 1 := ⟨D - 1, by omega⟩
    obtain ⟨n', rfl⟩ : ∃ q, n' = q + 1 := ⟨n' - 1, by omega⟩
    have hc := hC.1.1
    obtain ⟨s1, s2⟩ := see_k (N := N) hN hb hC.1 hM.1
    obtain ⟨pt1, pt2, pt3, pt4, pt5⟩ := plt hb hC.1
    have hkn := hC.1.2.2.2
    obtain ⟨q, hq⟩ : ∃ q, q = pl b t k := ⟨_, rfl⟩
    have kind := e_kind (N := N) hb hc hC.1.2.1 hC.1.2.2.1 hC.1.2.2.2
    rw [← hq] at s1 s2 pt1 pt2 pt3 pt4 kind
    have k40 := tK_31 b t q
    obtain ⟨tq, htq⟩ : ∃ s, s = ps' τ q := ⟨_, rfl⟩
    rw [← htq] at s1 s2
    have hMq : LM tq b t w k p cM := by rw [htq]; exact LM.at hb hM pt1 (by rw [pt4, hq])
    have hSq : SK tq st := by rw [htq]; exact hS.vf (w := w) (VF.fld (by decide))
    have sfq : SF w τ tq := by rw [htq]; exact SF.fld (by decide)
    have posq : iv tq 63 12 = nI q := by rw [htq]; exact iv_ps _ _
    have mq := hMq.1.1
    have wA : ∀ {v : Int64} {j : Nat}, v = lN (wp j) → j < 16 → f_X11_isWord N 63 v tq = some (bi (tK b t q = 20 + j), tq) := fun hw hj => wordAt hN hb hw hj pt1 pt4 mq hMq.1.2.1 posq
    obtain ⟨op1, op2⟩ := e_opens (N := N) (x := 11) (Or.inl rfl) hMq hSq (by omega) (by omega) posq
    obtain ⟨ob1, ob2⟩ := e_opens (N := N) (x := 91) (Or.inr rfl) hMq hSq (by omega) (by omega) posq
    have hft : f_FT (D + 1) true N 8 (nI dep) σ = f_X3_readsFact N (f_FT D true N) (f_FT D false N) 8 (nI dep) σ := rfl
    rw [hft]
    unfold f_X3_readsFact
    rw [k_8_0 hc, Option.bind_some, k_o3 hc, Option.bind_some, kind, Option.bind_some]
    have eh : EE N (n' + 1) fu τ = (if bi (tK b t q = 20 + 4) = 0 then (
          if seen b t q = (91 : Int32) then (
            (f_X11_opens N 63 (91 : Int32) tq).bind fun q7 =>
            if q7.1 = 0 then (
              some ((0 : Int32), q7.2)) else (
              (gI 11 12 q7.2 63).bind fun x9 =>
              (pI 11 12 q7.2 63 (x9 + (1 : Int32))).bind fun s10 =>
              f_X11_fact_72 N (f_X11_fact_2 N n') 63 (1 : Int32) s10)) else (
            f_X11_fact_72 N (f_X11_fact_2 N n') 63 (0 : Int32) tq)) else (
          (f_X11_opens N 63 (11 : Int32) tq).bind fun q11 =>
          if q11.1 = 0 then (
            some ((0 : Int32), q11.2)) else (
            (ob 11 q11.2 63).bind fun _ =>
            (f_X11_passWord N 63 q11.2).bind fun q13 =>
            f_X11_fact_72 N (f_X11_fact_2 N n') 63 (1 : Int32) q13))).bind fun q8 => if q8.1 = 0 then some ((0 : Int32), q8.2) else (ob 11 q8.2 63).bind fun _ => (f_X11_closes N 63 q8.2).bind fun q10 => RST N fu q10 := by
      unfold EE
      rw [f_X11_fact_2, if_neg z1, m_ob hM.1.1, Option.bind_some, s1, Option.bind_some]
      simp only []
      rw [m_ob mq, Option.bind_some, wA (v := (7237492 : Int64)) (j := 4) rfl (by decide), Option.bind_some]
      by_cases y : bi (tK b t q = 20 + 4) = 0
      · rw [if_pos y, if_pos y]
        by_cases z : seen b t q = 91
        · rw [if_pos z, if_pos z]; simp only []; rw [m_ob mq, Option.bind_some]
        · rw [if_neg z, if_neg z]
      · rw [if_neg y, if_neg y]; simp only []; rw [m_ob mq, Option.bind_some]
    rw [eh]
    have deep : dep = 10 → ∀ l2 : Int32, f_X3_readsFact_24 N (f_FT D true N) (f_FT D false N) 8 (nI dep) l2 σ = some (0, si σ 3 5 (flt q 2)) := by
      intro e l2
      rw [f_X3_readsFact_24, if_neg (show ¬ nI dep < 10 by rw [e]; decide), k_8_0 hc, Option.bind_some, k_o3 hc, Option.bind_some, show (2 : Int32) = nI 2 from rfl, (lfail (N := N) hb hC (show 2 ≤ 7 by decide)).1, Option.bind_some, ← hq]
      rfl
    have FD : ∀ (τ' : Mm) (rm : Option (Int32 × Mm)), rm = some (0, τ') → SF w τ τ' → iv τ' 63 13 = flt q 2 → FS' w σ τ (some (0, si σ 3 5 (flt q 2))) rm := by
      intro τ' rm a1 a2 a3
      obtain ⟨g1, g2, g3, g4⟩ := lfail (N := N) hb hC (show 2 ≤ 7 by decide)
      rw [← hq] at g1 g2 g3 g4
      exact ⟨_, τ', flt q 2, rfl, a1, g2, a2, g3, a3, g4⟩
    by_cases K24 : tK b t q = 24
    · -- not
      rw [if_pos (show nI (tK b t q) = 24 by rw [K24]; rfl), bi_y (show tK b t q = 20 + 4 from K24), if_neg z1]
      by_cases d10 : dep = 10
      · left
        rw [deep d10]
        refine FD (si tq 63 13 (flt q 2)) _ ?_ (sfq.tr (SF.fld (by decide))) (by rw [iv_si, if_pos ⟨rfl, rfl⟩])
        rw [show f_X11_opens N 63 (11 : Int32) tq = _ from op1 (by omega), Option.bind_some, if_pos rfl, Option.bind_some, if_pos rfl]
      · obtain ⟨t1, a1, a2, a3, a4, a5⟩ := op2 (by omega)
        obtain ⟨w1, w2, w3⟩ := tK_wd hb (p := q) (by omega)
        have hkn' := pt2 w1
        have pw := e_pass (N := N) hN hb pt1 a3.1.1 a3.1.2.1 a5
        rw [← w3] at pw
        have hM2 : LM (ps' t1 (tE b t q)) b t w (k + 1) p cM := LM.at hb a3 (tE_sp hb w1).2 (by rw [hq]; rfl)
        have hS2 : SK (ps' t1 (tE b t q)) (11 :: st) := a4.vf (w := w) (VF.fld (by decide))
        have sf2 : SF w τ (ps' t1 (tE b t q)) := sfq.tr (a2.tr (SF.fld (by decide)))
        have me : ((f_X11_opens N 63 (11 : Int32) tq).bind fun q11 =>
          if q11.1 = 0 then (
            some ((0 : Int32), q11.2)) else (
            (ob 11 q11.2 63).bind fun _ =>
            (f_X11_passWord N 63 q11.2).bind fun q13 =>
            f_X11_fact_72 N (f_X11_fact_2 N n') 63 (1 : Int32) q13)) = f_X11_fact_2 N n' 63 (1 : Int32) (ps' t1 (tE b t q)) := by
          rw [show f_X11_opens N 63 (11 : Int32) tq = _ from a1, Option.bind_some, if_neg z1, m_ob a3.1.1, Option.bind_some, pw, Option.bind_some, f_X11_fact_72]
        rw [me]
        have ce : f_X3_readsFact_24 N (f_FT D true N) (f_FT D false N) 8 (nI dep) (nI (tK b t q)) σ = (f_FT D true N 8 (nI (dep + 1)) (si σ 3 4 (nI (k + 1)))).bind fun q12 =>
            if q12.1 = 0 then (
              some ((0 : Int32), q12.2)) else (
              (gN 3 1 q12.2 8).bind fun a14 =>
              (ob 2 q12.2 a14).bind fun _ =>
              (f_X2_add N a14 (-24 : Int32) q12.2).bind fun q15 =>
              some ((1 : Int32), q15)) := by
          rw [f_X3_readsFact_24, if_pos (show nI dep < 10 by rw [show (10 : Int32) = nI 10 from rfl]; exact nI_lt (by omega) (by decide)), k_8_0 hc, Option.bind_some, k_o3 hc, Option.bind_some, e_skip hc hC.1.2.2.1, Option.bind_some, if_pos (show nI (tK b t q) = 24 by rw [K24]; rfl), k_o8 (show WFc (si σ 3 4 (nI (k + 1))) from hc), Option.bind_some, nI_1]
        rw [ce]
        rcases IH D (by omega) (dep + 1) (k + 1) p (si σ 3 4 (nI (k + 1))) (ps' t1 (tE b t q)) cC cM (11 :: st) fu n' (by omega) (by omega) (hC.skip hkn') hM2 hS2 (by
            intro y hy
            rcases List.mem_cons.1 hy with e | e
            · exact Or.inl e
            · exact ho y e) (by rw [dp_cons, if_pos (Or.inl rfl)]; omega) hp hl (by rw [List.length_cons]; omega) (by omega) (by omega) with ⟨σ', τ', F, g1, g2, g3⟩ | ⟨l, k', p', σ', τ', fu', n2, g1, g2, g3, g4, g5, g6, g7, g8, g9, g10, g11, g12, g13, g14, g15⟩
        · left
          exact FS'.pre ⟨σ', τ', F, rfl, g2, g3⟩ (rsL (by omega)) sf2 (by rw [g1, Option.bind_some, if_pos rfl]) rfl
        · right
          have k'n := g5.1.2.2.2
          have lC : (cC ++ l.map clT).length = cC.length + l.length := by rw [List.length_append, List.length_map]
          obtain ⟨s5, b1, b2, b3⟩ := e_ladd (N := N) (x := -24) hw g5 (by omega)
          refine ⟨l ++ [11], k', p', s5, τ', fu', n2, ?_, g2, (rsL (by omega)).tr (g3.tr b2), sf2.tr g4, ?_, ?_, ?_, by omega, ?_, g10.not, ?_, ?_, g13, g14, g15⟩
          · rw [g1, Option.bind_some, if_neg z1, gN81 g5, Option.bind_some, k_o83 g5.1.1, Option.bind_some, b1, Option.bind_some]
          · rw [List.map_append, ← List.append_assoc]; exact b3
          · rw [List.takeWhile_cons_of_pos (p := pw' 3) (by decide)] at g6
            simpa [List.append_assoc] using g6
          · rw [List.dropWhile_cons_of_pos (p := pw' 3) (by decide)] at g7
            exact g7
          · rw [List.length_append]; show l.length + 1 + k ≤ k'; omega
          · intro x hx
            rcases List.mem_append.1 hx with e | e
            · exact g11 x e
            · rw [List.mem_singleton.1 e]; exact ⟨by decide, by decide, by decide⟩
          · rw [pushes_app, show pushes [11] = 0 from rfl]; omega
    rw [if_neg (show ¬ nI (tK b t q) = 24 from nIk (by omega) (by decide) K24), bi_n (show ¬ tK b t q = 20 + 4 from K24), if_pos rfl]
    have e91 := seen_sg (p := q) hb (show 91 < 128 by decide)
    have k91 := tK_sg hb (p := q) (c := 91) (k := 5) (by decide)
    by_cases K5 : tK b t q = 5
    · -- [
      have hq91 := k91.1 K5
      have hkn' := pt2 hq91.1
      rw [if_pos (show nI (tK b t q) = 5 by rw [K5]; rfl), if_pos (show seen b t q = 91 from e91.2 hq91)]
      by_cases d10 : dep = 10
      · left
        rw [deep d10]
        refine FD (si tq 63 13 (flt q 2)) _ ?_ (sfq.tr (SF.fld (by decide))) (by rw [iv_si, if_pos ⟨rfl, rfl⟩])
        rw [show f_X11_opens N 63 (91 : Int32) tq = _ from ob1 (by omega), Option.bind_some, if_pos rfl, Option.bind_some, if_pos rfl]
      · obtain ⟨t1, a1, a2, a3, a4, a5⟩ := ob2 (by omega)
        have tEq := tE_sg hb (c := 91) (k := 5) (by decide) hq91.2
        have hM2 : LM (ps' t1 (q + 1)) b t w (k + 1) p cM := LM.at hb a3 (by omega) (by rw [← tEq, hq]; rfl)
        have hS2 : SK (ps' t1 (q + 1)) (91 :: st) := a4.vf (w := w) (VF.fld (by decide))
        have sf2 : SF w τ (ps' t1 (q + 1)) := sfq.tr (a2.tr (SF.fld (by decide)))
        have me : ((f_X11_opens N 63 (91 : Int32) tq).bind fun q7 =>
            if q7.1 = 0 then (
              some ((0 : Int32), q7.2)) else (
              (gI 11 12 q7.2 63).bind fun x9 =>
              (pI 11 12 q7.2 63 (x9 + (1 : Int32))).bind fun s10 =>
              f_X11_fact_72 N (f_X11_fact_2 N n') 63 (1 : Int32) s10)) = f_X11_fact_2 N n' 63 (1 : Int32) (ps' t1 (q + 1)) := by
          rw [show f_X11_opens N 63 (91 : Int32) tq = _ from a1, Option.bind_some, if_neg z1, m_gI a3.1.1, Option.bind_some, a5, nI_1, m_pI a3.1.1, Option.bind_some, f_X11_fact_72]
        rw [me]
        obtain ⟨D, rfl⟩ : ∃ d', D = d' + 1 := ⟨D - 1, by omega⟩
        have ce : f_X3_readsFact_24 N (f_FT (D + 1) true N) (f_FT (D + 1) false N) 8 (nI dep) (nI (tK b t q)) σ = (f_X3_readsTest_7 N (f_FT D true N) N 8 (nI (dep + 1)) (nI 0) (nI 0) (nI 0) (si σ 3 4 (nI (k + 1)))).bind fun q5 =>
            if q5.1 = 0 then (
              some ((0 : Int32), q5.2)) else (
              (ob 3 q5.2 8).bind fun _ =>
              (f_X3_takes N 8 (6 : Int32) q5.2).bind fun q7 =>
              if q7.1 = 0 then (
                (gN 3 0 q7.2 8).bind fun a9 =>
                (ob 6 q7.2 a9).bind fun _ =>
                (f_X6_fails N a9 (0 : Int32) q7.2).bind fun q10 =>
                if q10.1 = 0 then (
                  f_X3_readsFact_112 N (f_FT (D + 1) true N) (f_FT (D + 1) false N) (0 : Int32) q10.2) else (
                  f_X3_readsFact_107 N (f_FT (D + 1) true N) (f_FT (D + 1) false N) q10.2)) else (
                f_X3_readsFact_107 N (f_FT (D + 1) true N) (f_FT (D + 1) false N) q7.2)) := by
          rw [f_X3_readsFact_24, if_pos (show nI dep < 10 by rw [show (10 : Int32) = nI 10 from rfl]; exact nI_lt (by omega) (by decide)), k_8_0 hc, Option.bind_some, k_o3 hc, Option.bind_some, e_skip hc hC.1.2.2.1, Option.bind_some, if_neg (show ¬ nI (tK b t q) = 24 by rw [K5]; decide), k_o8 (show WFc (si σ 3 4 (nI (k + 1))) from hc), Option.bind_some, nI_1]
          rfl
        rw [ce]
        have hob : oks (91 :: st) := by
          intro y hy
          rcases List.mem_cons.1 hy with e | e
          · exact Or.inr (Or.inr (Or.inr e))
          · exact ho y e
        have hba : bas (91 :: st) := Or.inr ⟨st, rfl⟩
        have lb : (91 :: st).length = st.length + 1 := rfl
        rcases testL (D := D) (dep := dep + 1) (base := 91 :: st) hN hb hw (IH D (by omega)) (by omega) (by omega) hba hob (by rw [dp_cons, if_pos (Or.inr rfl)]; omega) (n - (k + 1)) (k + 1) p 0 0 0 N fu n' (si σ 3 4 (nI (k + 1))) (ps' t1 (q + 1)) cC cM rfl (by omega) (by omega) (by omega) (by omega) (by decide) (by decide) hp (hC.skip hkn') hM2 hS2 hl (by rw [lb]; omega) with ⟨σ', τ', F, g1, g2, g3⟩ | ⟨l0, an, or, k', p', σ', τ', fu', n2, x1, x2, x3, x4, x5, x6, x7, x8, x9, x10, x11, x12, x13, x14, x15, x16, x17, x18, x19⟩
        · left
          exact FS'.pre ⟨σ', τ', F, rfl, g2, g3⟩ (rsL (by omega)) sf2 (by rw [g1, Option.bind_some, if_pos rfl]) rfl
        have k'n := x7.1.2.2.2
        obtain ⟨ll, hll⟩ : ∃ ll, ll = l0 ++ ff an or := ⟨_, rfl⟩
        rw [← hll] at x7 x13 x14 x15 x16
        have lll : ll.length = l0.length + (an + or) := by rw [hll, List.length_append, ff_len an or x1 x2]
        have lM8 : (cM ++ l0).length = cM.length + l0.length := by rw [List.length_append]
        have ok9 := ff_ok x1 x2 hob
        have l9 : (ff an or ++ 91 :: st).length = an + or + (st.length + 1) := by rw [List.length_append, ff_len an or x1 x2]; rfl
        have in9 : 91 ∈ ff an or ++ 91 :: st := (ff_in x1 x2 hba).2 (by simp)
        obtain ⟨T1, T2⟩ := e_takes (N := N) hb (x := 6) (by decide) x7
        obtain ⟨n2, rfl⟩ : ∃ d', n2 = d' + 1 := ⟨n2 - 1, by omega⟩
        obtain ⟨fu', rfl⟩ : ∃ d', fu' = d' + 1 := ⟨fu' - 1, by omega⟩
        have mx : ((f_X11_fact_2 N n' 63 (1 : Int32) (ps' t1 (q + 1))).bind fun q8 => if q8.1 = 0 then some ((0 : Int32), q8.2) else (ob 11 q8.2 63).bind fun _ => (f_X11_closes N 63 q8.2).bind fun q10 => RST N fu q10) = CL' N (n2 + 1) (fu' + 1) τ' := x4
        rw [x3, Option.bind_some, if_neg z1, k_o8 x7.1.1, Option.bind_some, mx]
        by_cases K6 : tK b t (pl b t k') = 6
        · -- ]
          right
          obtain ⟨v1, v2⟩ := see_k (N := N) hN hb x7.1 x8.1
          obtain ⟨ot1, ot2, ot3, ot4, ot5⟩ := plt hb x7.1
          have k93 := (tK_sg hb (p := pl b t k') (c := 93) (k := 6) (by decide)).1 K6
          have hMr : LM (ps' τ' (pl b t k')) b t w k' p' (cM ++ l0) := LM.at hb x8 ot1 (by rw [ot4])
          have hSr : SK (ps' τ' (pl b t k')) (ff an or ++ 91 :: st) := x9.vf (w := w) (VF.fld (by decide))
          obtain ⟨t3, c1, c2, c3, c4, c5⟩ := e_settlep (N := N) (l := 1) hN hw (by decide) ok9 hMr hSr (by omega)
          rw [(ff1 x1 x2 hba).1] at c3
          rw [(ff1 x1 x2 hba).2] at c4
          obtain ⟨t4, f4⟩ : ∃ s, s = si (si t3 63 20 (nI st.length)) 63 17 (nI dep) := ⟨_, rfl⟩
          have hM4 : LM t4 b t w k' p' (cM ++ l0 ++ ff an or) := by rw [f4]; exact (c3.stk (Or.inr rfl)).stk (Or.inl rfl)
          have i12 : iv t4 63 12 = nI (pl b t k') := by
            rw [f4, iv_si, if_neg (by decide), iv_si, if_neg (by decide), c5]
            exact iv_ps _ _
          have hS4 : SK t4 st := by
            rw [f4]
            refine ⟨by rw [iv_si, if_neg (by decide), iv_si, if_pos ⟨rfl, rfl⟩], by rw [iv_si, if_pos ⟨rfl, rfl⟩, hdp], fun i hi => ?_⟩
            rw [iv_row _ _ _ (by decide), iv_row _ _ _ (by decide), c4.2.2 i (by rw [lb]; omega), lb, show st.length + 1 - 1 - i = (st.length - 1 - i) + 1 by omega]
            rfl
          have tE6 := tE_sg hb (c := 93) (k := 6) (by decide) k93.2
          have hM5 : LM (ps' t4 (pl b t k' + 1)) b t w (k' + 1) p' (cM ++ l0 ++ ff an or) := LM.at hb hM4 (by omega) (by rw [← tE6]; rfl)
          have hS5 : SK (ps' t4 (pl b t k' + 1)) st := hS4.vf (w := w) (VF.fld (by decide))
          have lM5 : (cM ++ l0 ++ ff an or).length = cM.length + l0.length + (an + or) := by rw [List.length_append, lM8, ff_len an or x1 x2]
          obtain ⟨t6, d1, d2, d3, d4⟩ := e_settle (N := N) (l := 3) hN hw (by decide) ho hM5 hS5 (by omega)
          have x13' : ll.length + (k + 1) ≤ k' := by omega
          refine ⟨ll, k' + 1, p', si σ' 3 4 (nI (k' + 1)), t6, fu' + 1, n2, ?_, ?_, (rsL (by omega)).tr (x5.tr (rsL (by omega))), sf2.tr (x6.tr ((SF.fld (by decide)).tr (c2.tr ((by rw [f4]; exact (SF.fld (by decide)).tr (SF.fld (by decide)) : SF w t3 t4).tr ((SF.fld (by decide)).tr d2))))), x7.skip (ot2 k93.1), ?_, d4, by omega, by omega, x14.ov, x15, x16, x17, by omega, by omega⟩
          · rw [show f_X3_takes N 8 (6 : Int32) σ' = _ from T1 K6, Option.bind_some, if_neg z1, f_X3_readsFact_107, f_X3_readsFact_112, if_pos (Or.inr rfl)]
          · unfold CL'
            rw [f_X11_closes_5, m_ob x8.1.1, Option.bind_some, v1, Option.bind_some]
            simp only []
            have m4' : WFm (si t3 63 20 (nI st.length)) := c3.1.1
            rw [if_pos (show seen b t (pl b t k') = 93 from (seen_sg hb (by decide)).2 k93), m_ob hMr.1.1, Option.bind_some, (e_inside hN hMr.1.1 ok9 hSr (by omega)).1 in9, Option.bind_some, if_neg z1, m_ob hMr.1.1, Option.bind_some, show f_X11_settles N 63 (1 : Int32) (ps' τ' (pl b t k')) = some t3 from c1, Option.bind_some, m_gI c3.1.1, Option.bind_some, c4.1, lb, show (1 : Int32) = nI 1 from rfl, pk_sub (by omega), show st.length + 1 - 1 = st.length by omega, m_pI c3.1.1, Option.bind_some, m_gI m4', Option.bind_some, iv_si, if_neg (show ¬ (63 = 63 ∧ 17 = 20) by decide), c4.2.1, dp_cons, if_pos (Or.inr rfl), pk_sub (by omega), show 1 + dp st - 1 = dep by omega, m_pI m4', Option.bind_some, ← f4, m_gI hM4.1.1, Option.bind_some, i12, nI_add, m_pI hM4.1.1, Option.bind_some, m_ob hM5.1.1, Option.bind_some, show f_X11_settles N 63 (3 : Int32) (ps' t4 (pl b t k' + 1)) = some t6 from d1, Option.bind_some]
          · rw [hll]
            simpa [List.append_assoc] using d3
        · -- no ]
          left
          obtain ⟨c1, c2, c3⟩ := clNo (N := N) (n2 := n2) (fu := fu' + 1) hN hb x7.1 x8 x9 ok9 (by omega) (Or.inl K6)
          have rn := rstNo (N := N) (fu := fu' + 1) hN hb x7.1 c2 (iv_ps _ _) x10 x11
          obtain ⟨v1, v2⟩ := see_k (N := N) hN hb x7.1 x8.1
          obtain ⟨z1', z2, z3, z4⟩ := lfail (N := N) hb x7 (show 0 ≤ 7 by decide)
          refine ⟨si σ' 3 5 (flt (pl b t k') 0), si (ps' τ' (pl b t k')) 63 13 (flt (pl b t k') 0), flt (pl b t k') 0, ?_, ?_, (rsL (by omega)).tr (x5.tr z2), sf2.tr (x6.tr ((SF.fld (by decide)).tr (SF.fld (by decide)))), z3, by rw [iv_si, if_pos ⟨rfl, rfl⟩], z4⟩
          · rw [show f_X3_takes N 8 (6 : Int32) σ' = _ from T2 K6, Option.bind_some, if_pos rfl, k_8_0 x7.1.1, Option.bind_some, k_o3 x7.1.1, Option.bind_some, show f_X6_fails N 3 (0 : Int32) σ' = _ from z1', Option.bind_some, if_pos rfl, f_X3_readsFact_112, if_pos (Or.inl rfl)]
          · rw [c1, rn, f_X11_tested_12, if_pos rfl, m_ob c2.1.1, Option.bind_some, (e_inside hN c2.1.1 ok9 c3 (by omega)).1 in9, Option.bind_some, if_neg z1, m_ob c2.1.1, Option.bind_some, v2, Option.bind_some]
            simp only []
            rw [m_gI c2.1.1, Option.bind_some, iv_ps, m_ob c2.1.1, Option.bind_some, show f_X11_fails N 63 (0 : Int32) (nI (pl b t k')) (ps' τ' (pl b t k')) = some (0, si (ps' τ' (pl b t k')) 63 13 (flt (pl b t k') 0)) from e_mfail c2.1.1 c2.1.2.2.1, Option.bind_some]
            rfl
    · -- a comparison
      obtain ⟨n', rfl⟩ : ∃ d', n' = d' + 1 := ⟨n' - 1, by omega⟩
      have n91 : ¬ seen b t q = 91 := fun z => K5 (k91.2 (e91.1 z))
      rw [if_neg (show ¬ nI (tK b t q) = 5 from nIk (by omega) (by decide) K5), k_o8 hc, Option.bind_some, if_neg n91, f_X11_fact_72, f_X11_fact_2, if_pos rfl, m_ob mq, Option.bind_some]
      rcases e_cmp hN hb hw hp hC hMq hl (by omega) with ⟨σ', τ', F, g1, g2, g3, g4, g5⟩ | ⟨l, k', p', σ', τ', o1, o2, o3, o4, o5, o6, o7, o8, o9, o10, o11, o12⟩
      · left
        refine ⟨σ', τ', F, ?_, ?_, g3, sfq.tr g4.sf, g5⟩
        · rw [g1, Option.bind_some]; rfl
        · rw [g2, Option.bind_some, if_pos (Or.inl rfl), Option.bind_some, if_pos rfl]
      · right
        have k'n := o5.1.2.2.2
        have o8' : l.length + k ≤ k' := o8
        have lM : (cM ++ l).length = cM.length + l.length := by rw [List.length_append]
        have hS1 : SK τ' st := hSq.vf o4
        obtain ⟨t2, a1, a2, a3, a4⟩ := e_settle (N := N) (l := 3) hN hw (by decide) ho o6 hS1 (by omega)
        refine ⟨l, k', p', σ', t2, fu, N, ?_, ?_, o3, sfq.tr (o4.sf.tr a2), o5, a3, a4, o7, o8', o9.ov, o10, o11, o12, by omega, by omega⟩
        · rw [o1, Option.bind_some]; rfl
        · rw [o2, Option.bind_some, if_pos (Or.inr rfl), Option.bind_some, if_neg z1, m_ob o6.1.1, Option.bind_some]
          unfold f_X11_closes
          rw [m_ob o6.1.1, Option.bind_some, show f_X11_settles N 63 (3 : Int32) τ' = some t2 from a1, Option.bind_some]
          rfl
end LFa
