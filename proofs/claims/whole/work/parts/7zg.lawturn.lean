section LTu
variable {N : Nat} {b : Nat → Nat} {t n w : Nat}
theorem e_lbecome (hw : w < 6) {σ : Mm} {L : Nat} (hc : WFc σ) (h1 : iv σ 83 1 = nI L) : ∃ σ', f_X2_become N (51 + 2 * w) 83 σ = some σ' ∧ RS (lwL w) σ σ' ∧ iv σ' (51 + 2 * w) 1 = nI L ∧ ∀ i, i < 400 → iv σ' (52 + 2 * w) i = iv σ 84 i := by
  have sh1 : (SH (51 + 2 * w)).1 = 2 := by
    have : ∀ w, w < 6 → (SH (51 + 2 * w)).1 = 2 := by decide
    exact this w hw
  have sh2 : SH (52 + 2 * w) = (13, 400) := by
    have : ∀ w, w < 6 → SH (52 + 2 * w) = (13, 400) := by decide
    exact this w hw
  obtain ⟨s1, e1⟩ : ∃ s, s = si σ (51 + 2 * w) 1 (nI L) := ⟨_, rfl⟩
  have c1 : WFc s1 := by rw [e1]; exact hc
  have r1 : RS (lwL w) σ s1 := by rw [e1]; exact rsL (by omega)
  refine ⟨cpy s1 84 0 (52 + 2 * w) 0 400, ?_, r1.tr ((RO.cpy (52 + 2 * w) s1 84 400).rs (by simp)), ?_, fun i hi => ?_⟩
  · unfold f_X2_become
    rw [k_i83 hc, Option.bind_some, h1, k_pI hc 1 _ (by omega) sh1, Option.bind_some, ← e1, k_83_0 c1, Option.bind_some, k_gL c1 hw, Option.bind_some]
    have hcp : cpA 13 s1 84 (0 : Int32) (52 + 2 * w) (0 : Int32) (400 : Int32) = some (cpy s1 84 0 (52 + 2 * w) 0 400) := by
      unfold cpA
      rw [show SH 84 = (13, 400) from rfl, sh2, if_pos ⟨⟨⟨pp_lt (by have := c1.1; omega) c1.1, rfl⟩, pp_lt (by have := c1.1; omega) c1.1, rfl⟩, ⟨by decide, by decide, by decide⟩, by decide, by decide⟩]
      rfl
    rw [hcp, Option.bind_some]
  · rw [iv_cpy, if_neg (by omega), e1, iv_si, if_pos ⟨rfl, rfl⟩]
  · rw [iv_cpy, if_pos ⟨rfl, by omega, by omega⟩, Nat.zero_add, Nat.sub_zero, e1, iv_row _ _ _ (by omega)]
def PST (N : Nat) (r : Nat → Nat → Int32 → Mm → Option (Int32 × Mm)) (w : Nat) (l2 : Int32) (q1 : Mm) : Option (Int32 × Mm) :=
  (gN 3 0 q1 8).bind fun a2 =>
  (ob 6 q1 a2).bind fun _ =>
  (f_X6_kind N a2 q1).bind fun q3 =>
  if q3.1 = (1 : Int32) then (
    (gN 3 1 q3.2 8).bind fun a9 =>
    (ob 2 q3.2 (51 + 2 * w)).bind fun _ =>
    (f_X2_become N (51 + 2 * w) a9 q3.2).bind fun q10 =>
    some ((1 : Int32), q10)) else (
    (ob 3 q3.2 8).bind fun _ =>
    (f_X3_takes N 8 (4 : Int32) q3.2).bind fun q5 =>
    if q5.1 = 0 then (
      (gN 3 0 q5.2 8).bind fun a7 =>
      (ob 6 q5.2 a7).bind fun _ =>
      (f_X6_fails N a7 (0 : Int32) q5.2).bind fun q8 =>
      if q8.1 = 0 ∨ q8.1 = 1 then some (q8.1, q8.2) else none) else (
      r 8 (51 + 2 * w) (l2 + (1 : Int32)) q5.2))
def CBd (N : Nat) (r : Nat → Nat → Int32 → Mm → Option (Int32 × Mm)) (w : Nat) (l2 : Int32) (q9 : Mm) : Option (Int32 × Mm) :=
            (ob 3 q9 8).bind fun _ =>
            (f_X3_readsSum N 8 q9).bind fun q10 =>
            if q10.1 = 0 then (
              some ((0 : Int32), q10.2)) else (
              (ob 3 q10.2 8).bind fun _ =>
              (f_X3_takes N 8 (21 : Int32) q10.2).bind fun q12 =>
              if q12.1 = 0 then (
                f_X3_reads_106 N r 8 (51 + 2 * w) l2 q12.1 q12.2) else (
                (ob 3 q12.2 8).bind fun _ =>
                (f_FT 24 false N 8 (0 : Int32) q12.2).bind fun q14 =>
                if q14.1 = 0 then (
                  some ((0 : Int32), q14.2)) else (
                  f_X3_reads_106 N r 8 (51 + 2 * w) l2 q12.1 q14.2)))
theorem e_126 (hw : w < 6) {σ : Mm} {k p : Nat} {c : List Int32} {x l2 : Int32} (r : Nat → Nat → Int32 → Mm → Option (Int32 × Mm)) (h : LC σ b t n w k p c) (hl : c.length < 400) : ∃ σ', f_X3_reads_121 N r 8 (51 + 2 * w) l2 83 x σ = PST N r w l2 σ' ∧ RS (lwL w) σ σ' ∧ LC σ' b t n w k p (c ++ [x]) := by
  obtain ⟨s2, a1, a2, a3⟩ := e_ladd (N := N) (x := x) hw h hl
  refine ⟨s2, ?_, a2, a3⟩
  rw [f_X3_reads_121, k_o83 h.1.1, Option.bind_some, a1, Option.bind_some]
  rfl
theorem e_110 (hw : w < 6) {τ : Mm} {k p L : Nat} {c : List Nat} (hL : L < 12) (h : LM τ b t w k p c) (h68 : iv τ 68 w = nI L) : f_X11_isTurnHere_110 N 63 (nI (48 * w + 4 * L)) τ = some (1, si (si τ 67 (48 * w + 4 * L + 3) (nI c.length)) 68 w (nI (L + 1))) := by
  have hm := h.1.1
  have m1 : WFm (si τ 67 (48 * w + 4 * L + 3) (nI c.length)) := hm
  rw [f_X11_isTurnHere_110, m_g5 hm, Option.bind_some, m_g4 hm, Option.bind_some, m_gI hm, Option.bind_some, h.2.1, m_aI hm (a := 66) (n := 7) (c := w) (by decide) rfl rfl (by omega) (by decide), Option.bind_some, h.2.2.2.1, show (3 : Int32) = nI 3 from rfl, nI_add, m_sI hm (a := 67) (n := 288) (c := 48 * w + 4 * L + 3) (by decide) rfl rfl (by omega) (by decide), Option.bind_some, m_g6 m1, Option.bind_some, m_gI m1, Option.bind_some, iv_row _ _ _ (show 63 ≠ 67 by decide), h.2.1, m_aI m1 (a := 68) (n := 6) (c := w) (by decide) rfl rfl (by omega) (by decide), Option.bind_some, iv_row _ _ _ (show 68 ≠ 67 by decide), h68, nI_1, m_sI m1 (a := 68) (n := 6) (c := w) (by decide) rfl rfl (by omega) (by decide), Option.bind_some]
theorem turnB (hN : 500 ≤ N) (hb : TP b t) (hw : w < 6) {σ τ : Mm} {k p : Nat} {cls : Cls} (r : Nat → Nat → Int32 → Mm → Option (Int32 × Mm)) (l2 : Int32) (hL : cls.length < 12) (hK : tK b t (pl b t k) = 20) (hp : p ≤ 60) (hC : LC σ b t n w k p (progC cls)) (hM : LM τ b t w k p (progM cls)) (hpos : iv τ 63 12 = nI (pl b t k)) (hR : MR τ w cls) (hlk : (progC cls).length ≤ k) (hlm : (progM cls).length ≤ (progC cls).length) (hpu : pushes (progM cls) ≤ p) :
    FLl w σ τ (CBd N r w l2 (si σ 3 4 (nI (k + 1)))) (f_X11_isTurnHere N 63 τ) ∨ ∃ c k' p' σ' τ', clWF c ∧ CBd N r w l2 (si σ 3 4 (nI (k + 1))) = PST N r w l2 σ' ∧ f_X11_isTurnHere N 63 τ = some (1, τ') ∧ RS (lwL w) σ σ' ∧ LF w τ τ' ∧ iv τ' 63 18 = iv τ 63 18 ∧ LC σ' b t n w k' p' (progC (cls ++ [c])) ∧ LM τ' b t w k' p' (progM (cls ++ [c])) ∧ MR τ' w (cls ++ [c]) ∧ k < k' ∧ (progC (cls ++ [c])).length ≤ k' ∧ (progM (cls ++ [c])).length ≤ (progC (cls ++ [c])).length ∧ pushes (progM (cls ++ [c])) ≤ p' ∧ p' ≤ 60 := by
  obtain ⟨pt1, pt2, pt3, pt4, pt5⟩ := plt hb hC.1
  obtain ⟨w1, w2, w3⟩ := tK_wd hb (p := pl b t k) (by omega)
  have hkn := pt2 w1
  have hm := hM.1.1
  have pw := e_pass (N := N) hN hb pt1 hm hM.1.2.1 hpos
  rw [← w3] at pw
  obtain ⟨ta, hta⟩ : ∃ s, s = ps' τ (tE b t (pl b t k)) := ⟨_, rfl⟩
  rw [← hta] at pw
  have hMa : LM ta b t w (k + 1) p (progM cls) := by rw [hta]; exact LM.at hb hM (tE_sp hb w1).2 rfl
  have ma := hMa.1.1
  have i68 : iv ta 68 w = nI cls.length := by rw [hta, iv_row _ _ _ (by decide)]; exact hR.1
  obtain ⟨B, hB⟩ : ∃ B, B = 48 * w + 4 * cls.length := ⟨_, rfl⟩
  obtain ⟨tb, htb⟩ : ∃ s, s = si ta 67 B (nI (progM cls).length) := ⟨_, rfl⟩
  have hMb : LM tb b t w (k + 1) p (progM cls) := by rw [htb]; exact hMa.rr (Or.inl rfl)
  have lfb : LF w τ tb := by rw [htb, hta]; exact (LF.f12 (Or.inl rfl)).tr (LF.r67 (by omega))
  have b18 : iv tb 63 18 = iv τ 63 18 := by rw [htb, iv_row _ _ _ (by decide), hta, iv_si, if_neg (by decide)]
  have hC1 := hC.skip hkn
  have mhead : f_X11_isTurnHere N 63 τ = (f_X11_sum N 63 tb).bind fun q11 =>
      if q11.1 = 0 then (
        some ((0 : Int32), q11.2)) else (
        (gN 11 5 q11.2 63).bind fun a13 =>
        (gN 11 4 q11.2 63).bind fun a14 =>
        (gI 11 15 q11.2 63).bind fun x15 =>
        (aI 113 q11.2 a14 x15).bind fun x16 =>
        (sI 113 q11.2 a13 (nI B + (1 : Int32)) x16).bind fun s17 =>
        (gN 11 5 s17 63).bind fun a18 =>
        (sI 113 s17 a18 (nI B + (2 : Int32)) (-1 : Int32)).bind fun s19 =>
        (ob 11 s19 63).bind fun _ =>
        (f_X11_takesWord N 63 (26982 : Int64) s19).bind fun q20 =>
        if q20.1 = 0 then (
          f_X11_isTurnHere_110 N 63 (nI B) q20.2) else (
          (gN 11 5 q20.2 63).bind fun a22 =>
          (gN 11 4 q20.2 63).bind fun a23 =>
          (gI 11 15 q20.2 63).bind fun x24 =>
          (aI 113 q20.2 a23 x24).bind fun x25 =>
          (sI 113 q20.2 a22 (nI B + (2 : Int32)) x25).bind fun s26 =>
          (ob 11 s26 63).bind fun _ =>
          (f_X11_tested N 63 s26).bind fun q27 =>
          if q27.1 = 0 then (
            some ((0 : Int32), q27.2)) else (
            f_X11_isTurnHere_110 N 63 (nI B) q27.2))) := by
    unfold f_X11_isTurnHere
    rw [m_ob hm, Option.bind_some, pw, Option.bind_some, m_gI ma, Option.bind_some, hMa.2.1, m_g6 ma, Option.bind_some, Option.bind_some, m_aI ma (a := 68) (n := 6) (c := w) (by decide) rfl rfl (by omega) (by decide), Option.bind_some, i68, m_g5 ma, Option.bind_some, m_g4 ma, Option.bind_some, Option.bind_some, m_aI ma (a := 66) (n := 7) (c := w) (by decide) rfl rfl (by omega) (by decide), Option.bind_some, hMa.2.2.2.1, show (48 : Int32) = nI 48 from rfl, pk_mul, show (4 : Int32) = nI 4 from rfl, pk_mul, nI_add, ← hB, m_sI ma (a := 67) (n := 288) (c := B) (by decide) rfl rfl (by omega) (by decide), Option.bind_some, ← htb, m_ob hMb.1.1, Option.bind_some]
  rw [mhead]
  unfold CBd
  rw [k_o8 hC1.1.1, Option.bind_some]
  have r1 : RS (lwL w) σ (si σ 3 4 (nI (k + 1))) := rsL (by omega)
  rcases e_sum hN hb hw hp hC1 hMb hlm (by omega) with hF | ⟨l1, k1, p1, s1, t1, o1, o2, o3, o4, o5, o6, o7, o8, o9, o10, o11, o12⟩
  · left
    exact hF.l r1 lfb (fun s e => by rw [e, Option.bind_some, if_pos rfl]) (fun s e => by rw [e, Option.bind_some, if_pos rfl])
  have o8' : l1.length + (k + 1) ≤ k1 := o8
  have k1n := o5.1.2.2.2
  obtain ⟨qt1, qt2, qt3, qt4, qt5⟩ := plt hb o5.1
  have lC1 : (progC cls ++ l1.map clT).length = (progC cls).length + l1.length := by rw [List.length_append, List.length_map]
  have lM1 : (progM cls ++ l1).length = (progM cls).length + l1.length := by rw [List.length_append]
  obtain ⟨t2, e2⟩ : ∃ s, s = si (si t1 67 (B + 1) (nI (progM cls ++ l1).length)) 67 (B + 2) (-1) := ⟨_, rfl⟩
  have hM2 : LM t2 b t w k1 p1 (progM cls ++ l1) := by rw [e2]; exact (o6.rr (Or.inl rfl)).rr (Or.inl rfl)
  have lf2 : LF w τ t2 := by rw [e2]; exact lfb.tr (o4.sf.lf.tr ((LF.r67 (by omega)).tr (LF.r67 (by omega))))
  have i67 : ∀ i, iv t2 67 i = if i = B + 2 then -1 else if i = B + 1 then nI (progM cls ++ l1).length else if i = B then nI (progM cls).length else iv τ 67 i := fun i => by
    rw [e2, iv_si, iv_si, o4.2.2.1 67 (by decide) (by decide) (by decide), htb, iv_si, hta, iv_row _ _ _ (by decide)]
    simp only [true_and]
  have i68' : iv t2 68 w = nI cls.length := by rw [e2, iv_row _ _ _ (by decide), iv_row _ _ _ (by decide), o4.2.2.1 68 (by decide) (by decide) (by decide), htb, iv_row _ _ _ (by decide)]; exact i68
  have c18 : iv t2 63 18 = iv τ 63 18 := by rw [e2, iv_row _ _ _ (by decide), iv_row _ _ _ (by decide), o4.2.2.2.1 18 (by decide) (by decide) (by decide) (by decide)]; exact b18
  obtain ⟨⟨m2, T2, f2, x, x1, x2, x3⟩, _⟩ := hM2
  have hM2 : LM t2 b t w k1 p1 (progM cls ++ l1) := by rw [e2]; exact (o6.rr (Or.inl rfl)).rr (Or.inl rfl)
  have isw : f_X11_isWord N 63 (26982 : Int64) t2 = some (bi (tK b t (pl b t k1) = 20 + 1), ps' t2 (pl b t k1)) := by
    rw [e_mword hN hb (w := (26982 : Int64)) (j := 1) rfl (by decide) x1 m2 T2 x2, x3]
  have hM3 : LM (ps' t2 (pl b t k1)) b t w k1 p1 (progM cls ++ l1) := LM.at hb hM2 qt1 (by rw [qt4])
  have mhead2 : ∀ X : Int32 × Mm → Option (Int32 × Mm), ((gN 11 5 t1 63).bind fun a13 =>
        (gN 11 4 t1 63).bind fun a14 =>
        (gI 11 15 t1 63).bind fun x15 =>
        (aI 113 t1 a14 x15).bind fun x16 =>
        (sI 113 t1 a13 (nI B + (1 : Int32)) x16).bind fun s17 =>
        (gN 11 5 s17 63).bind fun a18 =>
        (sI 113 s17 a18 (nI B + (2 : Int32)) (-1 : Int32)).bind fun s19 =>
        (ob 11 s19 63).bind fun _ =>
        (f_X11_takesWord N 63 (26982 : Int64) s19).bind X) = (f_X11_takesWord N 63 (26982 : Int64) t2).bind X := by
    intro X
    have mt := o6.1.1
    have mt2 : WFm (si t1 67 (B + 1) (nI (progM cls ++ l1).length)) := mt
    rw [m_g5 mt, Option.bind_some, m_g4 mt, Option.bind_some, m_gI mt, Option.bind_some, o6.2.1, m_aI mt (a := 66) (n := 7) (c := w) (by decide) rfl rfl (by omega) (by decide), Option.bind_some, o6.2.2.2.1, nI_1, m_sI mt (a := 67) (n := 288) (c := B + 1) (by decide) rfl rfl (by omega) (by decide), Option.bind_some, m_g5 mt2, Option.bind_some, show (2 : Int32) = nI 2 from rfl, nI_add, m_sI mt2 (a := 67) (n := 288) (c := B + 2) (by decide) rfl rfl (by omega) (by decide), Option.bind_some, ← e2, m_ob m2, Option.bind_some]
  obtain ⟨T1', T2'⟩ := e_takes (N := N) hb (x := 21) (by decide) o5
  have k40 := tK_31 b t (pl b t k1)
  rw [o1, Option.bind_some, if_neg z1, k_o8 o5.1.1, Option.bind_some, o2, Option.bind_some, if_neg z1]
  simp only []
  rw [mhead2]
  unfold f_X11_takesWord
  rw [m_ob m2, Option.bind_some, isw, Option.bind_some]
  by_cases K21 : tK b t (pl b t k1) = 21
  · -- with a test
    obtain ⟨u1, u2, u3⟩ := tK_wd hb (p := pl b t k1) (by omega)
    have k1n' := qt2 u1
    have pw2 := e_pass (N := N) hN hb qt1 hM3.1.1 hM3.1.2.1 (iv_ps _ _)
    rw [← u3] at pw2
    rw [show ps' (ps' t2 (pl b t k1)) (tE b t (pl b t k1)) = ps' t2 (tE b t (pl b t k1)) from si_si] at pw2
    obtain ⟨t4, e4⟩ : ∃ s, s = si (ps' t2 (tE b t (pl b t k1))) 67 (B + 2) (nI (progM cls ++ l1).length) := ⟨_, rfl⟩
    have hM3' : LM (ps' t2 (tE b t (pl b t k1))) b t w (k1 + 1) p1 (progM cls ++ l1) := LM.at hb hM2 (tE_sp hb u1).2 rfl
    have hM4 : LM t4 b t w (k1 + 1) p1 (progM cls ++ l1) := by rw [e4]; exact hM3'.rr (Or.inl rfl)
    have lf4 : LF w τ t4 := by rw [e4]; exact lf2.tr ((LF.f12 (Or.inl rfl)).tr (LF.r67 (by omega)))
    rw [bi_y (show tK b t (pl b t k1) = 20 + 1 from K21), if_neg z1, m_ob hM3.1.1, Option.bind_some, pw2, Option.bind_some, Option.bind_some, if_neg z1, show f_X3_takes N 8 (21 : Int32) s1 = _ from T1' K21, Option.bind_some, if_neg z1]
    simp only []
    have m3' := hM3'.1.1
    have hC4 := o5.skip k1n'
    rw [m_g5 m3', Option.bind_some, m_g4 m3', Option.bind_some, m_gI m3', Option.bind_some, hM3'.2.1, m_aI m3' (a := 66) (n := 7) (c := w) (by decide) rfl rfl (by omega) (by decide), Option.bind_some, hM3'.2.2.2.1, show (2 : Int32) = nI 2 from rfl, nI_add, m_sI m3' (a := 67) (n := 288) (c := B + 2) (by decide) rfl rfl (by omega) (by decide), Option.bind_some, ← e4, m_ob hM4.1.1, Option.bind_some, k_o8 hC4.1.1, Option.bind_some]
    have r4 : RS (lwL w) σ (si s1 3 4 (nI (k1 + 1))) := r1.tr (o3.tr (rsL (by omega)))
    rcases e_test hN hb hw o12 hC4 hM4 (by omega) (by omega) with hF | ⟨l2', k2, p2, s5, t5, v1, v2, v3, v4, v5, v6, v7, v8, v9, v10, v11, v12⟩
    · left
      exact hF.l r4 lf4 (fun s e => by rw [e, Option.bind_some, if_pos rfl]) (fun s e => by rw [e, Option.bind_some, if_pos rfl])
    · right
      have k2n := v5.1.2.2.2
      have lC5 : (progC cls ++ l1.map clT ++ l2'.map clT).length = (progC cls).length + l1.length + l2'.length := by rw [List.length_append, lC1, List.length_map]
      have lM5 : (progM cls ++ l1 ++ l2').length = (progM cls).length + l1.length + l2'.length := by rw [List.length_append, lM1]
      have i68'' : iv t5 68 w = nI cls.length := by rw [v4.2.2.1 68 (by decide) (by decide) (by decide) (by decide), e4, iv_row _ _ _ (by decide), iv_row _ _ _ (by decide)]; exact i68'
      have e110 := e_110 (N := N) hw hL v6 i68''
      rw [← hB] at e110
      obtain ⟨s6, a1, a2, a3⟩ := e_126 (N := N) (x := -21) (l2 := l2) hw r v5 (by omega)
      have pc : progC (cls ++ [(l1, some l2')]) = progC cls ++ l1.map clT ++ l2'.map clT ++ [-21] := by rw [progC_snoc]; simp [List.append_assoc]
      have pmm : progM (cls ++ [(l1, some l2')]) = progM cls ++ l1 ++ l2' := by rw [progM_snoc]; simp [List.append_assoc]
      have lpc : (progC (cls ++ [(l1, some l2')])).length = (progC cls).length + l1.length + l2'.length + 1 := by rw [pc, List.length_append, lC5]; rfl
      have j67 : ∀ i, i ≠ B + 3 → iv (si (si t5 67 (B + 3) (nI (progM cls ++ l1 ++ l2').length)) 68 w (nI (cls.length + 1))) 67 i = if i = B + 2 then nI (progM cls ++ l1).length else iv t2 67 i := fun i hi => by
        rw [iv_row _ _ _ (by decide), iv_si, if_neg (fun z => hi z.2), v4.2.2.1 67 (by decide) (by decide) (by decide) (by decide), e4, iv_si, iv_row _ _ _ (by decide)]
        simp only [true_and]
      refine ⟨(l1, some l2'), k2, p2, s6, si (si t5 67 (B + 3) (nI (progM cls ++ l1 ++ l2').length)) 68 w (nI (cls.length + 1)), ⟨⟨o9.ov, o10⟩, fun l e => by
        have e : some l2' = some l := e
        rw [← Option.some.inj e]; exact ⟨v9, v10⟩⟩, ?_, ?_, r4.tr (v3.tr a2), lf4.tr (v4.lf.tr ((LF.r67 (by omega)).tr LF.r68)), ?_, by rw [pc]; exact a3, ?_, ?_, by omega, by omega, by rw [lpc, pmm, lM5]; omega, ?_, v12⟩
      · rw [v1, Option.bind_some, if_neg z1, f_X3_reads_106, gN81 v5, Option.bind_some, if_neg z1, a1]
      · rw [v2, Option.bind_some, if_neg z1, e110]
      · rw [iv_row _ _ _ (by decide), iv_row _ _ _ (by decide), v4.2.2.2.1 18 (by decide) (by decide) (by decide) (by decide) (by decide) (by decide), e4, iv_row _ _ _ (by decide), iv_si, if_neg (by decide)]; exact c18
      · rw [pmm]; exact (v6.rr (Or.inl rfl)).rr (Or.inr rfl)
      · refine MR.snoc hw hR (by rw [iv_si, if_pos ⟨rfl, rfl⟩]) (fun i hi => ?_) ?_ ?_ ?_ ?_
        · rw [j67 i (by omega), if_neg (by omega), i67, if_neg (by omega), if_neg (by omega), if_neg (by omega)]
        · rw [← hB, j67 B (by omega), if_neg (by omega), i67, if_neg (by omega), if_neg (by omega), if_pos rfl]
        · rw [← hB, j67 (B + 1) (by omega), if_neg (by omega), i67, if_neg (by omega), if_pos rfl, lM1]
        · rw [← hB, j67 (B + 2) (by omega), if_pos rfl, if_neg (by simp), lM1]
        · rw [← hB, iv_row _ _ _ (by decide), iv_si, if_pos ⟨rfl, rfl⟩, lM5]; rfl
      · rw [pmm, pushes_app, pushes_app]; omega
  · -- without one
    right
    rw [bi_n (show ¬ tK b t (pl b t k1) = 20 + 1 from K21), if_pos rfl, Option.bind_some, if_pos rfl, show f_X3_takes N 8 (21 : Int32) s1 = _ from T2' K21, Option.bind_some, if_pos rfl]
    simp only []
    have i68'' : iv (ps' t2 (pl b t k1)) 68 w = nI cls.length := by rw [iv_row _ _ _ (by decide)]; exact i68'
    have e110 := e_110 (N := N) hw hL hM3 i68''
    rw [← hB] at e110
    obtain ⟨s6, a1, a2, a3⟩ := e_126 (N := N) (x := -20) (l2 := l2) hw r o5 (by omega)
    have pc : progC (cls ++ [(l1, none)]) = progC cls ++ l1.map clT ++ [-20] := by rw [progC_snoc]; simp [List.append_assoc]
    have pmm : progM (cls ++ [(l1, none)]) = progM cls ++ l1 := by rw [progM_snoc]; simp
    have lpc : (progC (cls ++ [(l1, none)])).length = (progC cls).length + l1.length + 1 := by rw [pc, List.length_append, lC1]; rfl
    have j67 : ∀ i, i ≠ B + 3 → iv (si (si (ps' t2 (pl b t k1)) 67 (B + 3) (nI (progM cls ++ l1).length)) 68 w (nI (cls.length + 1))) 67 i = iv t2 67 i := fun i hi => by
      rw [iv_row _ _ _ (by decide), iv_si, if_neg (fun z => hi z.2), iv_row _ _ _ (by decide)]
    refine ⟨(l1, none), k1, p1, s6, si (si (ps' t2 (pl b t k1)) 67 (B + 3) (nI (progM cls ++ l1).length)) 68 w (nI (cls.length + 1)), ⟨⟨o9.ov, o10⟩, fun l e => by cases e⟩, ?_, e110, r1.tr (o3.tr a2), lf2.tr ((LF.f12 (Or.inl rfl)).tr ((LF.r67 (by omega)).tr LF.r68)), ?_, by rw [pc]; exact a3, ?_, ?_, by omega, by omega, by rw [lpc, pmm, lM1]; omega, ?_, o12⟩
    · rw [f_X3_reads_106, gN81 o5, Option.bind_some, if_pos rfl, a1]
    · rw [iv_row _ _ _ (by decide), iv_row _ _ _ (by decide), iv_si, if_neg (by decide)]; exact c18
    · rw [pmm]; exact (hM3.rr (Or.inl rfl)).rr (Or.inr rfl)
    · refine MR.snoc hw hR (by rw [iv_si, if_pos ⟨rfl, rfl⟩]) (fun i hi => ?_) ?_ ?_ ?_ ?_
      · rw [j67 i (by omega), i67, if_neg (by omega), if_neg (by omega), if_neg (by omega)]
      · rw [← hB, j67 B (by omega), i67, if_neg (by omega), if_neg (by omega), if_pos rfl]
      · rw [← hB, j67 (B + 1) (by omega), i67, if_neg (by omega), if_pos rfl, lM1]
      · rw [← hB, j67 (B + 2) (by omega), i67, if_pos rfl, if_pos rfl]
      · rw [← hB, iv_row _ _ _ (by decide), iv_si, if_pos ⟨rfl, rfl⟩, lM1]; rfl
    · rw [pmm, pushes_app]; omega
end LTu
