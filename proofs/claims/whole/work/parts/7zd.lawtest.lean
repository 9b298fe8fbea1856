section LT
variable {N : Nat} {b : Nat → Nat} {t n w : Nat}
def RST (N fu : Nat) (q10 : Mm) : Option (Int32 × Mm) :=
          (ob 11 q10 63).bind fun _ =>
          (f_X11_isWord N 63 (6385252 : Int64) q10).bind fun q11 =>
          if q11.1 = 0 then (
            (ob 11 q11.2 63).bind fun _ =>
            (f_X11_isWord N 63 (28530 : Int64) q11.2).bind fun q13 =>
            if q13.1 = 0 then (
              f_X11_tested_54 N (f_X11_tested_12 N fu) 63 (0 : Int32) q13.2) else (
              f_X11_tested_49 N (f_X11_tested_12 N fu) 63 q13.2)) else (
            f_X11_tested_49 N (f_X11_tested_12 N fu) 63 q11.2)
def CL' (N n' fu : Nat) (s : Mm) : Option (Int32 × Mm) := (f_X11_closes_5 N n' 63 s).bind fun q10 => RST N fu q10
def EE (N n' fu : Nat) (τ : Mm) : Option (Int32 × Mm) := (f_X11_fact_2 N n' 63 (1 : Int32) τ).bind fun q8 => if q8.1 = 0 then some ((0 : Int32), q8.2) else (ob 11 q8.2 63).bind fun _ => (f_X11_closes N 63 q8.2).bind fun q10 => RST N fu q10
theorem tst12 {fu : Nat} {τ : Mm} (hm : WFm τ) : f_X11_tested_12 N (fu + 1) 63 (1 : Int32) τ = EE N N fu τ := by
  rw [f_X11_tested_12, if_neg z1, m_ob hm, Option.bind_some]
  rfl
def FS' (w : Nat) (σ τ : Mm) (rc rm : Option (Int32 × Mm)) : Prop := ∃ σ' τ' F, rc = some (0, σ') ∧ rm = some (0, τ') ∧ RS (lwL w) σ σ' ∧ SF w τ τ' ∧ iv σ' 3 5 = F ∧ iv τ' 63 13 = F ∧ ¬ F = 0
theorem FS'.pre {σ σ1 τ τ1 : Mm} {rc rm rc' rm' : Option (Int32 × Mm)} (h : FS' w σ1 τ1 rc rm) (r : RS (lwL w) σ σ1) (g : SF w τ τ1) (e1 : rc' = rc) (e2 : rm' = rm) : FS' w σ τ rc' rm' := by
  obtain ⟨σ', τ', F, h1, h2, h3, h4, h5, h6, h7⟩ := h
  exact ⟨σ', τ', F, e1.trans h1, e2.trans h2, r.tr h3, g.tr h4, h5, h6, h7⟩
def ff (an or : Nat) : List Nat := pm (12 * an) ++ pm (13 * or)
def bas (base : List Nat) : Prop := base = [] ∨ ∃ r, base = 91 :: r
theorem ff3 {an or : Nat} {base : List Nat} (ha : an < 2) (ho : or < 2) (hb : bas base) : (ff an or ++ base).takeWhile (pw' 3) = [] ∧ (ff an or ++ base).dropWhile (pw' 3) = ff an or ++ base := by
  have a1 : an = 0 ∨ an = 1 := by omega
  have a2 : or = 0 ∨ or = 1 := by omega
  rcases a1 with rfl | rfl <;> rcases a2 with rfl | rfl <;> rcases hb with rfl | ⟨r, rfl⟩ <;> exact ⟨rfl, rfl⟩
theorem ff2 {an or : Nat} {base : List Nat} (ha : an < 2) (ho : or < 2) (hb : bas base) : (ff an or ++ base).takeWhile (pw' 2) = pm (12 * an) ∧ (ff an or ++ base).dropWhile (pw' 2) = pm (13 * or) ++ base := by
  have a1 : an = 0 ∨ an = 1 := by omega
  have a2 : or = 0 ∨ or = 1 := by omega
  rcases a1 with rfl | rfl <;> rcases a2 with rfl | rfl <;> rcases hb with rfl | ⟨r, rfl⟩ <;> exact ⟨rfl, rfl⟩
theorem ff1 {an or : Nat} {base : List Nat} (ha : an < 2) (ho : or < 2) (hb : bas base) : (ff an or ++ base).takeWhile (pw' 1) = ff an or ∧ (ff an or ++ base).dropWhile (pw' 1) = base := by
  have a1 : an = 0 ∨ an = 1 := by omega
  have a2 : or = 0 ∨ or = 1 := by omega
  rcases a1 with rfl | rfl <;> rcases a2 with rfl | rfl <;> rcases hb with rfl | ⟨r, rfl⟩ <;> exact ⟨rfl, rfl⟩
theorem ff_ok {an or : Nat} {base : List Nat} (ha : an < 2) (ho : or < 2) (hb : oks base) : oks (ff an or ++ base) := by
  have a1 : an = 0 ∨ an = 1 := by omega
  have a2 : or = 0 ∨ or = 1 := by omega
  intro x hx
  rcases List.mem_append.1 hx with h | h
  · rcases a1 with rfl | rfl <;> rcases a2 with rfl | rfl <;> simp [ff, pm] at h <;> omega
  · exact hb x h
theorem ff_dp {an or : Nat} {base : List Nat} (ha : an < 2) (ho : or < 2) : dp (ff an or ++ base) = dp base := by
  have a1 : an = 0 ∨ an = 1 := by omega
  have a2 : or = 0 ∨ or = 1 := by omega
  rcases a1 with rfl | rfl <;> rcases a2 with rfl | rfl
  · rfl
  · show dp (13 :: base) = dp base; rw [dp_cons]; simp
  · show dp (12 :: base) = dp base; rw [dp_cons]; simp
  · show dp (12 :: 13 :: base) = dp base; rw [dp_cons, dp_cons]; simp
theorem ff_in {an or : Nat} {base : List Nat} (ha : an < 2) (ho : or < 2) (hb : bas base) : 91 ∈ ff an or ++ base ↔ base ≠ [] := by
  have a1 : an = 0 ∨ an = 1 := by omega
  have a2 : or = 0 ∨ or = 1 := by omega
  rcases a1 with rfl | rfl <;> rcases a2 with rfl | rfl <;> rcases hb with rfl | ⟨r, rfl⟩ <;> simp [ff, pm]
theorem ff_len (an or : Nat) (ha : an < 2) (ho : or < 2) : (ff an or).length = an + or := by
  have a1 : an = 0 ∨ an = 1 := by omega
  have a2 : or = 0 ∨ or = 1 := by omega
  rcases a1 with rfl | rfl <;> rcases a2 with rfl | rfl <;> rfl
theorem pm_l12 {an : Nat} (ha : an < 2) : (pm (12 * an)).length = an := by
  have a1 : an = 0 ∨ an = 1 := by omega
  rcases a1 with rfl | rfl <;> rfl
theorem pm_l13 {an : Nat} (ha : an < 2) : (pm (13 * an)).length = an := by
  have a1 : an = 0 ∨ an = 1 := by omega
  rcases a1 with rfl | rfl <;> rfl
/-! what facts do -/
abbrev opp (m : Nat) : Prop := m = 0 ∨ (2 ≤ m ∧ m ≤ 10) ∨ m = 12 ∨ m = 13
theorem OV.cont2 {m a m' : Nat} {l1 l : List Nat} (h1 : OV l1) (hm : opp m) (hm' : m' ≠ 0) (h : OVp m' a l) : OVp m a (l1 ++ (pm m ++ l)) := by
  obtain ⟨v, hv⟩ := h
  obtain ⟨u, hu⟩ := h1
  refine ⟨fun wd xm xa => v wd (if m = 0 then u wd else op2 m xm (u wd)) xa, fun wd xm xa s => ?_⟩
  rw [rpn_app, hu, Option.bind_some]
  unfold pm stk
  by_cases q : m = 0
  · simp only [if_pos q, List.nil_append]
    have := hv wd (u wd) xa s
    unfold stk at this
    rw [if_neg hm'] at this
    exact this
  · simp only [if_neg q, List.cons_append, List.nil_append]
    rw [rpn_op (r := l) (by omega)]
    have := hv wd (op2 m xm (u wd)) xa s
    unfold stk at this
    rw [if_neg hm'] at this
    exact this
theorem OV.plus2 {m a a' : Nat} {l1 l : List Nat} (h1 : OV l1) (hm : opp m) (ha : opp a) (ha' : a' ≠ 0) (h : OVp 0 a' l) : OVp m a (l1 ++ (pm m ++ (pm a ++ l))) := by
  obtain ⟨v, hv⟩ := h
  obtain ⟨u, hu⟩ := h1
  refine ⟨fun wd xm xa => v wd 0 (if a = 0 then (if m = 0 then u wd else op2 m xm (u wd)) else op2 a xa (if m = 0 then u wd else op2 m xm (u wd))), fun wd xm xa s => ?_⟩
  have hv' : ∀ y, rpn wd l (y :: s) = some (v wd 0 y :: s) := fun y => by
    have := hv wd 0 y s
    unfold stk at this
    rw [if_neg ha'] at this
    exact this
  rw [rpn_app, hu, Option.bind_some]
  unfold pm stk
  by_cases q : m = 0 <;> by_cases r : a = 0
  · simp only [if_pos q, if_pos r, List.nil_append]; exact hv' _
  · simp only [if_pos q, if_neg r, List.nil_append, List.cons_append]; rw [rpn_op (r := l) (by omega)]; exact hv' _
  · simp only [if_neg q, if_pos r, List.nil_append, List.cons_append]; rw [rpn_op (r := l) (by omega)]; exact hv' _
  · simp only [if_neg q, if_neg r, List.nil_append, List.cons_append]; rw [rpn_op (r := l) (by omega), rpn_op (r := l) (by omega)]; exact hv' _
theorem OV.fin2 {m a : Nat} {l1 : List Nat} (h1 : OV l1) (hm : opp m) (ha : opp a) : OVp m a (l1 ++ (pm m ++ pm a)) := by
  obtain ⟨u, hu⟩ := h1
  refine ⟨fun wd xm xa => (if a = 0 then (if m = 0 then u wd else op2 m xm (u wd)) else op2 a xa (if m = 0 then u wd else op2 m xm (u wd))), fun wd xm xa s => ?_⟩
  rw [rpn_app, hu, Option.bind_some]
  unfold pm stk
  by_cases q : m = 0 <;> by_cases r : a = 0
  · simp only [if_pos q, if_pos r, List.nil_append]; rfl
  · simp only [if_pos q, if_neg r, List.nil_append, List.cons_append]; rw [rpn_op (r := []) (by omega)]; rfl
  · simp only [if_neg q, if_pos r, List.nil_append, List.cons_append]; rw [rpn_op (r := []) (by omega)]; rfl
  · simp only [if_neg q, if_neg r, List.nil_append, List.cons_append]; rw [rpn_op (r := []) (by omega), rpn_op (r := []) (by omega)]; rfl
theorem pm_ok2 {m : Nat} (h : opp m) : (∀ x ∈ pm m, okT x) ∧ pushes (pm m) = 0 := by
  unfold pm
  by_cases q : m = 0
  · rw [if_pos q]; exact ⟨fun x hx => absurd hx (by simp), rfl⟩
  · rw [if_neg q]
    refine ⟨fun x hx => ?_, ?_⟩
    · rw [List.mem_singleton.1 hx]; exact ⟨by omega, by omega, by omega⟩
    · rw [pushes_cons, if_neg (by omega)]; rfl
/-! where a fact has been read -/
theorem clNo (hN : 500 ≤ N) (hb : TP b t) {σ τ : Mm} {k p n2 fu : Nat} {cM st : List Nat} (hc : RDc σ b t n k) (hM : LM τ b t w k p cM) (hS : SK τ st) (ho : oks st) (hl : st.length ≤ 400) (h : tK b t (pl b t k) ≠ 6 ∨ 91 ∉ st) : CL' N (n2 + 1) fu τ = RST N fu (ps' τ (pl b t k)) ∧ LM (ps' τ (pl b t k)) b t w k p cM ∧ SK (ps' τ (pl b t k)) st := by
  obtain ⟨s1, s2⟩ := see_k (N := N) hN hb hc hM.1
  obtain ⟨pt1, pt2, pt3, pt4, pt5⟩ := plt hb hc
  have hMq : LM (ps' τ (pl b t k)) b t w k p cM := LM.at hb hM pt1 (by rw [pt4])
  have hSq : SK (ps' τ (pl b t k)) st := hS.vf (w := w) (VF.fld (by decide))
  refine ⟨?_, hMq, hSq⟩
  unfold CL'
  rw [f_X11_closes_5, m_ob hM.1.1, Option.bind_some, s1, Option.bind_some]
  simp only []
  have e93 := seen_sg (p := pl b t k) hb (show 93 < 128 by decide)
  have k93 := tK_sg hb (p := pl b t k) (c := 93) (k := 6) (by decide)
  by_cases q : seen b t (pl b t k) = 93
  · rw [if_pos q, m_ob hMq.1.1, Option.bind_some, (e_inside hN hMq.1.1 ho hSq hl).2 (h.resolve_left (fun z => z (k93.2 (e93.1 q)))), Option.bind_some, if_pos rfl, f_X11_closes_64, Option.bind_some]
  · rw [if_neg q, f_X11_closes_64, Option.bind_some]
theorem rstNo (hN : 500 ≤ N) (hb : TP b t) {σ τ : Mm} {k p fu : Nat} {cM : List Nat} (hc : RDc σ b t n k) (hM : LM τ b t w k p cM) (hpos : iv τ 63 12 = nI (pl b t k)) (h1 : tK b t (pl b t k) ≠ 23) (h2 : tK b t (pl b t k) ≠ 22) : RST N fu τ = f_X11_tested_12 N fu 63 (0 : Int32) τ := by
  obtain ⟨pt1, pt2, pt3, pt4, pt5⟩ := plt hb hc
  have wA : ∀ {v : Int64} {j : Nat}, v = lN (wp j) → j < 16 → f_X11_isWord N 63 v τ = some (bi (tK b t (pl b t k) = 20 + j), τ) := fun hw hj => wordAt hN hb hw hj pt1 pt4 hM.1.1 hM.1.2.1 hpos
  unfold RST
  rw [m_ob hM.1.1, Option.bind_some, wA (v := (6385252 : Int64)) (j := 3) rfl (by decide), Option.bind_some, bi_n h1, if_pos rfl, m_ob hM.1.1, Option.bind_some, wA (v := (28530 : Int64)) (j := 2) rfl (by decide), Option.bind_some, bi_n h2, if_pos rfl, f_X11_tested_54, if_pos rfl]
/-- and, or: on with another fact -/
theorem rstGo (hN : 500 ≤ N) (hb : TP b t) (hw : w < 6) {σ τ : Mm} {k p fu x l : Nat} {cM st : List Nat} (hc : RDc σ b t n k) (hM : LM τ b t w k p cM) (hS : SK τ st) (ho : oks st) (hlen : cM.length + st.length ≤ 400) (hl4 : st.length < 400) (hpos : iv τ 63 12 = nI (pl b t k)) (hx : (x = 12 ∧ l = 2 ∧ tK b t (pl b t k) = 23) ∨ (x = 13 ∧ l = 1 ∧ tK b t (pl b t k) = 22)) : ∃ τ', RST N (fu + 1) τ = EE N N fu τ' ∧ SF w τ τ' ∧ LM τ' b t w (k + 1) p (cM ++ st.takeWhile (pw' l)) ∧ SK τ' (x :: st.dropWhile (pw' l)) ∧ k < n := by
  obtain ⟨pt1, pt2, pt3, pt4, pt5⟩ := plt hb hc
  have wA : ∀ {v : Int64} {j : Nat}, v = lN (wp j) → j < 16 → f_X11_isWord N 63 v τ = some (bi (tK b t (pl b t k) = 20 + j), τ) := fun hw hj => wordAt hN hb hw hj pt1 pt4 hM.1.1 hM.1.2.1 hpos
  have hbig : 20 ≤ tK b t (pl b t k) := by omega
  obtain ⟨w1, w2, w3⟩ := tK_wd hb hbig
  have hwd : f_X11_passWord N 63 τ = some (ps' τ (tE b t (pl b t k))) := by rw [e_pass hN hb pt1 hM.1.1 hM.1.2.1 hpos, w3]
  have hM1 : LM (ps' τ (tE b t (pl b t k))) b t w (k + 1) p cM := LM.at hb hM (tE_sp hb w1).2 rfl
  have hS1 : SK (ps' τ (tE b t (pl b t k))) st := hS.vf (w := w) (VF.fld (by decide))
  obtain ⟨s2, a1, a2, a3, a4⟩ := e_settle (N := N) (l := l) hN hw (by omega) ho hM1 hS1 hlen
  obtain ⟨rr, hrr⟩ : ∃ rr, rr = st.dropWhile (pw' l) := ⟨_, rfl⟩
  rw [← hrr] at a4 ⊢
  have hlr : rr.length ≤ st.length := by rw [hrr]; exact (List.dropWhile_suffix _).length_le
  have hx' : ¬ (x = 11 ∨ x = 91) := by omega
  have pushd := a4.push (x := x) (nI (dp rr)) (by rw [dp_cons, if_neg hx', Nat.zero_add])
  rw [si_self a4.2.1] at pushd
  have hM3 : LM (si (si s2 72 rr.length (nI x)) 63 20 (nI (rr.length + 1))) b t w (k + 1) p (cM ++ st.takeWhile (pw' l)) := a3.r72.stk (Or.inr rfl)
  refine ⟨_, ?_, (SF.fld (by decide)).tr (a2.tr (SF.row.tr (SF.fld (by decide)))), hM3, pushd, pt2 w1⟩
  have e76 : f_X11_tested_76 N (f_X11_tested_12 N (fu + 1)) 63 (1 : Int32) (nI x) τ = EE N N fu (si (si s2 72 rr.length (nI x)) 63 20 (nI (rr.length + 1))) := by
    rw [f_X11_tested_76, m_ob hM.1.1, Option.bind_some, hwd, Option.bind_some, e_str (by omega), Option.bind_some]
    simp only []
    rw [m_ob hM1.1.1, Option.bind_some, show str' x = l by rcases hx with ⟨h1, h2, _⟩ | ⟨h1, h2, _⟩ <;> rw [h1, h2] <;> rfl, a1, Option.bind_some, m_g19 a3.1.1, Option.bind_some, m_gI a3.1.1, Option.bind_some, a4.1, m_sI a3.1.1 (a := 72) (n := 400) (c := rr.length) (by decide) rfl rfl (by omega) (by decide), Option.bind_some, m_gI (show WFm (si s2 72 rr.length (nI x)) from a3.1.1), Option.bind_some, iv_row _ _ _ (show 63 ≠ 72 by decide), a4.1, nI_1, m_pI (show WFm (si s2 72 rr.length (nI x)) from a3.1.1), Option.bind_some]
    exact tst12 hM3.1.1
  unfold RST
  rw [m_ob hM.1.1, Option.bind_some, wA (v := (6385252 : Int64)) (j := 3) rfl (by decide), Option.bind_some]
  rcases hx with ⟨h1, h2, h3⟩ | ⟨h1, h2, h3⟩
  · rw [bi_y (show tK b t (pl b t k) = 20 + 3 from h3), if_neg z1, f_X11_tested_49, f_X11_tested_54, if_neg z1, m_ob hM.1.1, Option.bind_some, wA (v := (6385252 : Int64)) (j := 3) rfl (by decide), Option.bind_some, bi_y (show tK b t (pl b t k) = 20 + 3 from h3), if_neg z1]
    rw [h1] at e76 ⊢
    exact e76
  · rw [bi_n (show ¬ tK b t (pl b t k) = 20 + 3 by omega), if_pos rfl, m_ob hM.1.1, Option.bind_some, wA (v := (28530 : Int64)) (j := 2) rfl (by decide), Option.bind_some, bi_y (show tK b t (pl b t k) = 20 + 2 from h3), if_neg z1, f_X11_tested_49, f_X11_tested_54, if_neg z1, m_ob hM.1.1, Option.bind_some, wA (v := (6385252 : Int64)) (j := 3) rfl (by decide), Option.bind_some, bi_n (show ¬ tK b t (pl b t k) = 20 + 3 by omega), if_pos rfl]
    rw [h1] at e76 ⊢
    exact e76
def FactP (N : Nat) (b : Nat → Nat) (t n w D : Nat) : Prop := ∀ (dep k p : Nat) (σ τ : Mm) (cC : List Int32) (cM st : List Nat) (fu n' : Nat), dep ≤ 10 → 1 + 2 * (10 - dep) ≤ D → LC σ b t n w k p cC → LM τ b t w k p cM → SK τ st → oks st → dp st = dep → p ≤ 60 → cM.length ≤ cC.length → cC.length + 1 + st.length ≤ k → n - k < fu → n - k + 1 < n' →
  FS' w σ τ (f_FT D true N 8 (nI dep) σ) (EE N n' fu τ) ∨ ∃ l k' p' σ' τ' fu' n2, f_FT D true N 8 (nI dep) σ = some (1, σ') ∧ EE N n' fu τ = CL' N n2 fu' τ' ∧ RS (lwL w) σ σ' ∧ SF w τ τ' ∧ LC σ' b t n w k' p' (cC ++ l.map clT) ∧ LM τ' b t w k' p' (cM ++ l ++ st.takeWhile (pw' 3)) ∧ SK τ' (st.dropWhile (pw' 3)) ∧ k < k' ∧ l.length + k ≤ k' ∧ OV l ∧ (∀ x ∈ l, okT x) ∧ p + pushes l ≤ p' ∧ p' ≤ 60 ∧ n - k' < fu' ∧ n - k' < n2
def TestQ (N : Nat) (b : Nat → Nat) (t n w k p an or : Nat) (σ τ : Mm) (cC : List Int32) (cM base : List Nat) (rc rm : Option (Int32 × Mm)) : Prop := ∃ l0 an' or' k' p' σ' τ' fu' n2, an' < 2 ∧ or' < 2 ∧ rc = some (1, σ') ∧ rm = CL' N n2 fu' τ' ∧ RS (lwL w) σ σ' ∧ SF w τ τ' ∧ LC σ' b t n w k' p' (cC ++ (l0 ++ ff an' or').map clT) ∧ LM τ' b t w k' p' (cM ++ l0) ∧ SK τ' (ff an' or' ++ base) ∧ tK b t (pl b t k') ≠ 23 ∧ tK b t (pl b t k') ≠ 22 ∧ k < k' ∧ (l0 ++ ff an' or').length + k ≤ k' + an + or ∧ OVp (12 * an) (13 * or) (l0 ++ ff an' or') ∧ (∀ x ∈ l0 ++ ff an' or', okT x) ∧ p + pushes (l0 ++ ff an' or') ≤ p' ∧ p' ≤ 60 ∧ n - k' < fu' ∧ n - k' < n2
theorem e_takes (hb : TP b t) {σ : Mm} {k p : Nat} {c : List Int32} {x : Nat} (hx : x < 2 ^ 31) (h : LC σ b t n w k p c) : (tK b t (pl b t k) = x → f_X3_takes N 8 (nI x) σ = some (1, si σ 3 4 (nI (k + 1)))) ∧ (tK b t (pl b t k) ≠ x → f_X3_takes N 8 (nI x) σ = some (0, σ)) := by
  have hc := h.1.1
  have kind := e_kind (N := N) hb hc h.1.2.1 h.1.2.2.1 h.1.2.2.2
  have k40 := tK_31 b t (pl b t k)
  unfold f_X3_takes
  rw [k_8_0 hc, Option.bind_some, k_o3 hc, Option.bind_some, kind, Option.bind_some]
  constructor
  · intro e
    rw [if_pos (by rw [e]), k_8_0 hc, Option.bind_some, k_o3 hc, Option.bind_some, e_skip hc h.1.2.2.1, Option.bind_some]
  · intro e
    rw [if_neg (show ¬ nI (tK b t (pl b t k)) = nI x from nIk (by omega) hx e)]
theorem testL (hN : 500 ≤ N) (hb : TP b t) (hw : w < 6) {D dep : Nat} (hF : FactP N b t n w D) (hd : dep ≤ 10) (hD : 1 + 2 * (10 - dep) ≤ D) {base : List Nat} (hba : bas base) (hob : oks base) (hdp : dp base = dep) : ∀ d k p i an or fuC fu n' σ τ cC cM, n - k = d → d < fuC → d < fu → d + 1 < n' → 2 * i ≤ k → an < 2 → or < 2 → p ≤ 60 → LC σ b t n w k p cC → LM τ b t w k p cM → SK τ (ff an or ++ base) → cM.length ≤ cC.length → cC.length + 1 + (an + or + base.length) ≤ k →
    FS' w σ τ (f_X3_readsTest_7 N (f_FT D true N) fuC 8 (nI dep) (nI an) (nI or) (nI i) σ) (EE N n' fu τ) ∨ TestQ N b t n w k p an or σ τ cC cM base (f_X3_readsTest_7 N (f_FT D true N) fuC 8 (nI dep) (nI an) (nI or) (nI i) σ) (EE N n' fu τ) := by
  intro d
  induction d using Nat.strongRecOn with
  | ind d ih =>
    intro k p i an or fuC fu n' σ τ cC cM h1 h2 h3 h4 h5 ha ho hp hC hM hS hl hlk
    obtain ⟨fuC, rfl⟩ : ∃ q, fuC = q + 1 := ⟨fuC - 1, by omega⟩
    have n400 := (plt hb hC.1).2.2.2.2
    have hkn := hC.1.2.2.2
    have lst : (ff an or ++ base).length = an + or + base.length := by rw [List.length_append, ff_len an or ha ho]
    have hcl : f_X3_readsTest_7 N (f_FT D true N) (fuC + 1) 8 (nI dep) (nI an) (nI or) (nI i) σ = (f_FT D true N 8 (nI dep) σ).bind fun q4 =>
        if q4.1 = 0 then (
          some ((0 : Int32), q4.2)) else (
          if nI an = 0 then (
            f_X3_readsTest_38 N (f_FT D true N) (f_X3_readsTest_7 N (f_FT D true N) fuC) 8 (nI dep) (nI or) (nI i) q4.2) else (
            (gN 3 1 q4.2 8).bind fun a7 =>
            (ob 2 q4.2 a7).bind fun _ =>
            (f_X2_add N a7 (-23 : Int32) q4.2).bind fun q8 =>
            f_X3_readsTest_38 N (f_FT D true N) (f_X3_readsTest_7 N (f_FT D true N) fuC) 8 (nI dep) (nI or) (nI i) q8)) := by
      rw [f_X3_readsTest_7, if_neg (by rw [show (400 : Int32) = nI 400 from rfl]; exact nI_ge (by omega) (by decide)), k_o8 hC.1.1, Option.bind_some]
    rw [hcl]
    rcases hF dep k p σ τ cC cM (ff an or ++ base) fu n' hd hD hC hM hS (ff_ok ha ho hob) (by rw [ff_dp ha ho, hdp]) hp hl (by omega) (by omega) (by omega) with ⟨σ', τ', F, g1, g2, g3⟩ | ⟨l1, k1, p1, s1, t1, fu1, n1, g1, g2, g3, g4, g5, g6, g7, g8, g9, g10, g11, g12, g13, g14, g15⟩
    · left
      exact ⟨σ', τ', F, by rw [g1, Option.bind_some, if_pos rfl], g2, g3⟩
    rw [(ff3 ha ho hba).1, List.append_nil] at g6
    rw [(ff3 ha ho hba).2] at g7
    have k1n := g5.1.2.2.2
    have lC1 : (cC ++ l1.map clT).length = cC.length + l1.length := by rw [List.length_append, List.length_map]
    have lM1 : (cM ++ l1).length = cM.length + l1.length := by rw [List.length_append]
    have opA : opp (12 * an) := by
      have : an = 0 ∨ an = 1 := by omega
      rcases this with rfl | rfl
      · exact Or.inl rfl
      · exact Or.inr (Or.inr (Or.inl rfl))
    have opO : opp (13 * or) := by
      have : or = 0 ∨ or = 1 := by omega
      rcases this with rfl | rfl
      · exact Or.inl rfl
      · exact Or.inr (Or.inr (Or.inr rfl))
    have pA := pm_ok2 opA
    have pO := pm_ok2 opO
    have lpA := pm_l12 ha
    have lpO := pm_l13 ho
    -- the class's and
    obtain ⟨s2, a1, a2, a3⟩ : ∃ s2, ((if nI an = 0 then (
            f_X3_readsTest_38 N (f_FT D true N) (f_X3_readsTest_7 N (f_FT D true N) fuC) 8 (nI dep) (nI or) (nI i) s1) else (
            (gN 3 1 s1 8).bind fun a7 =>
            (ob 2 s1 a7).bind fun _ =>
            (f_X2_add N a7 (-23 : Int32) s1).bind fun q8 =>
            f_X3_readsTest_38 N (f_FT D true N) (f_X3_readsTest_7 N (f_FT D true N) fuC) 8 (nI dep) (nI or) (nI i) q8)) = f_X3_readsTest_38 N (f_FT D true N) (f_X3_readsTest_7 N (f_FT D true N) fuC) 8 (nI dep) (nI or) (nI i) s2) ∧ RS (lwL w) s1 s2 ∧ LC s2 b t n w k1 p1 (cC ++ l1.map clT ++ (pm (12 * an)).map clT) := by
      have : an = 0 ∨ an = 1 := by omega
      rcases this with rfl | rfl
      · exact ⟨s1, by rw [if_pos (show nI 0 = 0 from rfl)], RS.rf _ _, by simpa [pm] using g5⟩
      · obtain ⟨s2, a1, a2, a3⟩ := e_ladd (N := N) (x := -23) hw g5 (by omega)
        exact ⟨s2, by rw [if_neg (show ¬ nI 1 = 0 by decide), gN81 g5, Option.bind_some, k_o83 g5.1.1, Option.bind_some, a1, Option.bind_some], a2, a3⟩
    rw [g1, Option.bind_some, if_neg z1, g2]
    simp only []
    rw [a1]
    have lC2 : (cC ++ l1.map clT ++ (pm (12 * an)).map clT).length = cC.length + l1.length + an := by rw [List.length_append, lC1, List.length_map, lpA]
    have r2 : RS (lwL w) σ s2 := g3.tr a2
    obtain ⟨n1, rfl⟩ : ∃ q, n1 = q + 1 := ⟨n1 - 1, by omega⟩
    obtain ⟨fu1, rfl⟩ : ∃ q, fu1 = q + 1 := ⟨fu1 - 1, by omega⟩
    have ok1 := ff_ok ha ho hob
    obtain ⟨T1, T2⟩ := e_takes (N := N) hb (x := 23) (by decide) a3
    by_cases K23 : tK b t (pl b t k1) = 23
    · -- and
      obtain ⟨c1, c2, c3⟩ := clNo (N := N) (n2 := n1) (fu := fu1 + 1) hN hb g5.1 g6 g7 ok1 (by omega) (Or.inl (by omega))
      obtain ⟨t3, e1, e2, e3, e4, e5⟩ := rstGo (N := N) (fu := fu1) (x := 12) (l := 2) hN hb hw g5.1 c2 c3 ok1 (by omega) (by omega) (iv_ps _ _) (Or.inl ⟨rfl, rfl, K23⟩)
      rw [(ff2 ha ho hba).1] at e3
      rw [(ff2 ha ho hba).2] at e4
      have lM3 : (cM ++ l1 ++ pm (12 * an)).length = cM.length + l1.length + an := by rw [List.length_append, lM1, lpA]
      have cc : f_X3_readsTest_38 N (f_FT D true N) (f_X3_readsTest_7 N (f_FT D true N) fuC) 8 (nI dep) (nI or) (nI i) s2 = f_X3_readsTest_7 N (f_FT D true N) fuC 8 (nI dep) (nI 1) (nI or) (nI (i + 1)) (si s2 3 4 (nI (k1 + 1))) := by
        rw [f_X3_readsTest_38, k_o8 a3.1.1, Option.bind_some, show f_X3_takes N 8 (23 : Int32) s2 = _ from T1 K23, Option.bind_some, if_neg z1, f_X3_readsTest_75, nI_1]
        rfl
      rw [cc, c1, e1]
      have sfx : SF w τ t3 := g4.tr ((SF.fld (by decide)).tr e2)
      rcases ih (n - (k1 + 1)) (by omega) (k1 + 1) p1 (i + 1) 1 or fuC fu1 N (si s2 3 4 (nI (k1 + 1))) t3 _ _ rfl (by omega) (by omega) (by omega) (by omega) (by decide) ho (by omega) (a3.skip e5) e3 e4 (by omega) (by omega) with hX | ⟨l0, an', or', k', p', σ', τ', fu', n2, x1, x2, x3, x4, x5, x6, x7, x8, x9, x10, x11, x12, x13, x14, x15, x16, x17, x18⟩
      · left
        exact hX.pre (r2.tr (rsL (by omega))) sfx rfl rfl
      · right
        refine ⟨l1 ++ (pm (12 * an) ++ l0), an', or', k', p', σ', τ', fu', n2, x1, x2, x3, x4, (r2.tr (rsL (by omega))).tr x5, sfx.tr x6, by simpa [List.map_append, List.append_assoc] using x7, by simpa [List.append_assoc] using x8, x9, x10, x11, by omega, ?_, ?_, ?_, ?_, x17, x18⟩
        · rw [List.length_append] at x13
          rw [List.length_append, List.length_append, List.length_append, lpA]
          omega
        · have := OV.cont2 g10 opA (show (12 * 1 : Nat) ≠ 0 by decide) x14
          simpa [List.append_assoc] using this
        · intro x hx
          rw [List.append_assoc, List.append_assoc] at hx
          rcases List.mem_append.1 hx with e | e
          · exact g11 x e
          · rcases List.mem_append.1 e with e | e
            · exact pA.1 x e
            · exact x15 x e
        · rw [List.append_assoc, List.append_assoc, pushes_app, pushes_app, pA.2]
          omega
    · -- the class's or
      obtain ⟨s3, b1, b2, b3⟩ : ∃ s3, f_X3_readsTest_38 N (f_FT D true N) (f_X3_readsTest_7 N (f_FT D true N) fuC) 8 (nI dep) (nI or) (nI i) s2 = f_X3_readsTest_62 N (f_FT D true N) (f_X3_readsTest_7 N (f_FT D true N) fuC) 8 (nI dep) (0 : Int32) (nI i) s3 ∧ RS (lwL w) s2 s3 ∧ LC s3 b t n w k1 p1 (cC ++ l1.map clT ++ (pm (12 * an)).map clT ++ (pm (13 * or)).map clT) := by
        rw [f_X3_readsTest_38, k_o8 a3.1.1, Option.bind_some, show f_X3_takes N 8 (23 : Int32) s2 = _ from T2 K23, Option.bind_some, if_pos rfl]
        have : or = 0 ∨ or = 1 := by omega
        rcases this with rfl | rfl
        · exact ⟨s2, by rw [if_pos (show nI 0 = 0 from rfl)], RS.rf _ _, by simpa [pm] using a3⟩
        · obtain ⟨s3, b1, b2, b3⟩ := e_ladd (N := N) (x := -22) hw a3 (by omega)
          exact ⟨s3, by rw [if_neg (show ¬ nI 1 = 0 by decide), gN81 a3, Option.bind_some, k_o83 a3.1.1, Option.bind_some, b1, Option.bind_some], b2, b3⟩
      rw [b1]
      have lC3 : (cC ++ l1.map clT ++ (pm (12 * an)).map clT ++ (pm (13 * or)).map clT).length = cC.length + l1.length + an + or := by rw [List.length_append, lC2, List.length_map, lpO]
      have r3 : RS (lwL w) σ s3 := r2.tr b2
      obtain ⟨U1, U2⟩ := e_takes (N := N) hb (x := 22) (by decide) b3
      by_cases K22 : tK b t (pl b t k1) = 22
      · obtain ⟨c1, c2, c3⟩ := clNo (N := N) (n2 := n1) (fu := fu1 + 1) hN hb g5.1 g6 g7 ok1 (by omega) (Or.inl (by omega))
        obtain ⟨t3, e1, e2, e3, e4, e5⟩ := rstGo (N := N) (fu := fu1) (x := 13) (l := 1) hN hb hw g5.1 c2 c3 ok1 (by omega) (by omega) (iv_ps _ _) (Or.inr ⟨rfl, rfl, K22⟩)
        rw [(ff1 ha ho hba).1] at e3
        rw [(ff1 ha ho hba).2] at e4
        have lM3 : (cM ++ l1 ++ ff an or).length = cM.length + l1.length + (an + or) := by rw [List.length_append, lM1, ff_len an or ha ho]
        have cc : f_X3_readsTest_62 N (f_FT D true N) (f_X3_readsTest_7 N (f_FT D true N) fuC) 8 (nI dep) (0 : Int32) (nI i) s3 = f_X3_readsTest_7 N (f_FT D true N) fuC 8 (nI dep) (nI 0) (nI 1) (nI (i + 1)) (si s3 3 4 (nI (k1 + 1))) := by
          rw [f_X3_readsTest_62, k_o8 b3.1.1, Option.bind_some, show f_X3_takes N 8 (22 : Int32) s3 = _ from U1 K22, Option.bind_some, if_neg z1, f_X3_readsTest_75, nI_1]
          rfl
        rw [cc, c1, e1]
        have sfx : SF w τ t3 := g4.tr ((SF.fld (by decide)).tr e2)
        rcases ih (n - (k1 + 1)) (by omega) (k1 + 1) p1 (i + 1) 0 1 fuC fu1 N (si s3 3 4 (nI (k1 + 1))) t3 _ _ rfl (by omega) (by omega) (by omega) (by omega) (by decide) (by decide) (by omega) (b3.skip e5) e3 e4 (by omega) (by omega) with hX | ⟨l0, an', or', k', p', σ', τ', fu', n2, x1, x2, x3, x4, x5, x6, x7, x8, x9, x10, x11, x12, x13, x14, x15, x16, x17, x18⟩
        · left
          exact hX.pre (r3.tr (rsL (by omega))) sfx rfl rfl
        · right
          refine ⟨l1 ++ (pm (12 * an) ++ (pm (13 * or) ++ l0)), an', or', k', p', σ', τ', fu', n2, x1, x2, x3, x4, (r3.tr (rsL (by omega))).tr x5, sfx.tr x6, by simpa [List.map_append, List.append_assoc] using x7, by simpa [ff, List.append_assoc] using x8, x9, x10, x11, by omega, ?_, ?_, ?_, ?_, x17, x18⟩
          · rw [List.length_append] at x13
            rw [List.length_append, List.length_append, List.length_append, List.length_append, lpA, lpO]
            omega
          · have := OV.plus2 g10 opA opO (show (13 * 1 : Nat) ≠ 0 by decide) x14
            simpa [List.append_assoc] using this
          · intro x hx
            rw [List.append_assoc, List.append_assoc, List.append_assoc] at hx
            rcases List.mem_append.1 hx with e | e
            · exact g11 x e
            · rcases List.mem_append.1 e with e | e
              · exact pA.1 x e
              · rcases List.mem_append.1 e with e | e
                · exact pO.1 x e
                · exact x15 x e
          · rw [List.append_assoc, List.append_assoc, List.append_assoc, pushes_app, pushes_app, pushes_app, pA.2, pO.2]
            omega
      · right
        have cc : f_X3_readsTest_62 N (f_FT D true N) (f_X3_readsTest_7 N (f_FT D true N) fuC) 8 (nI dep) (0 : Int32) (nI i) s3 = some (1, s3) := by
          rw [f_X3_readsTest_62, k_o8 b3.1.1, Option.bind_some, show f_X3_takes N 8 (22 : Int32) s3 = _ from U2 K22, Option.bind_some, if_pos rfl]
        refine ⟨l1, an, or, k1, p1, s3, t1, fu1 + 1, n1 + 1, ha, ho, cc, rfl, r3, g4, by simpa [ff, List.map_append, List.append_assoc] using b3, g6, g7, K23, K22, g8, ?_, OV.fin2 g10 opA opO, ?_, ?_, g13, g14, g15⟩
        · rw [List.length_append, ff_len an or ha ho]; omega
        · intro x hx
          rcases List.mem_append.1 hx with e | e
          · exact g11 x e
          · rcases List.mem_append.1 e with e | e
            · exact pA.1 x e
            · exact pO.1 x e
        · rw [pushes_app, show pushes (ff an or) = 0 by unfold ff; rw [pushes_app, pA.2, pO.2]]
          omega
end LT
