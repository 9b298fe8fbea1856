section LU
variable {N : Nat} {b : Nat → Nat} {t n w : Nat}
def cm (x : Nat) : Nat := if x = 0 then 0 else 5 + x
def pm (x : Nat) : List Nat := if x = 0 then [] else [x]
def PUT (N m : Nat) (s : Mm) : Option Mm := if m = 0 then some s else f_X11_puts N 63 (nI m) (0 : Int32) s
def TC (N fu1 fu2 a : Nat) (s : Mm) : Option (Int32 × Mm) := (f_X11_term_9 N fu1 63 s).bind fun q => if q.1 = 0 then some (0, q.2) else (PUT N a q.2).bind fun q5 => f_X11_sum_9 N fu2 63 q5
def MV (N fu1 fu2 m a : Nat) (τ : Mm) : Option (Int32 × Mm) := (f_X11_value N 63 τ).bind fun q3 => if q3.1 = 0 then some (0, q3.2) else (PUT N m q3.2).bind fun q5 => TC N fu1 fu2 a q5
theorem clT_o {m : Nat} (h : 2 ≤ m ∧ m ≤ 10) : clT m = -(nI (5 + m)) := by
  unfold clT
  rw [show m % 16 = m by omega, if_neg (by omega), if_neg (by omega), if_neg (by omega), if_neg (by omega), if_neg (by omega)]
theorem pm_len (m : Nat) : (pm m).length = if m = 0 then 0 else 1 := by unfold pm; by_cases h : m = 0 <;> simp [h]
theorem e_put' (hw : w < 6) {τ : Mm} {k p m : Nat} {cM : List Nat} (hm : m = 0 ∨ (2 ≤ m ∧ m ≤ 10)) (h : LM τ b t w k p cM) (hl : cM.length < 400) : ∃ τ', PUT N m τ = some τ' ∧ VF w τ τ' ∧ LM τ' b t w k p (cM ++ pm m) := by
  unfold PUT pm
  by_cases q : m = 0
  · rw [if_pos q, if_pos q, List.append_nil]
    exact ⟨τ, rfl, VF.rf _, h⟩
  · rw [if_neg q, if_neg q]
    obtain ⟨τ', f1, f2, f3⟩ := e_puts (N := N) (x := m) (y := 0) hw h hl
    exact ⟨τ', f1, f2, f3⟩
theorem e_addIf (hw : w < 6) {σ : Mm} {k p m : Nat} {cC : List Int32} (hm : m = 0 ∨ (2 ≤ m ∧ m ≤ 10)) (h : LC σ b t n w k p cC) (hl : cC.length < 400) : ∃ σ', f_X3_addIfThere N 8 (nI (cm m)) σ = some σ' ∧ RS (lwL w) σ σ' ∧ LC σ' b t n w k p (cC ++ (pm m).map clT) := by
  unfold f_X3_addIfThere f_X3_addIfThere_13 cm pm
  by_cases q : m = 0
  · rw [if_pos q, if_pos q, if_pos (show nI 0 = 0 from rfl)]
    refine ⟨σ, rfl, RS.rf _ _, ?_⟩
    simpa using h
  · have hm : 2 ≤ m ∧ m ≤ 10 := by omega
    rw [if_neg q, if_neg q, if_neg (show ¬ nI (5 + m) = 0 from nIk (s := 5 + m) (k := 0) (by omega) (by decide) (by omega))]
    obtain ⟨σ', f1, f2, f3⟩ := e_ladd (N := N) (x := clT m) hw h hl
    refine ⟨σ', ?_, f2, f3⟩
    rw [gN81 h, Option.bind_some, k_o83 h.1.1, Option.bind_some, ← clT_o hm, f1, Option.bind_some]
theorem see_k (hN : 500 ≤ N) (hb : TP b t) {σ τ : Mm} {k : Nat} (hc : RDc σ b t n k) (h : RDm τ b t k) : f_X11_see N 63 τ = some (seen b t (pl b t k), ps' τ (pl b t k)) ∧ f_X11_see N 63 (ps' τ (pl b t k)) = some (seen b t (pl b t k), ps' τ (pl b t k)) := by
  obtain ⟨pt1, pt2, pt3, pt4, pt5⟩ := plt hb hc
  obtain ⟨m1, m2, m3, x, x1, x2, x3⟩ := h
  refine ⟨by rw [e_see hN hb x1 m1 m2 x2, x3], ?_⟩
  rw [e_see hN hb pt1 (show WFm (ps' τ (pl b t k)) from m1) (m2.ps _) (iv_ps _ _), pt4, ps_id (iv_ps _ _)]
/-- the sign between -/
theorem term9 (hN : 500 ≤ N) (hb : TP b t) {σ τ : Mm} {k fu1 fu2 a : Nat} (hc : RDc σ b t n k) (h : RDm τ b t k) :
    (tK b t (pl b t k) = 9 → TC N (fu1 + 1) fu2 a τ = MV N fu1 fu2 4 a (ps' τ (pl b t k + 1))) ∧ (tK b t (pl b t k) = 10 → TC N (fu1 + 1) fu2 a τ = MV N fu1 fu2 5 a (ps' τ (pl b t k + 1))) ∧ (tK b t (pl b t k) ≠ 9 → tK b t (pl b t k) ≠ 10 → TC N (fu1 + 1) fu2 a τ = (PUT N a (ps' τ (pl b t k))).bind fun q5 => f_X11_sum_9 N fu2 63 q5) := by
  obtain ⟨s1, s2⟩ := see_k (N := N) hN hb hc h
  obtain ⟨pt1, pt2, pt3, pt4, pt5⟩ := plt hb hc
  obtain ⟨q, hq⟩ : ∃ q, q = pl b t k := ⟨_, rfl⟩
  rw [← hq] at s1 s2 pt1 pt2 pt3 pt4 ⊢
  have hm := h.1
  have hmq : WFm (ps' τ q) := hm
  have hTq : MT (ps' τ q) b t := h.2.1.ps _
  have e42 := seen_sg (p := q) hb (show 42 < 128 by decide)
  have e47 := seen_sg (p := q) hb (show 47 < 128 by decide)
  have k42 := tK_sg hb (p := q) (c := 42) (k := 9) (by decide)
  have k47 := tK_sg hb (p := q) (c := 47) (k := 10) (by decide)
  have h4 := hb.1
  have go : ∀ (r : Nat → Mm → Option (Int32 × Mm)) (m : Nat), (m = 4 ∨ m = 5) → ((f_X11_term_46 N (f_X11_term_9 N fu1) 63 (nI m) (ps' τ q)).bind fun q => if q.1 = 0 then some (0, q.2) else (PUT N a q.2).bind fun q5 => f_X11_sum_9 N fu2 63 q5) = MV N fu1 fu2 m a (ps' τ (q + 1)) := by
    intro r m hm4
    rw [f_X11_term_46, m_gI hmq, Option.bind_some, iv_ps, nI_1, m_pI hmq, Option.bind_some, show si (ps' τ q) 63 12 (nI (q + 1)) = ps' τ (q + 1) from si_si, m_ob (show WFm (ps' τ (q + 1)) from hm), Option.bind_some]
    unfold MV TC
    cases e : f_X11_value N 63 (ps' τ (q + 1)) with
    | none => rfl
    | some v =>
      rw [Option.bind_some, Option.bind_some]
      by_cases z : v.1 = 0
      · rw [if_pos z, if_pos z, Option.bind_some, if_pos rfl]
      · rw [if_neg z, if_neg z]
        unfold ob PUT
        rw [if_neg (show ¬ m = 0 by omega)]
        by_cases y : pp 63 < nn v.2 ∧ (SH 63).1 = 11
        · rw [if_pos y, Option.bind_some]
          cases e2 : f_X11_puts N 63 (nI m) 0 v.2 with
          | none => rfl
          | some u => rfl
        · have : f_X11_puts N 63 (nI m) 0 v.2 = none := by
            unfold f_X11_puts gN
            rw [if_neg y]; rfl
          rw [if_neg y, this]; rfl
  unfold TC
  rw [f_X11_term_9, m_ob hm, Option.bind_some, s1, Option.bind_some]
  simp only []
  refine ⟨fun K => ?_, fun K => ?_, fun K1 K2 => ?_⟩
  · have hq' := k42.1 K
    rw [if_pos (show seen b t q = 42 from e42.2 hq'), f_X11_term_27, m_g0 hmq, Option.bind_some, m_gI hmq, Option.bind_some, iv_ps, m_aB hmq rfl (show q < 400 by omega), Option.bind_some, hTq.2 q hq'.1, if_pos (show sb (b q) = 42 from (sb_eq _ (hb.2.1 q) 42 (by decide)).2 hq'.2)]
    exact go (f_X11_term_9 N fu1) 4 (Or.inl rfl)
  · have hq' := k47.1 K
    rw [if_neg (show ¬ seen b t q = 42 from fun z => by have := (e42.1 z).2; omega), m_ob hmq, Option.bind_some, s2, Option.bind_some]
    simp only []
    rw [if_pos (show seen b t q = 47 from e47.2 hq'), f_X11_term_27, m_g0 hmq, Option.bind_some, m_gI hmq, Option.bind_some, iv_ps, m_aB hmq rfl (show q < 400 by omega), Option.bind_some, hTq.2 q hq'.1, if_neg (show ¬ sb (b q) = 42 from fun z => by have := (sb_eq _ (hb.2.1 q) 42 (by decide)).1 z; omega)]
    exact go (f_X11_term_9 N fu1) 5 (Or.inr rfl)
  · rw [if_neg (show ¬ seen b t q = 42 from fun z => K1 (k42.2 (e42.1 z))), m_ob hmq, Option.bind_some, s2, Option.bind_some]
    simp only []
    rw [if_neg (show ¬ seen b t q = 47 from fun z => K2 (k47.2 (e47.1 z))), Option.bind_some, if_neg z1]
theorem sum9 (hN : 500 ≤ N) (hb : TP b t) {σ τ : Mm} {k fu2 : Nat} (hc : RDc σ b t n k) (h : RDm τ b t k) :
    (tK b t (pl b t k) = 7 → f_X11_sum_9 N (fu2 + 1) 63 τ = MV N N fu2 0 2 (ps' τ (pl b t k + 1))) ∧ (tK b t (pl b t k) = 8 → f_X11_sum_9 N (fu2 + 1) 63 τ = MV N N fu2 0 3 (ps' τ (pl b t k + 1))) ∧ (tK b t (pl b t k) ≠ 7 → tK b t (pl b t k) ≠ 8 → f_X11_sum_9 N (fu2 + 1) 63 τ = some (1, ps' τ (pl b t k))) := by
  obtain ⟨s1, s2⟩ := see_k (N := N) hN hb hc h
  obtain ⟨pt1, pt2, pt3, pt4, pt5⟩ := plt hb hc
  obtain ⟨q, hq⟩ : ∃ q, q = pl b t k := ⟨_, rfl⟩
  rw [← hq] at s1 s2 pt1 pt2 pt3 pt4 ⊢
  have hm := h.1
  have hmq : WFm (ps' τ q) := hm
  have hTq : MT (ps' τ q) b t := h.2.1.ps _
  have e42 := seen_sg (p := q) hb (show 43 < 128 by decide)
  have e47 := seen_sg (p := q) hb (show 45 < 128 by decide)
  have k42 := tK_sg hb (p := q) (c := 43) (k := 7) (by decide)
  have k47 := tK_sg hb (p := q) (c := 45) (k := 8) (by decide)
  have h4 := hb.1
  have go : ∀ (m : Nat), (m = 2 ∨ m = 3) → f_X11_sum_46 N (f_X11_sum_9 N fu2) 63 (nI m) (ps' τ q) = MV N N fu2 0 m (ps' τ (q + 1)) := by
    intro m hm4
    rw [f_X11_sum_46, m_gI hmq, Option.bind_some, iv_ps, nI_1, m_pI hmq, Option.bind_some, show si (ps' τ q) 63 12 (nI (q + 1)) = ps' τ (q + 1) from si_si, m_ob (show WFm (ps' τ (q + 1)) from hm), Option.bind_some]
    unfold MV TC f_X11_term
    rw [m_ob (show WFm (ps' τ (q + 1)) from hm), Option.bind_some]
    cases e : f_X11_value N 63 (ps' τ (q + 1)) with
    | none => rfl
    | some v =>
      rw [Option.bind_some, Option.bind_some]
      by_cases z : v.1 = 0
      · rw [if_pos z, if_pos z, Option.bind_some, if_pos rfl]
      · rw [if_neg z, if_neg z, show PUT N 0 v.2 = some v.2 from rfl, Option.bind_some]
        cases e3 : f_X11_term_9 N N 63 v.2 with
        | none => rfl
        | some v =>
          rw [Option.bind_some, Option.bind_some]
          by_cases z : v.1 = 0
          · rw [if_pos z, if_pos z]
          · rw [if_neg z, if_neg z]
            unfold ob PUT
            rw [if_neg (show ¬ m = 0 by omega)]
            by_cases y : pp 63 < nn v.2 ∧ (SH 63).1 = 11
            · rw [if_pos y, Option.bind_some]
            · have : f_X11_puts N 63 (nI m) 0 v.2 = none := by
                unfold f_X11_puts gN
                rw [if_neg y]; rfl
              rw [if_neg y, this]; rfl
  rw [f_X11_sum_9, m_ob hm, Option.bind_some, s1, Option.bind_some]
  simp only []
  refine ⟨fun K => ?_, fun K => ?_, fun K1 K2 => ?_⟩
  · have hq' := k42.1 K
    rw [if_pos (show seen b t q = 43 from e42.2 hq'), f_X11_sum_27, m_g0 hmq, Option.bind_some, m_gI hmq, Option.bind_some, iv_ps, m_aB hmq rfl (show q < 400 by omega), Option.bind_some, hTq.2 q hq'.1, if_pos (show sb (b q) = 43 from (sb_eq _ (hb.2.1 q) 43 (by decide)).2 hq'.2)]
    exact go 2 (Or.inl rfl)
  · have hq' := k47.1 K
    rw [if_neg (show ¬ seen b t q = 43 from fun z => by have := (e42.1 z).2; omega), m_ob hmq, Option.bind_some, s2, Option.bind_some]
    simp only []
    rw [if_pos (show seen b t q = 45 from e47.2 hq'), f_X11_sum_27, m_g0 hmq, Option.bind_some, m_gI hmq, Option.bind_some, iv_ps, m_aB hmq rfl (show q < 400 by omega), Option.bind_some, hTq.2 q hq'.1, if_neg (show ¬ sb (b q) = 43 from fun z => by have := (sb_eq _ (hb.2.1 q) 43 (by decide)).1 z; omega)]
    exact go 3 (Or.inr rfl)
  · rw [if_neg (show ¬ seen b t q = 43 from fun z => K1 (k42.2 (e42.1 z))), m_ob hmq, Option.bind_some, s2, Option.bind_some]
    simp only []
    rw [if_neg (show ¬ seen b t q = 45 from fun z => K2 (k47.2 (e47.1 z)))]
/-! what the steps do -/
def stk (m a : Nat) (xm xa : Int64) (s : List Int64) : List Int64 := (if m = 0 then [] else [xm]) ++ ((if a = 0 then [] else [xa]) ++ s)
def OVp (m a : Nat) (l : List Nat) : Prop := ∃ v : (Nat → Int64) → Int64 → Int64 → Int64, ∀ wd xm xa s, rpn wd l (stk m a xm xa s) = some (v wd xm xa :: s)
def vlu (wd : Nat → Int64) (x : Nat) : Int64 := if x % 16 = 0 then lN (x / 16) else wd (x / 16)
theorem rpn_v {wd : Nat → Int64} {x : Nat} {l : List Nat} {s : List Int64} (h : x % 16 ≤ 1) : rpn wd (x :: l) s = rpn wd l (vlu wd x :: s) := by
  unfold vlu
  by_cases q : x % 16 = 0
  · rw [if_pos q, rpn_0 wd l s q]
  · rw [if_neg q, rpn_1 wd l s (by omega)]
theorem rpn_op {wd : Nat → Int64} {x : Nat} {l r : List Nat} {y z : Int64} {s : List Int64} (h : (2 ≤ x ∧ x ≤ 10) ∨ x = 12 ∨ x = 13) : rpn wd (x :: l) (y :: z :: s) = rpn wd l (op2 x z y :: s) := by
  have e : x % 16 = x := by omega
  conv => lhs; unfold rpn
  rw [e, if_neg (by omega), if_neg (by omega), if_neg (by omega)]
theorem OVp.cont {m a m' : Nat} {x : Nat} {l : List Nat} (hx : x % 16 ≤ 1) (hm : m = 0 ∨ (2 ≤ m ∧ m ≤ 10)) (hm' : m' ≠ 0) (h : OVp m' a l) : OVp m a (x :: (pm m ++ l)) := by
  obtain ⟨v, hv⟩ := h
  refine ⟨fun wd xm xa => v wd (if m = 0 then vlu wd x else op2 m xm (vlu wd x)) xa, fun wd xm xa s => ?_⟩
  rw [rpn_v hx]
  unfold pm stk
  by_cases q : m = 0
  · simp only [if_pos q, List.nil_append]
    have := hv wd (vlu wd x) xa s
    unfold stk at this
    rw [if_neg hm'] at this
    exact this
  · simp only [if_neg q, List.cons_append, List.nil_append]
    rw [rpn_op (r := l) (Or.inl (by omega))]
    have := hv wd (op2 m xm (vlu wd x)) xa s
    unfold stk at this
    rw [if_neg hm'] at this
    exact this
theorem OVp.plus {m a a' : Nat} {x : Nat} {l : List Nat} (hx : x % 16 ≤ 1) (hm : m = 0 ∨ (2 ≤ m ∧ m ≤ 10)) (ha : a = 0 ∨ (2 ≤ a ∧ a ≤ 10)) (ha' : a' ≠ 0) (h : OVp 0 a' l) : OVp m a (x :: (pm m ++ (pm a ++ l))) := by
  obtain ⟨v, hv⟩ := h
  refine ⟨fun wd xm xa => v wd 0 (if a = 0 then (if m = 0 then vlu wd x else op2 m xm (vlu wd x)) else op2 a xa (if m = 0 then vlu wd x else op2 m xm (vlu wd x))), fun wd xm xa s => ?_⟩
  have hv' : ∀ y, rpn wd l (y :: s) = some (v wd 0 y :: s) := fun y => by
    have := hv wd 0 y s
    unfold stk at this
    rw [if_neg ha'] at this
    exact this
  rw [rpn_v hx]
  unfold pm stk
  by_cases q : m = 0 <;> by_cases r : a = 0
  · simp only [if_pos q, if_pos r, List.nil_append]; exact hv' _
  · simp only [if_pos q, if_neg r, List.nil_append, List.cons_append]; rw [rpn_op (r := l) (Or.inl (by omega))]; exact hv' _
  · simp only [if_neg q, if_pos r, List.nil_append, List.cons_append]; rw [rpn_op (r := l) (Or.inl (by omega))]; exact hv' _
  · simp only [if_neg q, if_neg r, List.nil_append, List.cons_append]; rw [rpn_op (r := l) (Or.inl (by omega)), rpn_op (r := l) (Or.inl (by omega))]; exact hv' _
theorem OVp.fin {m a : Nat} {x : Nat} (hx : x % 16 ≤ 1) (hm : m = 0 ∨ (2 ≤ m ∧ m ≤ 10)) (ha : a = 0 ∨ (2 ≤ a ∧ a ≤ 10)) : OVp m a (x :: (pm m ++ pm a)) := by
  refine ⟨fun wd xm xa => (if a = 0 then (if m = 0 then vlu wd x else op2 m xm (vlu wd x)) else op2 a xa (if m = 0 then vlu wd x else op2 m xm (vlu wd x))), fun wd xm xa s => ?_⟩
  rw [rpn_v hx]
  unfold pm stk
  by_cases q : m = 0 <;> by_cases r : a = 0
  · simp only [if_pos q, if_pos r, List.nil_append]; rfl
  · simp only [if_pos q, if_neg r, List.nil_append, List.cons_append]; rw [rpn_op (r := []) (Or.inl (by omega))]; rfl
  · simp only [if_neg q, if_pos r, List.nil_append, List.cons_append]; rw [rpn_op (r := []) (Or.inl (by omega))]; rfl
  · simp only [if_neg q, if_neg r, List.nil_append, List.cons_append]; rw [rpn_op (r := []) (Or.inl (by omega)), rpn_op (r := []) (Or.inl (by omega))]; rfl
theorem OVp.ov {l : List Nat} (h : OVp 0 0 l) : OV l := by
  obtain ⟨v, hv⟩ := h
  exact ⟨fun wd => v wd 0 0, fun wd s => hv wd 0 0 s⟩
theorem pm_ok {m : Nat} (h : m = 0 ∨ (2 ≤ m ∧ m ≤ 10)) : (∀ x ∈ pm m, okT x) ∧ pushes (pm m) = 0 := by
  unfold pm
  by_cases q : m = 0
  · rw [if_pos q]; exact ⟨fun x hx => absurd hx (by simp), rfl⟩
  · rw [if_neg q]
    refine ⟨fun x hx => ?_, ?_⟩
    · rw [List.mem_singleton.1 hx]; exact ⟨by omega, by omega, by omega⟩
    · rw [pushes_cons, if_neg (by omega)]; rfl
end LU
