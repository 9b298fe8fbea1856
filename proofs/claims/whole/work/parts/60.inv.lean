/-! what class and model have in common -/
/-- the class's final references: object, place, object -/
abbrev crefs : List (Nat × Nat × Nat) := [(0, 0, 1), (0, 1, 3), (0, 2, 7), (0, 3, 8), (0, 4, 9), (0, 5, 20), (0, 6, 31), (0, 7, 32), (0, 9, 33), (0, 10, 36), (0, 11, 42), (0, 12, 47), (0, 13, 50),
  (1, 0, 2), (3, 0, 4), (3, 1, 5), (3, 2, 6), (7, 0, 3), (8, 0, 3), (8, 1, 83), (83, 0, 84), (33, 0, 34), (33, 1, 35), (36, 1, 37), (36, 2, 38), (36, 3, 39), (36, 4, 40), (36, 5, 41), (42, 0, 36), (42, 1, 43), (42, 2, 44), (42, 3, 45), (42, 4, 46), (47, 0, 9), (47, 1, 33), (47, 2, 36), (47, 3, 48), (47, 4, 49),
  (32, 0, 51), (32, 1, 53), (32, 2, 55), (32, 3, 57), (32, 4, 59), (32, 5, 61), (51, 0, 52), (53, 0, 54), (55, 0, 56), (57, 0, 58), (59, 0, 60), (61, 0, 62)]
abbrev vrefs : List (Nat × Nat) := [(1, 1), (2, 2), (3, 3), (4, 4), (5, 5), (6, 6), (7, 7), (9, 8), (10, 9), (12, 10)]
/-- a valley lies at v -/
def VW (σ : Mm) (v : Nat) : Prop := (v = 9 ∨ v = 20 ∨ ∃ j, v = 85 + 11 * j) ∧ (v + 10 < nn σ ∧ 85 ≤ nn σ) ∧ ∀ p ∈ vrefs, rv σ v p.1 = some (v + p.2)
def WFc (σ : Mm) : Prop := 85 ≤ nn σ ∧ (∀ p ∈ crefs, rv σ p.1 p.2.1 = some p.2.2) ∧ VW σ 9 ∧ VW σ 20
/-- felled trees, as bits -/
def fmask (m : Nat → Nat) : Nat → Nat
  | 0 => 0
  | t + 1 => fmask m t + m (90 + 3 * t) * 2 ^ t
/-- a valley in numbers, as the model's row has it -/
def WS (m : Nat → Nat) : Prop := m 0 ≤ 12 ∧ m 1 ≤ 12 ∧ m 2 < 2 ^ 31 ∧ m 3 = 0 ∧ (∀ c, c < 12 → m (4 + 7 * c) ≤ 9 ∧ m (5 + 7 * c) ≤ 9 ∧ m (6 + 7 * c) ≤ 9 ∧ m (7 + 7 * c) ≤ 99 ∧ m (8 + 7 * c) ≤ 3 ∧ m (9 + 7 * c) ≤ 7 ∧ m (10 + 7 * c) ≤ 7) ∧ (∀ t, t < 12 → m (88 + 3 * t) ≤ 9 ∧ m (89 + 3 * t) ≤ 9 ∧ m (90 + 3 * t) ≤ 1) ∧ ∀ k, k < 32 → m (124 + k) ≤ 99
def RelV (σ : Mm) (v : Nat) (m : Nat → Nat) : Prop := iv σ v 0 = nI (m 0) ∧ iv σ v 8 = nI (m 1) ∧ iv σ v 13 = nI (m 2) ∧ iv σ v 11 = nI (fmask m (m 1)) ∧ (∀ c, c < m 0 → ∀ k, k < 7 → iv σ (v + 1 + k) c = nI (m (4 + 7 * c + k))) ∧ (∀ t, t < m 1 → iv σ (v + 8) t = nI (m (88 + 3 * t)) ∧ iv σ (v + 9) t = nI (m (89 + 3 * t))) ∧ ∀ k, k < 32 → iv σ (v + 10) k = nI (m (124 + k))
/-! laws: the steps of a reckoning -/
def op2 (s : Nat) (x y : Int64) : Int64 :=
  if s = 2 then x + y else if s = 3 then x - y else if s = 4 then x * y else if s = 5 then (if y = 0 then 0 else x / y)
  else if s = 6 then (if x < y then 1 else 0) else if s = 7 then (if x ≤ y then 1 else 0) else if s = 8 then (if x = y then 1 else 0) else if s = 9 then (if y ≤ x then 1 else 0) else if s = 10 then (if y < x then 1 else 0)
  else if s = 12 then x &&& y else x ||| y
def rpn (w : Nat → Int64) : List Nat → List Int64 → Option (List Int64)
  | [], s => some s
  | t :: l, s => if t % 16 = 0 then rpn w l (lN (t / 16) :: s) else if t % 16 = 1 then rpn w l (w (t / 16) :: s) else if t % 16 = 11 then (match s with
    | x :: r => rpn w l ((1 - x) :: r)
    | [] => none) else (match s with
    | y :: x :: r => rpn w l (op2 (t % 16) x y :: r)
    | _ => none)
/-- one value is made -/
def OV (l : List Nat) : Prop := ∃ v : (Nat → Int64) → Int64, ∀ w s, rpn w l s = some (v w :: s)
def pushes (l : List Nat) : Nat := (l.filter (fun t => decide (t % 16 ≤ 1))).length
def okT (t : Nat) : Prop := t % 16 ≤ 13 ∧ t / 16 ≤ 99999 ∧ (t % 16 = 1 → t / 16 ≤ 8)
/-- a step in the class's words -/
def clT (t : Nat) : Int32 := if t % 16 = 0 then nI (t / 16) else if t % 16 = 1 then -(nI (25 + t / 16)) else if t % 16 = 11 then -24 else if t % 16 = 12 then -23 else if t % 16 = 13 then -22 else -(nI (5 + t % 16))
abbrev Cls : Type := List (List Nat × Option (List Nat))
def progM (cls : Cls) : List Nat := cls.flatMap (fun c => c.1 ++ c.2.getD [])
def progC (cls : Cls) : List Int32 := cls.flatMap (fun c => c.1.map clT ++ (match c.2 with
    | none => [-20]
    | some t => t.map clT ++ [-21]))
def LWF (cls : Cls) : Prop := cls.length ≤ 12 ∧ (progC cls).length ≤ 400 ∧ (progM cls).length ≤ 400 ∧ pushes (progM cls) ≤ 60 ∧ ∀ c ∈ cls, (OV c.1 ∧ ∀ t ∈ c.1, okT t) ∧ ∀ l, c.2 = some l → OV l ∧ ∀ t ∈ l, okT t
/-- law w of both -/
def RelL (σ τ : Mm) (w : Nat) : Prop := ∃ cls : Cls, LWF cls ∧ (iv σ (51 + 2 * w) 1 = nI (progC cls).length ∧ ∀ i, i < (progC cls).length → iv σ (52 + 2 * w) i = (progC cls).getD i 0) ∧ iv τ 68 w = nI cls.length ∧ (∀ i, i < (progM cls).length → iv τ 65 (400 * w + i) = nI ((progM cls).getD i 0)) ∧
  ∀ k c, cls[k]? = some c → iv τ 67 (48 * w + 4 * k) = nI (progM (cls.take k)).length ∧ iv τ 67 (48 * w + 4 * k + 1) = nI ((progM (cls.take k)).length + c.1.length) ∧ iv τ 67 (48 * w + 4 * k + 2) = (if c.2 = none then -1 else nI ((progM (cls.take k)).length + c.1.length)) ∧ iv τ 67 (48 * w + 4 * k + 3) = nI ((progM (cls.take k)).length + c.1.length + (c.2.getD []).length)
def InvT (σ τ : Mm) : Prop := ∃ (t : Nat) (by' : Nat → Nat), t ≤ 400 ∧ (∀ i, by' i < 256) ∧ iv σ 1 1 = nI t ∧ iv τ 63 1 = nI t ∧ ∀ i, i < t → iv σ 2 i = nI (by' i) ∧ iv τ 64 i = (nI (by' i)).toInt8.toInt32
def InvL (σ τ : Mm) : Prop := ∃ nl : Nat, nl ≤ 6 ∧ iv σ 0 8 = nI nl ∧ iv τ 63 2 = nI nl ∧ ∀ w, w < nl → RelL σ τ w
def InvN (σ τ : Mm) (m : Nat → Nat) : Prop := WS m ∧ RelV σ 9 m ∧ ∀ i, i < 156 → iv τ 75 i = nI (m i)
def Img (σ τ : Mm) (k : Nat) : Prop := (rv σ 31 k = none ∧ iv τ 82 k = 0) ∨ ∃ u m, rv σ 31 k = some u ∧ iv τ 82 k = 1 ∧ 85 ≤ u ∧ VW σ u ∧ WS m ∧ RelV σ u m ∧ ∀ i, i < 156 → iv τ 81 (156 * k + i) = nI (m i)
def InvI (σ τ : Mm) : Prop := (∃ j, nn σ = 85 + 11 * j) ∧ (∀ k, k < 4 → Img σ τ k) ∧ ∀ k l u, k < 4 → l < 4 → rv σ 31 k = some u → rv σ 31 l = some u → k = l
def Inv (σ τ : Mm) : Prop := WFc σ ∧ WFm τ ∧ nn σ = nn τ ∧ InvT σ τ ∧ InvL σ τ ∧ (∃ m, InvN σ τ m) ∧ InvI σ τ
/-! what questions may change -/
def scC (o : Nat) : Prop := (3 ≤ o ∧ o ≤ 8) ∨ (20 ≤ o ∧ o ≤ 30) ∨ (33 ≤ o ∧ o ≤ 50)
def scM (o : Nat) : Prop := o = 63 ∨ (69 ≤ o ∧ o ≤ 74) ∨ (76 ≤ o ∧ o ≤ 80)
def fxR (o k : Nat) : Prop := ¬ (o = 47 ∧ k = 5)
def QC (σ σ' : Mm) : Prop := nn σ' = nn σ ∧ (∀ o, ¬ scC o → iv σ' o = iv σ o) ∧ ∀ o k, fxR o k → rv σ' o k = rv σ o k
def QM (τ τ' : Mm) : Prop := nn τ' = nn τ ∧ (∀ o, ¬ scM o → iv τ' o = iv τ o) ∧ iv τ' 63 1 = iv τ 63 1 ∧ iv τ' 63 2 = iv τ 63 2 ∧ ∀ o, rv τ' o = rv τ o
theorem QC.rf (σ : Mm) : QC σ σ := ⟨rfl, fun _ _ => rfl, fun _ _ _ => rfl⟩
theorem QM.rf (τ : Mm) : QM τ τ := ⟨rfl, fun _ _ => rfl, rfl, rfl, fun _ => rfl⟩
theorem QC.tr {a b c : Mm} (h : QC a b) (g : QC b c) : QC a c := ⟨g.1.trans h.1, fun o q => (g.2.1 o q).trans (h.2.1 o q), fun o k q => (g.2.2 o k q).trans (h.2.2 o k q)⟩
theorem QM.tr {a b c : Mm} (h : QM a b) (g : QM b c) : QM a c := ⟨g.1.trans h.1, fun o q => (g.2.1 o q).trans (h.2.1 o q), g.2.2.1.trans h.2.2.1, g.2.2.2.1.trans h.2.2.2.1, fun o => (g.2.2.2.2 o).trans (h.2.2.2.2 o)⟩
theorem iv_row (σ : Mm) {o o' : Nat} (k : Nat) (v : Int32) (h : o' ≠ o) : iv (si σ o k v) o' = iv σ o' := up2_ne _ _ h
theorem QC.si (σ : Mm) {o : Nat} (k : Nat) (v : Int32) (h : scC o) : QC σ (si σ o k v) := ⟨rfl, fun o' q => iv_row σ k v (fun e => q (e ▸ h)), fun _ _ _ => rfl⟩
theorem QC.sj (σ : Mm) (o k : Nat) (v : Int64) : QC σ (sj σ o k v) := ⟨rfl, fun _ _ => rfl, fun _ _ _ => rfl⟩
theorem QM.sj (τ : Mm) (o k : Nat) (v : Int64) : QM τ (sj τ o k v) := ⟨rfl, fun _ _ => rfl, rfl, rfl, fun _ => rfl⟩
theorem QM.si (τ : Mm) {o : Nat} (k : Nat) (v : Int32) (h : scM o) (h2 : o = 63 → k ≠ 1 ∧ k ≠ 2) : QM τ (si τ o k v) := by
  refine ⟨rfl, fun o' q => iv_row τ k v (fun e => q (e ▸ h)), ?_, ?_, fun _ => rfl⟩
  · rw [iv_si, if_neg (fun e => (h2 e.1.symm).1 e.2.symm)]
  · rw [iv_si, if_neg (fun e => (h2 e.1.symm).2 e.2.symm)]
theorem QC.sr (σ : Mm) {o k : Nat} (v : Option Nat) (h : o = 47 ∧ k = 5) : QC σ (sr σ o k v) := by
  refine ⟨rfl, fun _ _ => rfl, fun o' k' q => ?_⟩
  rw [rv_sr, if_neg (fun e => q (by rw [e.1, e.2]; exact h))]
theorem VW.q {σ σ' : Mm} {v : Nat} (h : VW σ v) (q : QC σ σ') : VW σ' v := by
  refine ⟨h.1, by rw [q.1]; exact h.2.1, fun p hp => ?_⟩
  rw [q.2.2 v p.1 (by
    rcases h.1 with e | e | ⟨j, e⟩ <;> (intro z; obtain ⟨z, -⟩ := z; omega))]
  exact h.2.2 p hp
theorem WFc.q {σ σ' : Mm} (h : WFc σ) (q : QC σ σ') : WFc σ' := by
  refine ⟨by rw [q.1]; exact h.1, fun p hp => ?_, h.2.2.1.q q, h.2.2.2.q q⟩
  rw [q.2.2 p.1 p.2.1 ?_]
  · exact h.2.1 p hp
  · have : ∀ p ∈ crefs, ¬ (p.1 = 47 ∧ p.2.1 = 5) := by decide
    exact this p hp
theorem WFm.q {τ τ' : Mm} (h : WFm τ) (q : QM τ τ') : WFm τ' := by
  unfold WFm at h ⊢
  rw [q.1, q.2.2.2.2 63]
  exact h
theorem RelV.cong {σ σ' : Mm} {v : Nat} {m : Nat → Nat} (h : RelV σ v m) (e : ∀ i, i ≤ 10 → iv σ' (v + i) = iv σ (v + i)) : RelV σ' v m := by
  have e0 : iv σ' v = iv σ v := e 0 (by decide)
  obtain ⟨h1, h2, h3, h4, h5, h6, h7⟩ := h
  refine ⟨by rw [e0]; exact h1, by rw [e0]; exact h2, by rw [e0]; exact h3, by rw [e0]; exact h4, fun c hc k hk => ?_, fun t ht => ?_, fun k hk => ?_⟩
  · rw [show v + 1 + k = v + (1 + k) by omega, e _ (by omega), ← show v + 1 + k = v + (1 + k) by omega]; exact h5 c hc k hk
  · rw [e 8 (by decide), e 9 (by decide)]; exact h6 t ht
  · rw [e 10 (by decide)]; exact h7 k hk
theorem RelL.cong {σ σ' τ τ' : Mm} {w : Nat} (h : RelL σ τ w) (e1 : iv σ' (51 + 2 * w) = iv σ (51 + 2 * w)) (e2 : iv σ' (52 + 2 * w) = iv σ (52 + 2 * w)) (e3 : iv τ' 65 = iv τ 65) (e4 : iv τ' 67 = iv τ 67) (e5 : iv τ' 68 = iv τ 68) : RelL σ' τ' w := by
  obtain ⟨cls, h1, h2, h3, h4, h5⟩ := h
  refine ⟨cls, h1, ?_, ?_, ?_, ?_⟩
  · rw [e1, e2]; exact h2
  · rw [e5]; exact h3
  · rw [e3]; exact h4
  · rw [e4]; exact h5
theorem inv_q {σ σ' τ τ' : Mm} (h : Inv σ τ) (q : QC σ σ') (r : QM τ τ') : Inv σ' τ' := by
  obtain ⟨h1, h2, h3, ⟨t, by', t1, t2, t3, t4, t5⟩, ⟨nl, l1, l2, l3, l4⟩, ⟨m, n1, n2, n3⟩, i1, i2, i3⟩ := h
  refine ⟨h1.q q, h2.q r, by rw [q.1, r.1]; exact h3, ⟨t, by', t1, t2, ?_, ?_, ?_⟩, ⟨nl, l1, ?_, ?_, ?_⟩, ⟨m, n1, ?_, ?_⟩, by rw [q.1]; exact i1, ?_, ?_⟩
  · rw [q.2.1 1 (by unfold scC; omega)]; exact t3
  · rw [r.2.2.1]; exact t4
  · rw [q.2.1 2 (by unfold scC; omega), r.2.1 64 (by unfold scM; omega)]; exact t5
  · rw [q.2.1 0 (by unfold scC; omega)]; exact l2
  · rw [r.2.2.2.1]; exact l3
  · intro w hw
    exact (l4 w hw).cong (q.2.1 _ (by unfold scC; omega)) (q.2.1 _ (by unfold scC; omega)) (r.2.1 _ (by unfold scM; omega)) (r.2.1 _ (by unfold scM; omega)) (r.2.1 _ (by unfold scM; omega))
  · exact n2.cong (fun i hi => q.2.1 _ (by unfold scC; omega))
  · rw [r.2.1 75 (by unfold scM; omega)]; exact n3
  · intro k hk
    rcases i2 k hk with ⟨a, b⟩ | ⟨u, m', a, b, c, d, e, f, g⟩
    · left
      exact ⟨by rw [q.2.2 31 k (by unfold fxR; omega)]; exact a, by rw [r.2.1 82 (by unfold scM; omega)]; exact b⟩
    · right
      refine ⟨u, m', by rw [q.2.2 31 k (by unfold fxR; omega)]; exact a, by rw [r.2.1 82 (by unfold scM; omega)]; exact b, c, d.q q, e, f.cong (fun i hi => q.2.1 _ (by unfold scC; omega)), ?_⟩
      rw [r.2.1 81 (by unfold scM; omega)]; exact g
  · intro k l u hk hl a b
    rw [q.2.2 31 k (by unfold fxR; omega)] at a
    rw [q.2.2 31 l (by unfold fxR; omega)] at b
    exact i3 k l u hk hl a b
theorem step_q {f g : Mm → Option (Int32 × Mm)} (h : ∀ σ τ, Inv σ τ → ∃ (r : Int32) (σ' τ' : Mm), f σ = some (r, σ') ∧ g τ = some (r, τ') ∧ QC σ σ' ∧ QM τ τ') : StepI Inv f g := by
  intro σ τ hi
  obtain ⟨r, σ', τ', h1, h2, h3, h4⟩ := h σ τ hi
  have hn : nn σ' = nn τ := by rw [h3.1]; exact hi.2.2.1
  refine ⟨r, σ', τ', h1, ?_, ?_, inv_q hi h3 h4⟩
  · rw [hn, setn_self]; exact h2
  · rw [h4.1, hn]
theorem inv_nn {σ τ : Mm} (h : Inv σ τ) : 65 < nn σ := by have := h.1.1; omega
