/-! how a COCK turns -/
def turnV (w : Nat → Int64) : Cls → Int64
  | [] => 0
  | c :: r => match c.2 with
    | none => JV w c.1
    | some l => if JV w l = 0 then turnV w r else JV w c.1
def clWF (c : List Nat × Option (List Nat)) : Prop := (OV c.1 ∧ ∀ t ∈ c.1, okT t) ∧ ∀ l, c.2 = some l → OV l ∧ ∀ t ∈ l, okT t
theorem gapl {α : Type} {a b : List α} {k : Nat} (d : α) (h : k < a.length) : (a ++ b).getD k d = a.getD k d := by
  rw [List.getD_eq_getElem?_getD, List.getD_eq_getElem?_getD, List.getElem?_append_left h]
theorem gapr {α : Type} (a b : List α) (k : Nat) (d : α) : (a ++ b).getD (a.length + k) d = b.getD k d := by
  rw [List.getD_eq_getElem?_getD, List.getD_eq_getElem?_getD, List.getElem?_append_right (by omega), show a.length + k - a.length = k by omega]
theorem gmap {α β : Type} {l : List α} (f : α → β) {k : Nat} (d : β) (e : α) (h : k < l.length) : (l.map f).getD k d = f (l.getD k e) := by
  rw [List.getD_eq_getElem?_getD, List.getD_eq_getElem?_getD, List.getElem?_map, List.getElem?_eq_getElem h]; rfl
def clampI (v : Int64) (off : Nat) : Int32 := if v < 0 then 0 else if v ≤ (nI off).toInt64 then v.toInt32 else nI off
section GO
variable {N : Nat}
theorem tf_turn {σ : Mm} {t i len fu : Nat} {x : Int64} (hc : WFc σ) (ht : t < 6) (hl : iv σ (51 + 2 * t) 1 = nI len) (hlen : len ≤ 400) (hi : i < len) (hx : iv σ (52 + 2 * t) i = -20) (hS : SC σ [x]) : f_X2_turnFor_5 N (fu + 1) (51 + 2 * t) 34 35 (nI [x].length) (nI i) σ = some (x, σ) := by
  rw [show [x].length = 1 from rfl, tf_116 (g := 20) hc ht hl hlen hi (by omega) hx (by decide) (by decide) (by omega) (Or.inl rfl)]
  unfold f_X2_turnFor_116
  rw [if_pos (show nI 20 = (20 : Int32) from rfl), show nI 1 - 1 = nI 0 from rfl, k_aJ hc rfl (by decide), Option.bind_some]
  exact congrArg (fun q => some (q, σ)) hS.top
theorem tf_if {σ : Mm} {t i len fu : Nat} {x y : Int64} (hc : WFc σ) (ht : t < 6) (hl : iv σ (51 + 2 * t) 1 = nI len) (hlen : len ≤ 400) (hi : i < len) (hx : iv σ (52 + 2 * t) i = -21) (hS : SC σ [y, x]) : f_X2_turnFor_5 N (fu + 1) (51 + 2 * t) 34 35 (nI [y, x].length) (nI i) σ = if y = 0 then f_X2_turnFor_5 N fu (51 + 2 * t) 34 35 (nI 0) (nI (i + 1)) σ else some (x, σ) := by
  rw [show [y, x].length = 2 from rfl, tf_116 (g := 21) hc ht hl hlen hi (by omega) hx (by decide) (by decide) (by omega) (Or.inr (Or.inr (by omega)))]
  unfold f_X2_turnFor_116 f_X2_turnFor_203
  have t1 : jv σ 35 1 = y := hS.top
  have t2 : jv σ 35 0 = x := hS.tail.top
  rw [if_neg (by decide), if_neg (by decide), if_pos (show nI 21 = (21 : Int32) from rfl), show nI 2 - 1 = nI 1 from rfl, show nI 2 - 2 = nI 0 from rfl, show nI 2 + -2 = nI 0 from rfl, k_aJ hc rfl (by decide), Option.bind_some, k_aJ hc rfl (by decide), Option.bind_some, t1, t2, nI_1]
  by_cases h : y = 0
  · rw [if_pos ((cmp_eq y 0).mpr h), if_pos h]
  · rw [if_neg (fun q => h ((cmp_eq y 0).mp q)), if_neg h]
theorem progC_cons (c : List Nat × Option (List Nat)) (r : Cls) : progC (c :: r) = (c.1.map clT ++ (match c.2 with
    | none => [-20]
    | some t => t.map clT ++ [-21])) ++ progC r := rfl
theorem progM_cons (c : List Nat × Option (List Nat)) (r : Cls) : progM (c :: r) = (c.1 ++ c.2.getD []) ++ progM r := rfl
theorem tfor {w : Nat → Int64} {t len : Nat} (ht : t < 6) (hlen : len ≤ 400) : ∀ (cls : Cls) (p fu : Nat) (σ : Mm), WFc σ → (∀ v, v < 9 → (iv σ 34 v).toInt64 = w v) → iv σ (51 + 2 * t) 1 = nI len → len = p + (progC cls).length → (∀ k, k < (progC cls).length → iv σ (52 + 2 * t) (p + k) = (progC cls).getD k 0) → (∀ c ∈ cls, clWF c) → pushes (progM cls) ≤ 60 → (progC cls).length < fu → ∃ σ', f_X2_turnFor_5 N fu (51 + 2 * t) 34 35 (nI 0) (nI p) σ = some (turnV w cls, σ') ∧ FK σ σ' := by
  intro cls
  induction cls with
  | nil =>
    intro p fu σ hc hw hl hp hv wf hpu hf
    obtain ⟨fu, rfl⟩ : ∃ q, fu = q + 1 := ⟨fu - 1, by omega⟩
    refine ⟨σ, ?_, FK.rf σ⟩
    have : len = p := by simpa [progC] using hp
    rw [f_X2_turnFor_5, k_iL hc ht, Option.bind_some, hl, if_pos (nI_le (by omega) (by omega))]
    rfl
  | cons c r ih =>
    intro p fu σ hc hw hl hp hv wf hpu hf
    obtain ⟨⟨ov1, ok1⟩, h2⟩ := wf c List.mem_cons_self
    rw [progC_cons] at hp hv hf
    rw [progM_cons, pushes_app, pushes_app] at hpu
    have hS0 : SC σ [] := fun i hi => absurd hi (by simp)
    cases e : c.2 with
    | none =>
      rw [e] at hp hv hf hpu
      simp only [List.length_append, List.length_map, List.length_cons, List.length_nil] at hp hf hv
      obtain ⟨σ1, a1, a2, a3⟩ := trn (N := N) (w := w) ht hlen c.1 p fu σ [] [JV w c.1] hc hS0 hw hl (fun k hk => by
        rw [hv k (by omega), gapl _ (by simp; omega), gapl _ (by simpa using hk), gmap clT 0 0 hk]) ok1 (ov1.jv w []) (by simp; omega) (by omega) (by omega)
      refine ⟨σ1, ?_, a3⟩
      obtain ⟨fu2, hfu⟩ : ∃ q, fu - c.1.length = q + 1 := ⟨fu - c.1.length - 1, by omega⟩
      have hx : iv σ1 (52 + 2 * t) (p + c.1.length) = -20 := by
        rw [a3.2.2, hv c.1.length (by omega), gapl _ (by simp)]
        have := gapr (c.1.map clT) [(-20 : Int32)] 0 0
        rw [List.length_map, Nat.add_zero] at this
        exact this
      rw [show nI 0 = nI ([] : List Int64).length from rfl, a1, hfu, tf_turn (a3.wc hc) ht (by rw [a3.2.2]; exact hl) hlen (by omega) hx a2]
      unfold turnV
      rw [e]
    | some l =>
      obtain ⟨ov2, ok2⟩ := h2 l e
      rw [e] at hp hv hf hpu
      simp only [List.length_append, List.length_map, List.length_cons, List.length_nil] at hp hf hv
      rw [Option.getD_some] at hpu
      obtain ⟨σ1, a1, a2, a3⟩ := trn (N := N) (w := w) ht hlen c.1 p fu σ [] [JV w c.1] hc hS0 hw hl (fun k hk => by
        rw [hv k (by omega), gapl _ (by simp; omega), gapl _ (by simpa using hk), gmap clT 0 0 hk]) ok1 (ov1.jv w []) (by simp; omega) (by omega) (by omega)
      obtain ⟨σ2, b1, b2, b3⟩ := trn (N := N) (w := w) ht hlen l (p + c.1.length) (fu - c.1.length) σ1 [JV w c.1] [JV w l, JV w c.1] (a3.wc hc) a2 (fun v hv' => by rw [a3.2.2]; exact hw v hv') (by rw [a3.2.2]; exact hl) (fun k hk => by
        rw [a3.2.2, Nat.add_assoc, hv _ (by omega), gapl _ (by simp; omega)]
        have := gapr (c.1.map clT) (l.map clT ++ [(-21 : Int32)]) k 0
        rw [List.length_map] at this
        rw [this, gapl _ (by simpa using hk), gmap clT 0 0 hk]) ok2 (ov2.jv w _) (by simp; omega) (by omega) (by omega)
      have f2 := a3.tr b3
      obtain ⟨fu2, hfu⟩ : ∃ q, fu - c.1.length - l.length = q + 1 := ⟨fu - c.1.length - l.length - 1, by omega⟩
      have hx : iv σ2 (52 + 2 * t) (p + c.1.length + l.length) = -21 := by
        rw [f2.2.2, show p + c.1.length + l.length = p + (c.1.length + l.length) by omega, hv _ (by omega), gapl _ (by simp)]
        have := gapr (c.1.map clT) (l.map clT ++ [(-21 : Int32)]) l.length 0
        rw [List.length_map] at this
        rw [this]
        have := gapr (l.map clT) [(-21 : Int32)] 0 0
        rw [List.length_map, Nat.add_zero] at this
        exact this
      rw [show nI 0 = nI ([] : List Int64).length from rfl, a1, b1, hfu, tf_if (f2.wc hc) ht (by rw [f2.2.2]; exact hl) hlen (by omega) hx b2]
      unfold turnV
      rw [e]
      by_cases hz : JV w l = 0
      · rw [if_pos hz]
        obtain ⟨σ3, d1, d2⟩ := ih (p + c.1.length + l.length + 1) fu2 σ2 (f2.wc hc) (fun v hv' => by rw [f2.2.2]; exact hw v hv') (by rw [f2.2.2]; exact hl) (by omega) (fun k hk => by
          rw [f2.2.2, show p + c.1.length + l.length + 1 + k = p + (c.1.length + l.length + 1 + k) by omega, hv _ (by omega)]
          have := gapr (c.1.map clT ++ (l.map clT ++ [(-21 : Int32)])) (progC r) k 0
          simp only [List.length_append, List.length_map, List.length_cons, List.length_nil] at this
          rw [← this]
          congr 1) (fun c' hc' => wf c' (List.mem_cons_of_mem _ hc')) (by omega) (by omega)
        exact ⟨σ3, by simp only [if_pos hz]; exact d1, f2.tr d2⟩
      · rw [if_neg hz]
        exact ⟨σ2, by simp only [if_neg hz], f2⟩
theorem e_turnFor (hN : 500 ≤ N) {σ τ : Mm} {w : Nat → Int64} {t : Nat} {cls : Cls} (ht : t < 6) (hc : WFc σ) (hw : ∀ v, v < 9 → (iv σ 34 v).toInt64 = w v) (hL : LWF cls) (hl : iv σ (51 + 2 * t) 1 = nI (progC cls).length) (hv : ∀ i, i < (progC cls).length → iv σ (52 + 2 * t) i = (progC cls).getD i 0) : ∃ σ', f_X2_turnFor N (51 + 2 * t) 34 35 σ = some (turnV w cls, σ') ∧ FK σ σ' := by
  unfold f_X2_turnFor
  exact tfor ht hL.2.1 cls 0 N σ hc hw hl (by omega) (fun k hk => by rw [Nat.zero_add]; exact hv k hk) hL.2.2.2.2 (by have := hL.2.2.2.1; omega) (by have := hL.2.1; omega)
/-! the model -/
theorem e_reckons (hN : 500 ≤ N) {τ : Mm} {w : Nat → Int64} {t b e : Nat} {l : List Nat} (ht : t < 6) (hm : WFm τ) (hw : ∀ v, v < 9 → jv τ 74 v = w v) (hv : ∀ k, k < l.length → iv τ 65 (400 * t + (b + k)) = nI (l.getD k 0)) (ok : ∀ x ∈ l, okT x) (ov : OV l) (hp : pushes l ≤ 64) (he : b + l.length = e) (h4 : e ≤ 400) : ∃ τ', f_X11_reckons N 63 (nI t) (nI b) (nI e) τ = some (JV w l, τ') ∧ FJ τ τ' := by
  have hm1 : WFm (si τ 63 22 0) := hm
  have hS : SM (si τ 63 22 0) [] := ⟨by rw [iv_si, if_pos ⟨rfl, rfl⟩]; rfl, fun i hi => absurd hi (by simp)⟩
  obtain ⟨τ1, a1, a2, a3⟩ := reck (N := N) (w := w) ht h4 l b N (si τ 63 22 0) [] [JV w l] hm1 hS (fun v hv' => hw v hv') (fun k hk => by rw [iv_row τ _ _ (by decide)]; exact hv k hk) ok (ov.jv w []) (by simp; omega) he (by omega)
  obtain ⟨fu, hfu⟩ : ∃ q, N - l.length = q + 1 := ⟨N - l.length - 1, by omega⟩
  obtain ⟨τ2, b1, b2, b3⟩ := a2.pop (N := N) (a3.wm hm1) (by simp)
  refine ⟨τ2, ?_, ((FJ.top τ 0).tr a3).tr b3⟩
  unfold f_X11_reckons
  rw [m_pI hm, Option.bind_some, a1, hfu, f_X11_reckons_8, if_pos (nI_le (by omega) (by omega)), m_ob (a3.wm hm1), Option.bind_some, b1, Option.bind_some]
/-- law t of the model -/
def MLaw (τ : Mm) (t : Nat) (cls : Cls) : Prop := iv τ 68 t = nI cls.length ∧ (∀ i, i < (progM cls).length → iv τ 65 (400 * t + i) = nI ((progM cls).getD i 0)) ∧
  ∀ k c, cls[k]? = some c → iv τ 67 (48 * t + 4 * k) = nI (progM (cls.take k)).length ∧ iv τ 67 (48 * t + 4 * k + 1) = nI ((progM (cls.take k)).length + c.1.length) ∧ iv τ 67 (48 * t + 4 * k + 2) = (if c.2 = none then -1 else nI ((progM (cls.take k)).length + c.1.length)) ∧ iv τ 67 (48 * t + 4 * k + 3) = nI ((progM (cls.take k)).length + c.1.length + (c.2.getD []).length)
theorem FJ.law {τ τ' : Mm} (h : FJ τ τ') {t : Nat} {cls : Cls} (hM : MLaw τ t cls) : MLaw τ' t cls := by
  unfold MLaw at hM ⊢
  rw [h.2.2.1 68 (by decide), h.2.2.1 65 (by decide), h.2.2.1 67 (by decide)]
  exact hM
theorem progM_split {cls : Cls} {k : Nat} {c : List Nat × Option (List Nat)} (h : cls[k]? = some c) : progM cls = progM (cls.take k) ++ ((c.1 ++ c.2.getD []) ++ progM (cls.drop (k + 1))) := by
  have hk : k < cls.length := by
    rcases Nat.lt_or_ge k cls.length with q | q
    · exact q
    · rw [List.getElem?_eq_none q] at h; cases h
  have hc : cls[k] = c := by rw [List.getElem?_eq_getElem hk] at h; exact Option.some.inj h
  have : cls = cls.take k ++ c :: cls.drop (k + 1) := by
    rw [← hc, List.getElem_cons_drop, List.take_append_drop]
  have e2 : progM (cls.take k ++ c :: cls.drop (k + 1)) = progM (cls.take k) ++ progM (c :: cls.drop (k + 1)) := by
    unfold progM; rw [List.flatMap_append]
  rw [← this] at e2
  rw [e2, progM_cons]
theorem tby (hN : 500 ≤ N) {w : Nat → Int64} {t off : Nat} {cls : Cls} (ht : t < 6) (hL : LWF cls) (hoff : w 5 = (nI off).toInt64) (hoff0 : 0 ≤ nI off) : ∀ d k fu τ, k + d = cls.length → d < fu → WFm τ → (∀ v, v < 9 → jv τ 74 v = w v) → MLaw τ t cls → ∃ τ', f_X11_turnsBy_2 N fu 63 (nI t) (nI k) τ = some (clampI (turnV w (cls.drop k)) off, τ') ∧ FJ τ τ' := by
  have h12 := hL.1
  intro d
  induction d with
  | zero =>
    intro k fu τ h1 h2 hm hw hM
    obtain ⟨fu, rfl⟩ : ∃ q, fu = q + 1 := ⟨fu - 1, by omega⟩
    refine ⟨τ, ?_, FJ.rf τ⟩
    rw [f_X11_turnsBy_2, m_g6 hm, Option.bind_some, m_aI hm (a := 68) (n := 6) (c := t) (by decide) rfl rfl ht (by decide), Option.bind_some, hM.1, if_pos (nI_le (by omega) (by omega)), List.drop_eq_nil_of_le (by omega)]
    have : clampI (turnV w []) off = 0 := by
      unfold clampI turnV
      rw [if_neg (by decide)]
      by_cases q : (0 : Int64) ≤ (nI off).toInt64
      · rw [if_pos q]; rfl
      · rw [if_neg q]
        exfalso
        apply q
        rw [show (0 : Int64) = (0 : Int32).toInt64 from rfl, i64_le]
        exact hoff0
    rw [this]
  | succ d ih =>
    intro k fu τ h1 h2 hm hw hM
    obtain ⟨fu, rfl⟩ : ∃ q, fu = q + 1 := ⟨fu - 1, by omega⟩
    have hk : k < cls.length := by omega
    obtain ⟨c, hck⟩ : ∃ c, cls[k]? = some c := ⟨_, List.getElem?_eq_getElem hk⟩
    have hcm : c ∈ cls := List.mem_of_getElem? hck
    obtain ⟨⟨ov1, ok1⟩, h2c⟩ := hL.2.2.2.2 c hcm
    obtain ⟨q0, q1, q2, q3⟩ := hM.2.2 k c hck
    have hsp := progM_split hck
    have hlen := congrArg List.length hsp
    simp only [List.length_append] at hlen
    have hpu := hL.2.2.2.1
    rw [hsp, pushes_app, pushes_app, pushes_app] at hpu
    have h400 := hL.2.2.1
    have hv : ∀ (τ1 : Mm), FJ τ τ1 → ∀ i, i < c.1.length → iv τ1 65 (400 * t + ((progM (cls.take k)).length + i)) = nI (c.1.getD i 0) := fun τ1 f1 i hi => by
      rw [f1.2.2.1 65 (by decide), hM.2.1 _ (by omega), hsp, gapr, gapl _ (by simp; omega), gapl _ hi]
    have hrd : ∀ (τ1 : Mm), FJ τ τ1 → ∀ j, j < 4 → aI 113 τ1 67 (((48 : Int32) * nI t) + ((4 : Int32) * nI k) + nI j) = some (iv τ 67 (48 * t + 4 * k + j)) := fun τ1 f1 j hj => by
      rw [m_aI (f1.wm hm) (a := 67) (n := 288) (c := 48 * t + 4 * k + j) (by decide) rfl (by rw [← nI_add, ← nI_add, ← pk_mul, ← pk_mul]; rfl) (by omega) (by decide), f1.2.2.1 67 (by decide)]
    have fin : ∀ (τ1 : Mm), FJ τ τ1 → ∃ τ', f_X11_turnsBy_65 N 63 (nI t) (((48 : Int32) * nI t) + ((4 : Int32) * nI k)) τ1 = some (clampI (JV w c.1) off, τ') ∧ FJ τ τ' := by
      intro τ1 f1
      obtain ⟨τ2, g1, g2⟩ := e_reckons (N := N) (w := w) (b := (progM (cls.take k)).length) (e := (progM (cls.take k)).length + c.1.length) hN ht (f1.wm hm) (fun v hv' => by rw [f1.2.2.2.2 74 (by decide)]; exact hw v hv') (hv τ1 f1) ok1 ov1 (by omega) rfl (by omega)
      refine ⟨τ2, ?_, f1.tr g2⟩
      have r0 := hrd τ1 f1 0 (by decide)
      have r1 := hrd τ1 f1 1 (by decide)
      rw [show nI 0 = (0 : Int32) from rfl, Int32.add_zero] at r0
      rw [show nI 1 = (1 : Int32) from rfl] at r1
      have hm2 := g2.wm (f1.wm hm)
      have w5 : jv τ2 74 5 = (nI off).toInt64 := by rw [g2.2.2.2.2 74 (by decide), f1.2.2.2.2 74 (by decide), hw 5 (by decide), hoff]
      unfold f_X11_turnsBy_65 f_X11_turnsBy_124
      rw [m_g5 (f1.wm hm), Option.bind_some, r0, Option.bind_some, Option.bind_some, r1, Option.bind_some, m_ob (f1.wm hm), Option.bind_some, Nat.add_zero, q0, q1, g1, Option.bind_some, m_g23 hm2, Option.bind_some, m_aJ hm2 (a := 74) (n := 9) (i := (5 : Int32)) (c := 5) (by decide) rfl rfl (by decide) (by decide), Option.bind_some, Option.bind_some, m_aJ hm2 (a := 74) (n := 9) (i := (5 : Int32)) (c := 5) (by decide) rfl rfl (by decide) (by decide), Option.bind_some, w5]
      simp only [cmp_ge, cmp_le]
      unfold clampI
      by_cases hz : JV w c.1 < 0
      · rw [if_neg (Int64.not_le.mpr hz), if_pos hz]
      · rw [if_pos (Int64.not_lt.mp hz), if_neg hz]
        by_cases hz2 : JV w c.1 ≤ (nI off).toInt64
        · rw [if_pos hz2, if_pos hz2]
        · rw [if_neg hz2, if_neg hz2, Int32.toInt32_toInt64]
    have hdr : cls.drop k = c :: cls.drop (k + 1) := by
      have hc : cls[k] = c := by rw [List.getElem?_eq_getElem hk] at hck; exact Option.some.inj hck
      rw [← hc, List.getElem_cons_drop]
    have r2 := hrd τ (FJ.rf τ) 2 (by decide)
    have r3 := hrd τ (FJ.rf τ) 3 (by decide)
    rw [show nI 2 = (2 : Int32) from rfl] at r2
    rw [show nI 3 = (3 : Int32) from rfl] at r3
    rw [f_X11_turnsBy_2, m_g6 hm, Option.bind_some, m_aI hm (a := 68) (n := 6) (c := t) (by decide) rfl rfl ht (by decide), Option.bind_some, hM.1, if_neg (nI_ge hk (by omega)), m_g5 hm, Option.bind_some, r2, Option.bind_some, q2, hdr]
    cases e : c.2 with
    | none =>
      rw [if_pos rfl, if_pos (by decide)]
      obtain ⟨τ', a1, a2⟩ := fin τ (FJ.rf τ)
      refine ⟨τ', ?_, a2⟩
      rw [a1]
      unfold turnV
      rw [e]
    | some l =>
      obtain ⟨ov2, ok2⟩ := h2c l e
      rw [e, Option.getD_some] at hlen hpu q3
      obtain ⟨τ1, g1, g2⟩ := e_reckons (N := N) (w := w) (b := (progM (cls.take k)).length + c.1.length) (e := (progM (cls.take k)).length + c.1.length + l.length) (l := l) hN ht hm hw (fun i hi => by
        rw [hM.2.1 _ (by omega), hsp, e, Option.getD_some, Nat.add_assoc, gapr, gapl _ (by simp; omega), gapr]) ok2 ov2 (by omega) rfl (by omega)
      rw [if_neg (show ¬ (some l : Option (List Nat)) = none by simp), if_neg (nI_pos (by omega)), Option.bind_some, r2, Option.bind_some, Option.bind_some, r3, Option.bind_some, m_ob hm, Option.bind_some, q2, e, if_neg (show ¬ (some l : Option (List Nat)) = none by simp), q3, g1, Option.bind_some]
      have key : turnV w (c :: cls.drop (k + 1)) = if JV w l = 0 then turnV w (cls.drop (k + 1)) else JV w c.1 := by
        conv => lhs; unfold turnV
        rw [e]
      rw [key]
      by_cases hz : JV w l = 0
      · rw [if_pos ((cmp_eq _ _).mpr hz), if_pos hz, nI_1]
        obtain ⟨τ', a1, a2⟩ := ih (k + 1) fu τ1 (by omega) (by omega) (g2.wm hm) (fun v hv' => by rw [g2.2.2.2.2 74 (by decide)]; exact hw v hv') (g2.law hM)
        exact ⟨τ', a1, g2.tr a2⟩
      · rw [if_neg (fun q => hz ((cmp_eq _ _).mp q)), if_neg hz]
        exact fin τ1 g2
end GO
