/-! several rows change -/
def RS (l : List Nat) (σ σ' : Mm) : Prop := nn σ' = nn σ ∧ (∀ x, rv σ' x = rv σ x) ∧ ∀ x, x ∉ l → iv σ' x = iv σ x
theorem RS.rf (l : List Nat) (σ : Mm) : RS l σ σ := ⟨rfl, fun _ => rfl, fun _ _ => rfl⟩
theorem RS.tr {l : List Nat} {a b c : Mm} (h : RS l a b) (g : RS l b c) : RS l a c := ⟨g.1.trans h.1, fun x => (g.2.1 x).trans (h.2.1 x), fun x q => (g.2.2 x q).trans (h.2.2 x q)⟩
theorem RS.mono {l l' : List Nat} {σ σ' : Mm} (h : RS l σ σ') (hl : ∀ x ∈ l, x ∈ l') : RS l' σ σ' := ⟨h.1, h.2.1, fun x q => h.2.2 x (fun e => q (hl x e))⟩
theorem RO.rs {o : Nat} {l : List Nat} {σ σ' : Mm} (h : RO o σ σ') (ho : o ∈ l) : RS l σ σ' := ⟨h.1, h.2.1, fun x q => h.2.2 x (fun e => q (e ▸ ho))⟩
theorem FK.rs {σ σ' : Mm} (h : FK σ σ') (l : List Nat) : RS l σ σ' := ⟨h.1, h.2.1, fun x _ => h.2.2 x⟩
theorem RS.wc {l : List Nat} {σ σ' : Mm} (h : RS l σ σ') (hc : WFc σ) : WFc σ' := hc.rvc h.1 h.2.1
theorem RS.qc {l : List Nat} {σ σ' : Mm} (h : RS l σ σ') (hl : ∀ x ∈ l, (33 ≤ x ∧ x ≤ 50)) : QC σ σ' := ⟨h.1, fun x q => h.2.2 x (fun e => q (Or.inr (Or.inr (hl x e)))), fun x k _ => by rw [h.2.1 x]⟩
theorem RS.rel {l : List Nat} {σ σ' : Mm} {m : Nat → Nat} (h : RS l σ σ') (hl : ∀ x ∈ l, (33 ≤ x ∧ x ≤ 50)) (hr : RelV σ 9 m) : RelV σ' 9 m := hr.cong (fun i hi => h.2.2 _ (fun e => by have := hl _ e; omega))
theorem RS.cl {l : List Nat} {σ σ' : Mm} {t : Nat} {cls : Cls} (h : RS l σ σ') (hl : ∀ x ∈ l, (33 ≤ x ∧ x ≤ 50)) (hC : CL σ t cls) : CL σ' t cls := hC.cong (fun o ho => h.2.2 o (fun e => by have := hl _ e; omega))
def FS (l : List Nat) (τ τ' : Mm) : Prop := nn τ' = nn τ ∧ (∀ o, rv τ' o = rv τ o) ∧ (∀ o, o ∉ l → o ≠ 63 → iv τ' o = iv τ o) ∧ ∀ k, k ≠ 22 → k ≠ 28 → iv τ' 63 k = iv τ 63 k
theorem FS.rf (l : List Nat) (τ : Mm) : FS l τ τ := ⟨rfl, fun _ => rfl, fun _ _ _ => rfl, fun _ _ _ => rfl⟩
theorem FS.tr {l : List Nat} {a b c : Mm} (h : FS l a b) (g : FS l b c) : FS l a c := ⟨g.1.trans h.1, fun x => (g.2.1 x).trans (h.2.1 x), fun x q r => (g.2.2.1 x q r).trans (h.2.2.1 x q r), fun x q r => (g.2.2.2 x q r).trans (h.2.2.2 x q r)⟩
theorem FS.mono {l l' : List Nat} {τ τ' : Mm} (h : FS l τ τ') (hl : ∀ x ∈ l, x ∈ l') : FS l' τ τ' := ⟨h.1, h.2.1, fun x q => h.2.2.1 x (fun e => q (hl x e)), h.2.2.2⟩
theorem FG.fs {τ τ' : Mm} (h : FG τ τ') (l : List Nat) : FS l τ τ' := ⟨h.1, h.2.1, fun o _ q => h.2.2.1 o q, fun k q _ => h.2.2.2 k q⟩
theorem RO.fs {o : Nat} {l : List Nat} {τ τ' : Mm} (h : RO o τ τ') (ho : o ∈ l) (h63 : o ≠ 63) : FS l τ τ' := ⟨h.1, h.2.1, fun x q _ => h.2.2 x (fun e => q (e ▸ ho)), fun k _ _ => by rw [h.2.2 63 (Ne.symm h63)]⟩
theorem FS.wm {l : List Nat} {τ τ' : Mm} (h : FS l τ τ') (hm : WFm τ) : WFm τ' := hm.rvc h.1 h.2.1
theorem FS.qm {l : List Nat} {τ τ' : Mm} (h : FS l τ τ') (hl : ∀ x ∈ l, 76 ≤ x ∧ x ≤ 80) : QM τ τ' := ⟨h.1, fun o q => h.2.2.1 o (fun e => q (Or.inr (Or.inr (hl o e)))) (fun e => q (Or.inl e)), h.2.2.2 1 (by decide) (by decide), h.2.2.2 2 (by decide) (by decide), h.2.1⟩
theorem FS.law {l : List Nat} {τ τ' : Mm} (h : FS l τ τ') (hl : ∀ x ∈ l, 76 ≤ x ∧ x ≤ 80) {t : Nat} {cls : Cls} (hM : MLaw τ t cls) : MLaw τ' t cls := by
  have q : ∀ o, o < 76 → o ∉ l := fun o ho e => by have := hl o e; omega
  unfold MLaw at hM ⊢
  rw [h.2.2.1 68 (q _ (by decide)) (by decide), h.2.2.1 65 (q _ (by decide)) (by decide), h.2.2.1 67 (q _ (by decide)) (by decide)]
  exact hM
theorem FS.said {l : List Nat} {τ τ' : Mm} (h : FS l τ τ') (hl : ∀ x ∈ l, 76 ≤ x ∧ x ≤ 80) {m : Nat → Nat} (hs : ∀ i, i < 156 → iv τ 75 i = nI (m i)) : ∀ i, i < 156 → iv τ' 75 i = nI (m i) := fun i hi => by rw [h.2.2.1 75 (fun e => by have := hl _ e; omega) (by decide)]; exact hs i hi
/-! who may blow -/
def CB (m : Nat → Nat) (nl : Nat) (a1 a2 a3 : Int32) : Prop := 0 < m 0 ∧ (0 ≤ a1 ∧ a1 < nI nl) ∧ (0 ≤ a2 ∧ a2 < nI 8) ∧ 0 ≤ a3 ∧ a3 < nI 25
theorem CB.ex {m : Nat → Nat} {nl : Nat} {a1 a2 a3 : Int32} (h : CB m nl a1 a2 a3) (hn : nl ≤ 6) : ∃ t w n, a1 = nI t ∧ t < nl ∧ a2 = nI w ∧ w < 8 ∧ a3 = nI n ∧ n ≤ 24 := by
  obtain ⟨h0, h1, h2, h3⟩ := h
  rcases bi_in (x := a1) (n := nl) (by omega) with ⟨t, t1, t2, -⟩ | ⟨q, -⟩
  · rcases bi_in (x := a2) (n := 8) (by omega) with ⟨w, w1, w2, -⟩ | ⟨q, -⟩
    · rcases bi_in (x := a3) (n := 25) (by omega) with ⟨n, n1, n2, -⟩ | ⟨q, -⟩
      · exact ⟨t, w, n, t2, t1, w2, w1, n2, by omega⟩
      · exact absurd h3 q
    · exact absurd h2 q
  · exact absurd h1 q
section BL
variable {N : Nat}
theorem e_canBlow {σ : Mm} {m : Nat → Nat} {nl : Nat} (hc : WFc σ) (hr : iv σ 9 0 = nI (m 0)) (h12 : m 0 ≤ 12) (hl : iv σ 0 8 = nI nl) (a1 a2 a3 : Int32) : (CB m nl a1 a2 a3 → f_X10_canBlow N 0 a1 a2 a3 σ = some (1, σ)) ∧ (¬ CB m nl a1 a2 a3 → f_X10_canBlow N 0 a1 a2 a3 σ = some (0, σ)) := by
  unfold f_X10_canBlow f_X10_canBlow_40 f_X10_canBlow_41 CB
  simp only [k_o0 hc, Option.bind_some, e_isThere hc, hr, k_i0 hc, hl, e_isBelow, show (8 : Int32) = nI 8 from rfl, show (25 : Int32) = nI 25 from rfl]
  constructor
  · intro ⟨h0, h1, h2, h3⟩
    rw [bi_y ((pos_iff (by omega)).mpr h0), if_neg z1, bi_y h1, if_neg z1, bi_y h2, if_neg z1, bi_y h3, if_neg z1]
    rfl
  · intro h
    by_cases h0 : 0 < m 0
    · rw [bi_y ((pos_iff (by omega)).mpr h0), if_neg z1]
      by_cases h1 : 0 ≤ a1 ∧ a1 < nI nl
      · rw [bi_y h1, if_neg z1]
        by_cases h2 : 0 ≤ a2 ∧ a2 < nI 8
        · rw [bi_y h2, if_neg z1, bi_n (fun q => h ⟨h0, h1, h2, q⟩)]; rfl
        · rw [bi_n h2]; rfl
      · rw [bi_n h1]; rfl
    · rw [bi_n (by rw [pos_iff (by omega)]; exact h0)]; rfl
theorem e_canBlowM {τ : Mm} {m : Nat → Nat} {nl : Nat} (hm : WFm τ) (hr : iv τ 75 0 = nI (m 0)) (h12 : m 0 ≤ 12) (hl : iv τ 63 2 = nI nl) (a1 a2 a3 : Int32) : (CB m nl a1 a2 a3 → f_X11_canBlow N 63 a1 a2 a3 τ = some (1, τ)) ∧ (¬ CB m nl a1 a2 a3 → f_X11_canBlow N 63 a1 a2 a3 τ = some (0, τ)) := by
  unfold f_X11_canBlow f_X11_canBlow_40 f_X11_canBlow_41 CB
  simp only [m_g24 hm, Option.bind_some, m_aI hm (a := 75) (n := 156) (i := 0) (c := 0) (by decide) rfl rfl (by decide) (by decide), hr, m_ob hm, e_isLaw hm, hl, e_isPoint, e_in_n a3 25 (by decide) (by decide) (show (24 : Int64) = (nI 24).toInt64 by decide), show (8 : Int32) = nI 8 from rfl]
  have p0 : nI (m 0) ≤ 0 ↔ ¬ 0 < m 0 := by
    rw [← Int32.not_lt, pos_iff (by omega)]
  constructor
  · intro ⟨h0, h1, h2, h3⟩
    rw [if_neg (fun q => p0.mp q h0), bi_y h1, if_neg z1, bi_y h2, if_neg z1, bi_y h3, if_neg z1]
    rfl
  · intro h
    by_cases h0 : 0 < m 0
    · rw [if_neg (fun q => p0.mp q h0)]
      by_cases h1 : 0 ≤ a1 ∧ a1 < nI nl
      · rw [bi_y h1, if_neg z1]
        by_cases h2 : 0 ≤ a2 ∧ a2 < nI 8
        · rw [bi_y h2, if_neg z1, bi_n (fun q => h ⟨h0, h1, h2, q⟩)]; rfl
        · rw [bi_n h2]; rfl
      · rw [bi_n h1]; rfl
    · rw [if_pos (p0.mpr h0)]; rfl
theorem e_canEx {τ : Mm} {m : Nat → Nat} {nl : Nat} (hm : WFm τ) (hr : iv τ 75 0 = nI (m 0)) (h12 : m 0 ≤ 12) (hl : iv τ 63 2 = nI nl) (a1 a3 : Int32) : (CB m nl a1 0 a3 → f_X11_canExplain N 63 a1 a3 τ = some (1, τ)) ∧ (¬ CB m nl a1 0 a3 → f_X11_canExplain N 63 a1 a3 τ = some (0, τ)) := by
  unfold f_X11_canExplain f_X11_canExplain_33 f_X11_canExplain_34 CB
  simp only [m_g24 hm, Option.bind_some, m_aI hm (a := 75) (n := 156) (i := 0) (c := 0) (by decide) rfl rfl (by decide) (by decide), hr, m_ob hm, e_isLaw hm, hl, e_in_n a3 25 (by decide) (by decide) (show (24 : Int64) = (nI 24).toInt64 by decide)]
  have p0 : nI (m 0) ≤ 0 ↔ ¬ 0 < m 0 := by
    rw [← Int32.not_lt, pos_iff (by omega)]
  constructor
  · intro ⟨h0, h1, h2, h3⟩
    rw [if_neg (fun q => p0.mp q h0), bi_y h1, if_neg z1, bi_y h3, if_neg z1]
    rfl
  · intro h
    by_cases h0 : 0 < m 0
    · rw [if_neg (fun q => p0.mp q h0)]
      by_cases h1 : 0 ≤ a1 ∧ a1 < nI nl
      · rw [bi_y h1, if_neg z1, bi_n (fun q => h ⟨h0, h1, by decide, q⟩)]; rfl
      · rw [bi_n h1]; rfl
    · rw [if_pos (p0.mpr h0)]; rfl
theorem k_law {σ : Mm} (h : WFc σ) {t : Nat} (ht : t < 6) : aN 16 σ 32 (nI t) = some (51 + 2 * t) := by
  unfold aN
  rw [show SH 32 = (16, 6) from rfl, if_pos ⟨⟨pp_lt (by have := h.1; omega) h.1, rfl⟩, nI_pos (by omega), by rw [nI_clamp (by omega)]; exact ht⟩, nI_clamp (by omega)]
  have : ∀ t, t < 6 → (32, t, 51 + 2 * t) ∈ crefs := by decide
  exact h.2.1 _ (this t ht)
/-- all COCKS turn -/
theorem tall (hN : 500 ≤ N) {m : Nat → Nat} {t n w F o : Nat} {cls : Cls} {b : Nat → Bool} (ht : t < 6) (hL : LWF cls) (hws : WS m) (hw : w < 8) (hn : n ≤ 24) (hF : F < 4096) (hb : ∀ t, t < m 1 → b t = F.testBit t) (ho : o = 50 ∨ o = 43) : ∀ d c fu σ, c + d = m 0 → d < fu → WFc σ → RelV σ 9 m → CL σ t cls → (∀ j, j < c → iv σ o j = nI (goV cls m b j (m (6 + 7 * j)) w n (m (9 + 7 * j)))) → ∃ σ', f_X9_turnAll_3 N fu 33 (51 + 2 * t) 9 (nI w) (nI n) (nI F) o (nI c) σ = some σ' ∧ RS [34, o] σ σ' ∧ ∀ j, j < m 0 → iv σ' o j = nI (goV cls m b j (m (6 + 7 * j)) w n (m (9 + 7 * j))) := by
  have h12 := hws.1
  have ho83 : o < 85 := by omega
  have ho34 : o ≠ 34 := by omega
  have hsh : SH o = (13, 12) := by rcases ho with rfl | rfl <;> rfl
  have hl2 : ∀ x ∈ [34, o], 33 ≤ x ∧ x ≤ 50 := by
    intro x hx
    rcases List.mem_cons.mp hx with q | q
    · omega
    · have := List.mem_singleton.mp q; omega
  intro d
  induction d with
  | zero =>
    intro c fu σ h1 h2 hc hr hC hj
    obtain ⟨fu, rfl⟩ : ∃ q, fu = q + 1 := ⟨fu - 1, by omega⟩
    refine ⟨σ, ?_, RS.rf _ _, fun j hj' => hj j (by omega)⟩
    rw [f_X9_turnAll_3, v_i (now9 hc), Option.bind_some, hr.1, if_pos (nI_le (by omega) (by omega))]
    rfl
  | succ d ih =>
    intro c fu σ h1 h2 hc hr hC hj
    obtain ⟨fu, rfl⟩ : ∃ q, fu = q + 1 := ⟨fu - 1, by omega⟩
    obtain ⟨s1, a1, a2, a3⟩ := e_stand (N := N) (by omega) hc hr hws hF (show c < m 0 by omega) hw hb
    have c1 := a2.wc hc
    have b5 := hws.2.2.2.2.1 c (by omega)
    have C1 : CL s1 t cls := (a2.rs (l := [34, o]) (by simp)).cl hl2 hC
    obtain ⟨s2, d1, d2⟩ := e_turned (N := N) (at' := m (9 + 7 * c)) hN ht hL hw hn (by omega) c1 C1 a3
    have c2 := d2.wc c1
    have r2 : RS [34, o] σ s2 := (a2.rs (by simp)).tr (d2.rs (by simp))
    have r3 : RS [34, o] σ (si s2 o c (nI (goV cls m b c (m (6 + 7 * c)) w n (m (9 + 7 * c))))) := r2.tr ((RO.si o s2 _ _).rs (by simp))
    have rd : iv s1 (9 + 6) c = nI (m (9 + 7 * c)) := by
      have := hr.2.2.2.2.1 c (by omega) 5 (by decide)
      rw [a2.2.2 _ (by decide)]
      rwa [show 4 + 7 * c + 5 = 9 + 7 * c by omega] at this
    obtain ⟨σ', f1, f2, f3⟩ := ih (c + 1) fu _ (by omega) (by omega) (r3.wc hc) (r3.rel hl2 hr) (r3.cl hl2 hC) (fun j hj' => by
      rw [iv_si]
      by_cases e : j = c
      · rw [if_pos ⟨rfl, e⟩, e]
      · rw [if_neg (fun q => e q.2), d2.2.2 o ho34, a2.2.2 o ho34]; exact hj j (by omega))
    refine ⟨σ', ?_, r3.tr f2, f3⟩
    rw [f_X9_turnAll_3, v_i (now9 hc), Option.bind_some, hr.1, if_neg (nI_ge (by omega) (by omega)), if_neg (by rw [show (12 : Int32) = nI 12 from rfl]; exact nI_ge (by omega) (by decide)), k_ln hc ho83 hsh, Option.bind_some, if_neg (nI_ge (by omega) (by decide)), k_o33 hc, Option.bind_some, a1, Option.bind_some, v_g6 (now9 c1), Option.bind_some, v_a (now9 c1) rfl (by decide) (by decide) (by omega), Option.bind_some, k_o33 c1, Option.bind_some, rd, d1, Option.bind_some, k_sI c2 ho83 hsh rfl (show c < 12 by omega) (by decide), Option.bind_some, nI_1]
    exact f1
theorem e_turnAll (hN : 500 ≤ N) {m : Nat → Nat} {t n w F o : Nat} {cls : Cls} {b : Nat → Bool} {σ : Mm} (ht : t < 6) (hL : LWF cls) (hws : WS m) (hw : w < 8) (hn : n ≤ 24) (hF : F < 4096) (hb : ∀ t, t < m 1 → b t = F.testBit t) (ho : o = 50 ∨ o = 43) (hc : WFc σ) (hr : RelV σ 9 m) (hC : CL σ t cls) : ∃ σ', f_X9_turnAll N 33 (51 + 2 * t) 9 (nI w) (nI n) (nI F) o σ = some σ' ∧ RS [34, o] σ σ' ∧ ∀ j, j < m 0 → iv σ' o j = nI (goV cls m b j (m (6 + 7 * j)) w n (m (9 + 7 * j))) :=
  tall hN ht hL hws hw hn hF hb ho (m 0) 0 N σ (by omega) (by have := hws.1; omega) hc hr hC (fun j hj => absurd hj (by omega))
/-! explained -/
theorem e_isEx (hN : 500 ≤ N) {m : Nat → Nat} {t n w c : Nat} {cls : Cls} {σ : Mm} (ht : t < 6) (hL : LWF cls) (hws : WS m) (hw : w < 8) (hn : n ≤ 24) (hcm : c < m 0) (hc : WFc σ) (hr : RelV σ 9 m) (hC : CL σ t cls) : ∃ σ', f_X10_isExplained N 0 (nI t) (nI n) (nI c) (nI w) σ = some (bi (goV cls m (fb m) c (m (6 + 7 * c)) w n (m (10 + 7 * c)) = m (9 + 7 * c)), σ') ∧ RO 34 σ σ' := by
  have h12 := hws.1
  have b5 := hws.2.2.2.2.1 c (by omega)
  obtain ⟨s1, a1, a2, a3⟩ := e_stand (N := N) (by omega) hc hr hws hws.fm hcm hw (fb_c m)
  have c1 := a2.wc hc
  have C1 : CL s1 t cls := hC.cong (fun o ho => a2.2.2 o (by omega))
  obtain ⟨s2, d1, d2⟩ := e_turned (N := N) (at' := m (10 + 7 * c)) hN ht hL hw hn (by omega) c1 C1 a3
  have c2 := d2.wc c1
  have d1 : f_X9_turned N 33 (51 + 2 * t) (nI (m (10 + 7 * c))) (nI n) s1 = some (nI (goV cls m (fb m) c (m (6 + 7 * c)) w n (m (10 + 7 * c))), s2) := d1
  have rd6 : iv s1 (9 + 7) c = nI (m (10 + 7 * c)) := by
    have := hr.2.2.2.2.1 c hcm 6 (by decide)
    rw [a2.2.2 _ (by decide)]
    rwa [show 4 + 7 * c + 6 = 10 + 7 * c by omega] at this
  have rd5 : iv s2 (9 + 6) c = nI (m (9 + 7 * c)) := by
    have := hr.2.2.2.2.1 c hcm 5 (by decide)
    rw [d2.2.2 _ (by decide), a2.2.2 _ (by decide)]
    rwa [show 4 + 7 * c + 5 = 9 + 7 * c by omega] at this
  have hg := goV_lt cls m (fb m) c (m (6 + 7 * c)) w n (show m (10 + 7 * c) < 8 by omega)
  refine ⟨s2, ?_, a2.tr d2⟩
  unfold f_X10_isExplained f_X10_isExplained_61
  rw [k_0_9 hc, Option.bind_some, k_0_4 hc, Option.bind_some, Option.bind_some, v_i (now9 hc), Option.bind_some, hr.2.2.2.1, k_o33 hc, Option.bind_some, a1, Option.bind_some, k_0_9 c1, Option.bind_some, k_0_7 c1, Option.bind_some, k_law c1 ht, Option.bind_some, k_0_4 c1, Option.bind_some, v_g7 (now9 c1), Option.bind_some, v_a (now9 c1) rfl (by decide) (by decide) (by omega), Option.bind_some, k_o33 c1, Option.bind_some, rd6, d1, Option.bind_some, k_0_4 c2, Option.bind_some, v_g6 (now9 c2), Option.bind_some, v_a (now9 c2) rfl (by decide) (by decide) (by omega), Option.bind_some, rd5]
  by_cases e : goV cls m (fb m) c (m (6 + 7 * c)) w n (m (10 + 7 * c)) = m (9 + 7 * c)
  · rw [if_pos (by rw [e]), bi_y e]; rfl
  · rw [if_neg (by rw [nI_eq (by omega) (by omega)]; exact e), bi_n e]; rfl
theorem e_exM (hN : 500 ≤ N) {m : Nat → Nat} {t n w c : Nat} {cls : Cls} {τ : Mm} (ht : t < 6) (hL : LWF cls) (hws : WS m) (hw : w < 8) (hn : n ≤ 24) (hcm : c < m 0) (hm : WFm τ) (hM : MLaw τ t cls) (hs : ∀ i, i < 156 → iv τ 75 i = nI (m i)) : ∃ τ', f_X11_explains N 63 (nI t) (nI n) (nI c) (nI w) τ = some (bi (goV cls m (fb m) c (m (6 + 7 * c)) w n (m (10 + 7 * c)) = m (9 + 7 * c)), τ') ∧ FG τ τ' := by
  have h12 := hws.1
  have b5 := hws.2.2.2.2.1 c (by omega)
  obtain ⟨τ1, a1, a2⟩ := e_goesTo (N := N) (rust := m (6 + 7 * c)) (at' := m (10 + 7 * c)) (l7 := -1) hN ht hL hws hcm hw hn (fb_m hws) (by omega) hm hM hs
  have m1 := a2.wm hm
  have hg := goV_lt cls m (fb m) c (m (6 + 7 * c)) w n (show m (10 + 7 * c) < 8 by omega)
  refine ⟨τ1, ?_, a2⟩
  unfold f_X11_explains f_X11_explains_37
  rw [m_ob hm, Option.bind_some, e_c6 hm (by omega), Option.bind_some, m_ob hm, Option.bind_some, e_c2 hm (by omega), Option.bind_some, m_ob hm, Option.bind_some, hs _ (by omega), hs _ (by omega), show 4 + 7 * c + 6 = 10 + 7 * c by omega, show 4 + 7 * c + 2 = 6 + 7 * c by omega, a1, Option.bind_some, m_ob m1, Option.bind_some, e_c5 m1 (by omega), Option.bind_some, a2.said hs _ (by omega), show 4 + 7 * c + 5 = 9 + 7 * c by omega]
  by_cases e : goV cls m (fb m) c (m (6 + 7 * c)) w n (m (10 + 7 * c)) = m (9 + 7 * c)
  · rw [if_pos (by rw [e]), bi_y e]; rfl
  · rw [if_neg (by rw [nI_eq (by omega) (by omega)]; exact e), bi_n e]; rfl
theorem i32_or0 (x : Int32) : x ||| 0 = x := by
  apply Int32.toBitVec_inj.mp
  show x.toBitVec ||| 0 = x.toBitVec
  exact BitVec.or_zero
theorem ex_l (hN : 500 ≤ N) {m : Nat → Nat} {t n c : Nat} {cls : Cls} (ht : t < 6) (hL : LWF cls) (hws : WS m) (hn : n ≤ 24) (hcm : c < m 0) : ∀ d w fu (a : Int32) σ τ, w + d = 8 → d < fu → WFc σ → RelV σ 9 m → CL σ t cls → WFm τ → MLaw τ t cls → (∀ i, i < 156 → iv τ 75 i = nI (m i)) → ∃ r σ' τ', f_X10_explained_29 N fu 0 (nI t) (nI n) (nI c) a (nI w) σ = some (r, σ') ∧ f_X11_explained_25 N fu 63 (nI t) (nI n) (nI c) a (nI w) τ = some (r, τ') ∧ RO 34 σ σ' ∧ FG τ τ' := by
  intro d
  induction d with
  | zero =>
    intro w fu a σ τ h1 h2 hc hr hC hm hM hs
    obtain ⟨fu, rfl⟩ : ∃ q, fu = q + 1 := ⟨fu - 1, by omega⟩
    have q : (8 : Int32) ≤ nI w := by rw [show (8 : Int32) = nI 8 from rfl]; exact nI_le (by omega) (by omega)
    refine ⟨a, σ, τ, ?_, ?_, RO.rf _ _, FG.rf _⟩
    · rw [f_X10_explained_29, if_pos q]
    · rw [f_X11_explained_25, if_pos q]
  | succ d ih =>
    intro w fu a σ τ h1 h2 hc hr hC hm hM hs
    obtain ⟨fu, rfl⟩ : ∃ q, fu = q + 1 := ⟨fu - 1, by omega⟩
    have q : ¬ (8 : Int32) ≤ nI w := by rw [show (8 : Int32) = nI 8 from rfl]; exact nI_ge (by omega) (by omega)
    obtain ⟨s1, a1, a2⟩ := e_isEx (N := N) hN ht hL hws (show w < 8 by omega) hn hcm hc hr hC
    obtain ⟨t1, b1, b2⟩ := e_exM (N := N) hN ht hL hws (show w < 8 by omega) hn hcm hm hM hs
    rw [f_X10_explained_29, if_neg q, k_o0 hc, Option.bind_some, a1, Option.bind_some, f_X11_explained_25, if_neg q, m_ob hm, Option.bind_some, b1, Option.bind_some]
    unfold f_X10_explained_57 f_X11_explained_54
    simp only [nI_1, i32_or0]
    have hl2 : ∀ x ∈ [34], 33 ≤ x ∧ x ≤ 50 := by decide
    have nx : ∀ a', ∃ r σ' τ', f_X10_explained_29 N fu 0 (nI t) (nI n) (nI c) a' (nI (w + 1)) s1 = some (r, σ') ∧ f_X11_explained_25 N fu 63 (nI t) (nI n) (nI c) a' (nI (w + 1)) t1 = some (r, τ') ∧ RO 34 σ σ' ∧ FG τ τ' := fun a' => by
      obtain ⟨r, σ', τ', x1, x2, x3, x4⟩ := ih (w + 1) fu a' s1 t1 (by omega) (by omega) (a2.wc hc) ((a2.rs (l := [34]) (by simp)).rel hl2 hr) ((a2.rs (l := [34]) (by simp)).cl hl2 hC) (b2.wm hm) (b2.law hM) (b2.said hs)
      exact ⟨r, σ', τ', x1, x2, a2.tr x3, b2.tr x4⟩
    rcases bi_01 (goV cls m (fb m) c (m (6 + 7 * c)) w n (m (10 + 7 * c)) = m (9 + 7 * c)) with e | e
    · simp only [e, if_true]; exact nx _
    · simp only [e, if_neg z1]; exact nx _
theorem st_explained (hN : 500 ≤ N) (a1 a2 a3 : Int32) : StepI Inv (f_X10_explained N 0 a1 a2 a3) (f_X11_explained N 63 a1 a2 a3) := by
  refine step_q fun σ τ hi => ?_
  obtain ⟨hc, hm, hnn, -, ⟨nl, l1, l2, l3, l4⟩, ⟨m, hw, hr, hs⟩, -⟩ := hi
  have h12 := hw.1
  unfold f_X10_explained f_X10_explained_21 f_X11_explained f_X11_explained_17
  rw [k_o0 hc, Option.bind_some, m_ob hm, Option.bind_some]
  by_cases hB : CB m nl a1 0 a2
  · rw [(e_canBlow hc hr.1 h12 l2 a1 0 a2).1 hB, (e_canEx hm (hs 0 (by decide)) h12 l3 a1 a2).1 hB, Option.bind_some, Option.bind_some]
    simp only [if_neg z1, k_0_4 hc, v_o (now9 hc), e_hasCock (now9 hc) hr.1 h12, m_ob hm, e_isCock hm, hs 0 (by decide), Option.bind_some]
    obtain ⟨t, w, n, rfl, ht, -, -, rfl, hn⟩ := hB.ex l1
    rcases bi_in (x := a3) (n := m 0) (by omega) with ⟨c, h1, rfl, h3⟩ | ⟨h1, h2⟩
    · rw [h3, if_neg z1, if_neg z1]
      obtain ⟨cls, L1, L2, L3, L4, L5⟩ := l4 t ht
      obtain ⟨r, σ', τ', x1, x2, x3, x4⟩ := ex_l (N := N) hN (show t < 6 by omega) L1 hw hn h1 8 0 N 0 σ τ (by omega) (by omega) hc hr ⟨L2.1, L2.2⟩ hm ⟨L3, L4, L5⟩ hs
      exact ⟨r, σ', τ', x1, x2, x3.qc (by unfold scC; omega), x4.qm⟩
    · rw [h2]
      exact ⟨_, _, _, rfl, rfl, QC.rf _, QM.rf _⟩
  · rw [(e_canBlow hc hr.1 h12 l2 a1 0 a2).2 hB, (e_canEx hm (hs 0 (by decide)) h12 l3 a1 a2).2 hB]
    exact ⟨_, _, _, rfl, rfl, QC.rf _, QM.rf _⟩
end BL
