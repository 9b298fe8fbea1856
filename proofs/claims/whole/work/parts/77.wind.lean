/-! sets as numbers -/
def msk (p : Nat → Bool) : Nat → Nat
  | 0 => 0
  | c + 1 => msk p c + (if p c then 2 ^ c else 0)
theorem msk_lt (p : Nat → Bool) : ∀ c, msk p c < 2 ^ c := by
  intro c
  induction c with
  | zero => exact (by decide : 0 < 2 ^ 0)
  | succ c ih =>
    unfold msk
    rw [Nat.pow_succ]
    by_cases h : p c
    · rw [if_pos h]; omega
    · rw [if_neg h]; omega
theorem msk_12 (p : Nat → Bool) {c : Nat} (h : c ≤ 12) : msk p c < 4096 := Nat.lt_of_lt_of_le (msk_lt p c) (Nat.pow_le_pow_right (by decide) h : 2 ^ c ≤ 2 ^ 12)
theorem or_pow {M c : Nat} (h : M < 2 ^ c) : M ||| 2 ^ c = M + 2 ^ c := by
  have := Nat.two_pow_add_eq_or_of_lt h 1
  rw [Nat.mul_one] at this
  rw [Nat.or_comm, ← this, Nat.add_comm]
theorem msk_or (p : Nat → Bool) {c : Nat} (hc : c ≤ 30) (h : p c = true) : nI (msk p c) ||| ((1 : Int32) <<< (nI c &&& 31)) = nI (msk p (c + 1)) := by
  have h1 := msk_lt p c
  have h2 : 2 ^ c < 2 ^ 32 := Nat.pow_lt_pow_right (by decide) (by omega)
  rw [shl1 (by omega), nI_or _ _ (by omega) h2, or_pow h1]
  conv => rhs; unfold msk
  rw [if_pos h]
theorem msk_no (p : Nat → Bool) {c : Nat} (h : p c = false) : msk p (c + 1) = msk p c := by
  show msk p c + (if p c then 2 ^ c else 0) = msk p c
  rw [if_neg (by rw [h]; decide), Nat.add_zero]
section TW
variable {N : Nat}
/-- who is not explained -/
def nex (cls : Cls) (m : Nat → Nat) (n w : Nat) (c : Nat) : Bool := decide (¬ goV cls m (fb m) c (m (6 + 7 * c)) w n (m (10 + 7 * c)) = m (9 + 7 * c))
theorem unx (hN : 500 ≤ N) {m : Nat → Nat} {t n w : Nat} {cls : Cls} (ht : t < 6) (hL : LWF cls) (hws : WS m) (hn : n ≤ 24) (hw : w < 8) : ∀ d c fu σ, c + d = m 0 → d < fu → WFc σ → RelV σ 9 m → CL σ t cls → ∃ σ', f_X10_unexplainedBy_6 N fu 0 (nI t) (nI n) (nI w) (nI (msk (nex cls m n w) c)) (nI c) σ = some (nI (msk (nex cls m n w) (m 0)), σ') ∧ RO 34 σ σ' := by
  have h12 := hws.1
  have hl2 : ∀ x ∈ [34], 33 ≤ x ∧ x ≤ 50 := by decide
  intro d
  induction d with
  | zero =>
    intro c fu σ h1 h2 hc hr hC
    obtain ⟨fu, rfl⟩ : ∃ q, fu = q + 1 := ⟨fu - 1, by omega⟩
    refine ⟨σ, ?_, RO.rf _ _⟩
    rw [f_X10_unexplainedBy_6, k_0_4 hc, Option.bind_some, v_i (now9 hc), Option.bind_some, hr.1, if_pos (nI_le (by omega) (by omega)), f_X10_unexplainedBy_52, show c = m 0 by omega]
  | succ d ih =>
    intro c fu σ h1 h2 hc hr hC
    obtain ⟨fu, rfl⟩ : ∃ q, fu = q + 1 := ⟨fu - 1, by omega⟩
    obtain ⟨s1, a1, a2⟩ := e_isEx (N := N) hN ht hL hws hw hn (show c < m 0 by omega) hc hr hC
    obtain ⟨σ', f1, f2⟩ := ih (c + 1) fu s1 (by omega) (by omega) (a2.wc hc) ((a2.rs (l := [34]) (by simp)).rel hl2 hr) ((a2.rs (l := [34]) (by simp)).cl hl2 hC)
    refine ⟨σ', ?_, a2.tr f2⟩
    rw [f_X10_unexplainedBy_6, k_0_4 hc, Option.bind_some, v_i (now9 hc), Option.bind_some, hr.1, if_neg (nI_ge (by omega) (by omega)), if_neg (no12 (by omega)), k_o0 hc, Option.bind_some, a1, Option.bind_some]
    unfold f_X10_unexplainedBy_46
    rw [nI_1, ← f1]
    by_cases e : goV cls m (fb m) c (m (6 + 7 * c)) w n (m (10 + 7 * c)) = m (9 + 7 * c)
    · have q : nex cls m n w c = false := by unfold nex; simp [e]
      rw [bi_y e, if_neg z1, msk_no _ q]
    · have q : nex cls m n w c = true := by unfold nex; simp [e]
      rw [bi_n e, if_pos rfl, msk_or _ (by omega) q]
theorem unxM (hN : 500 ≤ N) {m : Nat → Nat} {t n w : Nat} {cls : Cls} (ht : t < 6) (hL : LWF cls) (hws : WS m) (hn : n ≤ 24) (hw : w < 8) (r : Nat → Int32 → Int32 → Int32 → Int32 → Int32 → Int32 → Int32 → Mm → Option (Int32 × Mm)) (l3 l4 l5 l6 : Int32) : ∀ d c fu τ, c + d = m 0 → d < fu → WFm τ → MLaw τ t cls → (∀ i, i < 156 → iv τ 75 i = nI (m i)) → ∃ τ', f_X11_trueWind_48 N r fu 63 (nI t) (nI n) l3 l4 l5 l6 (nI w) (nI (msk (nex cls m n w) c)) (nI c) τ = (if l5 < nI (m 0) - nI (pc (msk (nex cls m n w) (m 0))) then r 63 (nI t) (nI n) l3 (nI w) (nI (m 0) - nI (pc (msk (nex cls m n w) (m 0)))) (nI (msk (nex cls m n w) (m 0))) (nI (w + 1)) τ' else r 63 (nI t) (nI n) l3 l4 l5 l6 (nI (w + 1)) τ') ∧ FG τ τ' := by
  have h12 := hws.1
  intro d
  induction d with
  | zero =>
    intro c fu τ h1 h2 hm hM hs
    obtain ⟨fu, rfl⟩ : ∃ q, fu = q + 1 := ⟨fu - 1, by omega⟩
    refine ⟨τ, ?_, FG.rf _⟩
    rw [f_X11_trueWind_48, m_g24 hm, Option.bind_some, m_aI hm (a := 75) (n := 156) (i := 0) (c := 0) (by decide) rfl rfl (by decide) (by decide), Option.bind_some, hs 0 (by decide), if_pos (nI_le (by omega) (by omega)), Option.bind_some, m_aI hm (a := 75) (n := 156) (i := 0) (c := 0) (by decide) rfl rfl (by decide) (by decide), Option.bind_some, hs 0 (by decide), show c = m 0 by omega, e_bits (msk_12 _ h12) (by omega), Option.bind_some]
    unfold f_X11_trueWind_127
    rw [nI_1]
  | succ d ih =>
    intro c fu τ h1 h2 hm hM hs
    obtain ⟨fu, rfl⟩ : ∃ q, fu = q + 1 := ⟨fu - 1, by omega⟩
    obtain ⟨t1, b1, b2⟩ := e_exM (N := N) hN ht hL hws hw hn (show c < m 0 by omega) hm hM hs
    obtain ⟨τ', f1, f2⟩ := ih (c + 1) fu t1 (by omega) (by omega) (b2.wm hm) (b2.law hM) (b2.said hs)
    refine ⟨τ', ?_, b2.tr f2⟩
    rw [f_X11_trueWind_48, m_g24 hm, Option.bind_some, m_aI hm (a := 75) (n := 156) (i := 0) (c := 0) (by decide) rfl rfl (by decide) (by decide), Option.bind_some, hs 0 (by decide), if_neg (nI_ge (by omega) (by omega)), m_ob hm, Option.bind_some, b1, Option.bind_some]
    unfold f_X11_trueWind_82
    rw [nI_1, ← f1]
    by_cases e : goV cls m (fb m) c (m (6 + 7 * c)) w n (m (10 + 7 * c)) = m (9 + 7 * c)
    · have q : nex cls m n w c = false := by unfold nex; simp [e]
      rw [bi_y e, if_neg z1, msk_no _ q, i32_or0]
    · have q : nex cls m n w c = true := by unfold nex; simp [e]
      rw [bi_n e, if_pos rfl, msk_or _ (by omega) q]
theorem tw_l (hN : 500 ≤ N) {m : Nat → Nat} {t n : Nat} {cls : Cls} (ht : t < 6) (hL : LWF cls) (hws : WS m) (hn : n ≤ 24) (l3 : Int32) : ∀ d w fu (l4 l5 l6 : Int32) σ τ, w + d = 8 → d < fu → WFc σ → RelV σ 9 m → CL σ t cls → WFm τ → MLaw τ t cls → (∀ i, i < 156 → iv τ 75 i = nI (m i)) → ∃ r σ' τ', f_X10_trueWind_32 N fu 0 (nI t) (nI n) l3 l4 l5 l6 (nI w) σ = some (r, σ') ∧ f_X11_trueWind_35 N fu 63 (nI t) (nI n) l3 l4 l5 l6 (nI w) τ = some (r, τ') ∧ RO 34 σ σ' ∧ FG τ τ' := by
  have h12 := hws.1
  have hl2 : ∀ x ∈ [34], 33 ≤ x ∧ x ≤ 50 := by decide
  intro d
  induction d with
  | zero =>
    intro w fu l4 l5 l6 σ τ h1 h2 hc hr hC hm hM hs
    obtain ⟨fu, rfl⟩ : ∃ q, fu = q + 1 := ⟨fu - 1, by omega⟩
    have q : (8 : Int32) ≤ nI w := by rw [show (8 : Int32) = nI 8 from rfl]; exact nI_le (by omega) (by omega)
    refine ⟨if l3 = 0 then l4 else if l3 = 1 then l5 else l6, σ, τ, ?_, ?_, RO.rf _ _, FG.rf _⟩
    · rw [f_X10_trueWind_32, if_pos q]
      unfold f_X10_trueWind_110
      by_cases z0 : l3 = 0
      · rw [if_pos z0, if_pos z0]
      · rw [if_neg z0, if_neg z0]
        by_cases zz : l3 = 1
        · rw [if_pos zz, if_pos zz]
        · rw [if_neg zz, if_neg zz]
    · rw [f_X11_trueWind_35, if_pos q]
      unfold f_X11_trueWind_154
      by_cases z0 : l3 = 0
      · rw [if_pos z0, if_pos z0]
      · rw [if_neg z0, if_neg z0]
        by_cases zz : l3 = 1
        · rw [if_pos zz, if_pos zz]
        · rw [if_neg zz, if_neg zz]
  | succ d ih =>
    intro w fu l4 l5 l6 σ τ h1 h2 hc hr hC hm hM hs
    obtain ⟨fu, rfl⟩ : ∃ q, fu = q + 1 := ⟨fu - 1, by omega⟩
    have q : ¬ (8 : Int32) ≤ nI w := by rw [show (8 : Int32) = nI 8 from rfl]; exact nI_ge (by omega) (by omega)
    obtain ⟨s1, a1, a2⟩ := unx (N := N) hN ht hL hws hn (show w < 8 by omega) (m 0) 0 N σ (by omega) (by omega) hc hr hC
    obtain ⟨t1, b1, b2⟩ := unxM (N := N) hN ht hL hws hn (show w < 8 by omega) (f_X11_trueWind_35 N fu) l3 l4 l5 l6 (m 0) 0 N τ (by omega) (by omega) hm hM hs
    have c1 := a2.wc hc
    have r1 : RelV s1 9 m := (a2.rs (l := [34]) (by simp)).rel hl2 hr
    have a1 : f_X10_unexplainedBy N 0 (nI t) (nI n) (nI w) σ = some (nI (msk (nex cls m n w) (m 0)), s1) := a1
    have b1' : f_X11_trueWind_48 N (f_X11_trueWind_35 N fu) N 63 (nI t) (nI n) l3 l4 l5 l6 (nI w) 0 0 τ = _ := b1
    rw [f_X10_trueWind_32, if_neg q, k_o0 hc, Option.bind_some, a1, Option.bind_some, k_0_4 c1, Option.bind_some, v_i (now9 c1), Option.bind_some, r1.1, e_bitCount (msk_12 _ h12), Option.bind_some, f_X11_trueWind_35, if_neg q, b1']
    unfold f_X10_trueWind_83
    simp only [nI_1]
    have nx : ∀ l4 l5 l6, ∃ r σ' τ', f_X10_trueWind_32 N fu 0 (nI t) (nI n) l3 l4 l5 l6 (nI (w + 1)) s1 = some (r, σ') ∧ f_X11_trueWind_35 N fu 63 (nI t) (nI n) l3 l4 l5 l6 (nI (w + 1)) t1 = some (r, τ') ∧ RO 34 σ σ' ∧ FG τ τ' := fun l4 l5 l6 => by
      obtain ⟨r, σ', τ', x1, x2, x3, x4⟩ := ih (w + 1) fu l4 l5 l6 s1 t1 (by omega) (by omega) c1 r1 ((a2.rs (l := [34]) (by simp)).cl hl2 hC) (b2.wm hm) (b2.law hM) (b2.said hs)
      exact ⟨r, σ', τ', x1, x2, a2.tr x3, b2.tr x4⟩
    by_cases e : nI (m 0) - nI (pc (msk (nex cls m n w) (m 0))) ≤ l5
    · rw [if_pos e, if_neg (Int32.not_lt.mpr e)]; exact nx _ _ _
    · rw [if_neg e, if_pos (Int32.not_le.mp e)]; exact nx _ _ _
theorem st_trueWind (hN : 500 ≤ N) (a1 a2 a3 : Int32) : StepI Inv (f_X10_trueWind N 0 a1 a2 a3) (f_X11_trueWind N 63 a1 a2 a3) := by
  refine step_q fun σ τ hi => ?_
  obtain ⟨hc, hm, hnn, -, ⟨nl, l1, l2, l3, l4⟩, ⟨m, hw, hr, hs⟩, -⟩ := hi
  have h12 := hw.1
  unfold f_X10_trueWind f_X10_trueWind_18 f_X11_trueWind f_X11_trueWind_21
  rw [k_o0 hc, Option.bind_some, m_ob hm, Option.bind_some]
  by_cases hB : CB m nl a1 0 a2
  · rw [(e_canBlow hc hr.1 h12 l2 a1 0 a2).1 hB, (e_canEx hm (hs 0 (by decide)) h12 l3 a1 a2).1 hB, Option.bind_some, Option.bind_some]
    simp only [if_neg z1, e_isBelow, e_in_n a3 3 (by decide) (by decide) (show (2 : Int64) = (nI 2).toInt64 by decide), Option.bind_some, show (3 : Int32) = nI 3 from rfl]
    obtain ⟨t, w, n, rfl, ht, -, -, rfl, hn⟩ := hB.ex l1
    rcases bi_01 (0 ≤ a3 ∧ a3 < nI 3) with h3 | h3
    · rw [h3]
      exact ⟨_, _, _, rfl, rfl, QC.rf _, QM.rf _⟩
    · rw [h3, if_neg z1, if_neg z1]
      obtain ⟨cls, L1, L2, L3, L4, L5⟩ := l4 t ht
      obtain ⟨r, σ', τ', x1, x2, x3, x4⟩ := tw_l (N := N) hN (show t < 6 by omega) L1 hw hn a3 8 0 N 0 (-1) 0 σ τ (by omega) (by omega) hc hr ⟨L2.1, L2.2⟩ hm ⟨L3, L4, L5⟩ hs
      exact ⟨r, σ', τ', x1, x2, x3.qc (by unfold scC; omega), x4.qm⟩
  · rw [(e_canBlow hc hr.1 h12 l2 a1 0 a2).2 hB, (e_canEx hm (hs 0 (by decide)) h12 l3 a1 a2).2 hB]
    exact ⟨_, _, _, rfl, rfl, QC.rf _, QM.rf _⟩
/-! blow -/
def blM (m g : Nat → Nat) (c i : Nat) : Nat := if 9 ≤ i ∧ (i - 9) % 7 = 0 ∧ (i - 9) / 7 < c then g ((i - 9) / 7) else m i
theorem blM_lo (m g : Nat → Nat) {c i : Nat} (hc : c ≤ 12) (h : ¬ (9 ≤ i ∧ (i - 9) % 7 = 0 ∧ i ≤ 86)) : blM m g c i = m i := by unfold blM; rw [if_neg (by omega)]
theorem blM_s (m g : Nat → Nat) (c : Nat) : um (blM m g c) (4 + 7 * c + 5) (g c) = blM m g (c + 1) := by
  funext i
  unfold um blM
  by_cases e : i = 4 + 7 * c + 5
  · rw [if_pos e, if_pos (by omega), show (i - 9) / 7 = c by omega]
  · rw [if_neg e]
    by_cases q : 9 ≤ i ∧ (i - 9) % 7 = 0 ∧ (i - 9) / 7 < c
    · rw [if_pos q, if_pos (by omega)]
    · rw [if_neg q, if_neg (by omega)]
theorem goV_cong {cls : Cls} {m m' : Nat → Nat} {c : Nat} (rust w n at' : Nat) (h1 : m' 1 = m 1) (h2 : m' (7 + 7 * c) = m (7 + 7 * c)) (h3 : m' (8 + 7 * c) = m (8 + 7 * c)) (h4 : m' (4 + 7 * c) = m (4 + 7 * c)) (h5 : m' (5 + 7 * c) = m (5 + 7 * c)) (h6 : ∀ i, 88 ≤ i → m' i = m i) : goV cls m' (fb m') c rust w n at' = goV cls m (fb m) c rust w n at' := by
  have e1 : fb m' = fb m := by
    unfold fb
    rw [h1, fmask_cong (m := m) (m 1) (fun t _ => h6 _ (by omega))]
  have e2 : leeN m' (fb m') c w = leeN m (fb m) c w := by
    unfold leeN
    rw [e1, h1]
    apply sg_cong
    intro t _ _
    rw [h4, h5, h6 _ (by omega), h6 _ (by omega)]
  unfold goV
  rw [e2, h2, h3]
theorem blow_l (hN : 500 ≤ N) {m : Nat → Nat} {t n w : Nat} {cls : Cls} (ht : t < 6) (hL : LWF cls) (hn : n ≤ 24) (hw8 : w < 8) (h12 : m 0 ≤ 12) (hws : WS m) {g : Nat → Nat} (hg : ∀ c, g c = goV cls m (fb m) c (m (6 + 7 * c)) w n (m (9 + 7 * c))) : ∀ d c a fu σ τ, c + d = m 0 → d < fu → WFc σ → WFm τ → MLaw τ t cls → InvN σ τ (blM m g c) → (∀ j, j < m 0 → iv σ 50 j = nI (g j)) → ∃ r σ' τ', f_X10_blow_53 N fu 0 (nI a) (nI c) σ = some (r, σ') ∧ f_X11_blow_22 N fu 63 (nI t) (nI w) (nI n) (nI a) (nI c) τ = some (r, τ') ∧ QCn σ σ' ∧ QMn τ τ' ∧ InvN σ' τ' (blM m g (m 0)) := by
  intro d
  induction d with
  | zero =>
    intro c a fu σ τ h1 h2 hc hm hM hI h50
    obtain ⟨fu, rfl⟩ : ∃ q, fu = q + 1 := ⟨fu - 1, by omega⟩
    have hI' := hI
    obtain ⟨hw, hr, hs⟩ := hI
    have e0 : blM m g c 0 = m 0 := blM_lo m g (by omega) (by omega)
    refine ⟨nI a, σ, τ, ?_, ?_, (QC.rf _).n, (QM.rf _).n, by rw [← show c = m 0 by omega]; exact hI'⟩
    · rw [f_X10_blow_53, k_0_4 hc, Option.bind_some, v_i (now9 hc), Option.bind_some, hr.1, e0, if_pos (nI_le (by omega) (by omega)), f_X10_blow_118]
    · rw [f_X11_blow_22, m_g24 hm, Option.bind_some, m_aI hm (a := 75) (n := 156) (i := 0) (c := 0) (by decide) rfl rfl (by decide) (by decide), Option.bind_some, hs 0 (by decide), e0, if_pos (nI_le (by omega) (by omega))]
  | succ d ih =>
    intro c a fu σ τ h1 h2 hc hm hM hI h50
    obtain ⟨fu, rfl⟩ : ∃ q, fu = q + 1 := ⟨fu - 1, by omega⟩
    have hI' := hI
    obtain ⟨hw, hr, hs⟩ := hI
    have e0 : blM m g c 0 = m 0 := blM_lo m g (by omega) (by omega)
    have e5 : blM m g c (9 + 7 * c) = m (9 + 7 * c) := by unfold blM; rw [if_neg (by omega)]
    have e2 : blM m g c (6 + 7 * c) = m (6 + 7 * c) := blM_lo m g (by omega) (by omega)
    have b5 := hws.2.2.2.2.1 c (by omega)
    have g8 : g c < 8 := by rw [hg]; exact goV_lt _ _ _ _ _ _ _ (by omega)
    obtain ⟨τ1, k1, k2⟩ := e_goesTo (N := N) (rust := m (6 + 7 * c)) (at' := m (9 + 7 * c)) (l7 := -1) hN ht hL hw (show c < blM m g c 0 by rw [e0]; omega) hw8 hn (fb_m hw) (by omega) hm hM hs
    rw [goV_cong (m := m) _ _ _ _ (blM_lo m g (by omega) (by omega)) (blM_lo m g (by omega) (by omega)) (blM_lo m g (by omega) (by omega)) (blM_lo m g (by omega) (by omega)) (blM_lo m g (by omega) (by omega)) (fun i hi => blM_lo m g (by omega) (by omega)), ← hg] at k1
    have m1 := k2.wm hm
    have hI1 : InvN σ τ1 (blM m g c) := ⟨hw, hr, k2.said hs⟩
    have hI2 := hI1.cock (c := c) (k := 5) (v := g c) (by rw [e0]; omega) (by decide) (show g c ≤ 7 by omega)
    rw [blM_s] at hI2
    have q1 : QCn σ (si σ (9 + (1 + 5)) c (nI (g c))) := QCn.si σ _ _ (by decide)
    have q2 : QMn τ (si τ1 75 (4 + 7 * c + 5) (nI (g c))) := k2.qm.n.tr (QMn.si τ1 _ _)
    have m2 : WFm (si τ1 75 (4 + 7 * c + 5) (nI (g c))) := m1
    have M2 : MLaw (si τ1 75 (4 + 7 * c + 5) (nI (g c))) t cls := by
      have := k2.law hM
      unfold MLaw at this ⊢
      rw [iv_row τ1 _ _ (show 68 ≠ 75 by decide), iv_row τ1 _ _ (show 65 ≠ 75 by decide), iv_row τ1 _ _ (show 67 ≠ 75 by decide)]
      exact this
    have r5 : iv σ (9 + 6) c = nI (m (9 + 7 * c)) := by
      have := hr.2.2.2.2.1 c (by rw [e0]; omega) 5 (by decide)
      rwa [show 4 + 7 * c + 5 = 9 + 7 * c by omega, e5] at this
    have nx : ∀ a', ∃ r σ' τ', f_X10_blow_53 N fu 0 (nI a') (nI (c + 1)) (si σ (9 + 6) c (nI (g c))) = some (r, σ') ∧ f_X11_blow_22 N fu 63 (nI t) (nI w) (nI n) (nI a') (nI (c + 1)) (si τ1 75 (4 + 7 * c + 5) (nI (g c))) = some (r, τ') ∧ QCn σ σ' ∧ QMn τ τ' ∧ InvN σ' τ' (blM m g (m 0)) := fun a' => by
      obtain ⟨r, σ', τ', x1, x2, x3, x4, x5⟩ := ih (c + 1) a' fu _ _ (by omega) (by omega) (hc.qn q1) m2 M2 hI2 (fun j hj => by rw [iv_row σ _ _ (by decide)]; exact h50 j hj)
      exact ⟨r, σ', τ', x1, x2, q1.tr x3, q2.tr x4, x5⟩
    rw [f_X10_blow_53, k_0_4 hc, Option.bind_some, v_i (now9 hc), Option.bind_some, hr.1, e0, if_neg (nI_ge (by omega) (by omega)), if_neg (no12 (by omega)), k_0_13 hc, Option.bind_some, k_aI hc (a := 50) (n := 12) (c := c) (by decide) rfl rfl (by omega) (by decide), Option.bind_some, h50 c (by omega), Option.bind_some, v_g6 (now9 hc), Option.bind_some, v_a (now9 hc) rfl (by decide) (by decide) (by omega), Option.bind_some, r5,
      f_X11_blow_22, m_g24 hm, Option.bind_some, m_aI hm (a := 75) (n := 156) (i := 0) (c := 0) (by decide) rfl rfl (by decide) (by decide), Option.bind_some, hs 0 (by decide), e0, if_neg (nI_ge (by omega) (by omega)), m_ob hm, Option.bind_some, e_c5 hm (by omega), Option.bind_some, m_ob hm, Option.bind_some, e_c2 hm (by omega), Option.bind_some, m_ob hm, Option.bind_some, hs (4 + 7 * c + 5) (by omega), hs (4 + 7 * c + 2) (by omega), show 4 + 7 * c + 5 = 9 + 7 * c by omega, show 4 + 7 * c + 2 = 6 + 7 * c by omega, e5, e2, k1, Option.bind_some, m_ob m1, Option.bind_some, e_c5 m1 (by omega), Option.bind_some, k2.said hs (4 + 7 * c + 5) (by omega), show 4 + 7 * c + 5 = 9 + 7 * c by omega, e5]
    unfold f_X10_blow_95 f_X11_blow_78
    have sC : sI 13 σ (9 + 6) (nI c) (nI (g c)) = some (si σ (9 + 6) c (nI (g c))) := v_s (now9 hc) rfl (by decide) (by decide) (by omega)
    have sM : sI 113 τ1 75 (((4 : Int32) + ((7 : Int32) * nI c)) + (5 : Int32)) (nI (g c)) = some (si τ1 75 (4 + 7 * c + 5) (nI (g c))) := m_sI m1 (by decide) rfl (by rw [← nI_add, ← nI_add, ← pk_mul]; rfl) (by omega) (by decide)
    have aC : aI 13 σ 50 (nI c) = some (nI (g c)) := by rw [k_aI hc (a := 50) (n := 12) (c := c) (by decide) rfl rfl (by omega) (by decide), h50 c (by omega)]
    simp only [k_0_4 hc, v_g6 (now9 hc), k_0_13 hc, aC, sC, m_g24 m1, sM, Option.bind_some]
    simp only [nI_1, show (0 : Int32) = nI 0 from rfl, nI_add, Nat.add_zero]
    by_cases e : nI (g c) = nI (m (9 + 7 * c))
    · rw [if_pos e, if_pos e]; exact nx _
    · rw [if_neg e, if_neg e]; exact nx _
theorem st_blow (hN : 500 ≤ N) (a1 a2 a3 : Int32) : StepI Inv (f_X10_blow N 0 a1 a2 a3) (f_X11_blow N 63 a1 a2 a3) := by
  refine step_n fun σ τ hi => ?_
  obtain ⟨hc, hm, hnn, -, ⟨nl, l1, l2, l3, l4⟩, ⟨m, hI⟩, -⟩ := id hi
  obtain ⟨hw, hr, hs⟩ := id hI
  have h12 := hw.1
  unfold f_X10_blow f_X10_blow_15 f_X11_blow f_X11_blow_14
  rw [k_o0 hc, Option.bind_some, m_ob hm, Option.bind_some]
  by_cases hB : CB m nl a1 a2 a3
  · rw [(e_canBlow hc hr.1 h12 l2 a1 a2 a3).1 hB, (e_canBlowM hm (hs 0 (by decide)) h12 l3 a1 a2 a3).1 hB, Option.bind_some, Option.bind_some, if_neg z1, if_neg z1]
    obtain ⟨t, w, n, rfl, ht, rfl, hw8, rfl, hn⟩ := hB.ex l1
    by_cases hn0 : n = 0
    · subst hn0
      rw [if_neg (by decide), if_pos (show nI 0 = (0 : Int32) from rfl)]
      exact ⟨_, _, _, rfl, rfl, rfl, rfl, hi⟩
    · obtain ⟨cls, L1, L2, L3, L4, L5⟩ := l4 t ht
      obtain ⟨σ1, a1, a2, a3⟩ := e_turnAll (N := N) (o := 50) hN (show t < 6 by omega) L1 hw hw8 hn hw.fm (fb_c m) (Or.inl rfl) hc hr ⟨L2.1, L2.2⟩
      have hl2 : ∀ x ∈ [34, 50], 33 ≤ x ∧ x ≤ 50 := by decide
      have hr1 := a2.rel hl2 hr
      obtain ⟨g, hg⟩ : ∃ g : Nat → Nat, ∀ c, g c = goV cls m (fb m) c (m (6 + 7 * c)) w n (m (9 + 7 * c)) := ⟨_, fun _ => rfl⟩
      have hb0 : blM m g 0 = m := by funext i; unfold blM; rw [if_neg (by omega)]
      obtain ⟨r, σ', τ', x1, x2, x3, x4, x5⟩ := blow_l (N := N) hN (show t < 6 by omega) L1 hn hw8 h12 hw hg (m 0) 0 0 N σ1 τ (by omega) (by omega) (a2.wc hc) hm ⟨L3, L4, L5⟩ (by rw [hb0]; exact ⟨hw, hr1, hs⟩) (fun j hj => by rw [hg]; exact a3 j hj)
      have q1 : QCn σ σ' := (a2.qc hl2).n.tr x3
      refine ⟨r, σ', τ', ?_, ?_, q1.1, x4.1, inv_n hi q1 x4 ⟨_, x5⟩⟩
      · rw [if_pos (show (1 : Int32) ≤ nI n by rw [show (1 : Int32) = nI 1 from rfl]; exact nI_le (by omega) (by omega)), k_0_9 hc, Option.bind_some, k_0_7 hc, Option.bind_some, k_law hc (by omega), Option.bind_some, k_0_4 hc, Option.bind_some, Option.bind_some, v_i (now9 hc), Option.bind_some, k_0_13 hc, Option.bind_some, k_o33 hc, Option.bind_some, hr.2.2.2.1, a1, Option.bind_some]
        exact x1
      · rw [if_neg (show ¬ nI n = (0 : Int32) from nIk (by omega) (by decide) hn0)]
        exact x2
  · rw [(e_canBlow hc hr.1 h12 l2 a1 a2 a3).2 hB, (e_canBlowM hm (hs 0 (by decide)) h12 l3 a1 a2 a3).2 hB]
    exact ⟨_, _, _, rfl, rfl, rfl, rfl, hi⟩
end TW
