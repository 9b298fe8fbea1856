/-! what changes the valley -/
def QCn (σ σ' : Mm) : Prop := nn σ' = nn σ ∧ (∀ o, ¬ scC o → ¬ (9 ≤ o ∧ o ≤ 19) → iv σ' o = iv σ o) ∧ ∀ o k, fxR o k → rv σ' o k = rv σ o k
def QMn (τ τ' : Mm) : Prop := nn τ' = nn τ ∧ (∀ o, ¬ scM o → o ≠ 75 → iv τ' o = iv τ o) ∧ iv τ' 63 1 = iv τ 63 1 ∧ iv τ' 63 2 = iv τ 63 2 ∧ ∀ o, rv τ' o = rv τ o
theorem QC.n {σ σ' : Mm} (h : QC σ σ') : QCn σ σ' := ⟨h.1, fun o a _ => h.2.1 o a, h.2.2⟩
theorem QM.n {τ τ' : Mm} (h : QM τ τ') : QMn τ τ' := ⟨h.1, fun o a _ => h.2.1 o a, h.2.2.1, h.2.2.2.1, h.2.2.2.2⟩
theorem QCn.tr {a b c : Mm} (h : QCn a b) (g : QCn b c) : QCn a c := ⟨g.1.trans h.1, fun o q q2 => (g.2.1 o q q2).trans (h.2.1 o q q2), fun o k q => (g.2.2 o k q).trans (h.2.2 o k q)⟩
theorem QMn.tr {a b c : Mm} (h : QMn a b) (g : QMn b c) : QMn a c := ⟨g.1.trans h.1, fun o q q2 => (g.2.1 o q q2).trans (h.2.1 o q q2), g.2.2.1.trans h.2.2.1, g.2.2.2.1.trans h.2.2.2.1, fun o => (g.2.2.2.2 o).trans (h.2.2.2.2 o)⟩
theorem QCn.si (σ : Mm) {o : Nat} (k : Nat) (v : Int32) (h : 9 ≤ o ∧ o ≤ 19) : QCn σ (si σ o k v) := ⟨rfl, fun o' _ q => iv_row σ k v (fun e => q (e ▸ h)), fun _ _ _ => rfl⟩
theorem QMn.si (τ : Mm) (k : Nat) (v : Int32) : QMn τ (si τ 75 k v) := ⟨rfl, fun o' _ q => iv_row τ k v q, rfl, rfl, fun _ => rfl⟩
theorem VW.qn {σ σ' : Mm} {v : Nat} (h : VW σ v) (q : QCn σ σ') : VW σ' v := by
  refine ⟨h.1, by rw [q.1]; exact h.2.1, fun p hp => ?_⟩
  rw [q.2.2 v p.1 (by
    rcases h.1 with e | e | ⟨j, e⟩ <;> (intro z; rcases z with ⟨z, -⟩ | ⟨z, -⟩ <;> omega))]
  exact h.2.2 p hp
theorem WFc.qn {σ σ' : Mm} (h : WFc σ) (q : QCn σ σ') : WFc σ' := by
  refine ⟨by rw [q.1]; exact h.1, fun p hp => ?_, h.2.2.1.qn q, h.2.2.2.qn q⟩
  rw [q.2.2 p.1 p.2.1 ?_]
  · exact h.2.1 p hp
  · have : ∀ p ∈ crefs, ¬ (p.1 = 47 ∧ p.2.1 = 5) := by decide
    exact this p hp
theorem WFm.qn {τ τ' : Mm} (h : WFm τ) (q : QMn τ τ') : WFm τ' := by
  unfold WFm at h ⊢
  rw [q.1, q.2.2.2.2 63]
  exact h
theorem inv_n {σ σ' τ τ' : Mm} (h : Inv σ τ) (q : QCn σ σ') (r : QMn τ τ') (hm : ∃ m, InvN σ' τ' m) : Inv σ' τ' := by
  obtain ⟨h1, h2, h3, ⟨t, by', t1, t2, t3, t4, t5⟩, ⟨nl, l1, l2, l3, l4⟩, -, i1, i2, i3⟩ := h
  refine ⟨h1.qn q, h2.qn r, by rw [q.1, r.1]; exact h3, ⟨t, by', t1, t2, ?_, ?_, ?_⟩, ⟨nl, l1, ?_, ?_, ?_⟩, hm, by rw [q.1]; exact i1, ?_, ?_⟩
  · rw [q.2.1 1 (by unfold scC; omega) (by omega)]; exact t3
  · rw [r.2.2.1]; exact t4
  · rw [q.2.1 2 (by unfold scC; omega) (by omega), r.2.1 64 (by unfold scM; omega) (by omega)]; exact t5
  · rw [q.2.1 0 (by unfold scC; omega) (by omega)]; exact l2
  · rw [r.2.2.2.1]; exact l3
  · intro w hw
    exact (l4 w hw).cong (q.2.1 _ (by unfold scC; omega) (by omega)) (q.2.1 _ (by unfold scC; omega) (by omega)) (r.2.1 _ (by unfold scM; omega) (by omega)) (r.2.1 _ (by unfold scM; omega) (by omega)) (r.2.1 _ (by unfold scM; omega) (by omega))
  · intro k hk
    rcases i2 k hk with ⟨a, b⟩ | ⟨u, m', a, b, c, d, e, f, g⟩
    · left
      exact ⟨by rw [q.2.2 31 k (by unfold fxR; omega)]; exact a, by rw [r.2.1 82 (by unfold scM; omega) (by omega)]; exact b⟩
    · right
      refine ⟨u, m', by rw [q.2.2 31 k (by unfold fxR; omega)]; exact a, by rw [r.2.1 82 (by unfold scM; omega) (by omega)]; exact b, c, d.qn q, e, f.cong (fun i hi => q.2.1 _ (by unfold scC; omega) (by omega)), ?_⟩
      rw [r.2.1 81 (by unfold scM; omega) (by omega)]; exact g
  · intro k l u hk hl a b
    rw [q.2.2 31 k (by unfold fxR; omega)] at a
    rw [q.2.2 31 l (by unfold fxR; omega)] at b
    exact i3 k l u hk hl a b
theorem step_n {f g : Mm → Option (Int32 × Mm)} (h : ∀ σ τ, Inv σ τ → ∃ (r : Int32) (σ' τ' : Mm), f σ = some (r, σ') ∧ g τ = some (r, τ') ∧ nn σ' = nn σ ∧ nn τ' = nn τ ∧ Inv σ' τ') : StepI Inv f g := by
  intro σ τ hi
  obtain ⟨r, σ', τ', h1, h2, h3, h4, h5⟩ := h σ τ hi
  have hn : nn σ' = nn τ := by rw [h3]; exact hi.2.2.1
  refine ⟨r, σ', τ', h1, ?_, ?_, h5⟩
  · rw [hn, setn_self]; exact h2
  · rw [h4, hn]
def um (m : Nat → Nat) (i v : Nat) : Nat → Nat := fun j => if j = i then v else m j
theorem um_s (m : Nat → Nat) (i v : Nat) : um m i v i = v := by unfold um; rw [if_pos rfl]
theorem um_n (m : Nat → Nat) {i j : Nat} (v : Nat) (h : j ≠ i) : um m i v j = m j := by unfold um; rw [if_neg h]
theorem fmask_cong {m m' : Nat → Nat} : ∀ n, (∀ t, t < n → m' (90 + 3 * t) = m (90 + 3 * t)) → fmask m' n = fmask m n := by
  intro n
  induction n with
  | zero => intro _; rfl
  | succ n ih =>
    intro h
    unfold fmask
    rw [ih (fun t ht => h t (by omega)), h n (by omega)]
/-- one number of a COCK -/
theorem RelV.cock {σ : Mm} {m : Nat → Nat} (h : RelV σ 9 m) (hw : WS m) {c k : Nat} (v : Nat) (hc : c < m 0) (hk : k < 7) : RelV (si σ (9 + (1 + k)) c (nI v)) 9 (um m (4 + 7 * c + k) v) := by
  obtain ⟨h1, h2, h3, h4, h5, h6, h7⟩ := h
  have hw1 := hw.1
  have hw2 := hw.2.1
  have ne : ∀ j, (j < 4 ∨ 88 ≤ j) → um m (4 + 7 * c + k) v j = m j := fun j hj => um_n m v (by omega)
  have e0 : iv (si σ (9 + (1 + k)) c (nI v)) 9 = iv σ 9 := iv_row σ _ _ (by omega)
  refine ⟨by rw [e0, ne 0 (by omega)]; exact h1, by rw [e0, ne 1 (by omega)]; exact h2, by rw [e0, ne 2 (by omega)]; exact h3, ?_, ?_, ?_, ?_⟩
  · rw [e0, ne 1 (by omega), fmask_cong (m := m) (m 1) (fun t _ => ne _ (by omega))]; exact h4
  · intro c' hc' k' hk'
    rw [ne 0 (by omega)] at hc'
    rw [iv_si]
    by_cases e : 9 + 1 + k' = 9 + (1 + k) ∧ c' = c
    · rw [if_pos e, show 4 + 7 * c' + k' = 4 + 7 * c + k by omega, um_s]
    · rw [if_neg e, um_n m v (by omega)]; exact h5 c' hc' k' hk'
  · intro t ht
    rw [ne 1 (by omega)] at ht
    rw [iv_row σ _ _ (by omega), iv_row σ _ _ (by omega), ne _ (by omega), ne _ (by omega)]
    exact h6 t ht
  · intro j hj
    rw [iv_row σ _ _ (by omega), ne _ (by omega)]
    exact h7 j hj
theorem WS.cock {m : Nat → Nat} (h : WS m) {c k v : Nat} (hc : c < 12) (hk : k < 7) (hv : v ≤ ([9, 9, 9, 99, 3, 7, 7] : List Nat).getD k 0) : WS (um m (4 + 7 * c + k) v) := by
  obtain ⟨h1, h2, h3, h4, h5, h6, h7⟩ := h
  have ne : ∀ j, (j < 4 ∨ 88 ≤ j) → um m (4 + 7 * c + k) v j = m j := fun j hj => um_n m v (by omega)
  refine ⟨by rw [ne 0 (by omega)]; exact h1, by rw [ne 1 (by omega)]; exact h2, by rw [ne 2 (by omega)]; exact h3, by rw [ne 3 (by omega)]; exact h4, ?_, fun t ht => ?_, fun j hj => by rw [ne _ (by omega)]; exact h7 j hj⟩
  · intro c' hc'
    obtain ⟨a0, a1, a2, a3, a4, a5, a6⟩ := h5 c' hc'
    have key : ∀ k' b, k' < 7 → m (4 + 7 * c' + k') ≤ b → b = ([9, 9, 9, 99, 3, 7, 7] : List Nat).getD k' 0 → um m (4 + 7 * c + k) v (4 + 7 * c' + k') ≤ b := by
      intro k' b hk' hb e
      by_cases e2 : 4 + 7 * c' + k' = 4 + 7 * c + k
      · have : k' = k := by omega
        subst this
        rw [e2, um_s, e]; exact hv
      · rw [um_n m v e2]; exact hb
    exact ⟨key 0 9 (by decide) a0 rfl, by have := key 1 9 (by decide) (by rw [show 4 + 7 * c' + 1 = 5 + 7 * c' by omega]; exact a1) rfl; rwa [show 4 + 7 * c' + 1 = 5 + 7 * c' by omega] at this, by have := key 2 9 (by decide) (by rw [show 4 + 7 * c' + 2 = 6 + 7 * c' by omega]; exact a2) rfl; rwa [show 4 + 7 * c' + 2 = 6 + 7 * c' by omega] at this, by have := key 3 99 (by decide) (by rw [show 4 + 7 * c' + 3 = 7 + 7 * c' by omega]; exact a3) rfl; rwa [show 4 + 7 * c' + 3 = 7 + 7 * c' by omega] at this, by have := key 4 3 (by decide) (by rw [show 4 + 7 * c' + 4 = 8 + 7 * c' by omega]; exact a4) rfl; rwa [show 4 + 7 * c' + 4 = 8 + 7 * c' by omega] at this, by have := key 5 7 (by decide) (by rw [show 4 + 7 * c' + 5 = 9 + 7 * c' by omega]; exact a5) rfl; rwa [show 4 + 7 * c' + 5 = 9 + 7 * c' by omega] at this, by have := key 6 7 (by decide) (by rw [show 4 + 7 * c' + 6 = 10 + 7 * c' by omega]; exact a6) rfl; rwa [show 4 + 7 * c' + 6 = 10 + 7 * c' by omega] at this⟩
  · rw [ne _ (by omega), ne _ (by omega), ne _ (by omega)]; exact h6 t ht
theorem InvN.cock {σ τ : Mm} {m : Nat → Nat} (h : InvN σ τ m) {c k v : Nat} (hc : c < m 0) (hk : k < 7) (hv : v ≤ ([9, 9, 9, 99, 3, 7, 7] : List Nat).getD k 0) : InvN (si σ (9 + (1 + k)) c (nI v)) (si τ 75 (4 + 7 * c + k) (nI v)) (um m (4 + 7 * c + k) v) := by
  obtain ⟨h1, h2, h3⟩ := h
  refine ⟨h1.cock (by have := h1.1; omega) hk hv, h2.cock h1 v hc hk, fun i hi => ?_⟩
  rw [iv_si]
  by_cases e : i = 4 + 7 * c + k
  · rw [if_pos ⟨rfl, e⟩, e, um_s]
  · rw [if_neg (fun q => e q.2), um_n m v e]; exact h3 i hi
section SN
variable {N : Nat}
theorem off_same (a b : Int32) : (if ((8 : Int32) - ((a - b) &&& 7)) < ((a - b) &&& 7) then (8 : Int32) - ((a - b) &&& 7) else (a - b) &&& 7) = if ((a - b) &&& 7) ≤ 4 then (a - b) &&& 7 else 8 - ((a - b) &&& 7) := by
  obtain ⟨j, hj, hx⟩ := pk_andE (a - b) (m := 7) 3 (by decide)
  rw [hx]
  have : ∀ j, j < 8 → (if ((8 : Int32) - nI j) < nI j then (8 : Int32) - nI j else nI j) = if nI j ≤ 4 then nI j else 8 - nI j := by decide
  exact this j hj
/-- OFF: how far two points are apart, right or left -/
def offM (a b : Nat) : Nat := if (b + 8 - a) % 8 ≤ 4 then (b + 8 - a) % 8 else 8 - (b + 8 - a) % 8
theorem and7 : ∀ a, a < 8 → ∀ b, b < 8 → (nI b - nI a) &&& 7 = nI ((b + 8 - a) % 8) := by decide
theorem offM_sym : ∀ a, a < 8 → ∀ b, b < 8 → offM a b = offM b a := by decide
theorem offM_le : ∀ a, a < 8 → ∀ b, b < 8 → offM a b ≤ 4 := by decide
theorem off_val : ∀ a, a < 8 → ∀ b, b < 8 → (if ((nI b - nI a) &&& 7) ≤ 4 then (nI b - nI a) &&& 7 else (8 : Int32) - ((nI b - nI a) &&& 7)) = nI (offM a b) := by decide
theorem e_off' {a b : Nat} {τ : Mm} (ha : a < 8) (hb : b < 8) : f_X11_off N (nI a) (nI b) τ = some (nI (offM a b), τ) := by
  rw [e_off, off_val a ha b hb]
theorem e_offB {a b : Nat} {σ : Mm} (ha : a < 8) (hb : b < 8) : f_X10_offBetween N (nI a) (nI b) σ = some (nI (offM a b), σ) := by
  unfold f_X10_offBetween
  rw [off_same, off_val b hb a ha, offM_sym b hb a ha]
theorem st_bend (a1 a2 : Int32) : StepI Inv (f_X10_bend N 0 a1 a2) (f_X11_bend N 63 a1 a2) := by
  refine step_n fun σ τ hi => ?_
  obtain ⟨hc, hm, hnn, -, -, ⟨m, hI⟩, -⟩ := id hi
  obtain ⟨hw, hr, hs⟩ := id hI
  have h12 := hw.1
  unfold f_X10_bend f_X10_bend_20 f_X11_bend f_X11_bend_15
  simp only [k_0_4 hc, v_o (now9 hc), e_hasCock (now9 hc) hr.1 hw.1, m_ob hm, e_isCock hm, hs 0 (by decide), e_isBelow, e_isPoint, Option.bind_some]
  rcases bi_in (x := a1) (n := m 0) (by omega) with ⟨c, h1, rfl, h3⟩ | ⟨h1, h2⟩
  · rcases bi_in (x := a2) (n := 8) (by decide) with ⟨k, g1, rfl, g3⟩ | ⟨g1, g2⟩
    · have g3 : bi (0 ≤ nI k ∧ nI k < 8) = 1 := g3
      rw [h3, g3]
      simp only [if_neg z1, v_g3 (now9 hc), v_g6 (now9 hc), v_a (now9 hc) rfl (show 1 ≤ 3 by decide) (by decide) (show c < 12 by omega), v_a (now9 hc) rfl (show 1 ≤ 6 by decide) (by decide) (show c < 12 by omega), Option.bind_some, e_c5 hm (show c < 12 by omega)]
      have r1 : iv σ (9 + 3) c = nI (m (6 + 7 * c)) := by have := hr.2.2.2.2.1 c h1 2 (by decide); rwa [show 4 + 7 * c + 2 = 6 + 7 * c by omega] at this
      have r2 : iv σ (9 + 6) c = nI (m (9 + 7 * c)) := by have := hr.2.2.2.2.1 c h1 5 (by decide); rwa [show 4 + 7 * c + 5 = 9 + 7 * c by omega] at this
      have r3 : iv τ 75 (4 + 7 * c + 5) = nI (m (9 + 7 * c)) := by rw [show 4 + 7 * c + 5 = 9 + 7 * c by omega]; exact hs _ (by omega)
      have r4 : iv τ 75 (4 + 7 * c + 2) = nI (m (6 + 7 * c)) := by rw [show 4 + 7 * c + 2 = 6 + 7 * c by omega]; exact hs _ (by omega)
      have b := hw.2.2.2.2.1 c (by omega)
      unfold f_X10_bendingCost f_X11_bendCost
      simp only [r1, r2, r3, e_offB (N := N) (σ := σ) (a := m (9 + 7 * c)) (b := k) (by omega) g1, e_off' (N := N) (τ := τ) (a := m (9 + 7 * c)) (b := k) (by omega) g1, Option.bind_some, m_ob hm, e_c2 hm (show c < 12 by omega), r4, k_0_4 hc, v_g6 (now9 hc), v_s (now9 hc) rfl (show 1 ≤ 6 by decide) (by decide) (show c < 12 by omega), m_g24 hm, m_sI hm (a := 75) (n := 156) (c := 4 + 7 * c + 5) (by decide) rfl (show (((4 : Int32) + ((7 : Int32) * nI c)) + (5 : Int32)) = nI (4 + 7 * c + 5) by rw [← nI_add, ← nI_add, ← pk_mul]; rfl) (by omega) (by decide)]
      refine ⟨_, _, si τ 75 (4 + 7 * c + 5) (nI k), rfl, ?_, rfl, rfl, inv_n hi (QCn.si σ _ _ (by decide)) (QMn.si τ _ _) ⟨_, hI.cock (k := 5) (v := k) h1 (by decide) (by show k ≤ 7; omega)⟩⟩
      rw [Int32.mul_comm (nI (offM (m (9 + 7 * c)) k))]
    · have g2 : bi (0 ≤ a2 ∧ a2 < 8) = 0 := g2
      rw [h3, g2]
      exact ⟨_, _, _, rfl, rfl, rfl, rfl, hi⟩
  · rw [h2]
    exact ⟨_, _, _, rfl, rfl, rfl, rfl, hi⟩
end SN
