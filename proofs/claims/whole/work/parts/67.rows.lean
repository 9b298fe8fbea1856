/-! only one row changes -/
def RO (o : Nat) (τ τ' : Mm) : Prop := nn τ' = nn τ ∧ (∀ x, rv τ' x = rv τ x) ∧ ∀ x, x ≠ o → iv τ' x = iv τ x
theorem RO.rf (o : Nat) (τ : Mm) : RO o τ τ := ⟨rfl, fun _ => rfl, fun _ _ => rfl⟩
theorem RO.tr {o : Nat} {a b c : Mm} (h : RO o a b) (g : RO o b c) : RO o a c := ⟨g.1.trans h.1, fun x => (g.2.1 x).trans (h.2.1 x), fun x q => (g.2.2 x q).trans (h.2.2 x q)⟩
theorem RO.si (o : Nat) (τ : Mm) (k : Nat) (v : Int32) : RO o τ (si τ o k v) := ⟨rfl, fun _ => rfl, fun _ q => iv_row τ k v q⟩
theorem RO.cpy (o : Nat) (τ : Mm) (a n : Nat) : RO o τ (cpy τ a 0 o 0 n) := ⟨rfl, fun _ => rfl, fun x q => by funext k; rw [iv_cpy, if_neg (fun e => q e.1)]⟩
theorem RO.qm {o : Nat} {τ τ' : Mm} (h : RO o τ τ') (h1 : scM o) (h2 : o ≠ 63) : QM τ τ' := ⟨h.1, fun x q => h.2.2 x (fun e => q (e ▸ h1)), by rw [h.2.2 63 (Ne.symm h2)], by rw [h.2.2 63 (Ne.symm h2)], h.2.1⟩
theorem RO.qc {o : Nat} {σ σ' : Mm} (h : RO o σ σ') (h1 : scC o) : QC σ σ' := ⟨h.1, fun x q => h.2.2 x (fun e => q (e ▸ h1)), fun x k _ => by rw [h.2.1 x]⟩
theorem RO.qcn {o : Nat} {σ σ' : Mm} (h : RO o σ σ') (h1 : 9 ≤ o ∧ o ≤ 19) : QCn σ σ' := ⟨h.1, fun x _ q => h.2.2 x (fun e => q (e ▸ h1)), fun x k _ => by rw [h.2.1 x]⟩
theorem RO.qmn {τ τ' : Mm} (h : RO 75 τ τ') : QMn τ τ' := ⟨h.1, fun x _ q => h.2.2 x q, by rw [h.2.2 63 (by decide)], by rw [h.2.2 63 (by decide)], h.2.1⟩
theorem RO.wm {o : Nat} {τ τ' : Mm} (h : RO o τ τ') (hm : WFm τ) : WFm τ' := hm.rvc h.1 h.2.1
theorem RO.wc {o : Nat} {σ σ' : Mm} (h : RO o σ σ') (hc : WFc σ) : WFc σ' := hc.rvc h.1 h.2.1
theorem sg_succ (f : Nat → Nat) (c d : Nat) : sg f c (d + 1) = sg f c d + f (c + d) := by
  rw [sg_add]
  show sg f c d + (f (c + d) + 0) = _
  omega
/-! morning -/
def mkM (m : Nat → Nat) (c i : Nat) : Nat := if 10 ≤ i ∧ (i - 10) % 7 = 0 ∧ (i - 10) / 7 < c then m (i - 1) else m i
section MO
variable {N : Nat}
theorem morn_c {σ : Mm} {m : Nat → Nat} (hc : WFc σ) (hr : RelV σ 9 m) (hw : WS m) : ∀ d c a fu, c + d = m 0 → d < fu → f_X10_morning_4 N fu 0 (nI a) (nI c) σ = some (nI (a + sg (fun c => if m (9 + 7 * c) = m (10 + 7 * c) then 0 else 1) c d), cpy σ (9 + 6) 0 (9 + 7) 0 12) := by
  have hn := hw.1
  intro d
  induction d with
  | zero =>
    intro c a fu h1 h2
    obtain ⟨fu, rfl⟩ : ∃ q, fu = q + 1 := ⟨fu - 1, by omega⟩
    rw [f_X10_morning_4, k_0_4 hc, Option.bind_some, v_i (now9 hc), Option.bind_some, hr.1, if_pos (nI_le (by omega) (by omega)), f_X10_morning_51, k_0_4 hc, Option.bind_some, v_o (now9 hc), Option.bind_some]
    unfold f_X7_keepMorning
    rw [v_g6 (now9 hc), Option.bind_some, v_g7 (now9 hc), Option.bind_some]
    have : cpA 13 σ (9 + 6) 0 (9 + 7) 0 12 = some (cpy σ (9 + 6) 0 (9 + 7) 0 12) := by
      unfold cpA
      rw [if_pos ⟨⟨⟨pp_lt (by have := hc.1; omega) hc.1, rfl⟩, pp_lt (by have := hc.1; omega) hc.1, rfl⟩, ⟨by decide, by decide, by decide⟩, by decide, by decide⟩]
      rfl
    rw [this]
    rfl
  | succ d ih =>
    intro c a fu h1 h2
    obtain ⟨fu, rfl⟩ : ∃ q, fu = q + 1 := ⟨fu - 1, by omega⟩
    have r5 := hr.2.2.2.2.1 c (by omega) 5 (by decide)
    have r6 := hr.2.2.2.2.1 c (by omega) 6 (by decide)
    rw [f_X10_morning_4, k_0_4 hc, Option.bind_some, v_i (now9 hc), Option.bind_some, hr.1, if_neg (nI_ge (by omega) (by omega)), if_neg (no12 (by omega))]
    unfold f_X10_morning_45
    simp only [Option.bind_some, v_g6 (now9 hc), v_g7 (now9 hc), v_a (now9 hc) rfl (show 1 ≤ 6 by decide) (by decide) (show c < 12 by omega), v_a (now9 hc) rfl (show 1 ≤ 7 by decide) (by decide) (show c < 12 by omega), nI_1]
    have e5 : iv σ (9 + 6) c = nI (m (9 + 7 * c)) := by rw [show 9 + 7 * c = 4 + 7 * c + 5 by omega]; exact r5
    have e6 : iv σ (9 + 7) c = nI (m (10 + 7 * c)) := by rw [show 10 + 7 * c = 4 + 7 * c + 6 by omega]; exact r6
    rw [e5, e6]
    have b := hw.2.2.2.2.1 c (by omega)
    by_cases e : m (9 + 7 * c) = m (10 + 7 * c)
    · rw [if_pos (by rw [e]), ih (c + 1) a fu (by omega) (by omega)]
      congr 3
      show _ = a + ((if m (9 + 7 * c) = m (10 + 7 * c) then 0 else 1) + _)
      rw [if_pos e, Nat.zero_add]
    · rw [if_neg (by rw [nI_eq (by omega) (by omega)]; exact e), ih (c + 1) (a + 1) fu (by omega) (by omega)]
      congr 3
      show _ = a + ((if m (9 + 7 * c) = m (10 + 7 * c) then 0 else 1) + _)
      rw [if_neg e]
      omega
theorem morn_m {m : Nat → Nat} (hw : WS m) : ∀ d c a fu τ, c + d = m 0 → d < fu → WFm τ → (∀ i, i < 156 → iv τ 75 i = nI (mkM m c i)) → ∃ τ', f_X11_morning_4 N fu 63 (nI a) (nI c) τ = some (nI (a + sg (fun c => if m (9 + 7 * c) = m (10 + 7 * c) then 0 else 1) c d), τ') ∧ RO 75 τ τ' ∧ ∀ i, i < 156 → iv τ' 75 i = nI (mkM m (m 0) i) := by
  have hn := hw.1
  intro d
  induction d with
  | zero =>
    intro c a fu τ h1 h2 hm hs
    obtain ⟨fu, rfl⟩ : ∃ q, fu = q + 1 := ⟨fu - 1, by omega⟩
    have e0 : mkM m c 0 = m 0 := by unfold mkM; rw [if_neg (by omega)]
    refine ⟨τ, ?_, RO.rf _ _, by rw [show m 0 = c by omega]; exact hs⟩
    rw [f_X11_morning_4, m_g24 hm, Option.bind_some, m_aI hm (a := 75) (n := 156) (i := 0) (c := 0) (by decide) rfl rfl (by decide) (by decide), Option.bind_some, hs 0 (by decide), e0, if_pos (nI_le (by omega) (by omega))]
    rfl
  | succ d ih =>
    intro c a fu τ h1 h2 hm hs
    obtain ⟨fu, rfl⟩ : ∃ q, fu = q + 1 := ⟨fu - 1, by omega⟩
    have e0 : mkM m c 0 = m 0 := by unfold mkM; rw [if_neg (by omega)]
    have e5 : iv τ 75 (4 + 7 * c + 5) = nI (m (9 + 7 * c)) := by
      rw [hs _ (by omega)]; unfold mkM; rw [if_neg (by omega), show 4 + 7 * c + 5 = 9 + 7 * c by omega]
    have e6 : iv τ 75 (4 + 7 * c + 6) = nI (m (10 + 7 * c)) := by
      rw [hs _ (by omega)]; unfold mkM; rw [if_neg (by omega), show 4 + 7 * c + 6 = 10 + 7 * c by omega]
    have hs2 : ∀ i, i < 156 → iv (si τ 75 (4 + 7 * c + 6) (nI (m (9 + 7 * c)))) 75 i = nI (mkM m (c + 1) i) := by
      intro i hi
      rw [iv_si]
      by_cases e : i = 4 + 7 * c + 6
      · rw [if_pos ⟨rfl, e⟩]; unfold mkM; rw [if_pos (by omega), show i - 1 = 9 + 7 * c by omega]
      · rw [if_neg (fun q => e q.2), hs i hi]
        unfold mkM
        by_cases q : 10 ≤ i ∧ (i - 10) % 7 = 0 ∧ (i - 10) / 7 < c
        · rw [if_pos q, if_pos (by omega)]
        · rw [if_neg q, if_neg (by omega)]
    have b := hw.2.2.2.2.1 c (by omega)
    have st : ∀ x : Int32, f_X11_morning_36 N (f_X11_morning_4 N fu) 63 (nI c) (nI a) x τ = f_X11_morning_4 N fu 63 (nI a + x) (nI (c + 1)) (si τ 75 (4 + 7 * c + 6) (nI (m (9 + 7 * c)))) := by
      intro x
      unfold f_X11_morning_36
      rw [m_g24 hm, Option.bind_some, m_ob hm, Option.bind_some, e_c5 hm (by omega), Option.bind_some, m_sI hm (a := 75) (n := 156) (c := 4 + 7 * c + 6) (by decide) rfl (by rw [← nI_add, ← nI_add, ← pk_mul]; rfl) (by omega) (by decide), Option.bind_some, e5, nI_1]
    rw [f_X11_morning_4, m_g24 hm, Option.bind_some, m_aI hm (a := 75) (n := 156) (i := 0) (c := 0) (by decide) rfl rfl (by decide) (by decide), Option.bind_some, hs 0 (by decide), e0, if_neg (nI_ge (by omega) (by omega)), m_ob hm, Option.bind_some, e_c5 hm (by omega), Option.bind_some, m_ob hm, Option.bind_some, e_c6 hm (by omega), Option.bind_some, st, st, e5, e6]
    have hm2 : WFm (si τ 75 (4 + 7 * c + 6) (nI (m (9 + 7 * c)))) := hm
    by_cases e : m (9 + 7 * c) = m (10 + 7 * c)
    · obtain ⟨τ', f1, f2, f3⟩ := ih (c + 1) a fu _ (by omega) (by omega) hm2 hs2
      refine ⟨τ', ?_, (RO.si 75 τ _ _).tr f2, f3⟩
      rw [if_pos (by rw [e]), show (0 : Int32) = nI 0 from rfl, nI_add, Nat.add_zero, f1]
      congr 3
      show _ = a + ((if m (9 + 7 * c) = m (10 + 7 * c) then 0 else 1) + _)
      rw [if_pos e, Nat.zero_add]
    · obtain ⟨τ', f1, f2, f3⟩ := ih (c + 1) (a + 1) fu _ (by omega) (by omega) hm2 hs2
      refine ⟨τ', ?_, (RO.si 75 τ _ _).tr f2, f3⟩
      rw [if_neg (by rw [nI_eq (by omega) (by omega)]; exact e), nI_1, f1]
      congr 3
      show _ = a + ((if m (9 + 7 * c) = m (10 + 7 * c) then 0 else 1) + _)
      rw [if_neg e]
      omega
theorem InvN.morn {σ τ τ' : Mm} {m : Nat → Nat} (h : InvN σ τ m) (hs : ∀ i, i < 156 → iv τ' 75 i = nI (mkM m (m 0) i)) : InvN (cpy σ (9 + 6) 0 (9 + 7) 0 12) τ' (mkM m (m 0)) := by
  obtain ⟨⟨w1, w2, w3, w4, w5, w6, w7⟩, ⟨r1, r2, r3, r4, r5, r6, r7⟩, -⟩ := h
  have lo : ∀ j, j < 10 → mkM m (m 0) j = m j := fun j hj => by unfold mkM; rw [if_neg (by omega)]
  have hi' : ∀ j, 88 ≤ j → mkM m (m 0) j = m j := fun j hj => by unfold mkM; rw [if_neg (by omega)]
  have mid : ∀ c k, k < 6 → mkM m (m 0) (4 + 7 * c + k) = m (4 + 7 * c + k) := fun c k hk => by unfold mkM; rw [if_neg (by omega)]
  have kp : ∀ c, mkM m (m 0) (10 + 7 * c) = if c < m 0 then m (9 + 7 * c) else m (10 + 7 * c) := fun c => by
    unfold mkM
    by_cases e : c < m 0
    · rw [if_pos (by omega), if_pos e, show 10 + 7 * c - 1 = 9 + 7 * c by omega]
    · rw [if_neg (by omega), if_neg e]
  have eo : ∀ o, o ≠ 9 + 7 → iv (cpy σ (9 + 6) 0 (9 + 7) 0 12) o = iv σ o := fun o ho => (RO.cpy (9 + 7) σ (9 + 6) 12).2.2 o ho
  refine ⟨⟨by rw [lo 0 (by decide)]; exact w1, by rw [lo 1 (by decide)]; exact w2, by rw [lo 2 (by decide)]; exact w3, by rw [lo 3 (by decide)]; exact w4, fun c hc => ?_, fun t ht => ?_, fun k hk => by rw [hi' _ (by omega)]; exact w7 k hk⟩, ⟨?_, ?_, ?_, ?_, ?_, ?_, ?_⟩, hs⟩
  · have w := w5 c hc
    have q1 := mid c 1 (by decide)
    have q2 := mid c 2 (by decide)
    have q3 := mid c 3 (by decide)
    have q4 := mid c 4 (by decide)
    have q5 := mid c 5 (by decide)
    rw [show 4 + 7 * c + 1 = 5 + 7 * c by omega] at q1
    rw [show 4 + 7 * c + 2 = 6 + 7 * c by omega] at q2
    rw [show 4 + 7 * c + 3 = 7 + 7 * c by omega] at q3
    rw [show 4 + 7 * c + 4 = 8 + 7 * c by omega] at q4
    rw [show 4 + 7 * c + 5 = 9 + 7 * c by omega] at q5
    rw [show mkM m (m 0) (4 + 7 * c) = m (4 + 7 * c) from mid c 0 (by decide), q1, q2, q3, q4, q5, kp c]
    refine ⟨w.1, w.2.1, w.2.2.1, w.2.2.2.1, w.2.2.2.2.1, w.2.2.2.2.2.1, ?_⟩
    by_cases e : c < m 0
    · rw [if_pos e]; exact w.2.2.2.2.2.1
    · rw [if_neg e]; exact w.2.2.2.2.2.2
  · rw [hi' _ (by omega), hi' _ (by omega), hi' _ (by omega)]; exact w6 t ht
  · rw [eo 9 (by decide), lo 0 (by decide)]; exact r1
  · rw [eo 9 (by decide), lo 1 (by decide)]; exact r2
  · rw [eo 9 (by decide), lo 2 (by decide)]; exact r3
  · rw [eo 9 (by decide), lo 1 (by decide), fmask_cong (m := m) (m 1) (fun t _ => hi' _ (by omega))]; exact r4
  · intro c hc k hk
    rw [lo 0 (by decide)] at hc
    by_cases e : k = 6
    · subst e
      have : 4 + 7 * c + 6 = 10 + 7 * c := by omega
      rw [this, kp c, if_pos hc, show 9 + 1 + 6 = 9 + 7 from rfl, iv_cpy, if_pos ⟨rfl, by omega, by omega⟩, Nat.zero_add, Nat.sub_zero]
      have := r5 c hc 5 (by decide)
      rwa [show 4 + 7 * c + 5 = 9 + 7 * c by omega] at this
    · rw [eo _ (by omega), mid c k (by omega)]; exact r5 c hc k hk
  · intro t ht
    rw [lo 1 (by decide)] at ht
    rw [eo _ (by omega), eo _ (by omega), hi' _ (by omega), hi' _ (by omega)]; exact r6 t ht
  · intro k hk
    rw [eo _ (by omega), hi' _ (by omega)]; exact r7 k hk
theorem st_morning (hN : 20 ≤ N) : StepI Inv (f_X10_morning N 0) (f_X11_morning N 63) := by
  refine step_n fun σ τ hi => ?_
  obtain ⟨hc, hm, hnn, -, -, ⟨m, hI⟩, -⟩ := id hi
  obtain ⟨hw, hr, hs⟩ := id hI
  have h12 := hw.1
  obtain ⟨τ', f1, f2, f3⟩ := morn_m (N := N) hw (m 0) 0 0 N τ (by omega) (by omega) hm (fun i hi => by rw [hs i hi]; unfold mkM; rw [if_neg (by omega)])
  refine ⟨_, _, τ', morn_c hc hr hw (m 0) 0 0 N (by omega) (by omega), f1, rfl, f2.1, inv_n hi ((RO.cpy (9 + 7) σ (9 + 6) 12).qcn (by decide)) f2.qmn ⟨_, hI.morn f3⟩⟩
end MO
/-! the model's row, and how many say what -/
def Rw (τ : Mm) (n : Nat) (r : Nat → Nat) : Prop := ∀ c, c < n → iv τ 76 c = nI (r c)
def cnt (r w : Nat → Nat) (n p : Nat) : Nat := sg (fun c => if r c = p then w c else 0) 0 n
section RW
variable {N : Nat}
theorem asThey {m : Nat → Nat} (hn : m 0 ≤ 12) : ∀ d c fu τ, c + d = m 0 → d < fu → WFm τ → (∀ i, i < 156 → iv τ 75 i = nI (m i)) → (∀ j, j < c → iv τ 76 j = nI (m (9 + 7 * j))) → ∃ τ', f_X11_asTheyAre_2 N fu 63 (nI c) τ = some τ' ∧ RO 76 τ τ' ∧ Rw τ' (m 0) (fun c => m (9 + 7 * c)) := by
  intro d
  induction d with
  | zero =>
    intro c fu τ h1 h2 hm hs hr
    obtain ⟨fu, rfl⟩ : ∃ q, fu = q + 1 := ⟨fu - 1, by omega⟩
    refine ⟨τ, ?_, RO.rf _ _, fun j hj => hr j (by omega)⟩
    rw [f_X11_asTheyAre_2, m_g24 hm, Option.bind_some, m_aI hm (a := 75) (n := 156) (i := 0) (c := 0) (by decide) rfl rfl (by decide) (by decide), Option.bind_some, hs 0 (by decide), if_pos (nI_le (by omega) (by omega))]
  | succ d ih =>
    intro c fu τ h1 h2 hm hs hr
    obtain ⟨fu, rfl⟩ : ∃ q, fu = q + 1 := ⟨fu - 1, by omega⟩
    have hm2 : WFm (si τ 76 c (iv τ 75 (4 + 7 * c + 5))) := hm
    obtain ⟨τ', f1, f2, f3⟩ := ih (c + 1) fu (si τ 76 c (iv τ 75 (4 + 7 * c + 5))) (by omega) (by omega) hm2 (fun i hi => by rw [iv_row τ _ _ (show 75 ≠ 76 by decide)]; exact hs i hi) (fun j hj => by
      rw [iv_si]
      by_cases e : j = c
      · rw [if_pos ⟨rfl, e⟩, hs _ (by omega), e, show 4 + 7 * c + 5 = 9 + 7 * c by omega]
      · rw [if_neg (fun q => e q.2)]; exact hr j (by omega))
    refine ⟨τ', ?_, (RO.si 76 τ _ _).tr f2, f3⟩
    rw [f_X11_asTheyAre_2, m_g24 hm, Option.bind_some, m_aI hm (a := 75) (n := 156) (i := 0) (c := 0) (by decide) rfl rfl (by decide) (by decide), Option.bind_some, hs 0 (by decide), if_neg (nI_ge (by omega) (by omega)), m_g25 hm, Option.bind_some, m_ob hm, Option.bind_some, e_c5 hm (by omega), Option.bind_some, m_sI hm (a := 76) (n := 12) (c := c) (by decide) rfl rfl (by omega) (by decide), Option.bind_some, nI_1, f1]
theorem e_asThey {τ : Mm} {m : Nat → Nat} (hN : 20 ≤ N) (hn : m 0 ≤ 12) (hm : WFm τ) (hs : ∀ i, i < 156 → iv τ 75 i = nI (m i)) : ∃ τ', f_X11_asTheyAre N 63 τ = some τ' ∧ RO 76 τ τ' ∧ Rw τ' (m 0) (fun c => m (9 + 7 * c)) :=
  asThey hn (m 0) 0 N τ (by omega) (by omega) hm hs (fun j hj => absurd hj (by omega))
theorem cnt0 {b : Int32} : ∀ d p fu τ, p + d = 8 → d < fu → WFm τ → (∀ j, j < p → iv τ 77 j = 0) → ∃ τ', f_X11_counts_2 N fu 63 b (nI p) τ = f_X11_counts_23 N N 63 b 0 τ' ∧ RO 77 τ τ' ∧ ∀ j, j < 8 → iv τ' 77 j = 0 := by
  intro d
  induction d with
  | zero =>
    intro p fu τ h1 h2 hm hr
    obtain ⟨fu, rfl⟩ : ∃ q, fu = q + 1 := ⟨fu - 1, by omega⟩
    refine ⟨τ, ?_, RO.rf _ _, fun j hj => hr j (by omega)⟩
    rw [f_X11_counts_2, if_pos (by rw [show (8 : Int32) = nI 8 from rfl]; exact nI_le (by omega) (by omega))]
  | succ d ih =>
    intro p fu τ h1 h2 hm hr
    obtain ⟨fu, rfl⟩ : ∃ q, fu = q + 1 := ⟨fu - 1, by omega⟩
    have hm2 : WFm (si τ 77 p 0) := hm
    obtain ⟨τ', f1, f2, f3⟩ := ih (p + 1) fu (si τ 77 p 0) (by omega) (by omega) hm2 (fun j hj => by
      rw [iv_si]
      by_cases e : j = p
      · rw [if_pos ⟨rfl, e⟩]
      · rw [if_neg (fun q => e q.2)]; exact hr j (by omega))
    refine ⟨τ', ?_, (RO.si 77 τ _ _).tr f2, f3⟩
    rw [f_X11_counts_2, if_neg (by rw [show (8 : Int32) = nI 8 from rfl]; exact nI_ge (by omega) (by omega)), m_g26 hm, Option.bind_some, m_sI hm (a := 77) (n := 8) (c := p) (by decide) rfl rfl (by omega) (by decide), Option.bind_some, nI_1, f1]
theorem cnt1 {m r w : Nat → Nat} {b : Int32} (hn : m 0 ≤ 12) (hr8 : ∀ c, c < m 0 → r c < 8) (hw : ∀ c, c < m 0 → (b = 0 ∧ w c = 1) ∨ (¬ b = 0 ∧ w c = m (7 + 7 * c) + 1)) : ∀ d c fu τ, c + d = m 0 → d < fu → WFm τ → (∀ i, i < 156 → iv τ 75 i = nI (m i)) → Rw τ (m 0) r → (∀ p, p < 8 → iv τ 77 p = nI (cnt r w c p)) → ∃ τ', f_X11_counts_23 N fu 63 b (nI c) τ = some τ' ∧ RO 77 τ τ' ∧ ∀ p, p < 8 → iv τ' 77 p = nI (cnt r w (m 0) p) := by
  intro d
  induction d with
  | zero =>
    intro c fu τ h1 h2 hm hs hr hk
    obtain ⟨fu, rfl⟩ : ∃ q, fu = q + 1 := ⟨fu - 1, by omega⟩
    refine ⟨τ, ?_, RO.rf _ _, by rw [show m 0 = c by omega]; exact hk⟩
    rw [f_X11_counts_23, m_g24 hm, Option.bind_some, m_aI hm (a := 75) (n := 156) (i := 0) (c := 0) (by decide) rfl rfl (by decide) (by decide), Option.bind_some, hs 0 (by decide), if_pos (nI_le (by omega) (by omega))]
  | succ d ih =>
    intro c fu τ h1 h2 hm hs hr hk
    obtain ⟨fu, rfl⟩ : ∃ q, fu = q + 1 := ⟨fu - 1, by omega⟩
    have h8 := hr8 c (by omega)
    have st : f_X11_counts_23 N (fu + 1) 63 b (nI c) τ = f_X11_counts_23 N fu 63 b (nI (c + 1)) (si τ 77 (r c) (nI (cnt r w c (r c) + w c))) := by
      rw [f_X11_counts_23, m_g24 hm, Option.bind_some, m_aI hm (a := 75) (n := 156) (i := 0) (c := 0) (by decide) rfl rfl (by decide) (by decide), Option.bind_some, hs 0 (by decide), if_neg (nI_ge (by omega) (by omega)), m_g26 hm, Option.bind_some, m_g25 hm, Option.bind_some, m_aI hm (a := 76) (n := 12) (c := c) (by decide) rfl rfl (by omega) (by decide), Option.bind_some, hr c (by omega), m_aI hm (a := 77) (n := 8) (c := r c) (by decide) rfl rfl h8 (by decide), Option.bind_some, hk _ h8]
      unfold f_X11_counts_61
      rcases hw c (by omega) with ⟨hb, e⟩ | ⟨hb, e⟩
      · rw [if_pos hb, m_sI hm (a := 77) (n := 8) (c := r c) (by decide) rfl rfl h8 (by decide), Option.bind_some, nI_1, nI_1, e]
      · rw [if_neg hb, m_ob hm, Option.bind_some, e_c3 hm (by omega), Option.bind_some, m_sI hm (a := 77) (n := 8) (c := r c) (by decide) rfl rfl h8 (by decide), Option.bind_some, hs _ (by omega), nI_1, nI_1, nI_add, e, show 4 + 7 * c + 3 = 7 + 7 * c by omega]
    have hm2 : WFm (si τ 77 (r c) (nI (cnt r w c (r c) + w c))) := hm
    obtain ⟨τ', f1, f2, f3⟩ := ih (c + 1) fu _ (by omega) (by omega) hm2 (fun i hi => by rw [iv_row τ _ _ (show 75 ≠ 77 by decide)]; exact hs i hi) (fun j hj => by rw [iv_row τ _ _ (show 76 ≠ 77 by decide)]; exact hr j hj) (fun p hp => by
      rw [iv_si]
      have es : ∀ p, cnt r w (c + 1) p = cnt r w c p + (if r c = p then w c else 0) := fun p => by unfold cnt; rw [sg_succ, Nat.zero_add]
      by_cases e : p = r c
      · rw [if_pos ⟨rfl, e⟩, es, e, if_pos rfl]
      · rw [if_neg (fun q => e q.2), es, if_neg (fun q => e q.symm), Nat.add_zero]; exact hk p hp)
    exact ⟨τ', by rw [st]; exact f1, (RO.si 77 τ _ _).tr f2, f3⟩
theorem e_counts {τ : Mm} {m r w : Nat → Nat} {b : Int32} (hN : 20 ≤ N) (hn : m 0 ≤ 12) (hr8 : ∀ c, c < m 0 → r c < 8) (hw : ∀ c, c < m 0 → (b = 0 ∧ w c = 1) ∨ (¬ b = 0 ∧ w c = m (7 + 7 * c) + 1)) (hm : WFm τ) (hs : ∀ i, i < 156 → iv τ 75 i = nI (m i)) (hr : Rw τ (m 0) r) : ∃ τ', f_X11_counts N 63 b τ = some τ' ∧ RO 77 τ τ' ∧ ∀ p, p < 8 → iv τ' 77 p = nI (cnt r w (m 0) p) := by
  obtain ⟨τ1, f1, f2, f3⟩ := cnt0 (N := N) (b := b) 8 0 N τ (by omega) (by omega) hm (fun j hj => absurd hj (by omega))
  obtain ⟨τ2, g1, g2, g3⟩ := cnt1 (N := N) hn hr8 hw (m 0) 0 N τ1 (by omega) (by omega) (f2.wm hm) (fun i hi => by rw [f2.2.2 75 (by decide)]; exact hs i hi) (fun j hj => by rw [f2.2.2 76 (by decide)]; exact hr j hj) (fun p hp => by rw [f3 p hp]; rfl)
  exact ⟨τ2, by unfold f_X11_counts; rw [show (0 : Int32) = nI 0 from rfl, f1]; exact g1, f2.tr g2, g3⟩
theorem says_c {σ : Mm} {m : Nat → Nat} (hc : WFc σ) (hr : RelV σ 9 m) (hw : WS m) {p : Nat} (hp : p < 8) : ∀ d c a fu, c + d = m 0 → d < fu → f_X10_says_22 N fu 0 (nI p) (nI a) (nI c) σ = some (nI (a + sg (fun c => if m (9 + 7 * c) = p then 1 else 0) c d), σ) := by
  have hn := hw.1
  intro d
  induction d with
  | zero =>
    intro c a fu h1 h2
    obtain ⟨fu, rfl⟩ : ∃ q, fu = q + 1 := ⟨fu - 1, by omega⟩
    rw [f_X10_says_22, k_0_4 hc, Option.bind_some, v_i (now9 hc), Option.bind_some, hr.1, if_pos (nI_le (by omega) (by omega))]
    rfl
  | succ d ih =>
    intro c a fu h1 h2
    obtain ⟨fu, rfl⟩ : ∃ q, fu = q + 1 := ⟨fu - 1, by omega⟩
    have r5 : iv σ (9 + 6) c = nI (m (9 + 7 * c)) := by
      have := hr.2.2.2.2.1 c (by omega) 5 (by decide)
      rwa [show 4 + 7 * c + 5 = 9 + 7 * c by omega] at this
    have b := hw.2.2.2.2.1 c (by omega)
    rw [f_X10_says_22, k_0_4 hc, Option.bind_some, v_i (now9 hc), Option.bind_some, hr.1, if_neg (nI_ge (by omega) (by omega)), if_neg (no12 (by omega)), Option.bind_some, v_g6 (now9 hc), Option.bind_some, v_a (now9 hc) rfl (by decide) (by decide) (by omega), Option.bind_some, r5]
    unfold f_X10_says_55
    rw [nI_1, nI_1]
    by_cases e : m (9 + 7 * c) = p
    · rw [if_pos (by rw [e]), ih (c + 1) (a + 1) fu (by omega) (by omega)]
      congr 3
      show _ = a + ((if m (9 + 7 * c) = p then 1 else 0) + _)
      rw [if_pos e]
      omega
    · rw [if_neg (by rw [nI_eq (by omega) (by omega)]; exact e), ih (c + 1) a fu (by omega) (by omega)]
      congr 3
      show _ = a + ((if m (9 + 7 * c) = p then 1 else 0) + _)
      rw [if_neg e]
      omega
theorem st_says (hN : 20 ≤ N) (a1 : Int32) : StepI Inv (f_X10_says N 0 a1) (f_X11_says N 63 a1) := by
  refine step_q fun σ τ hi => ?_
  obtain ⟨hc, hm, hnn, -, -, ⟨m, hw, hr, hs⟩, -⟩ := hi
  have h12 := hw.1
  unfold f_X10_says f_X10_says_16 f_X11_says f_X11_says_16
  simp only [k_o0 hc, e_isThere hc, hr.1, m_g24 hm, m_aI hm (a := 75) (n := 156) (i := 0) (c := 0) (by decide) rfl rfl (by decide) (by decide), hs 0 (by decide), Option.bind_some, e_isBelow, e_isPoint]
  by_cases h0 : m 0 = 0
  · rw [bi_n (by rw [pos_iff (by omega)]; omega), if_pos rfl, if_pos ((nz_iff (by omega)).mpr h0)]
    exact ⟨_, _, _, rfl, rfl, QC.rf _, QM.rf _⟩
  · have hnz : ¬ nI (m 0) = 0 := by rw [nz_iff (by omega)]; exact h0
    rw [bi_y (show 0 < nI (m 0) by rw [pos_iff (by omega)]; omega), if_neg z1, if_neg hnz]
    rcases bi_in (x := a1) (n := 8) (by decide) with ⟨p, p1, rfl, p3⟩ | ⟨p1, p2⟩
    · have p3 : bi (0 ≤ nI p ∧ nI p < 8) = 1 := p3
      obtain ⟨τ1, f1, f2, f3⟩ := e_asThey (N := N) hN h12 hm hs
      obtain ⟨τ2, g1, g2, g3⟩ := e_counts (N := N) (b := 0) (w := fun _ => 1) hN h12 (r := fun c => m (9 + 7 * c)) (fun c hc' => by have := hw.2.2.2.2.1 c (by omega); omega) (fun _ _ => Or.inl ⟨rfl, rfl⟩) (f2.wm hm) (fun i hi => by rw [f2.2.2 75 (by decide)]; exact hs i hi) f3
      have hm2 := g2.wm (f2.wm hm)
      rw [p3, if_neg z1, if_neg z1, m_ob hm, Option.bind_some, f1, Option.bind_some, m_ob (f2.wm hm), Option.bind_some, g1, Option.bind_some, m_g26 hm2, Option.bind_some, m_aI hm2 (a := 77) (n := 8) (c := p) (by decide) rfl rfl p1 (by decide), Option.bind_some, show (0 : Int32) = nI 0 from rfl, says_c hc hr hw p1 (m 0) 0 0 N (by omega) (by omega), g3 p p1, Nat.zero_add]
      exact ⟨_, _, _, rfl, rfl, QC.rf _, (f2.qm (by unfold scM; omega) (by decide)).tr (g2.qm (by unfold scM; omega) (by decide))⟩
    · have p2 : bi (0 ≤ a1 ∧ a1 < 8) = 0 := p2
      rw [p2]
      exact ⟨_, _, _, rfl, rfl, QC.rf _, QM.rf _⟩
end RW
