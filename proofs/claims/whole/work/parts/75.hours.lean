/-! hours -/
def wdN (c rust ag ow at' w lee h : Nat) : Nat → Nat
  | 0 => c
  | 1 => rust
  | 2 => ag
  | 3 => ow
  | 4 => at'
  | 5 => offM at' w
  | 6 => w
  | 7 => lee
  | _ => h
def wd (c rust ag ow at' w lee h : Nat) (k : Nat) : Int64 := (nI (wdN c rust ag ow at' w lee h k)).toInt64
def stp (v : Int64) (at' w : Nat) : Nat := ((if ((nI w - nI at') &&& 7) ≤ 4 then nI at' + clampI v (offM at' w) else nI at' - clampI v (offM at' w)) &&& 7).toNatClampNeg
theorem stp_lt (v : Int64) (at' w : Nat) : stp v at' w < 8 := by
  unfold stp
  obtain ⟨j, hj, hx⟩ := pk_andE (if ((nI w - nI at') &&& 7) ≤ 4 then nI at' + clampI v (offM at' w) else nI at' - clampI v (offM at' w)) (m := 7) 3 (by decide)
  rw [hx, nI_clamp (by omega)]
  exact hj
theorem stp_eq (v : Int64) (at' w : Nat) : nI (stp v at' w) = (if ((nI w - nI at') &&& 7) ≤ 4 then nI at' + clampI v (offM at' w) else nI at' - clampI v (offM at' w)) &&& 7 := by
  unfold stp
  obtain ⟨j, hj, hx⟩ := pk_andE (if ((nI w - nI at') &&& 7) ≤ 4 then nI at' + clampI v (offM at' w) else nI at' - clampI v (offM at' w)) (m := 7) 3 (by decide)
  rw [hx, nI_clamp (by omega)]
theorem clampI_0 (v : Int64) : clampI v 0 = 0 := by
  unfold clampI
  by_cases h : v < 0
  · rw [if_pos h]
  · rw [if_neg h]
    by_cases h2 : v ≤ (nI 0).toInt64
    · rw [if_pos h2]
      have : v = 0 := Int64.le_antisymm h2 (Int64.not_lt.mp h)
      rw [this]
      rfl
    · rw [if_neg h2]; rfl
theorem stp_w {w : Nat} (hw : w < 8) (v : Int64) : stp v w w = w := by
  unfold stp
  have e0 : ∀ w, w < 8 → offM w w = 0 := by decide
  have e1 : ∀ w, w < 8 → ((if ((nI w - nI w) &&& 7) ≤ 4 then nI w + (0 : Int32) else nI w - 0) &&& 7).toNatClampNeg = w := by decide
  rw [e0 w hw, clampI_0]
  exact e1 w hw
def goN (cls : Cls) (c rust ag ow w lee : Nat) : Nat → Nat → Nat → Nat
  | 0, _, at' => at'
  | d + 1, h, at' => goN cls c rust ag ow w lee d (h + 1) (stp (turnV (wd c rust ag ow at' w lee h) cls) at' w)
theorem goN_lt (cls : Cls) (c rust ag ow w lee : Nat) : ∀ d h at', at' < 8 → goN cls c rust ag ow w lee d h at' < 8 := by
  intro d
  induction d with
  | zero => intro h at' ha; exact ha
  | succ d ih => intro h at' ha; exact ih _ _ (stp_lt _ _ _)
theorem goN_w (cls : Cls) (c rust ag ow lee : Nat) {w : Nat} (hw : w < 8) : ∀ d h, goN cls c rust ag ow w lee d h w = w := by
  intro d
  induction d with
  | zero => intro h; rfl
  | succ d ih => intro h; unfold goN; rw [stp_w hw]; exact ih _
theorem clamp_c {v : Int64} {off : Nat} (ho : off ≤ 4) : Int64.toInt32 (if (if v < (nI off).toInt64 then v else (nI off).toInt64) < 0 then 0 else (if v < (nI off).toInt64 then v else (nI off).toInt64)) = clampI v off := by
  have hO : ¬ (nI off).toInt64 < 0 := by
    rw [show (0 : Int64) = (0 : Int32).toInt64 from rfl, i64_lt]
    exact nI_pos (by omega)
  unfold clampI
  by_cases h1 : v < (nI off).toInt64
  · rw [if_pos h1]
    by_cases h2 : v < 0
    · rw [if_pos h2, if_pos h2]; rfl
    · rw [if_neg h2, if_neg h2, if_pos (Int64.le_of_lt h1)]
  · rw [if_neg h1, if_neg hO]
    have h3 : ¬ v < 0 := fun q => h1 (Int64.lt_of_lt_of_le q (Int64.not_lt.mp hO))
    rw [if_neg h3]
    by_cases h4 : v ≤ (nI off).toInt64
    · rw [if_pos h4]
      have : v = (nI off).toInt64 := Int64.le_antisymm h4 (Int64.not_lt.mp h1)
      rw [this]
    · rw [if_neg h4, Int32.toInt32_toInt64]
/-- the words of a COCK that stands there -/
def SW (σ : Mm) (c rust ag ow w lee : Nat) : Prop := iv σ 34 0 = nI c ∧ iv σ 34 1 = nI rust ∧ iv σ 34 2 = nI ag ∧ iv σ 34 3 = nI ow ∧ iv σ 34 6 = nI w ∧ iv σ 34 7 = nI lee
def CL (σ : Mm) (t : Nat) (cls : Cls) : Prop := iv σ (51 + 2 * t) 1 = nI (progC cls).length ∧ ∀ i, i < (progC cls).length → iv σ (52 + 2 * t) i = (progC cls).getD i 0
theorem CL.cong {σ σ' : Mm} {t : Nat} {cls : Cls} (h : CL σ t cls) (e : ∀ o, 51 ≤ o → iv σ' o = iv σ o) : CL σ' t cls := by
  unfold CL at h ⊢
  rw [e _ (by omega), e _ (by omega)]
  exact h
theorem FK.ro {σ σ' : Mm} (h : FK σ σ') (o : Nat) : RO o σ σ' := ⟨h.1, h.2.1, fun x _ => h.2.2 x⟩
section HO
variable {N : Nat}
theorem trn_h (hN : 500 ≤ N) {t n c rust ag ow w lee : Nat} {cls : Cls} (ht : t < 6) (hL : LWF cls) (hw : w < 8) (hn : n ≤ 24) : ∀ d h fu at' σ, h + d = n → d < fu → at' < 8 → WFc σ → CL σ t cls → SW σ c rust ag ow w lee → ∃ σ', f_X9_turned_21 N fu 33 (51 + 2 * t) (nI n) (nI w) (nI at') (nI h) σ = some (nI (goN cls c rust ag ow w lee d h at'), σ') ∧ RO 34 σ σ' := by
  intro d
  induction d with
  | zero =>
    intro h fu at' σ h1 h2 ha hc hC hS
    obtain ⟨fu, rfl⟩ : ∃ q, fu = q + 1 := ⟨fu - 1, by omega⟩
    refine ⟨σ, ?_, RO.rf _ _⟩
    rw [f_X9_turned_21, if_pos (nI_le (by omega) (by omega))]
    rfl
  | succ d ih =>
    intro h fu at' σ h1 h2 ha hc hC hS
    obtain ⟨fu, rfl⟩ : ∃ q, fu = q + 1 := ⟨fu - 1, by omega⟩
    rw [f_X9_turned_21, if_neg (nI_ge (by omega) (by omega))]
    by_cases e : at' = w
    · subst e
      refine ⟨σ, ?_, RO.rf _ _⟩
      rw [if_pos rfl, goN_w _ _ _ _ _ _ hw]
      rfl
    · rw [if_neg (by rw [nI_eq (by omega) (by omega)]; exact e), e_offB hw ha, Option.bind_some, offM_sym w hw at' ha]
      have ho := offM_le at' ha w hw
      obtain ⟨s1, e1⟩ : ∃ s, s = si σ 34 4 (nI at') := ⟨_, rfl⟩
      obtain ⟨s2, e2⟩ : ∃ s, s = si s1 34 5 (nI (offM at' w)) := ⟨_, rfl⟩
      obtain ⟨s3, e3⟩ : ∃ s, s = si s2 34 8 (nI h) := ⟨_, rfl⟩
      have c1 : WFc s1 := by rw [e1]; exact hc
      have c2 : WFc s2 := by rw [e2]; exact c1
      have c3 : WFc s3 := by rw [e3]; exact c2
      have r3 : RO 34 σ s3 := by rw [e3, e2, e1]; exact ((RO.si 34 σ _ _).tr (RO.si 34 _ _ _)).tr (RO.si 34 _ _ _)
      have C3 : CL s3 t cls := hC.cong (fun o ho => r3.2.2 o (by omega))
      have rd : ∀ k, k ≠ 4 → k ≠ 5 → k ≠ 8 → iv s3 34 k = iv σ 34 k := fun k h4 h5 h8 => by
        rw [e3, iv_si, if_neg (fun q => h8 q.2), e2, iv_si, if_neg (fun q => h5 q.2), e1, iv_si, if_neg (fun q => h4 q.2)]
      have hwd : ∀ v, v < 9 → (iv s3 34 v).toInt64 = wd c rust ag ow at' w lee h v := by
        intro v hv
        unfold wd
        congr 1
        match v, hv with
        | 0, _ => rw [rd 0 (by decide) (by decide) (by decide)]; exact hS.1
        | 1, _ => rw [rd 1 (by decide) (by decide) (by decide)]; exact hS.2.1
        | 2, _ => rw [rd 2 (by decide) (by decide) (by decide)]; exact hS.2.2.1
        | 3, _ => rw [rd 3 (by decide) (by decide) (by decide)]; exact hS.2.2.2.1
        | 4, _ => rw [e3, iv_si, if_neg (by decide), e2, iv_si, if_neg (by decide), e1, iv_si, if_pos ⟨rfl, rfl⟩]; rfl
        | 5, _ => rw [e3, iv_si, if_neg (by decide), e2, iv_si, if_pos ⟨rfl, rfl⟩]; rfl
        | 6, _ => rw [rd 6 (by decide) (by decide) (by decide)]; exact hS.2.2.2.2.1
        | 7, _ => rw [rd 7 (by decide) (by decide) (by decide)]; exact hS.2.2.2.2.2
        | 8, _ => rw [e3, iv_si, if_pos ⟨rfl, rfl⟩]; rfl
        | v + 9, hv => omega
      obtain ⟨s4, g1, g2⟩ := e_turnFor (N := N) (τ := s3) hN ht c3 hwd hL C3.1 C3.2
      have r4 : RO 34 σ s4 := r3.tr (g2.ro 34)
      obtain ⟨σ', f1, f2⟩ := ih (h + 1) fu (stp (turnV (wd c rust ag ow at' w lee h) cls) at' w) s4 (by omega) (by omega) (stp_lt _ _ _) (g2.wc c3) (C3.cong (fun o _ => g2.2.2 o)) (by
        unfold SW
        rw [g2.2.2 34, rd 0 (by decide) (by decide) (by decide), rd 1 (by decide) (by decide) (by decide), rd 2 (by decide) (by decide) (by decide), rd 3 (by decide) (by decide) (by decide), rd 6 (by decide) (by decide) (by decide), rd 7 (by decide) (by decide) (by decide)]
        exact hS)
      refine ⟨σ', ?_, r4.tr f2⟩
      unfold f_X9_turned_122
      rw [k_33_0 hc, Option.bind_some, k_sI hc (a := 34) (n := 9) (i := 4) (c := 4) (by decide) rfl rfl (by decide) (by decide), Option.bind_some, ← e1, k_33_0 c1, Option.bind_some, k_sI c1 (a := 34) (n := 9) (i := 5) (c := 5) (by decide) rfl rfl (by decide) (by decide), Option.bind_some, ← e2, k_33_0 c2, Option.bind_some, k_sI c2 (a := 34) (n := 9) (i := 8) (c := 8) (by decide) rfl rfl (by decide) (by decide), Option.bind_some, ← e3, k_33_0 c3, Option.bind_some, k_33_1 c3, Option.bind_some, k_oL c3 ht, Option.bind_some, g1, Option.bind_some]
      simp only [clamp_c ho, nI_1]
      rw [show goN cls c rust ag ow w lee (d + 1) h at' = goN cls c rust ag ow w lee d (h + 1) (stp (turnV (wd c rust ag ow at' w lee h) cls) at' w) from rfl, ← f1, stp_eq]
      by_cases q : ((nI w - nI at') &&& 7) ≤ 4
      · rw [if_neg (Int32.not_lt.mpr q), if_pos q]
      · rw [if_pos (Int32.not_le.mp q), if_neg q]
theorem e_turned (hN : 500 ≤ N) {t n c rust ag ow w lee at' : Nat} {cls : Cls} {σ : Mm} (ht : t < 6) (hL : LWF cls) (hw : w < 8) (hn : n ≤ 24) (ha : at' < 8) (hc : WFc σ) (hC : CL σ t cls) (hS : SW σ c rust ag ow w lee) : ∃ σ', f_X9_turned N 33 (51 + 2 * t) (nI at') (nI n) σ = some (nI (goN cls c rust ag ow w lee n 0 at'), σ') ∧ RO 34 σ σ' := by
  obtain ⟨σ', f1, f2⟩ := trn_h hN ht hL hw hn n 0 N at' σ (by omega) (by omega) ha hc hC hS
  refine ⟨σ', ?_, f2⟩
  unfold f_X9_turned
  rw [k_33_0 hc, Option.bind_some, k_aI hc (a := 34) (n := 9) (i := 6) (c := 6) (by decide) rfl rfl (by decide) (by decide), Option.bind_some, hS.2.2.2.2.1]
  exact f1
theorem RelV.ro {σ σ' : Mm} {m : Nat → Nat} {o v : Nat} (h : RelV σ v m) (r : RO o σ σ') (ho : o < v ∨ v + 10 < o) : RelV σ' v m := h.cong (fun i hi => r.2.2 _ (by omega))
theorem e_stand (hN : 20 ≤ N) {σ : Mm} {m : Nat → Nat} (hc : WFc σ) (hr : RelV σ 9 m) (hw : WS m) {F c w : Nat} (hF : F < 4096) (hcm : c < m 0) (hw8 : w < 8) {b : Nat → Bool} (hb : ∀ t, t < m 1 → b t = F.testBit t) : ∃ σ', f_X9_stand N 33 9 (nI c) (nI w) (nI F) σ = some σ' ∧ RO 34 σ σ' ∧ SW σ' c (m (6 + 7 * c)) (m (7 + 7 * c)) (m (8 + 7 * c)) w (leeN m b c w) := by
  have h12 := hw.1
  obtain ⟨s1, e1⟩ : ∃ s, s = si σ 34 0 (nI c) := ⟨_, rfl⟩
  obtain ⟨s2, e2⟩ : ∃ s, s = si s1 34 1 (nI (m (6 + 7 * c))) := ⟨_, rfl⟩
  obtain ⟨s3, e3⟩ : ∃ s, s = si s2 34 2 (nI (m (7 + 7 * c))) := ⟨_, rfl⟩
  obtain ⟨s4, e4⟩ : ∃ s, s = si s3 34 3 (nI (m (8 + 7 * c))) := ⟨_, rfl⟩
  obtain ⟨s5, e5⟩ : ∃ s, s = si s4 34 6 (nI w) := ⟨_, rfl⟩
  obtain ⟨s6, e6⟩ : ∃ s, s = si s5 34 7 (nI (leeN m b c w)) := ⟨_, rfl⟩
  have r1 : RO 34 σ s1 := by rw [e1]; exact RO.si 34 σ _ _
  have r2 : RO 34 σ s2 := by rw [e2]; exact r1.tr (RO.si 34 _ _ _)
  have r3 : RO 34 σ s3 := by rw [e3]; exact r2.tr (RO.si 34 _ _ _)
  have r4 : RO 34 σ s4 := by rw [e4]; exact r3.tr (RO.si 34 _ _ _)
  have r5 : RO 34 σ s5 := by rw [e5]; exact r4.tr (RO.si 34 _ _ _)
  have r6 : RO 34 σ s6 := by rw [e6]; exact r5.tr (RO.si 34 _ _ _)
  have c1 := r1.wc hc
  have c2 := r2.wc hc
  have c3 := r3.wc hc
  have c4 := r4.wc hc
  have c5 := r5.wc hc
  have rd : ∀ (s : Mm), RO 34 σ s → ∀ k, k < 7 → iv s (9 + (1 + k)) c = nI (m (4 + 7 * c + k)) := fun s r k hk => by
    rw [r.2.2 _ (by omega), show 9 + (1 + k) = 9 + 1 + k by omega]; exact hr.2.2.2.2.1 c hcm k hk
  have d2 := rd s1 r1 2 (by decide)
  have d3 := rd s2 r2 3 (by decide)
  have d4 := rd s3 r3 4 (by decide)
  rw [show 4 + 7 * c + 2 = 6 + 7 * c by omega] at d2
  rw [show 4 + 7 * c + 3 = 7 + 7 * c by omega] at d3
  rw [show 4 + 7 * c + 4 = 8 + 7 * c by omega] at d4
  refine ⟨s6, ?_, r6, ?_⟩
  · unfold f_X9_stand
    rw [v_o (now9 hc), Option.bind_some, e_hasCock (now9 hc) hr.1 h12, Option.bind_some, bi_y ⟨nI_pos' (by omega), nI_lt hcm (by omega)⟩, if_neg z1, k_33_0 hc, Option.bind_some, k_sI hc (a := 34) (n := 9) (i := 0) (c := 0) (by decide) rfl rfl (by decide) (by decide), Option.bind_some, ← e1,
      k_33_0 c1, Option.bind_some, v_g3 (now9 c1), Option.bind_some, v_a (now9 c1) rfl (by decide) (by decide) (by omega), Option.bind_some, k_sI c1 (a := 34) (n := 9) (i := 1) (c := 1) (by decide) rfl rfl (by decide) (by decide), Option.bind_some, d2, ← e2,
      k_33_0 c2, Option.bind_some, v_g4 (now9 c2), Option.bind_some, v_a (now9 c2) rfl (by decide) (by decide) (by omega), Option.bind_some, k_sI c2 (a := 34) (n := 9) (i := 2) (c := 2) (by decide) rfl rfl (by decide) (by decide), Option.bind_some, d3, ← e3,
      k_33_0 c3, Option.bind_some, v_g5 (now9 c3), Option.bind_some, v_a (now9 c3) rfl (by decide) (by decide) (by omega), Option.bind_some, k_sI c3 (a := 34) (n := 9) (i := 3) (c := 3) (by decide) rfl rfl (by decide) (by decide), Option.bind_some, d4, ← e4,
      k_33_0 c4, Option.bind_some, k_sI c4 (a := 34) (n := 9) (i := 6) (c := 6) (by decide) rfl rfl (by decide) (by decide), Option.bind_some, ← e5, k_33_0 c5, Option.bind_some, v_o (now9 c5), Option.bind_some, e_shelter hN (now9 c5) (hr.ro r5 (by omega)) h12 hw.2.1 hF hcm hw8 hb, Option.bind_some, k_sI c5 (a := 34) (n := 9) (i := 7) (c := 7) (by decide) rfl rfl (by decide) (by decide), Option.bind_some, ← e6]
  · subst e6 e5 e4 e3 e2 e1
    refine ⟨?_, ?_, ?_, ?_, ?_, ?_⟩ <;> simp [iv_si]
/-! the model's hours -/
def FG (τ τ' : Mm) : Prop := nn τ' = nn τ ∧ (∀ o, rv τ' o = rv τ o) ∧ (∀ o, o ≠ 63 → iv τ' o = iv τ o) ∧ ∀ k, k ≠ 22 → iv τ' 63 k = iv τ 63 k
theorem FG.rf (τ : Mm) : FG τ τ := ⟨rfl, fun _ => rfl, fun _ _ => rfl, fun _ _ => rfl⟩
theorem FG.tr {a b c : Mm} (h : FG a b) (g : FG b c) : FG a c := ⟨g.1.trans h.1, fun x => (g.2.1 x).trans (h.2.1 x), fun x q => (g.2.2.1 x q).trans (h.2.2.1 x q), fun x q => (g.2.2.2 x q).trans (h.2.2.2 x q)⟩
theorem FG.sj (τ : Mm) (o k : Nat) (v : Int64) : FG τ (sj τ o k v) := ⟨rfl, fun _ => rfl, fun _ _ => rfl, fun _ _ => rfl⟩
theorem FJ.g {τ τ' : Mm} (h : FJ τ τ') : FG τ τ' := ⟨h.1, h.2.1, h.2.2.1, h.2.2.2.1⟩
theorem FG.wm {τ τ' : Mm} (h : FG τ τ') (hm : WFm τ) : WFm τ' := hm.rvc h.1 h.2.1
theorem FG.qm {τ τ' : Mm} (h : FG τ τ') : QM τ τ' := ⟨h.1, fun o q => h.2.2.1 o (fun e => q (Or.inl e)), h.2.2.2 1 (by decide), h.2.2.2 2 (by decide), h.2.1⟩
theorem FG.law {τ τ' : Mm} (h : FG τ τ') {t : Nat} {cls : Cls} (hM : MLaw τ t cls) : MLaw τ' t cls := by
  unfold MLaw at hM ⊢
  rw [h.2.2.1 68 (by decide), h.2.2.1 65 (by decide), h.2.2.1 67 (by decide)]
  exact hM
theorem FG.said {τ τ' : Mm} (h : FG τ τ') {m : Nat → Nat} (hs : ∀ i, i < 156 → iv τ 75 i = nI (m i)) : ∀ i, i < 156 → iv τ' 75 i = nI (m i) := fun i hi => by rw [h.2.2.1 75 (by decide)]; exact hs i hi
theorem gos (hN : 500 ≤ N) {m : Nat → Nat} {t n c rust w : Nat} {cls : Cls} {b : Nat → Bool} {l7 : Int32} (ht : t < 6) (hL : LWF cls) (hws : WS m) (hcm : c < m 0) (hw : w < 8) (hn : n ≤ 24) (hb : ∀ t, t < m 1 → (b t = true ↔ nI t = l7 ∨ m (90 + 3 * t) = 1)) : ∀ d h fu at' τ, h + d = n → d < fu → at' < 8 → WFm τ → MLaw τ t cls → (∀ i, i < 156 → iv τ 75 i = nI (m i)) → ∃ τ', f_X11_goesTo_6 N fu 63 (nI t) (nI c) (nI w) (nI n) (nI rust) l7 (nI at') (nI h) τ = some (nI (goN cls c rust (m (7 + 7 * c)) (m (8 + 7 * c)) w (leeN m b c w) d h at'), τ') ∧ FG τ τ' := by
  have h12 := hws.1
  intro d
  induction d with
  | zero =>
    intro h fu at' τ h1 h2 ha hm hM hs
    obtain ⟨fu, rfl⟩ : ∃ q, fu = q + 1 := ⟨fu - 1, by omega⟩
    refine ⟨τ, ?_, FG.rf _⟩
    rw [f_X11_goesTo_6, if_pos (nI_le (by omega) (by omega))]
    rfl
  | succ d ih =>
    intro h fu at' τ h1 h2 ha hm hM hs
    obtain ⟨fu, rfl⟩ : ∃ q, fu = q + 1 := ⟨fu - 1, by omega⟩
    obtain ⟨s0, e0⟩ : ∃ s, s = sj τ 74 0 (nI c).toInt64 := ⟨_, rfl⟩
    obtain ⟨s1, e1⟩ : ∃ s, s = sj s0 74 1 (nI rust).toInt64 := ⟨_, rfl⟩
    obtain ⟨s2, e2⟩ : ∃ s, s = sj s1 74 2 (nI (m (7 + 7 * c))).toInt64 := ⟨_, rfl⟩
    obtain ⟨s3, e3⟩ : ∃ s, s = sj s2 74 3 (nI (m (8 + 7 * c))).toInt64 := ⟨_, rfl⟩
    obtain ⟨s4, e4⟩ : ∃ s, s = sj s3 74 4 (nI at').toInt64 := ⟨_, rfl⟩
    obtain ⟨s5, e5⟩ : ∃ s, s = sj s4 74 5 (nI (offM at' w)).toInt64 := ⟨_, rfl⟩
    obtain ⟨s6, e6⟩ : ∃ s, s = sj s5 74 6 (nI w).toInt64 := ⟨_, rfl⟩
    obtain ⟨s7, e7⟩ : ∃ s, s = sj s6 74 7 (nI (leeN m b c w)).toInt64 := ⟨_, rfl⟩
    obtain ⟨s8, e8⟩ : ∃ s, s = sj s7 74 8 (nI h).toInt64 := ⟨_, rfl⟩
    have f0 : FG τ s0 := by rw [e0]; exact FG.sj _ _ _ _
    have f1 : FG τ s1 := by rw [e1]; exact f0.tr (FG.sj _ _ _ _)
    have f2 : FG τ s2 := by rw [e2]; exact f1.tr (FG.sj _ _ _ _)
    have f3 : FG τ s3 := by rw [e3]; exact f2.tr (FG.sj _ _ _ _)
    have f4 : FG τ s4 := by rw [e4]; exact f3.tr (FG.sj _ _ _ _)
    have f5 : FG τ s5 := by rw [e5]; exact f4.tr (FG.sj _ _ _ _)
    have f6 : FG τ s6 := by rw [e6]; exact f5.tr (FG.sj _ _ _ _)
    have f7 : FG τ s7 := by rw [e7]; exact f6.tr (FG.sj _ _ _ _)
    have f8 : FG τ s8 := by rw [e8]; exact f7.tr (FG.sj _ _ _ _)
    have hwd : ∀ v, v < 9 → jv s8 74 v = wd c rust (m (7 + 7 * c)) (m (8 + 7 * c)) at' w (leeN m b c w) h v := by
      intro v hv
      unfold wd
      rw [e8, e7, e6, e5, e4, e3, e2, e1, e0]
      match v, hv with
      | 0, _ => rfl
      | 1, _ => rfl
      | 2, _ => rfl
      | 3, _ => rfl
      | 4, _ => rfl
      | 5, _ => rfl
      | 6, _ => rfl
      | 7, _ => rfl
      | 8, _ => rfl
      | v + 9, hv => omega
    have ho := offM_le at' ha w hw
    obtain ⟨s9, g1, g2⟩ := tby (N := N) (w := wd c rust (m (7 + 7 * c)) (m (8 + 7 * c)) at' w (leeN m b c w) h) (off := offM at' w) hN ht hL rfl (nI_pos' (by omega)) cls.length 0 N s8 (by omega) (by have := hL.1; omega) (f8.wm hm) hwd (f8.law hM)
    have f9 := f8.tr g2.g
    obtain ⟨τ', k1, k2⟩ := ih (h + 1) fu (stp (turnV (wd c rust (m (7 + 7 * c)) (m (8 + 7 * c)) at' w (leeN m b c w) h) cls) at' w) s9 (by omega) (by omega) (stp_lt _ _ _) (f9.wm hm) (f9.law hM) (f9.said hs)
    refine ⟨τ', ?_, f9.tr k2⟩
    have m0 := f0.wm hm
    have m1 := f1.wm hm
    have m2 := f2.wm hm
    have m3 := f3.wm hm
    have m4 := f4.wm hm
    have m5 := f5.wm hm
    have m6 := f6.wm hm
    have m7 := f7.wm hm
    have m8 := f8.wm hm
    have c12 : c < 12 := by omega
    have d3 : iv s1 75 (4 + 7 * c + 3) = nI (m (7 + 7 * c)) := by rw [f1.said hs _ (by omega), show 4 + 7 * c + 3 = 7 + 7 * c by omega]
    have d4 : iv s2 75 (4 + 7 * c + 4) = nI (m (8 + 7 * c)) := by rw [f2.said hs _ (by omega), show 4 + 7 * c + 4 = 8 + 7 * c by omega]
    have tb : f_X11_turnsBy N 63 (nI t) (nI c) s8 = some (clampI (turnV (wd c rust (m (7 + 7 * c)) (m (8 + 7 * c)) at' w (leeN m b c w) h) cls) (offM at' w), s9) := g1
    rw [f_X11_goesTo_6, if_neg (nI_ge (by omega) (by omega)), m_g23 hm, Option.bind_some, m_sJ hm (a := 74) (n := 9) (i := 0) (c := 0) (by decide) rfl rfl (by decide) (by decide), Option.bind_some, ← e0,
      m_g23 m0, Option.bind_some, m_sJ m0 (a := 74) (n := 9) (i := 1) (c := 1) (by decide) rfl rfl (by decide) (by decide), Option.bind_some, ← e1,
      m_g23 m1, Option.bind_some, m_ob m1, Option.bind_some, e_c3 m1 c12, Option.bind_some, d3, m_sJ m1 (a := 74) (n := 9) (i := 2) (c := 2) (by decide) rfl rfl (by decide) (by decide), Option.bind_some, ← e2,
      m_g23 m2, Option.bind_some, m_ob m2, Option.bind_some, e_c4 m2 c12, Option.bind_some, d4, m_sJ m2 (a := 74) (n := 9) (i := 3) (c := 3) (by decide) rfl rfl (by decide) (by decide), Option.bind_some, ← e3,
      m_g23 m3, Option.bind_some, m_sJ m3 (a := 74) (n := 9) (i := 4) (c := 4) (by decide) rfl rfl (by decide) (by decide), Option.bind_some, ← e4,
      m_g23 m4, Option.bind_some, e_off' ha hw, Option.bind_some, m_sJ m4 (a := 74) (n := 9) (i := 5) (c := 5) (by decide) rfl rfl (by decide) (by decide), Option.bind_some, ← e5,
      m_g23 m5, Option.bind_some, m_sJ m5 (a := 74) (n := 9) (i := 6) (c := 6) (by decide) rfl rfl (by decide) (by decide), Option.bind_some, ← e6,
      m_g23 m6, Option.bind_some, m_ob m6, Option.bind_some, e_leeOf (by omega) m6 (f6.said hs) hws c12 hw hb, Option.bind_some, m_sJ m6 (a := 74) (n := 9) (i := 7) (c := 7) (by decide) rfl rfl (by decide) (by decide), Option.bind_some, ← e7,
      m_g23 m7, Option.bind_some, m_sJ m7 (a := 74) (n := 9) (i := 8) (c := 8) (by decide) rfl rfl (by decide) (by decide), Option.bind_some, ← e8, m_ob m8, Option.bind_some, tb, Option.bind_some]
    unfold f_X11_goesTo_155
    rw [nI_1, show goN cls c rust (m (7 + 7 * c)) (m (8 + 7 * c)) w (leeN m b c w) (d + 1) h at' = goN cls c rust (m (7 + 7 * c)) (m (8 + 7 * c)) w (leeN m b c w) d (h + 1) (stp (turnV (wd c rust (m (7 + 7 * c)) (m (8 + 7 * c)) at' w (leeN m b c w) h) cls) at' w) from rfl, ← k1, stp_eq]
    by_cases q : ((nI w - nI at') &&& 7) ≤ 4
    · rw [if_pos q, if_pos q]
    · rw [if_neg q, if_neg q]
def goV (cls : Cls) (m : Nat → Nat) (b : Nat → Bool) (c rust w n at' : Nat) : Nat := goN cls c rust (m (7 + 7 * c)) (m (8 + 7 * c)) w (leeN m b c w) n 0 at'
theorem goV_lt (cls : Cls) (m : Nat → Nat) (b : Nat → Bool) (c rust w n : Nat) {at' : Nat} (h : at' < 8) : goV cls m b c rust w n at' < 8 := goN_lt _ _ _ _ _ _ _ _ _ _ h
theorem e_goesTo (hN : 500 ≤ N) {m : Nat → Nat} {t n c rust w at' : Nat} {cls : Cls} {b : Nat → Bool} {l7 : Int32} {τ : Mm} (ht : t < 6) (hL : LWF cls) (hws : WS m) (hcm : c < m 0) (hw : w < 8) (hn : n ≤ 24) (hb : ∀ t, t < m 1 → (b t = true ↔ nI t = l7 ∨ m (90 + 3 * t) = 1)) (ha : at' < 8) (hm : WFm τ) (hM : MLaw τ t cls) (hs : ∀ i, i < 156 → iv τ 75 i = nI (m i)) : ∃ τ', f_X11_goesTo N 63 (nI t) (nI c) (nI at') (nI w) (nI n) (nI rust) l7 τ = some (nI (goV cls m b c rust w n at'), τ') ∧ FG τ τ' :=
  gos hN ht hL hws hcm hw hn hb n 0 N at' τ (by omega) (by omega) ha hm hM hs
end HO
