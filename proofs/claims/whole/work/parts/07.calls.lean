/-- what a new needs -/
def NewOK (own : String) (index c : Nat) : Prop := ∃ (C : String) (T : u_T) (N : Nat) (ty : Nat → FieldType), vwCl[c]? = some (C, T, N) ∧ c < 12 ∧ nsl c = N ∧ (∀ k, k < N → parseFieldDescriptor (T k).2.2.1 = some (ty k)) ∧ (∀ j, j < N → defaultValue (ty j) = if isr c j = true then .null else .int 0) ∧ Cond.classLink own index C ∈ tbl ∧ Cond.instantiable C N ∈ tbl ∧ Cond.initialized C ∈ tbl
theorem cel_nw {B : Nat} {cy : Nat → ClassId} {σ : Mm} : ∀ o', o' ≠ pq (nn σ) → cel B cy (nw σ) o' = cel B cy σ o' := by
  intro o' h
  refine cel_cong ?_ ?_ ?_
  · funext k; show (if o' = pq (nn σ) then 0 else σ.1 o' k) = _; rw [if_neg h]; rfl
  · funext k; show (if o' = pq (nn σ) then 0 else σ.2.1 o' k) = _; rw [if_neg h]; rfl
  · funext k; show (if o' = pq (nn σ) then none else σ.2.2.1 o' k) = _; rw [if_neg h]; rfl
theorem wld_push {B : Nat} {cy : Nat → ClassId} {σ τ : Mm} {b : Nat} (hb : bkc (SH (pq (nn σ))).1 = b) : wld B cy σ τ b (nn σ) ++ [(B + nn σ, cel B cy (nw σ) (pq (nn σ)))] = wld B cy (nw σ) τ b (nn σ + 1) := by
  unfold wld
  rw [List.range_succ, List.map_append]
  congr 1
  · apply List.map_congr_left
    intro o ho
    have h1 : pq o ≠ pq (nn σ) := by
      intro e
      have h0 := congrArg pp e
      rw [pp_pq, pp_pq] at h0
      have := List.mem_range.mp ho
      omega
    by_cases h2 : bkc (SH (pq o)).1 = b
    · simp only [h2, if_true]; rw [cel_nw _ h1]
    · simp only [h2, if_false]
  · simp [hb]
theorem iv_nw (σ : Mm) (o k : Nat) : iv (nw σ) o k = if o = pq (nn σ) then 0 else iv σ o k := rfl
theorem jv_nw (σ : Mm) (o k : Nat) : jv (nw σ) o k = if o = pq (nn σ) then 0 else jv σ o k := rfl
theorem rv_nw (σ : Mm) (o k : Nat) : rv (nw σ) o k = if o = pq (nn σ) then none else rv σ o k := rfl
theorem nn_nw (σ : Mm) : nn (nw σ) = nn σ + 1 := rfl
section GC
variable {Γ : Cn} {M : Ms} {b : Nat} {τ : Mm} {P : Option Value → Mm → Prop} {k n pc : Nat} {lv lv' : List (Nat × Value)} {st : List Value} {σ σ' : Mm}
/-- behind a making: the new object's address is the next -/
theorem gx_made {p : Program} {e : Env} {s : State} {m : MethodId} {args : Array Value} {below : List Frame} {meth : Method} {c : Code} {H H1 : Heap} {locs : List Loc} {ls : Array Slot} {q n' : Nat} {E : va_E}
    (h : Gx Γ M b τ P (k + 1) n' pc lv (.ref (Γ.B + pp (pq (nn σ))) :: st) (nw σ)) (g : Gc Γ M p s m args meth c) (hlv : lv_has ls M.nL lv) (hw : Wp Γ b τ σ H) (hS : va_S Γ.A s.heap H locs) (hz : s.heap.size + k = H.size) (hbk : bkc (SH (pq (nn σ))).1 = b) (hE : E = cel Γ.B Γ.cy (nw σ) (pq (nn σ)))
    (hP : va_P Γ.D vwCl (wld Γ.B Γ.cy σ τ b (nn σ) ++ [(q, E)]) H1) (hD : va_D Γ.A (wld Γ.B Γ.cy σ τ b (nn σ) ++ [(q, E)])) (hS1 : va_S Γ.A H H1 locs) :
    W p Γ.1 e M.rm s m args below meth c H1 locs (k + 1) n' (MQ below (QQ Γ b τ P) args s M.mc M.ms Γ.A) (F0 m pc ls (.ref q :: st)) := by
  refine W.szd fun hs => ?_
  have hlast : (wld Γ.B Γ.cy σ τ b (nn σ) ++ [(q, E)])[nn σ]? = some (q, E) := by
    rw [List.getElem?_append_right (by rw [wld_len]; exact Nat.le_refl _), wld_len, Nat.sub_self]; rfl
  have hq1 : q < H1.size := (hP _ _ hlast).lt
  have hqB : Γ.B ≤ q := hD.2 _ _ hlast
  have hH : H.size = Γ.B + nn σ := hw.1
  have hqn : ¬ q < Γ.B + nn σ := by
    intro hlt
    have ho : q - Γ.B < nn σ := by omega
    have h2 : ∃ e, (wld Γ.B Γ.cy σ τ b (nn σ) ++ [(q, E)])[q - Γ.B]? = some (q, e) := by
      rw [List.getElem?_append_left (by rw [wld_len]; exact ho)]
      unfold wld
      rw [List.getElem?_map, List.getElem?_range ho]
      refine ⟨cel Γ.B Γ.cy (if bkc (SH (pq (q - Γ.B))).1 = b then σ else τ) (pq (q - Γ.B)), ?_⟩
      simp only [Option.map_some]
      rw [show Γ.B + (q - Γ.B) = q by omega]
    obtain ⟨e2, h2⟩ := h2
    have := hD.1 _ _ _ _ h2 hlast rfl
    omega
  have hq : q = Γ.B + nn σ := by omega
  subst hq
  rw [pp_pq] at h
  refine h p e s m args below meth c H1 locs ls g hlv ⟨by rw [nn_nw]; omega, ?_⟩ ⟨by omega, fun q q1 q2 => ?_, hS.2.2⟩ (by omega)
  · rw [nn_nw, ← wld_push hbk, ← hE]; exact hP
  · rw [hS1.2.1 q (Nat.lt_of_lt_of_le q1 hS.1) q2]
    exact hS.2.1 q q1 q2
theorem wld_A {H : Heap} {locs : List Loc} {s : State} (hB : Γ.B ≤ s.heap.size) (hS : va_S Γ.A s.heap H locs) : ∀ q, H.size ≤ q → Γ.A q := fun q h => Nat.le_trans hB (Nat.le_trans hS.1 h)
theorem gx_new {c index : Nat} (hd : decode M.cc pc = .ok (.new index, 3)) (hv : nO c σ = some σ') (hf : NewOK M.own index c) (hbk : bkc c = b) (hk : k + 1 ≤ M.mc) (hn : n + nsl c ≤ M.ms) (h : Gx Γ M b τ P (k + 1) (n + nsl c) (pc + 3) lv (.ref (Γ.B + pp (pq (nn σ))) :: st) σ') : Gx Γ M b τ P k n pc lv st σ := by
  intro p e s m args below meth c' H locs ls g hlv hw hS hz
  obtain ⟨hkd, rfl⟩ := of_if' hv
  obtain ⟨C, T, N, ty, hcl, hc, hN, hty, hdef, h1, h2, h3⟩ := hf
  obtain ⟨⟨hx, hb, hml, hown, hts⟩, hret, hlo, hin, hK, hSx, hB⟩ := id g
  have hbo : bkc (SH (pq (nn σ))).1 = b := by rw [hkd]; exact hbk
  subst hN
  refine va_new (D := Γ.D) (A := Γ.A) (ci := c) (C := C) (T := T) (N := nsl c) (fs := (List.range (nsl c)).map (fldv Γ.B (nw σ) (pq (nn σ)) c)) hx hb hts (clin c _ hcl) ty hty hown (hts _ h1) (hts _ h2) (hts _ h3) hK hw.2 wld_D hS.here (wld_A hB hS) hcl ?_ hk hn hd fun q H1 hP1 hD1 hS1 => ?_
  · intro j hj
    unfold vp_V
    rw [List.getD_eq_getElem?_getD, fld_at rfl hj, hdef j hj]
    unfold fldv
    rw [rv_nw, iv_nw]
    by_cases hr : isr c j = true
    · simp [hr, va_rf]
    · simp [hr]
  · exact gx_made h g hlv hw hS hz hbo (by rw [cel_o hkd hc]) hP1 hD1 hS1
theorem gx_newa {at0 : ArrayType} {ty : FieldType} {kd r : Nat} {len : Int32} (hd : decode M.cc pc = .ok (.newarray at0, 2)) (hv : nA kd σ len = some σ') (hty : newarray.typeOf at0 = ty) (hac : Cond.arrayClass (newarray.typeOf at0) ∈ tbl) (hr : kd % 100 = r + 12) (hr4 : r < 4) (ht : (tyl Γ.cy)[r]? = some (Γ.cy r, ty))
    (hra : ∀ (U : State) (cA : ClassId), va_RA U cA ty → U.vm.findClass ("[" ++ ty.toString) = some cA) (hcell : ∀ (cA : ClassId) (x : va_E), x = cel Γ.B Γ.cy (nw σ) (pq (nn σ)) → ∃ a0 : vp_A, x = .inl (Γ.cy r, a0) ∧ (∀ cA : ClassId, vp_cell cA a0 = arrV cA len.toNatClampNeg (fun _ => defaultValue ty)))
    (hby : len.toNatClampNeg * componentBytes ty ≤ 536870912) (hbk : bkc kd = b) (hk : k + 1 ≤ M.mc) (hn : n + len.toNatClampNeg ≤ M.ms) (h : Gx Γ M b τ P (k + 1) (n + len.toNatClampNeg) (pc + 2) lv (.ref (Γ.B + pp (pq (nn σ))) :: st) σ') : Gx Γ M b τ P k n pc lv (.int len :: st) σ := by
  intro p e s m args below meth c' H locs ls g hlv hw hS hz
  obtain ⟨⟨hkd, hl0, hl1⟩, rfl⟩ := of_if' hv
  obtain ⟨⟨hx, hb, hml, hown, hts⟩, hret, hlo, hin, hK, hSx, hB⟩ := id g
  have hbo : bkc (SH (pq (nn σ))).1 = b := by rw [hkd]; exact hbk
  obtain ⟨a0, he, ha0⟩ := hcell 0 _ rfl
  refine va_newa (D := Γ.D) (A := Γ.A) (a0 := a0) hx hb (hts _ hac) hty hK hw.2 wld_D hS.here (wld_A hB hS) ha0 hl0 rfl hby hk hn hd fun q cA H1 hK1 hP1 hD1 hS1 => ?_
  have hcy : cA = Γ.cy r := by
    have q1 := hra s cA (hK1.2 (tyl Γ.cy).length (cA, ty) (by rw [List.getElem?_append_right (Nat.le_refl _), Nat.sub_self]; rfl)).2
    have q2 := hra s (Γ.cy r) (hK.2 r _ ht).2
    rw [q1] at q2
    exact Option.some.inj q2
  subst hcy
  exact gx_made h g hlv hw hS hz hbo he.symm hP1 hD1 hS1
theorem gx_newI {kd : Nat} {len : Int32} (hd : decode M.cc pc = .ok (.newarray .int, 2)) (hv : nA kd σ len = some σ') (hac : Cond.arrayClass .int ∈ tbl) (hr : kd % 100 = 13) (hby : len.toNatClampNeg * 4 ≤ 536870912) (hbk : bkc kd = b) (hk : k + 1 ≤ M.mc) (hn : n + len.toNatClampNeg ≤ M.ms) (h : Gx Γ M b τ P (k + 1) (n + len.toNatClampNeg) (pc + 2) lv (.ref (Γ.B + pp (pq (nn σ))) :: st) σ') : Gx Γ M b τ P k n pc lv (.int len :: st) σ := by
  have hkd := (of_if' hv).1
  refine gx_newa (r := 1) (ty := .int) hd hv rfl hac hr (by decide) rfl (fun U cA h => h) (fun _ x hx => ⟨(len.toNatClampNeg, .inl (fun _ => 0)), ?_, fun _ => rfl⟩) hby hbk hk hn h
  rw [hx, cel_i hkd.1 hr (by decide) (by decide) (by decide), hkd.2.2]
  have : iv (nw σ) (pq (nn σ)) = fun _ => 0 := by funext j; rw [iv_nw, if_pos rfl]
  rw [this]
theorem gx_newB {kd : Nat} {len : Int32} (hd : decode M.cc pc = .ok (.newarray .byte, 2)) (hv : nA kd σ len = some σ') (hac : Cond.arrayClass .byte ∈ tbl) (hr : kd % 100 = 12) (hby : len.toNatClampNeg * 1 ≤ 536870912) (hbk : bkc kd = b) (hk : k + 1 ≤ M.mc) (hn : n + len.toNatClampNeg ≤ M.ms) (h : Gx Γ M b τ P (k + 1) (n + len.toNatClampNeg) (pc + 2) lv (.ref (Γ.B + pp (pq (nn σ))) :: st) σ') : Gx Γ M b τ P k n pc lv (.int len :: st) σ := by
  have hkd := (of_if' hv).1
  refine gx_newa (r := 0) (ty := .byte) hd hv rfl hac hr (by decide) rfl (fun U cA h => h) (fun _ x hx => ⟨(len.toNatClampNeg, .inl (fun _ => 0)), ?_, fun _ => rfl⟩) hby hbk hk hn h
  rw [hx, cel_i hkd.1 hr (by decide) (by decide) (by decide), hkd.2.2]
  have : iv (nw σ) (pq (nn σ)) = fun _ => 0 := by funext j; rw [iv_nw, if_pos rfl]
  rw [this]
theorem gx_newZ {kd : Nat} {len : Int32} (hd : decode M.cc pc = .ok (.newarray .boolean, 2)) (hv : nA kd σ len = some σ') (hac : Cond.arrayClass .boolean ∈ tbl) (hr : kd % 100 = 15) (hby : len.toNatClampNeg * 1 ≤ 536870912) (hbk : bkc kd = b) (hk : k + 1 ≤ M.mc) (hn : n + len.toNatClampNeg ≤ M.ms) (h : Gx Γ M b τ P (k + 1) (n + len.toNatClampNeg) (pc + 2) lv (.ref (Γ.B + pp (pq (nn σ))) :: st) σ') : Gx Γ M b τ P k n pc lv (.int len :: st) σ := by
  have hkd := (of_if' hv).1
  refine gx_newa (r := 3) (ty := .boolean) hd hv rfl hac hr (by decide) rfl (fun U cA h => h) (fun _ x hx => ⟨(len.toNatClampNeg, .inl (fun _ => 0)), ?_, fun _ => rfl⟩) hby hbk hk hn h
  rw [hx, cel_i hkd.1 hr (by decide) (by decide) (by decide), hkd.2.2]
  have : iv (nw σ) (pq (nn σ)) = fun _ => 0 := by funext j; rw [iv_nw, if_pos rfl]
  rw [this]
theorem gx_newJ {kd : Nat} {len : Int32} (hd : decode M.cc pc = .ok (.newarray .long, 2)) (hv : nA kd σ len = some σ') (hac : Cond.arrayClass .long ∈ tbl) (hr : kd % 100 = 14) (hby : len.toNatClampNeg * 8 ≤ 536870912) (hbk : bkc kd = b) (hk : k + 1 ≤ M.mc) (hn : n + len.toNatClampNeg ≤ M.ms) (h : Gx Γ M b τ P (k + 1) (n + len.toNatClampNeg) (pc + 2) lv (.ref (Γ.B + pp (pq (nn σ))) :: st) σ') : Gx Γ M b τ P k n pc lv (.int len :: st) σ := by
  have hkd := (of_if' hv).1
  refine gx_newa (r := 2) (ty := .long) hd hv rfl hac hr (by decide) rfl (fun U cA h => h) (fun _ x hx => ⟨(len.toNatClampNeg, .inr (.inl (fun _ => 0))), ?_, fun _ => rfl⟩) hby hbk hk hn h
  rw [hx, cel_j hkd.1 hr, hkd.2.2]
  have : jv (nw σ) (pq (nn σ)) = fun _ => 0 := by funext j; rw [jv_nw, if_pos rfl]
  rw [this]
theorem gx_newQ {kd r index : Nat} {len : Int32} {C : String} (hd : decode M.cc pc = .ok (.anewarray index, 3)) (hv : nA kd σ len = some σ') (hcl : Cond.classLink M.own index C ∈ tbl) (hC : C = "MostCocks$Law" ∨ C = "MostCocks$Valley") (hr : kd % 100 = r + 12) (hr4 : 4 ≤ r) (ht : (tyl Γ.cy)[r]? = some (Γ.cy r, .object C)) (hby : len.toNatClampNeg * 4 ≤ 536870912) (hbk : bkc kd = b) (hk : k + 1 ≤ M.mc) (hn : n + len.toNatClampNeg ≤ M.ms) (h : Gx Γ M b τ P (k + 1) (n + len.toNatClampNeg) (pc + 3) lv (.ref (Γ.B + pp (pq (nn σ))) :: st) σ') : Gx Γ M b τ P k n pc lv (.int len :: st) σ := by
  intro p e s m args below meth c' H locs ls g hlv hw hS hz
  obtain ⟨⟨hkd, hl0, hl1⟩, rfl⟩ := of_if' hv
  obtain ⟨⟨hx, hb, hml, hown, hts⟩, hret, hlo, hin, hK, hSx, hB⟩ := id g
  have hbo : bkc (SH (pq (nn σ))).1 = b := by rw [hkd]; exact hbk
  have hao : va_AO C s := by
    rcases hC with rfl | rfl
    · exact hSx.2.1.1
    · exact hSx.2.1.2
  refine va_newq (D := Γ.D) (A := Γ.A) (C := C) hx hb hown (hts _ hcl) hao hK hw.2 wld_D hS.here (wld_A hB hS) hl0 rfl hby hk hn hd fun q cA H1 hK1 hP1 hD1 hS1 => ?_
  have hcy : cA = Γ.cy r := by
    obtain ⟨kA, comp, -, -, -, q1⟩ := (hK1.2 (tyl Γ.cy).length (cA, .object C) (by rw [List.getElem?_append_right (Nat.le_refl _), Nat.sub_self]; rfl)).2
    obtain ⟨kB, comp2, -, -, -, q2⟩ := (hK.2 r _ ht).2
    rw [q1] at q2
    exact Option.some.inj q2
  subst hcy
  refine gx_made h g hlv hw hS hz hbo ?_ hP1 hD1 hS1
  rw [cel_r hkd hr (by omega), hl1]
  have : (fun i => (rv (nw σ) (pq (nn σ)) i).map (fun r => Γ.B + pp r)) = fun _ => none := by funext j; rw [rv_nw, if_pos rfl]; rfl
  rw [this]
  rfl
theorem gx_alen {a : Nat} {v : Int32} (hd : decode M.cc pc = .ok (.arraylength, 1)) (hv : ln b σ a = some v) (h : Gx Γ M b τ P k n (pc + 1) lv (.int v :: st) σ) : Gx Γ M b τ P k n pc lv (.ref (Γ.B + pp a) :: st) σ := by
  intro p e s m args below meth c' H locs ls g hlv hw hS hz
  obtain ⟨⟨ho, h1, h2, hbo⟩, hvv⟩ := of_if' hv
  obtain ⟨⟨hx, hb, hml, hown, hts⟩, hret, hlo, hin, hK, hSx, hB⟩ := id g
  have key : ∀ r, (SH a).1 % 100 = r + 12 → r < 6 → ∃ (x : vp_A) (ty : FieldType), cel Γ.B Γ.cy σ a = .inl (Γ.cy r, x) ∧ x.1 = (SH a).2 ∧ (tyl Γ.cy)[r]? = some (Γ.cy r, ty) := by
    intro r hr hr6
    have ht : ∃ ty, (tyl Γ.cy)[r]? = some (Γ.cy r, ty) := by
      match r, hr6 with
      | 0, _ => exact ⟨_, rfl⟩
      | 1, _ => exact ⟨_, rfl⟩
      | 2, _ => exact ⟨_, rfl⟩
      | 3, _ => exact ⟨_, rfl⟩
      | 4, _ => exact ⟨_, rfl⟩
      | 5, _ => exact ⟨_, rfl⟩
    obtain ⟨ty, ht⟩ := ht
    by_cases e1 : r = 2
    · subst e1; exact ⟨_, ty, cel_j rfl hr, rfl, ht⟩
    · by_cases e2 : r < 4
      · exact ⟨_, ty, by rw [cel_i rfl hr (by omega) (by omega) (by omega), Nat.add_sub_cancel], rfl, ht⟩
      · exact ⟨_, ty, by rw [cel_r rfl hr (by omega), Nat.add_sub_cancel], rfl, ht⟩
  obtain ⟨x, ty, e1, e2, ht⟩ := key ((SH a).1 % 100 - 12) (by omega) (by omega)
  exact va_alen (D := Γ.D) hx hb hK hw.2 (pp a) _ (ha := (wld_at ho hbo).trans (by rw [e1])) ht (by rw [e2]; exact hvv) hd (h p e s m args below meth c' H locs ls g hlv hw hS hz)
theorem gx_copy {kd a d index : Nat} {sp dp cn : Int32} (hd : decode M.cc pc = .ok (.invokestatic index, 3)) (hv : cpA kd σ a sp d dp cn = some σ') (hk : kd % 100 = 13) (hm : Cond.methodLink M.own index arraycopyName ∈ tbl) (hnat : Cond.native arraycopyName ∈ tbl) (hsta : Cond.static arraycopyName ∈ tbl) (hini : Cond.initialized "java/lang/System" ∈ tbl) (hbk : bkc kd = b)
    (hfr : 1 ≤ M.d) (hst : (st.map fun v => v.category).sum + (nativeFrameWords "java/lang/System" "arraycopy" 5 + 11) ≤ 64 * M.d) (h : Gx Γ M b τ P k n (pc + 3) lv st σ') : Gx Γ M b τ P k n pc lv (.int cn :: .int dp :: .ref (Γ.B + pp d) :: .int sp :: .ref (Γ.B + pp a) :: st) σ := by
  intro p e s m args below meth c' H locs ls g hlv hw hS hz
  obtain ⟨⟨⟨⟨ho, hkd⟩, ho2, hkd2⟩, ⟨c1, c2, c3⟩, c4, c5⟩, rfl⟩ := of_if' hv
  obtain ⟨⟨hx, hb, hml, hown, hts⟩, hret, hlo, hin, hK, hSx, hB⟩ := id g
  have hbo : bkc (SH a).1 = b := by rw [hkd]; exact hbk
  have hbd : bkc (SH d).1 = b := by rw [hkd2]; exact hbk
  refine va_copyi (D := Γ.D) hx hb (by rw [hml]; exact hlv.1.symm) hown (hts _ hm) (hts _ hnat) (hts _ hsta) (hts _ hini) hK hw.2 wld_D hS.here (pp a) (pp d) 1 1 (ty := .int) (ha0 := (wld_at ho hbo).trans (by rw [cel_i hkd hk (by decide) (by decide) (by decide)])) (ha1 := (wld_at ho2 hbd).trans (by rw [cel_i hkd2 hk (by decide) (by decide) (by decide)])) rfl rfl rfl c1 c2 c3 c4 c5 (fun _ _ => rfl) hfr hst hd fun H1 locs1 hP1 _ hS1 => ?_
  refine gx_next h g hlv hw hS hz rfl hbd ?_ ?_ hS1
  · intro o' ho'
    refine cel_cong ?_ rfl rfl
    funext q
    rw [iv_cpy, if_neg (fun e => ho' e.1)]
  · rw [cel_i hkd2 hk (by decide) (by decide) (by decide)]
    have e1 : iv (cpy σ a sp.toNatClampNeg d dp.toNatClampNeg cn.toNatClampNeg) d = va_cpy (iv σ a) (iv σ d) sp.toNatClampNeg dp.toNatClampNeg cn.toNatClampNeg := by
      funext q
      rw [iv_cpy]
      unfold va_cpy
      simp only [true_and]
    rw [e1]
    exact hP1
/-! ends -/
theorem gx_fin {p : Program} {e : Env} {s t : State} {m : MethodId} {args : Array Value} {meth : Method} {c : Code} {H : Heap} {locs : List Loc} {v : Option Value}
    (hP : P v σ) (hw : Wp Γ b τ σ H) (hS : va_S Γ.A s.heap H locs) (ht : t.heap = H) : QQ Γ b τ P args s (.returned v) t :=
  ⟨⟨v, σ, rfl, hP, by rw [ht]; exact hw⟩, hS.F ht⟩
theorem gx_iret {x : Int32} (hd : decode M.cc pc = .ok (.ireturn, 1)) (hr : M.ret = some .int) (hk : k ≤ M.mc) (hn : n ≤ M.ms) (hP : P (some (.int x)) σ) : Gx Γ M b τ P k n pc lv [.int x] σ := by
  intro p e s m args below meth c' H locs ls g hlv hw hS hz
  have hlk := g.2.2.1
  refine W.widen hk hn ?_
  exact W.iret g.1.1 g.1.2.1 (g.2.1.trans hr) (fun t ht _ => gx_fin (p := p) (e := e) (m := m) (meth := meth) (c := c') hP hw hS ht) hS.2.2 hd hlk
theorem gx_zret {x : Int32} {ty : FieldType} (hd : decode M.cc pc = .ok (.ireturn, 1)) (hr : M.ret = some ty) (hx : narrow ty (.int x) = .int x) (hk : k ≤ M.mc) (hn : n ≤ M.ms) (hP : P (some (.int x)) σ) : Gx Γ M b τ P k n pc lv [.int x] σ := by
  intro p e s m args below meth c' H locs ls g hlv hw hS hz
  have hlk := g.2.2.1
  refine W.widen hk hn ?_
  exact W.zret g.1.1 g.1.2.1 (g.2.1.trans hr) hx (fun t ht _ => gx_fin (p := p) (e := e) (m := m) (meth := meth) (c := c') hP hw hS ht) hS.2.2 hd hlk
theorem gx_lret {x : Int64} (hd : decode M.cc pc = .ok (.lreturn, 1)) (hr : M.ret = some .long) (hk : k ≤ M.mc) (hn : n ≤ M.ms) (hP : P (some (.long x)) σ) : Gx Γ M b τ P k n pc lv [.long x] σ := by
  intro p e s m args below meth c' H locs ls g hlv hw hS hz
  have hlk := g.2.2.1
  refine W.widen hk hn ?_
  exact W.lret g.1.1 g.1.2.1 (g.2.1.trans hr) (fun t ht _ => gx_fin (p := p) (e := e) (m := m) (meth := meth) (c := c') hP hw hS ht) hS.2.2 hd hlk
theorem gx_vret (hd : decode M.cc pc = .ok (.return_, 1)) (hr : M.ret = none) (hk : k ≤ M.mc) (hn : n ≤ M.ms) (hP : P none σ) : Gx Γ M b τ P k n pc lv [] σ := by
  intro p e s m args below meth c' H locs ls g hlv hw hS hz
  have hlk := g.2.2.1
  refine W.widen hk hn ?_
  exact W.vret g.1.1 g.1.2.1 (g.2.1.trans hr) (fun t ht _ => gx_fin (p := p) (e := e) (m := m) (meth := meth) (c := c') hP hw hS ht) hS.2.2 hd hlk
theorem gx_objInit {a idx : Nat} (hd : decode M.cc pc = .ok (.invokespecial idx, 3)) (hm : Cond.methodLink M.own idx Lib.objectInit ∈ tbl) (hi : Cond.instanceMethod Lib.objectInit ∈ tbl) (hc : Cond.code Lib.objectInit ⟨#[0xb1]⟩ 1 none ∈ tbl) (hfr : 1 ≤ M.d) (hst : (st.map fun v => v.category).sum + 12 ≤ 64 * M.d) (h : Gx Γ M b τ P k n (pc + 3) lv st σ) : Gx Γ M b τ P k n pc lv (.ref a :: st) σ := by
  intro p e s m args below meth c' H locs ls g hlv hw hS hz
  obtain ⟨⟨hx, hb, hml, hown, hts⟩, hret, hlo, hin, hK, hSx, hB⟩ := id g
  refine W.objInit hx hb hown (hts _ hm) (hts _ hi) (hts _ hc) rfl (by rw [hml]; exact hlv.1) rfl hd hfr (by simpa [F0] using hst) ?_
  exact h p e s m args below meth c' H locs ls g hlv hw hS hz
/-! calls -/
/-- what is known of a method that is called -/
def MOK (y : MethodName) (M : Ms) (na : Nat) : Prop := Cond.initialized y.cls ∈ tbl ∧ Cond.code y M.cc M.nL M.ret ∈ tbl ∧ (y.cls ≠ "java/lang/invoke/MethodHandle" ∧ y.cls ≠ "java/lang/invoke/VarHandle") ∧ (parseMethodDescriptor y.desc).map (fun d => d.parameters.length) = some na
theorem ct_blind {y : MethodName} {M' : Ms} {av : List Value} : FrameBlind (va_Pc av (fun U => Wp Γ b τ σ U.heap ∧ va_K Γ.D vwCl (tyl Γ.cy) U ∧ Sx Γ U U.heap ∧ Γ.B ≤ U.heap.size)) := by
  intro a U g mk q
  obtain ⟨q0, q1, q2, q3, q4⟩ := q
  exact ⟨q0, q1, va_K.moved (u := U) (U := U.calling g mk a) (Vm.Alike.refl U.vm) q2, Sx.same (s := U) (U := U.calling g mk a) rfl q3, q4⟩
/-- behind a call -/
theorem gx_after {p : Program} {e : Env} {s : State} {m : MethodId} {args a : Array Value} {below : List Frame} {meth : Method} {c : Code} {H : Heap} {locs : List Loc} {ls : Array Slot} {mc ms : Nat} {st0 : List Value} {P' : Option Value → Mm → Prop}
    (hr : va_Run p Γ.1 e M.rm s m args below meth c H locs k n mc ms (F0 m pc ls st0) st (QQ Γ b τ P' a) Γ.A) (g : Gc Γ M p s m args meth c) (hlv : lv_has ls M.nL lv) (hw : Wp Γ b τ σ H) (hS : va_S Γ.A s.heap H locs) (hz : s.heap.size + k = H.size)
    (hex : mc = 0 ∨ ∀ v σ', P' v σ' → nn σ' = nn σ + mc) (h : ∀ v σ', P' v σ' → Gx Γ M b τ P (k + mc) (n + ms) (pc + 3) lv (v.toList ++ st) σ') :
    W p Γ.1 e M.rm s m args below meth c H locs k n (MQ below (QQ Γ b τ P) args s M.mc M.ms Γ.A) (F0 m pc ls st0) := by
  intro T hT X
  obtain ⟨v, st₀, t, T', L, h0, X', hL, e1, e2, ⟨⟨v', σ1, hv, hp, hw1⟩, hz1, hk1⟩, stp⟩ := hr T hT X
  cases hv
  rw [h0] at hz1 hk1
  have hsz := X'.heapSize
  rw [e1] at hsz
  have hH := hw.1
  have hH1 := hw1.1
  have hnn : nn σ1 = nn σ + mc := by
    rcases hex with h0 | h0
    · subst h0; omega
    · exact h0 _ _ hp
  obtain ⟨t2, a1, b1⟩ := h _ _ hp p e s m args below meth c t.heap (locs ++ L) ls g hlv hw1 ⟨Nat.le_trans hS.1 hz1, fun q h1 h2 => by rw [hk1 q (Nat.lt_of_lt_of_le h1 hS.1) h2]; exact hS.2.1 q h1 h2, fun q hq => by
      rcases List.mem_append.mp hq with h | h
      · exact hS.2.2 q h
      · exact hL q h⟩ (by omega) T' e1 X'
  exact ⟨t2, stp t2 a1, b1⟩
theorem ct_pre {s : State} {H : Heap} {locs : List Loc} {av : List Value} (hK : va_K Γ.D vwCl (tyl Γ.cy) s) (hSx : Sx Γ s s.heap) (hB : Γ.B ≤ s.heap.size) (hw : Wp Γ b τ σ H) (hS : va_S Γ.A s.heap H locs) : ∀ U : State, U.heap = H → s.WarmedH U.vm → va_Pc av (fun U => Wp Γ b τ σ U.heap ∧ va_K Γ.D vwCl (tyl Γ.cy) U ∧ Sx Γ U U.heap ∧ Γ.B ≤ U.heap.size) av.toArray U := by
  intro U hU hW
  refine ⟨rfl, by rw [hU]; exact hw, va_K.moved hW.alike hK, ?_, by rw [hU]; exact Nat.le_trans hB hS.1⟩
  rw [hU]
  exact Sx.warm hW (Sx.kept (fun a h1 h2 => hS.2.1 a h1 h2) hSx)
theorem gx_callV {y : MethodName} {M' : Ms} {na index o c : Nat} {q : vw_C} {As : List Value} {P' : Option Value → Mm → Prop} (hd : decode M.cc pc = .ok (.invokevirtual index, 3)) (hC : Ct Γ M' y b τ (.ref (Γ.B + pp o) :: As) σ P') (hok : MOK y M' na) (hl : Cond.methodLink M.own index y ∈ tbl) (hi : Cond.instanceMethod y ∈ tbl) (hsel : Cond.selects y.cls y y ∈ tbl)
    (ho : pp o < nn σ) (hso : (SH o).1 = c) (hc : c < 12) (hcl : vwCl[c]? = some q) (hq : q.1 = y.cls) (hbk : bkc c = b) (hna : As.length = na) (hR : M'.d + 1 ≤ M.d ∧ 8 + (M'.nL + 11) + 64 * M'.d ≤ 64 * M.d) (hst : (st.map fun v => v.category).sum ≤ 8) (hk : k + M'.mc ≤ M.mc ∧ n + M'.ms ≤ M.ms)
    (hex : M'.mc = 0 ∨ ∀ v σ', P' v σ' → nn σ' = nn σ + M'.mc) (h : ∀ v σ', P' v σ' → Gx Γ M b τ P (k + M'.mc) (n + M'.ms) (pc + 3) lv (v.toList ++ st) σ') : Gx Γ M b τ P k n pc lv (As.reverse ++ .ref (Γ.B + pp o) :: st) σ := by
  intro p e s m args below meth c' H locs ls g hlv hw hS hz
  obtain ⟨⟨hx, hb, hml, hown, hts⟩, hret, hlo, hin, hK, hSx, hB⟩ := id g
  obtain ⟨k1, k2, k3, k4⟩ := hok
  refine gx_after (va_runV (C := y.cls) (b := Γ.B + pp o) (As := As) (rest := st) (n := na) (ret := M'.ret) g.1 hC ⟨callB_of na hts (tbl_in k2) rfl rfl rfl (hts _ k1) (hts _ hl) ⟨k3.1, k3.2, k4⟩ hR, hts _ hi, hts _ hsel⟩ ⟨ct_blind (y := y) (M' := M'), ?_, ct_pre hK hSx hB hw hS⟩ rfl hna hlv.1 rfl (lv_room hst) hd hk) g hlv hw hS hz hex h
  rw [← hq]
  exact va_recv hK hw.2 hcl ((wld_at ho (by rw [hso]; exact hbk)).trans (by rw [cel_o hso hc]))
theorem gx_callS {y : MethodName} {M' : Ms} {na index : Nat} {As : List Value} {P' : Option Value → Mm → Prop} (hd : decode M.cc pc = .ok (.invokestatic index, 3)) (hC : Ct Γ M' y b τ As σ P') (hok : MOK y M' na) (hl : Cond.methodLink M.own index y ∈ tbl) (hi : Cond.static y ∈ tbl)
    (hna : As.length = na) (hR : M'.d + 1 ≤ M.d ∧ 8 + (M'.nL + 11) + 64 * M'.d ≤ 64 * M.d) (hst : (st.map fun v => v.category).sum ≤ 8) (hk : k + M'.mc ≤ M.mc ∧ n + M'.ms ≤ M.ms)
    (hex : M'.mc = 0 ∨ ∀ v σ', P' v σ' → nn σ' = nn σ + M'.mc) (h : ∀ v σ', P' v σ' → Gx Γ M b τ P (k + M'.mc) (n + M'.ms) (pc + 3) lv (v.toList ++ st) σ') : Gx Γ M b τ P k n pc lv (As.reverse ++ st) σ := by
  intro p e s m args below meth c' H locs ls g hlv hw hS hz
  obtain ⟨⟨hx, hb, hml, hown, hts⟩, hret, hlo, hin, hK, hSx, hB⟩ := id g
  obtain ⟨k1, k2, k3, k4⟩ := hok
  exact gx_after (va_runS (As := As) (rest := st) (n := na) (ret := M'.ret) g.1 hC ⟨callB_of na hts (tbl_in k2) rfl rfl rfl (hts _ k1) (hts _ hl) ⟨k3.1, k3.2, k4⟩ hR, hts _ hi⟩ ⟨ct_blind (y := y) (M' := M'), ct_pre hK hSx hB hw hS⟩ rfl hna hlv.1 rfl (lv_room hst) hd hk) g hlv hw hS hz hex h
theorem gx_callSN {y : MethodName} {M' : Ms} {na index : Nat} {As : List Value} {P' : Option Value → Mm → Prop} (hd : decode M.cc pc = .ok (.invokestatic index, 3)) (hC : Ct Γ M' y b τ As σ P') (hok : MOK y M' na) (hl : (M.own, index, y) ∈ nwl) (hi : Cond.static y ∈ tbl)
    (hna : As.length = na) (hR : M'.d + 1 ≤ M.d ∧ 8 + (M'.nL + 11) + 64 * M'.d ≤ 64 * M.d) (hst : (st.map fun v => v.category).sum ≤ 8) (hk : k + M'.mc ≤ M.mc ∧ n + M'.ms ≤ M.ms)
    (hex : M'.mc = 0 ∨ ∀ v σ', P' v σ' → nn σ' = nn σ + M'.mc) (h : ∀ v σ', P' v σ' → Gx Γ M b τ P (k + M'.mc) (n + M'.ms) (pc + 3) lv (v.toList ++ st) σ') : Gx Γ M b τ P k n pc lv (As.reverse ++ st) σ := by
  intro p e s m args below meth c' H locs ls g hlv hw hS hz
  obtain ⟨⟨hx, hb, hml, hown, hts⟩, hret, hlo, hin, hK, hSx, hB⟩ := id g
  obtain ⟨k1, k2, k3, k4⟩ := hok
  exact gx_after (va_runSN (As := As) (rest := st) (n := na) (ret := M'.ret) g.1 hC ⟨va_cnB na hts (tbl_in k2) rfl rfl rfl (hSx.1 _ hl) (hts _ k1) ⟨k3.1, k3.2, k4⟩ hR, hts _ hi, trivial⟩ ⟨ct_blind (y := y) (M' := M'), ct_pre hK hSx hB hw hS⟩ rfl hna hlv.1 rfl (lv_room hst) hd hk) g hlv hw hS hz hex h
theorem gx_callI {y : MethodName} {M' : Ms} {na index o : Nat} {As : List Value} {P' : Option Value → Mm → Prop} (hd : decode M.cc pc = .ok (.invokespecial index, 3)) (hC : Ct Γ M' y b τ (.ref (Γ.B + pp o) :: As) σ P') (hok : MOK y M' na) (hl : Cond.methodLink M.own index y ∈ tbl) (hi : Cond.instanceMethod y ∈ tbl) (hyi : y.name = "<init>") (hret0 : M'.ret = none)
    (hna : As.length = na) (hR : M'.d + 1 ≤ M.d ∧ 8 + (M'.nL + 11) + 64 * M'.d ≤ 64 * M.d) (hst : (st.map fun v => v.category).sum ≤ 8) (hk : k + M'.mc ≤ M.mc ∧ n + M'.ms ≤ M.ms)
    (hex : M'.mc = 0 ∨ ∀ v σ', P' v σ' → nn σ' = nn σ + M'.mc) (h : ∀ v σ', P' v σ' → Gx Γ M b τ P (k + M'.mc) (n + M'.ms) (pc + 3) lv (v.toList ++ st) σ') : Gx Γ M b τ P k n pc lv (As.reverse ++ .ref (Γ.B + pp o) :: st) σ := by
  intro p e s m args below meth c' H locs ls g hlv hw hS hz
  obtain ⟨⟨hx, hb, hml, hown, hts⟩, hret, hlo, hin, hK, hSx, hB⟩ := id g
  obtain ⟨k1, k2, k3, k4⟩ := hok
  rw [hret0] at k2
  unfold Ct at hC
  rw [hret0] at hC
  exact gx_after (va_runI (b := Γ.B + pp o) (As := As) (rest := st) (n := na) g.1 hC ⟨callB_of na hts (tbl_in k2) rfl rfl rfl (hts _ k1) (hts _ hl) ⟨k3.1, k3.2, k4⟩ hR, hyi, hts _ hi⟩ ⟨ct_blind (y := y) (M' := M'), ct_pre hK hSx hB hw hS⟩ rfl hna hlv.1 rfl (lv_room hst) hd hk) g hlv hw hS hz hex h
theorem gx_callIN {y : MethodName} {M' : Ms} {na index o : Nat} {As : List Value} {P' : Option Value → Mm → Prop} (hd : decode M.cc pc = .ok (.invokespecial index, 3)) (hC : Ct Γ M' y b τ (.ref (Γ.B + pp o) :: As) σ P') (hok : MOK y M' na) (hl : (M.own, index, y) ∈ nwl) (hi : Cond.instanceMethod y ∈ tbl) (hyi : y.name = "<init>") (hret0 : M'.ret = none)
    (hna : As.length = na) (hR : M'.d + 1 ≤ M.d ∧ 8 + (M'.nL + 11) + 64 * M'.d ≤ 64 * M.d) (hst : (st.map fun v => v.category).sum ≤ 8) (hk : k + M'.mc ≤ M.mc ∧ n + M'.ms ≤ M.ms)
    (hex : M'.mc = 0 ∨ ∀ v σ', P' v σ' → nn σ' = nn σ + M'.mc) (h : ∀ v σ', P' v σ' → Gx Γ M b τ P (k + M'.mc) (n + M'.ms) (pc + 3) lv (v.toList ++ st) σ') : Gx Γ M b τ P k n pc lv (As.reverse ++ .ref (Γ.B + pp o) :: st) σ := by
  intro p e s m args below meth c' H locs ls g hlv hw hS hz
  obtain ⟨⟨hx, hb, hml, hown, hts⟩, hret, hlo, hin, hK, hSx, hB⟩ := id g
  obtain ⟨k1, k2, k3, k4⟩ := hok
  rw [hret0] at k2
  unfold Ct at hC
  rw [hret0] at hC
  exact gx_after (va_runIN (b := Γ.B + pp o) (As := As) (rest := st) (n := na) g.1 hC ⟨va_cnB na hts (tbl_in k2) rfl rfl rfl (hSx.1 _ hl) (hts _ k1) ⟨k3.1, k3.2, k4⟩ hR, hyi, hts _ hi⟩ ⟨ct_blind (y := y) (M' := M'), ct_pre hK hSx hB hw hS⟩ rfl hna hlv.1 rfl (lv_room hst) hd hk) g hlv hw hS hz hex h
end GC
