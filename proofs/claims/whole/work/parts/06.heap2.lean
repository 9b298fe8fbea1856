theorem W.szd {p : Program} {l : Launch} {e : Env} {R : Room} {s : State} {m : MethodId} {args : Array Value} {below : List Frame} {meth : Method} {c : Code} {H : Heap} {locs : List Loc} {cells slots : Nat} {Q : State → Prop} {g : JFrame}
    (kk : H.size ≤ s.heap.size + cells → W p l e R s m args below meth c H locs cells slots Q g) : W p l e R s m args below meth c H locs cells slots Q g :=
  fun T hT X => kk (by rw [← hT]; exact X.heapSize) T hT X
section GH2
variable {Γ : Cn} {M : Ms} {b : Nat} {τ : Mm} {P : Option Value → Mm → Prop} {k n pc : Nat} {lv lv' : List (Nat × Value)} {st : List Value} {σ σ' : Mm}
/-- behind a store -/
theorem gx_next {p : Program} {e : Env} {s : State} {m : MethodId} {args : Array Value} {below : List Frame} {meth : Method} {c : Code} {H H1 : Heap} {locs locs1 : List Loc} {ls : Array Slot} {o : Nat}
    (h : Gx Γ M b τ P k n pc lv st σ') (g : Gc Γ M p s m args meth c) (hlv : lv_has ls M.nL lv) (hw : Wp Γ b τ σ H) (hS : va_S Γ.A s.heap H locs) (hz : s.heap.size + k = H.size) (hn : nn σ' = nn σ) (hbk : bkc (SH o).1 = b) (hσ : ∀ o', o' ≠ o → cel Γ.B Γ.cy σ' o' = cel Γ.B Γ.cy σ o')
    (hP : va_P Γ.D vwCl ((wld Γ.B Γ.cy σ τ b (nn σ)).set (pp o) (Γ.B + pp o, cel Γ.B Γ.cy σ' o)) H1) (hS1 : va_S Γ.A H H1 locs1) :
    W p Γ.1 e M.rm s m args below meth c H1 locs1 k n (MQ below (QQ Γ b τ P) args s M.mc M.ms Γ.A) (F0 m pc ls st) := by
  refine W.szd fun hs => ?_
  have h1 : H.size ≤ H1.size := hS1.1
  have h2 : H1.size = H.size := by omega
  refine h p e s m args below meth c H1 locs1 ls g hlv (hw.set hn h2 hbk hσ hP) ⟨by omega, fun q q1 q2 => ?_, hS1.2.2⟩ (by omega)
  rw [hS1.2.1 q (Nat.lt_of_lt_of_le q1 hS.1) q2]
  exact hS.2.1 q q1 q2
theorem va_S.here {A : Nat → Prop} {H0 H : Heap} {locs : List Loc} (h : va_S A H0 H locs) : va_S A H H locs := ⟨Nat.le_refl _, fun _ _ _ => rfl, h.2.2⟩
theorem gx_putI {c j o index : Nat} {x : Int32} (hd : decode M.cc pc = .ok (.putfield index, 3)) (hv : pI c j σ o x = some σ') (hf : FL M.own index c j false .int) (hp : FP M.own c j false) (hbk : bkc c = b) (h : Gx Γ M b τ P k n (pc + 3) lv st σ') : Gx Γ M b τ P k n pc lv (.int x :: .ref (Γ.B + pp o) :: st) σ := by
  intro p e s m args below meth c' H locs ls g hlv hw hS hz
  obtain ⟨⟨ho, hk⟩, rfl⟩ := of_if' hv
  obtain ⟨C, T, N, hcl, hc, hN, hj, hr, hm, hty⟩ := hf
  obtain ⟨C2, T2, N2, hcl2, hfin, -⟩ := hp
  cases (Option.some.inj (hcl2.symm.trans hcl))
  obtain ⟨⟨hx, hb, hml, hown, hts⟩, hret, hlo, hin, hK, hSx, hB⟩ := id g
  obtain ⟨ty0, ht1, ht2⟩ := cltab c _ hcl
  have hbo : bkc (SH o).1 = b := by rw [hk]; exact hbk
  refine va_put (D := Γ.D) (ci := c) (C := C) (T := T) (N := N) (v := .int x) (ty := .int) hx hb hts (clin c _ hcl) ty0 ht1 ht2 hown hK hw.2 wld_D hS.here (pp o) (he := (wld_at ho hbo).trans (by rw [cel_o hk hc])) hcl j hj (hts _ hm) (fun _ h9 => h9) hfin hty rfl rfl (by simpa [hN] using hj) hd fun H1 locs1 hP1 _ hS1 => ?_
  refine gx_next h g hlv hw hS hz rfl hbo cel_si ?_ hS1
  rw [cel_o hk hc]
  rw [fld_set (σ' := si σ o j x)] at hP1
  · exact hP1
  · unfold fldv; rw [hr]; simp [iv_si]
  · intro i hi; unfold fldv; rw [iv_si, rv_si]; simp only [hi, and_false, if_false]
theorem gx_putZ {c j o index : Nat} {x : Int32} (hd : decode M.cc pc = .ok (.putfield index, 3)) (hv : pZ c j σ o x = some σ') (hf : FL M.own index c j false .boolean) (hp : FP M.own c j false) (hbk : bkc c = b) (h : Gx Γ M b τ P k n (pc + 3) lv st σ') : Gx Γ M b τ P k n pc lv (.int x :: .ref (Γ.B + pp o) :: st) σ := by
  intro p e s m args below meth c' H locs ls g hlv hw hS hz
  obtain ⟨⟨⟨ho, hk⟩, hx01⟩, rfl⟩ := of_if' hv
  obtain ⟨C, T, N, hcl, hc, hN, hj, hr, hm, hty⟩ := hf
  obtain ⟨C2, T2, N2, hcl2, hfin, -⟩ := hp
  cases (Option.some.inj (hcl2.symm.trans hcl))
  obtain ⟨⟨hx, hb, hml, hown, hts⟩, hret, hlo, hin, hK, hSx, hB⟩ := id g
  obtain ⟨ty0, ht1, ht2⟩ := cltab c _ hcl
  have hbo : bkc (SH o).1 = b := by rw [hk]; exact hbk
  refine va_put (D := Γ.D) (ci := c) (C := C) (T := T) (N := N) (v := .int x) (ty := .boolean) hx hb hts (clin c _ hcl) ty0 ht1 ht2 hown hK hw.2 wld_D hS.here (pp o) (he := (wld_at ho hbo).trans (by rw [cel_o hk hc])) hcl j hj (hts _ hm) (fun _ h9 => h9) hfin hty (by rcases hx01 with rfl | rfl <;> rfl) (by rcases hx01 with rfl | rfl <;> rfl) (by simpa [hN] using hj) hd fun H1 locs1 hP1 _ hS1 => ?_
  refine gx_next h g hlv hw hS hz rfl hbo cel_si ?_ hS1
  rw [cel_o hk hc]
  rw [fld_set (σ' := si σ o j x)] at hP1
  · exact hP1
  · unfold fldv; rw [hr]; simp [iv_si]
  · intro i hi; unfold fldv; rw [iv_si, rv_si]; simp only [hi, and_false, if_false]
theorem fits_rf {ty : FieldType} (hty : (∃ C, ty = .object C) ∨ ∃ t, ty = .array t) (r : Option Nat) : narrow ty (va_rf r) = va_rf r ∧ fits ty (va_rf r) = true := by
  rcases hty with ⟨C, rfl⟩ | ⟨t, rfl⟩ <;> cases r <;> exact ⟨rfl, rfl⟩
theorem gx_putR {c j o index : Nat} {r : Option Nat} {ty : FieldType} {fin : Bool} (hd : decode M.cc pc = .ok (.putfield index, 3)) (hv : pR c j σ o r = some σ') (hf : FL M.own index c j true ty) (hp : FP M.own c j fin) (hty0 : (∃ C, ty = .object C) ∨ ∃ t, ty = .array t) (hi : fin = true → M.ini = true) (hbk : bkc c = b) (h : Gx Γ M b τ P k n (pc + 3) lv st σ') : Gx Γ M b τ P k n pc lv (va_rf (r.map (fun r => Γ.B + pp r)) :: .ref (Γ.B + pp o) :: st) σ := by
  intro p e s m args below meth c' H locs ls g hlv hw hS hz
  obtain ⟨⟨ho, hk⟩, rfl⟩ := of_if' hv
  obtain ⟨C, T, N, hcl, hc, hN, hj, hr, hm, hty⟩ := hf
  obtain ⟨C2, T2, N2, hcl2, hfin, hown2⟩ := hp
  cases (Option.some.inj (hcl2.symm.trans hcl))
  obtain ⟨⟨hx, hb, hml, hown, hts⟩, hret, hlo, hin, hK, hSx, hB⟩ := id g
  obtain ⟨ty0, ht1, ht2⟩ := cltab c _ hcl
  have hbo : bkc (SH o).1 = b := by rw [hk]; exact hbk
  have hfit := fits_rf hty0 (r.map (fun r => Γ.B + pp r))
  have fin1 : ∀ (H1 : Heap) (locs1 : List Loc), va_P Γ.D vwCl ((wld Γ.B Γ.cy σ τ b (nn σ)).set (pp o) (Γ.B + pp o, .inr (c, ((List.range (nsl c)).map (fldv Γ.B σ o c)).set j (va_rf (r.map (fun r => Γ.B + pp r)))))) H1 → va_S Γ.A H H1 locs1 → W p Γ.1 e M.rm s m args below meth c' H1 locs1 k n (MQ below (QQ Γ b τ P) args s M.mc M.ms Γ.A) (F0 m (pc + 3) ls st) := by
    intro H1 locs1 hP1 hS1
    refine gx_next h g hlv hw hS hz rfl hbo cel_sr ?_ hS1
    rw [cel_o hk hc]
    rw [fld_set (σ' := sr σ o j r)] at hP1
    · exact hP1
    · unfold fldv; rw [if_pos hr]; simp [rv_sr]
    · intro i hi; unfold fldv; rw [rv_sr, iv_sr]; simp only [hi, and_false, if_false]
  cases fin with
  | false =>
    exact va_put (D := Γ.D) (ci := c) (C := C) (T := T) (N := N) (ty := ty) hx hb hts (clin c _ hcl) ty0 ht1 ht2 hown hK hw.2 wld_D hS.here (pp o) (he := (wld_at ho hbo).trans (by rw [cel_o hk hc])) hcl j hj (hts _ hm) (fun _ h9 => h9) hfin hty hfit.1 hfit.2 (by simpa [hN] using hj) hd fun H1 locs1 hP1 _ hS1 => fin1 H1 locs1 hP1 hS1
  | true =>
    exact va_putF (D := Γ.D) (ci := c) (C := C) (T := T) (N := N) (ty := ty) hx hb hts (clin c _ hcl) ty0 ht1 ht2 hown hK hw.2 wld_D hS.here (pp o) (he := (wld_at ho hbo).trans (by rw [cel_o hk hc])) hcl j hj (hts _ hm) (fun _ h9 => h9) hfin (hin (hi rfl)) (hown2 rfl) hty hfit.1 hfit.2 (by simpa [hN] using hj) hd fun H1 locs1 hP1 _ hS1 => fin1 H1 locs1 hP1 hS1
/-! arrays -/
theorem vp_ok {i : Int32} {N : Nat} (h0 : ¬ i < 0) (h1 : i.toNatClampNeg < N) : vp_in i N := fun q => q.elim h0 (fun q => by omega)
theorem gx_iald {kd a : Nat} {i x : Int32} (hd : decode M.cc pc = .ok (.iaload, 1)) (hv : aI kd σ a i = some x) (hk : kd % 100 = 13) (hbk : bkc kd = b) (h : Gx Γ M b τ P k n (pc + 1) lv (.int x :: st) σ) : Gx Γ M b τ P k n pc lv (.int i :: .ref (Γ.B + pp a) :: st) σ := by
  intro p e s m args below meth c' H locs ls g hlv hw hS hz
  obtain ⟨⟨⟨ho, hkd⟩, hi0, hi1⟩, rfl⟩ := of_if' hv
  obtain ⟨⟨hx, hb, hml, hown, hts⟩, hret, hlo, hin, hK, hSx, hB⟩ := id g
  exact va_iald (D := Γ.D) hx hb hK hw.2 (pp a) 1 (ha := (wld_at ho (by rw [hkd]; exact hbk)).trans (by rw [cel_i hkd hk (by decide) (by decide) (by decide)])) rfl (vp_ok hi0 hi1) hd (h p e s m args below meth c' H locs ls g hlv hw hS hz)
theorem gx_bald {kd a : Nat} {i x : Int32} (hd : decode M.cc pc = .ok (.baload, 1)) (hv : aI kd σ a i = some x) (hk : kd % 100 = 12) (hbk : bkc kd = b) (h : Gx Γ M b τ P k n (pc + 1) lv (.int x :: st) σ) : Gx Γ M b τ P k n pc lv (.int i :: .ref (Γ.B + pp a) :: st) σ := by
  intro p e s m args below meth c' H locs ls g hlv hw hS hz
  obtain ⟨⟨⟨ho, hkd⟩, hi0, hi1⟩, rfl⟩ := of_if' hv
  obtain ⟨⟨hx, hb, hml, hown, hts⟩, hret, hlo, hin, hK, hSx, hB⟩ := id g
  exact va_bald (D := Γ.D) hx hb hK hw.2 (pp a) 0 (ha := (wld_at ho (by rw [hkd]; exact hbk)).trans (by rw [cel_i hkd hk (by decide) (by decide) (by decide)])) rfl (vp_ok hi0 hi1) hd (h p e s m args below meth c' H locs ls g hlv hw hS hz)
theorem gx_zald {kd a : Nat} {i x : Int32} (hd : decode M.cc pc = .ok (.baload, 1)) (hv : aI kd σ a i = some x) (hk : kd % 100 = 15) (hbk : bkc kd = b) (h : Gx Γ M b τ P k n (pc + 1) lv (.int x :: st) σ) : Gx Γ M b τ P k n pc lv (.int i :: .ref (Γ.B + pp a) :: st) σ := by
  intro p e s m args below meth c' H locs ls g hlv hw hS hz
  obtain ⟨⟨⟨ho, hkd⟩, hi0, hi1⟩, rfl⟩ := of_if' hv
  obtain ⟨⟨hx, hb, hml, hown, hts⟩, hret, hlo, hin, hK, hSx, hB⟩ := id g
  exact va_zald (D := Γ.D) hx hb hK hw.2 (pp a) 3 (ha := (wld_at ho (by rw [hkd]; exact hbk)).trans (by rw [cel_i hkd hk (by decide) (by decide) (by decide)])) rfl (vp_ok hi0 hi1) hd (h p e s m args below meth c' H locs ls g hlv hw hS hz)
theorem gx_lald {kd a : Nat} {i : Int32} {x : Int64} (hd : decode M.cc pc = .ok (.laload, 1)) (hv : aJ kd σ a i = some x) (hk : kd % 100 = 14) (hbk : bkc kd = b) (h : Gx Γ M b τ P k n (pc + 1) lv (.long x :: st) σ) : Gx Γ M b τ P k n pc lv (.int i :: .ref (Γ.B + pp a) :: st) σ := by
  intro p e s m args below meth c' H locs ls g hlv hw hS hz
  obtain ⟨⟨⟨ho, hkd⟩, hi0, hi1⟩, rfl⟩ := of_if' hv
  obtain ⟨⟨hx, hb, hml, hown, hts⟩, hret, hlo, hin, hK, hSx, hB⟩ := id g
  exact va_lald (D := Γ.D) hx hb hK hw.2 (pp a) 2 (ha := (wld_at ho (by rw [hkd]; exact hbk)).trans (by rw [cel_j hkd hk])) rfl (vp_ok hi0 hi1) hd (h p e s m args below meth c' H locs ls g hlv hw hS hz)
theorem gx_aald {kd a t0 : Nat} {i : Int32} {r : Option Nat} {C : String} (hd : decode M.cc pc = .ok (.aaload, 1)) (hv : aQ kd σ a i = some r) (hk : kd % 100 = t0 + 12) (hk4 : 4 ≤ t0) (ht : (tyl Γ.cy)[t0]? = some (Γ.cy t0, .object C)) (hbk : bkc kd = b) (h : Gx Γ M b τ P k n (pc + 1) lv (va_rf (r.map (fun r => Γ.B + pp r)) :: st) σ) : Gx Γ M b τ P k n pc lv (.int i :: .ref (Γ.B + pp a) :: st) σ := by
  intro p e s m args below meth c' H locs ls g hlv hw hS hz
  obtain ⟨⟨⟨ho, hkd⟩, hi0, hi1⟩, rfl⟩ := of_if' hv
  obtain ⟨⟨hx, hb, hml, hown, hts⟩, hret, hlo, hin, hK, hSx, hB⟩ := id g
  exact va_aldq (D := Γ.D) (C := C) hx hb hK hw.2 (pp a) t0 (ha := (wld_at ho (by rw [hkd]; exact hbk)).trans (by rw [cel_r hkd hk (by omega)]; rfl)) ht (vp_ok hi0 hi1) hd (h p e s m args below meth c' H locs ls g hlv hw hS hz)
theorem gx_aaldN {kd a t0 : Nat} {i : Int32} {r : Nat} {C : String} (hd : decode M.cc pc = .ok (.aaload, 1)) (hv : aN kd σ a i = some r) (hk : kd % 100 = t0 + 12) (hk4 : 4 ≤ t0) (ht : (tyl Γ.cy)[t0]? = some (Γ.cy t0, .object C)) (hbk : bkc kd = b) (h : Gx Γ M b τ P k n (pc + 1) lv (.ref (Γ.B + pp r) :: st) σ) : Gx Γ M b τ P k n pc lv (.int i :: .ref (Γ.B + pp a) :: st) σ := by
  obtain ⟨h1, h2⟩ := of_if hv
  have hq : aQ kd σ a i = some (some r) := by unfold aQ; rw [if_pos h1, h2]
  exact gx_aald hd hq hk hk4 ht hbk h
theorem upd_row (f : Nat → Nat → Int32) (o k : Nat) (v : Int32) : up2 f o k v o = upd (f o) k v := by
  rw [up2_row]
  funext j
  unfold upd
  rfl
theorem gx_iast {kd a : Nat} {i x : Int32} (hd : decode M.cc pc = .ok (.iastore, 1)) (hv : sI kd σ a i x = some σ') (hk : kd % 100 = 13) (hbk : bkc kd = b) (h : Gx Γ M b τ P k n (pc + 1) lv st σ') : Gx Γ M b τ P k n pc lv (.int x :: .int i :: .ref (Γ.B + pp a) :: st) σ := by
  intro p e s m args below meth c' H locs ls g hlv hw hS hz
  obtain ⟨⟨⟨ho, hkd⟩, hi0, hi1⟩, rfl⟩ := of_if' hv
  obtain ⟨⟨hx, hb, hml, hown, hts⟩, hret, hlo, hin, hK, hSx, hB⟩ := id g
  have hbo : bkc (SH a).1 = b := by rw [hkd]; exact hbk
  refine va_iast (D := Γ.D) hx hb hK hw.2 wld_D hS.here (pp a) 1 (ha := (wld_at ho hbo).trans (by rw [cel_i hkd hk (by decide) (by decide) (by decide)])) rfl (vp_ok hi0 hi1) hd fun H1 locs1 hP1 _ hS1 => ?_
  refine gx_next h g hlv hw hS hz rfl hbo cel_si ?_ hS1
  rw [cel_i hkd hk (by decide) (by decide) (by decide)]
  show va_P Γ.D vwCl ((wld Γ.B Γ.cy σ τ b (nn σ)).set (pp a) (Γ.B + pp a, .inl (Γ.cy 1, (SH a).2, .inl (up2 σ.1 a i.toNatClampNeg x a)))) H1
  rw [upd_row]
  exact hP1
theorem gx_bast {kd a : Nat} {i x : Int32} (hd : decode M.cc pc = .ok (.bastore, 1)) (hv : sB kd σ a i x = some σ') (hk : kd % 100 = 12) (hbk : bkc kd = b) (h : Gx Γ M b τ P k n (pc + 1) lv st σ') : Gx Γ M b τ P k n pc lv (.int x :: .int i :: .ref (Γ.B + pp a) :: st) σ := by
  intro p e s m args below meth c' H locs ls g hlv hw hS hz
  obtain ⟨⟨⟨ho, hkd⟩, hi0, hi1⟩, rfl⟩ := of_if' hv
  obtain ⟨⟨hx, hb, hml, hown, hts⟩, hret, hlo, hin, hK, hSx, hB⟩ := id g
  have hbo : bkc (SH a).1 = b := by rw [hkd]; exact hbk
  refine va_bast (D := Γ.D) hx hb hK hw.2 wld_D hS.here (pp a) 0 (ha := (wld_at ho hbo).trans (by rw [cel_i hkd hk (by decide) (by decide) (by decide)])) rfl (vp_ok hi0 hi1) hd fun H1 locs1 hP1 _ hS1 => ?_
  refine gx_next h g hlv hw hS hz rfl hbo cel_si ?_ hS1
  rw [cel_i hkd hk (by decide) (by decide) (by decide)]
  show va_P Γ.D vwCl ((wld Γ.B Γ.cy σ τ b (nn σ)).set (pp a) (Γ.B + pp a, .inl (Γ.cy 0, (SH a).2, .inl (up2 σ.1 a i.toNatClampNeg (vp_nar .byte x) a)))) H1
  rw [upd_row]
  exact hP1
theorem gx_zast {kd a : Nat} {i x : Int32} (hd : decode M.cc pc = .ok (.bastore, 1)) (hv : sZ kd σ a i x = some σ') (hk : kd % 100 = 15) (hbk : bkc kd = b) (h : Gx Γ M b τ P k n (pc + 1) lv st σ') : Gx Γ M b τ P k n pc lv (.int x :: .int i :: .ref (Γ.B + pp a) :: st) σ := by
  intro p e s m args below meth c' H locs ls g hlv hw hS hz
  obtain ⟨⟨⟨ho, hkd⟩, hi0, hi1⟩, rfl⟩ := of_if' hv
  obtain ⟨⟨hx, hb, hml, hown, hts⟩, hret, hlo, hin, hK, hSx, hB⟩ := id g
  have hbo : bkc (SH a).1 = b := by rw [hkd]; exact hbk
  refine va_zast (D := Γ.D) hx hb hK hw.2 wld_D hS.here (pp a) 3 (ha := (wld_at ho hbo).trans (by rw [cel_i hkd hk (by decide) (by decide) (by decide)])) rfl (vp_ok hi0 hi1) hd fun H1 locs1 hP1 _ hS1 => ?_
  refine gx_next h g hlv hw hS hz rfl hbo cel_si ?_ hS1
  rw [cel_i hkd hk (by decide) (by decide) (by decide)]
  show va_P Γ.D vwCl ((wld Γ.B Γ.cy σ τ b (nn σ)).set (pp a) (Γ.B + pp a, .inl (Γ.cy 3, (SH a).2, .inl (up2 σ.1 a i.toNatClampNeg (vp_nar .boolean x) a)))) H1
  rw [upd_row]
  exact hP1
theorem gx_last {kd a : Nat} {i : Int32} {x : Int64} (hd : decode M.cc pc = .ok (.lastore, 1)) (hv : sJ kd σ a i x = some σ') (hk : kd % 100 = 14) (hbk : bkc kd = b) (h : Gx Γ M b τ P k n (pc + 1) lv st σ') : Gx Γ M b τ P k n pc lv (.long x :: .int i :: .ref (Γ.B + pp a) :: st) σ := by
  intro p e s m args below meth c' H locs ls g hlv hw hS hz
  obtain ⟨⟨⟨ho, hkd⟩, hi0, hi1⟩, rfl⟩ := of_if' hv
  obtain ⟨⟨hx, hb, hml, hown, hts⟩, hret, hlo, hin, hK, hSx, hB⟩ := id g
  have hbo : bkc (SH a).1 = b := by rw [hkd]; exact hbk
  refine va_last (D := Γ.D) hx hb hK hw.2 wld_D hS.here (pp a) 2 (ha := (wld_at ho hbo).trans (by rw [cel_j hkd hk])) rfl (vp_ok hi0 hi1) hd fun H1 locs1 hP1 _ hS1 => ?_
  refine gx_next h g hlv hw hS hz rfl hbo cel_sj ?_ hS1
  rw [cel_j hkd hk]
  show va_P Γ.D vwCl ((wld Γ.B Γ.cy σ τ b (nn σ)).set (pp a) (Γ.B + pp a, .inl (Γ.cy 2, (SH a).2, .inr (.inl (up2 σ.2.1 a i.toNatClampNeg x a))))) H1
  rw [up2_row]
  exact hP1
theorem gx_aast {kd a t0 c v : Nat} {i : Int32} {q : vw_C} (hd : decode M.cc pc = .ok (.aastore, 1)) (hv : sN kd c σ a i v = some σ') (hk : kd % 100 = t0 + 12) (hk4 : 4 ≤ t0) (ht : (tyl Γ.cy)[t0]? = some (Γ.cy t0, .object q.1)) (hcl : vwCl[c]? = some q) (hc : c < 12) (hbk : bkc kd = b) (hbc : bkc c = b) (h : Gx Γ M b τ P k n (pc + 1) lv st σ') : Gx Γ M b τ P k n pc lv (.ref (Γ.B + pp v) :: .int i :: .ref (Γ.B + pp a) :: st) σ := by
  intro p e s m args below meth c' H locs ls g hlv hw hS hz
  obtain ⟨⟨⟨⟨ho, hkd⟩, hi0, hi1⟩, hv1, hv2⟩, rfl⟩ := of_if' hv
  obtain ⟨⟨hx, hb, hml, hown, hts⟩, hret, hlo, hin, hK, hSx, hB⟩ := id g
  have hbo : bkc (SH a).1 = b := by rw [hkd]; exact hbk
  refine va_astq (D := Γ.D) hx hb hK hw.2 wld_D hS.here (pp a) t0 (pp v) c (ha := (wld_at ho hbo).trans (by rw [cel_r hkd hk (by omega)]; rfl)) ht (hv := (wld_at hv1 (by rw [hv2]; exact hbc)).trans (by rw [cel_o hv2 hc])) hcl (vp_ok hi0 hi1) hd fun H1 locs1 hP1 _ hS1 => ?_
  refine gx_next h g hlv hw hS hz rfl hbo cel_sr ?_ hS1
  rw [cel_r hkd hk (by omega)]
  have e1 : (fun j => (rv (sr σ a i.toNatClampNeg (some v)) a j).map (fun r => Γ.B + pp r)) = va_up (fun j => (rv σ a j).map (fun r => Γ.B + pp r)) i.toNatClampNeg (some (Γ.B + pp v)) := by
    funext j
    rw [rv_sr]
    unfold va_up
    by_cases hj : j = i.toNatClampNeg
    · rw [if_pos ⟨rfl, hj⟩, if_pos hj]; rfl
    · rw [if_neg (fun e => hj e.2), if_neg hj]
  rw [e1]
  exact hP1
end GH2
