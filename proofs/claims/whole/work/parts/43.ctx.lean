theorem clinst : ∀ (c : Nat) (q : vw_C), vwCl[c]? = some q → Cond.instantiable q.1 q.2.2 ∈ tbl := by
  intro c q h
  match c, h with
  | 0, h => cases h; exact tbl_t2 41 rfl rfl
  | 1, h => cases h; exact tbl_t1 217 rfl rfl
  | 2, h => cases h; exact tbl_t1 90 rfl rfl
  | 3, h => cases h; exact tbl_t1 84 rfl rfl
  | 4, h => cases h; exact tbl_t2 2 rfl rfl
  | 5, h => cases h; exact tbl_t1 29 rfl rfl
  | 6, h => cases h; exact tbl_t1 45 rfl rfl
  | 7, h => cases h; exact tbl_t1 113 rfl rfl
  | 8, h => cases h; exact tbl_t1 71 rfl rfl
  | 9, h => cases h; exact tbl_t1 202 rfl rfl
  | 10, h => cases h; exact tbl_t1 21 rfl rfl
  | 11, h => cases h; exact tbl_t4 212 rfl rfl
  | c + 12, h => simp [vwCl] at h
theorem nwl_in : ∀ w ∈ nwl, Cond.methodLinkNest w.1 w.2.1 w.2.2 "MostCocks" ∈ lw_tbl := by decide +kernel
abbrev gvC : List Cond := flatC (Jvm.Cond.and given_1 narrow_1)
abbrev tmS : Term := .string "MostCocks$Tokens" 71
theorem gv_wd : ∀ j, j < 96 → Cond.eq (.elem (.field tmS "java/lang/String" "value" "[B") (.int (Int32.ofNat j))) (.int (wdB.getD j 0)) ∈ gvC := by decide +kernel
theorem gv_X : ∀ j, j < 8 → Cond.eq (.elem (.static "MostCocks$Valley" "STEP_X" "[I") (.int (Int32.ofNat j))) (.int (stX j)) ∈ gvC := by decide +kernel
theorem gv_Y : ∀ j, j < 8 → Cond.eq (.elem (.static "MostCocks$Valley" "STEP_Y" "[I") (.int (Int32.ofNat j))) (.int (stY j)) ∈ gvC := by decide +kernel
theorem arr_prim {s : State} {args : Array Value} {ty : FieldType} (h : (Cond.arrayClass ty).before args s = true) (hp : ∀ C, ty ≠ .object C) : ∃ cA : ClassId, ArrOfT s cA ty ∧ va_RA s cA ty := by
  obtain ⟨cA, kA, comp, h1, h2, h3⟩ := Cond.arrayClass_spec h
  refine ⟨cA, fun n z => ⟨fun k h => (by cases h), kA, h2, comp, h3⟩, ?_⟩
  cases ty <;> first | exact h1 | exact absurd rfl (hp _)
theorem arr_obj {s : State} {args : Array Value} {C : String} (h : (Cond.arrayOver (.object C)).before args s = true) : ∃ cA : ClassId, ArrOfT s cA (.object C) ∧ va_RA s cA (.object C) := by
  obtain ⟨comp, cA, kA, h1, -, h2, h3, h4⟩ := Cond.arrayOver_spec h
  exact ⟨cA, fun n z => ⟨fun k h => (by cases h), kA, h2, comp, h3⟩, kA, comp, h2, h3, h1, h4⟩
set_option maxRecDepth 20000 in
theorem ctx_of (l : Launch) {p : Program} {s : State} {m : MethodId} {meth : Method} {c : Code} {b0 L : Nat} {xs : Nat → Int32} (C0 : lw_At p s m meth c b0 L xs) : ∃ Γ : Cn, Γ.1 = l ∧ LGc Γ b0 L xs p s m meth c := by
  obtain ⟨hx, hb, hr, hml, hown, hts, hX, hbl, hlocks, hgv⟩ := id C0
  have htb : ∀ w ∈ tbl, w.before #[Value.ref b0] s = true := fun w hw => hts w (List.mem_filter.mp hw).1
  have hs := flat_of_before _ hgv
  have hk : ∀ k : Nat, ∃ z : ClassId × (Nat → Nat), ∀ q, vwCl[k]? = some q → u_Kn s q.1 q.2.1 q.2.2 z.1 z.2 := by
    intro k
    cases hq : vwCl[k]? with
    | none => exact ⟨(0, fun _ => 0), fun q h => by cases h⟩
    | some q =>
      obtain ⟨cc, iS, h⟩ := u_known htb (clin k q hq) (htb _ (clinst k q hq))
      exact ⟨(cc, iS), fun q' h' => by cases h'; exact h⟩
  obtain ⟨dz, hdz⟩ := Classical.axiomOfChoice hk
  obtain ⟨cB, hB1, hB2⟩ := arr_prim (htb _ ac_B) (fun _ h => by cases h)
  obtain ⟨cI, hI1, hI2⟩ := arr_prim (htb _ ac_I) (fun _ h => by cases h)
  obtain ⟨cJ, hJ1, hJ2⟩ := arr_prim (htb _ ac_J) (fun _ h => by cases h)
  obtain ⟨cZ, hZ1, hZ2⟩ := arr_prim (htb _ ac_Z) (fun _ h => by cases h)
  have hoL : (Cond.arrayOver (.object "MostCocks$Law")).before #[Value.ref b0] s = true := hts _ (by decide +kernel)
  have hoV : (Cond.arrayOver (.object "MostCocks$Valley")).before #[Value.ref b0] s = true := hts _ (by decide +kernel)
  obtain ⟨cL, hL1, hL2⟩ := arr_obj hoL
  obtain ⟨cV, hV1, hV2⟩ := arr_obj hoV
  have hA : ∀ a : Nat, a < s.heap.size → ¬ (fun q => s.heap.size ≤ q) a := fun a h => Nat.not_le.mpr h
  obtain ⟨tX, eX, hTX⟩ := va_Tof (tm := .static "MostCocks$Valley" "STEP_X" "[I") (ty := .int) (N := 8) (f := fun j => .int (stX j)) (A := fun q => s.heap.size ≤ q) (by decide) (hs _ (by decide +kernel)) (va_eqt (hs _ (by decide +kernel))) (fun j hj => va_eqt (hs _ (gv_X j hj))) hA
  obtain ⟨tY, eY, hTY⟩ := va_Tof (tm := .static "MostCocks$Valley" "STEP_Y" "[I") (ty := .int) (N := 8) (f := fun j => .int (stY j)) (A := fun q => s.heap.size ≤ q) (by decide) (hs _ (by decide +kernel)) (va_eqt (hs _ (by decide +kernel))) (fun j hj => va_eqt (hs _ (gv_Y j hj))) hA
  have hZX := va_Zref (hts (.laysStatic "MostCocks$Valley" "STEP_X" "[I") (by decide +kernel)) (hts (.initialized "MostCocks$Valley") (by decide +kernel)) eX hA
  have hZY := va_Zref (hts (.laysStatic "MostCocks$Valley" "STEP_Y" "[I") (by decide +kernel)) (hts (.initialized "MostCocks$Valley") (by decide +kernel)) eY hA
  have hZC := va_Zof (hts (.laysStatic "java/lang/String" "COMPACT_STRINGS" "Z") (by decide +kernel)) (hts (.initialized "java/lang/String") (by decide +kernel)) (va_eqt (z := 1) (hs _ (by decide +kernel))) hA
  have hZF := va_Zqof (hts (.laysStatic "jdk/internal/util/Preconditions" "SIOOBE_FORMATTER" "Ljava/util/function/BiFunction;") (by decide +kernel)) (hts (.initialized "jdk/internal/util/Preconditions") (by decide +kernel)) (hs _ (by decide +kernel)) hA
  obtain ⟨adK, adV, hS, hev⟩ := vk_Sof (N := 1) (tm := fun _ => tmS) (len := [96]) (byt := [wdB]) (A := fun q => s.heap.size ≤ q) (args := #[Value.ref b0]) (s := s)
    (fun i hi => by obtain rfl : i = 0 := (by omega); decide) (fun i hi => hs _ (by decide +kernel)) (fun i hi => hs _ (by decide +kernel)) (fun i hi => hs _ (by decide +kernel)) (fun i hi => by obtain rfl : i = 0 := (by omega); exact hs _ (by decide +kernel)) (fun i hi j hj => by obtain rfl : i = 0 := (by omega); exact hs _ (gv_wd j hj)) (fun i j hi hj hne => absurd (by omega) hne) hA
  refine ⟨(l, (fun k => (dz k).1, fun k => (dz k).2), (fun i => [cB, cI, cJ, cZ, cL, cV].getD i 0), s.heap.size, (fun i => [tX, tY, adK 0, adV 0].getD i 0)), rfl, C0, ⟨fun k q h => hdz k q h, ?_⟩, ⟨fun w hw => va_Nw.of rfl (hts _ (nwl_in w hw)), ⟨va_AO.of hoL, va_AO.of hoV⟩, ⟨hZX, hTX⟩, ⟨hZY, hTY⟩, ⟨hZC, hZF⟩, vk_R.of (hts (.stringRef "MostCocks$Tokens" 71 wdT) (by decide +kernel)) (hev 0 (by decide)), ⟨fun i hi => ?_, fun i j hi hj _ => by omega⟩⟩, rfl⟩
  · intro k q h
    match k, h with
    | 0, h => cases h; exact ⟨hB1, hB2⟩
    | 1, h => cases h; exact ⟨hI1, hI2⟩
    | 2, h => cases h; exact ⟨hJ1, hJ2⟩
    | 3, h => cases h; exact ⟨hZ1, hZ2⟩
    | 4, h => cases h; exact ⟨hL1, hL2⟩
    | 5, h => cases h; exact ⟨hV1, hV2⟩
    | k + 6, h => simp [tyl] at h
  · obtain rfl : i = 0 := by omega
    exact hS.1 0 (by decide)
