/-! the words of the language: String.length and String.charAt on that one String -/
section GS
variable {Γ : Cn} {M M' : Ms} {b : Nat} {τ : Mm} {P : Option Value → Mm → Prop} {k n pc na index : Nat} {lv lv' : List (Nat × Value)} {st As : List Value} {σ σ' : Mm} {y : MethodName}
theorem Sx.str {s : State} {H : Heap} (h : Sx Γ s H) : va_OF "java/lang/String" "coder" "B" (.int 0) (Γ.sa 2) Γ.A s H ∧ va_OF "java/lang/String" "value" "[B" (.ref (Γ.sa 3)) (Γ.sa 2) Γ.A s H ∧ va_T .byte (Γ.sa 3) 96 (fun j => .int (wdB.getD j 0)) Γ.A s H := (h.2.2.2.2.2.2.1 0 (by decide)).2
theorem gx_ldcS (hd : decode M.cc pc = .ok (.ldc 71, 2)) (ho : M.own = "MostCocks$Tokens") (h : Gx Γ M b τ P k n (pc + 2) lv (.ref (Γ.sa 2) :: st) σ) : Gx Γ M b τ P k n pc lv st σ := by
  intro p e s m args below meth c' H locs ls g hlv hw hS hz
  obtain ⟨⟨hx, hb, hml, hown, hts⟩, hret, hlo, hin, hK, hSx, hB⟩ := id g
  rw [ho] at hown
  exact va_ldcS hx hb hown hSx.2.2.2.2.2.1 hd (h p e s m args below meth c' H locs ls g hlv hw hS hz)
theorem gx_sval (hd : decode M.cc pc = .ok (.getfield index, 3)) (hl : Cond.fieldLink M.own index "java/lang/String" "value" "[B" ∈ tbl) (h : Gx Γ M b τ P k n (pc + 3) lv (.ref (Γ.sa 3) :: st) σ) : Gx Γ M b τ P k n pc lv (.ref (Γ.sa 2) :: st) σ := by
  intro p e s m args below meth c' H locs ls g hlv hw hS hz
  obtain ⟨⟨hx, hb, hml, hown, hts⟩, hret, hlo, hin, hK, hSx, hB⟩ := id g
  exact vk_getf hx hb hSx.str.2.1 hS hown (hts _ hl) (fun _ h9 => h9) hd (h p e s m args below meth c' H locs ls g hlv hw hS hz)
theorem gx_scod (hd : decode M.cc pc = .ok (.getfield index, 3)) (hl : Cond.fieldLink M.own index "java/lang/String" "coder" "B" ∈ tbl) (h : Gx Γ M b τ P k n (pc + 3) lv (.int 0 :: st) σ) : Gx Γ M b τ P k n pc lv (.ref (Γ.sa 2) :: st) σ := by
  intro p e s m args below meth c' H locs ls g hlv hw hS hz
  obtain ⟨⟨hx, hb, hml, hown, hts⟩, hret, hlo, hin, hK, hSx, hB⟩ := id g
  exact vk_getf hx hb hSx.str.1 hS hown (hts _ hl) (fun _ h9 => h9) hd (h p e s m args below meth c' H locs ls g hlv hw hS hz)
theorem gx_scmp (hd : decode M.cc pc = .ok (.getstatic index, 3)) (hl : Cond.fieldLink M.own index "java/lang/String" "COMPACT_STRINGS" "Z" ∈ tbl) (h : Gx Γ M b τ P k n (pc + 3) lv (.int 1 :: st) σ) : Gx Γ M b τ P k n pc lv st σ := by
  intro p e s m args below meth c' H locs ls g hlv hw hS hz
  obtain ⟨⟨hx, hb, hml, hown, hts⟩, hret, hlo, hin, hK, hSx, hB⟩ := id g
  exact va_gets hx hb hSx.2.2.2.2.1.1 hS hown (hts _ hl) (fun _ h9 => h9) hd (h p e s m args below meth c' H locs ls g hlv hw hS hz)
theorem gx_sfmt (hd : decode M.cc pc = .ok (.getstatic index, 3)) (hl : Cond.fieldLink M.own index "jdk/internal/util/Preconditions" "SIOOBE_FORMATTER" "Ljava/util/function/BiFunction;" ∈ tbl) (h1 : Gx Γ M b τ P k n (pc + 3) lv (.null :: st) σ) (h2 : ∀ t, Gx Γ M b τ P k n (pc + 3) lv (.ref t :: st) σ) : Gx Γ M b τ P k n pc lv st σ := by
  intro p e s m args below meth c' H locs ls g hlv hw hS hz
  obtain ⟨⟨hx, hb, hml, hown, hts⟩, hret, hlo, hin, hK, hSx, hB⟩ := id g
  rcases hSx.2.2.2.2.1.2 with hZ | ⟨t, hZ⟩
  · exact va_gets hx hb hZ hS hown (hts _ hl) (fun _ h9 => h9) hd (h1 p e s m args below meth c' H locs ls g hlv hw hS hz)
  · exact va_gets hx hb hZ hS hown (hts _ hl) (fun _ h9 => h9) hd (h2 t p e s m args below meth c' H locs ls g hlv hw hS hz)
theorem gx_slenB (hd : decode M.cc pc = .ok (.arraylength, 1)) (h : Gx Γ M b τ P k n (pc + 1) lv (.int 96 :: st) σ) : Gx Γ M b τ P k n pc lv (.ref (Γ.sa 3) :: st) σ := by
  intro p e s m args below meth c' H locs ls g hlv hw hS hz
  exact va_tlen g.1.1 g.1.2.1 g.2.2.2.2.2.1.str.2.2 hS (by decide) hd (h p e s m args below meth c' H locs ls g hlv hw hS hz)
theorem gx_sbald {i : Int32} (hd : decode M.cc pc = .ok (.baload, 1)) (h0 : ¬ i < 0) (h1 : i.toNatClampNeg < 96) (h : Gx Γ M b τ P k n (pc + 1) lv (.int (wdB.getD i.toNatClampNeg 0) :: st) σ) : Gx Γ M b τ P k n pc lv (.int i :: .ref (Γ.sa 3) :: st) σ := by
  intro p e s m args below meth c' H locs ls g hlv hw hS hz
  exact va_tb g.1.1 g.1.2.1 g.2.2.2.2.2.1.str.2.2 hS (vp_ok h0 h1) rfl hd (h p e s m args below meth c' H locs ls g hlv hw hS hz)
/-- a call on the String -/
theorem gx_cStr {r : Int32 × Mm} (hd : decode M.cc pc = .ok (.invokevirtual index, 3)) (hC : Ct Γ M' y b τ (.ref (Γ.sa 2) :: As) σ (PI r)) (hok : MOK y M' na) (hl : Cond.methodLink M.own index y ∈ tbl) (hi : Cond.instanceMethod y ∈ tbl) (hsel : Cond.selects y.cls y y ∈ tbl) (hy : y.cls = "java/lang/String") (hna : As.length = na) (hR : M'.d + 1 ≤ M.d ∧ 8 + (M'.nL + 11) + 64 * M'.d ≤ 64 * M.d) (hst : (st.map fun v => v.category).sum ≤ 8)
    (h : Gx Γ M b τ P k n (pc + 3) lv (.int r.1 :: st) r.2) (h0 : M'.mc = 0 ∧ M'.ms = 0 := by exact ⟨rfl, rfl⟩) (h1 : k ≤ M.mc ∧ n ≤ M.ms := by exact ⟨Nat.le_of_ble_eq_true rfl, Nat.le_of_ble_eq_true rfl⟩) : Gx Γ M b τ P k n pc lv (As.reverse ++ .ref (Γ.sa 2) :: st) σ := by
  intro p e s m args below meth c' H locs ls g hlv hw hS hz
  obtain ⟨⟨hx, hb, hml, hown, hts⟩, hret, hlo, hin, hK, hSx, hB⟩ := id g
  obtain ⟨k1, k2, k3, k4⟩ := hok
  refine gx_after (P' := PI r) (va_runV (C := y.cls) (b := Γ.sa 2) (As := As) (rest := st) (n := na) (ret := M'.ret) g.1 hC ⟨callB_of na hts (tbl_in k2) rfl rfl rfl (hts _ k1) (hts _ hl) ⟨k3.1, k3.2, k4⟩ hR, hts _ hi, hts _ hsel⟩ ⟨ct_blind (y := y) (M' := M'), ?_, ct_pre hK hSx hB hw hS⟩ rfl hna hlv.1 rfl (lv_room hst) hd (by rw [h0.1, h0.2]; exact h1)) g hlv hw hS hz (Or.inl h0.1) ?_
  · rw [hy]
    exact vk_recv (N := 1) (len := [96]) (byt := [wdB]) (adK := fun _ => Γ.sa 2) (adV := fun _ => Γ.sa 3) (i := 0) hSx.2.2.2.2.2.2 (by decide) hS
  · rintro v σ' ⟨rfl, rfl⟩
    rw [h0.1, h0.2]
    exact h
end GS
abbrev M_coder : Ms := (cJ0_coder_7d493, RJ0, 1, some .byte, false, 0, 0, 0)
abbrev M_latin : Ms := (cJ0_isLatin1_aae02, RJ0, 1, some .boolean, false, 0, 0, 0)
abbrev M_length : Ms := (cJ0_length_8abf5, RJ0, 1, some .int, false, 0, 0, 1)
abbrev M_chk3 : Ms := (cJ3_checkIndex_8e157, RJ3, 3, some .int, false, 0, 0, 0)
abbrev M_chk0 : Ms := (cJ0_checkIndex_df160, RJ0, 2, none, false, 0, 0, 1)
abbrev M_char1 : Ms := (cJ1_charAt_3b067, RJ1, 2, some .char, false, 0, 0, 2)
abbrev M_char0 : Ms := (cJ0_charAt_5068e, RJ0, 2, some .char, false, 0, 0, 3)
theorem mo_coder : MOK yJ0_coder_7d493 M_coder 0 := ⟨tbl_t1 13 rfl rfl, tbl_t2 176 rfl rfl, ⟨by decide, by decide⟩, by decide +kernel⟩
theorem mo_latin : MOK yJ0_isLatin1_aae02 M_latin 0 := ⟨tbl_t1 13 rfl rfl, tbl_t2 189 rfl rfl, ⟨by decide, by decide⟩, by decide +kernel⟩
theorem mo_length : MOK yJ0_length_8abf5 M_length 0 := ⟨tbl_t1 13 rfl rfl, tbl_t2 172 rfl rfl, ⟨by decide, by decide⟩, by decide +kernel⟩
theorem mo_chk3 : MOS yJ3_checkIndex_8e157 M_chk3 3 := ⟨⟨tbl_t1 15 rfl rfl, tbl_t2 200 rfl rfl, ⟨by decide, by decide⟩, by decide +kernel⟩, tbl_t2 199 rfl rfl⟩
theorem mo_chk0 : MOS yJ0_checkIndex_df160 M_chk0 2 := ⟨⟨tbl_t1 13 rfl rfl, tbl_t2 195 rfl rfl, ⟨by decide, by decide⟩, by decide +kernel⟩, tbl_t2 194 rfl rfl⟩
theorem mo_char1 : MOS yJ1_charAt_3b067 M_char1 2 := ⟨⟨tbl_t1 14 rfl rfl, tbl_t2 192 rfl rfl, ⟨by decide, by decide⟩, by decide +kernel⟩, tbl_t2 191 rfl rfl⟩
theorem mo_char0 : MOK yJ0_charAt_5068e M_char0 1 := ⟨tbl_t1 13 rfl rfl, tbl_t2 185 rfl rfl, ⟨by decide, by decide⟩, by decide +kernel⟩
section GT
variable {Γ : Cn} {b : Nat} {τ σ : Mm}
theorem c_coder : Ct Γ M_coder yJ0_coder_7d493 b τ [.ref (Γ.sa 2)] σ (PI (0, σ)) := by
  refine ct_of (by decide) rfl (fun q => nomatch q) (Nat.le_of_ble_eq_true rfl) ?_
  refine gx_scmp dJ0_coder_7d493_0 (tbl_t2 177 rfl rfl) ?_
  refine gx_if_eq 13 dJ0_coder_7d493_3 (by decide) (fun c => absurd c (by decide)) (fun c => ?_)
  refine gx_aload_n 0 dJ0_coder_7d493_6 rfl rfl ?_
  refine gx_scod dJ0_coder_7d493_7 (tbl_t7 30 rfl rfl) ?_
  refine gx_goto 14 dJ0_coder_7d493_10 (by decide) ?_
  exact gx_zret dJ0_coder_7d493_14 rfl rfl (Nat.le_of_ble_eq_true rfl) (Nat.le_of_ble_eq_true rfl) ⟨rfl, rfl⟩
theorem c_latin : Ct Γ M_latin yJ0_isLatin1_aae02 b τ [.ref (Γ.sa 2)] σ (PI (1, σ)) := by
  refine ct_of (by decide) rfl (fun q => nomatch q) (Nat.le_of_ble_eq_true rfl) ?_
  refine gx_scmp dJ0_isLatin1_aae02_0 (tbl_t2 177 rfl rfl) ?_
  refine gx_if_eq 17 dJ0_isLatin1_aae02_3 (by decide) (fun c => absurd c (by decide)) (fun c => ?_)
  refine gx_aload_n 0 dJ0_isLatin1_aae02_6 rfl rfl ?_
  refine gx_scod dJ0_isLatin1_aae02_7 (tbl_t7 30 rfl rfl) ?_
  refine gx_if_ne 17 dJ0_isLatin1_aae02_10 (by decide) (fun c => absurd rfl c) (fun c => ?_)
  refine gx_iconst (v := 1) dJ0_isLatin1_aae02_13 (by decide) ?_
  refine gx_goto 18 dJ0_isLatin1_aae02_14 (by decide) ?_
  exact gx_zret dJ0_isLatin1_aae02_18 rfl rfl (Nat.le_of_ble_eq_true rfl) (Nat.le_of_ble_eq_true rfl) ⟨rfl, rfl⟩
theorem c_length : Ct Γ M_length yJ0_length_8abf5 b τ [.ref (Γ.sa 2)] σ (PI (96, σ)) := by
  refine ct_of (by decide) rfl (fun q => nomatch q) (Nat.le_of_ble_eq_true rfl) ?_
  refine gx_aload_n 0 dJ0_length_8abf5_0 rfl rfl ?_
  refine gx_sval dJ0_length_8abf5_1 (tbl_t7 29 rfl rfl) ?_
  refine gx_slenB dJ0_length_8abf5_4 ?_
  refine gx_aload_n 0 dJ0_length_8abf5_5 rfl rfl ?_
  refine gx_cStr (As := []) (st := [.int 96]) dJ0_length_8abf5_6 c_coder mo_coder (tbl_t2 173 rfl rfl) (tbl_t2 174 rfl rfl) (tbl_t2 175 rfl rfl) rfl rfl ⟨Nat.le_of_ble_eq_true rfl, Nat.le_of_ble_eq_true rfl⟩ (Nat.le_of_ble_eq_true rfl) ?_
  refine gx_ishr dJ0_length_8abf5_9 ?_
  exact gx_iret dJ0_length_8abf5_10 rfl (Nat.le_of_ble_eq_true rfl) (Nat.le_of_ble_eq_true rfl) ⟨by show some (Value.int ((96 : Int32) >>> ((0 : Int32) &&& 31))) = some (Value.int 96); decide, rfl⟩
theorem c_chk3 {i m : Int32} {v : Value} (hv : v = .null ∨ ∃ t, v = .ref t) (h0 : ¬ i < 0) (h1 : i < m) : Ct Γ M_chk3 yJ3_checkIndex_8e157 b τ [.int i, .int m, v] σ (PI (i, σ)) := by
  have key : ∀ w, (lg_sl [.int i, .int m, w]).length ≤ 3 → lv_args 0 [.int i, .int m, w] = [(0, .int i), (1, .int m), (2, w)] → Ct Γ M_chk3 yJ3_checkIndex_8e157 b τ [.int i, .int m, w] σ (PI (i, σ)) := by
    intro w hw hl
    refine ct_of (by decide) rfl (fun q => nomatch q) hw ?_
    rw [hl]
    refine gx_iload_n 0 dJ3_checkIndex_8e157_0 rfl rfl ?_
    refine gx_if_lt 9 dJ3_checkIndex_8e157_1 (by decide) (fun c => absurd c h0) (fun _ => ?_)
    refine gx_iload_n 0 dJ3_checkIndex_8e157_4 rfl rfl ?_
    refine gx_iload_n 1 dJ3_checkIndex_8e157_5 rfl rfl ?_
    refine gx_icmp_lt 16 dJ3_checkIndex_8e157_6 (by decide) (fun _ => ?_) (fun c => absurd h1 c)
    refine gx_iload_n 0 dJ3_checkIndex_8e157_16 rfl rfl ?_
    exact gx_iret dJ3_checkIndex_8e157_17 rfl (Nat.le_of_ble_eq_true rfl) (Nat.le_of_ble_eq_true rfl) ⟨rfl, rfl⟩
  rcases hv with rfl | ⟨t, rfl⟩
  · exact key _ (Nat.le_of_ble_eq_true rfl) rfl
  · exact key _ (Nat.le_of_ble_eq_true rfl) rfl
theorem c_chk0 {i m : Int32} (h0 : ¬ i < 0) (h1 : i < m) : Ct Γ M_chk0 yJ0_checkIndex_df160 b τ [.int i, .int m] σ (PV σ) := by
  refine ct_of (by decide) rfl (fun q => nomatch q) (Nat.le_of_ble_eq_true rfl) ?_
  refine gx_iload_n 0 dJ0_checkIndex_df160_0 rfl rfl ?_
  refine gx_iload_n 1 dJ0_checkIndex_df160_1 rfl rfl ?_
  refine gx_sfmt dJ0_checkIndex_df160_2 (tbl_t2 196 rfl rfl) ?_ (fun t => ?_)
  · refine gx_cSI (As := [.int i, .int m, .null]) (st := []) dJ0_checkIndex_df160_5 (c_chk3 (Or.inl rfl) h0 h1) mo_chk3 (tbl_t2 198 rfl rfl) rfl ⟨Nat.le_of_ble_eq_true rfl, Nat.le_of_ble_eq_true rfl⟩ (Nat.le_of_ble_eq_true rfl) ?_
    refine gx_pop dJ0_checkIndex_df160_8 rfl ?_
    exact gx_vret dJ0_checkIndex_df160_9 rfl (Nat.le_of_ble_eq_true rfl) (Nat.le_of_ble_eq_true rfl) ⟨rfl, rfl⟩
  · refine gx_cSI (As := [.int i, .int m, .ref t]) (st := []) dJ0_checkIndex_df160_5 (c_chk3 (Or.inr ⟨t, rfl⟩) h0 h1) mo_chk3 (tbl_t2 198 rfl rfl) rfl ⟨Nat.le_of_ble_eq_true rfl, Nat.le_of_ble_eq_true rfl⟩ (Nat.le_of_ble_eq_true rfl) ?_
    refine gx_pop dJ0_checkIndex_df160_8 rfl ?_
    exact gx_vret dJ0_checkIndex_df160_9 rfl (Nat.le_of_ble_eq_true rfl) (Nat.le_of_ble_eq_true rfl) ⟨rfl, rfl⟩
theorem wd_ok : ∀ j, j < 96 → (((wdB.getD j 0) &&& 255).toUInt32 % 65536).toInt32 = wdB.getD j 0 ∧ narrow .char (.int (wdB.getD j 0)) = .int (wdB.getD j 0) := by decide +kernel
theorem lt96 {i : Int32} (h0 : ¬ i < 0) (h1 : i.toNatClampNeg < 96) : i < 96 := by
  apply Int32.lt_iff_toInt_lt.mpr
  have h2 : (0 : Int) ≤ i.toInt := by
    have := Int32.not_lt.mp h0
    simpa using Int32.le_iff_toInt_le.mp this
  have h3 : i.toInt.toNat < 96 := h1
  have h4 : (96 : Int32).toInt = 96 := by decide
  omega
theorem gx_cSV {M M' : Ms} {P : Option Value → Mm → Prop} {k n pc na index : Nat} {lv : List (Nat × Value)} {st As : List Value} {y : MethodName} {r : Mm} (hd : decode M.cc pc = .ok (.invokestatic index, 3)) (hC : Ct Γ M' y b τ As σ (PV r)) (hok : MOS y M' na) (hl : Cond.methodLink M.own index y ∈ tbl) (hna : As.length = na) (hR : M'.d + 1 ≤ M.d ∧ 8 + (M'.nL + 11) + 64 * M'.d ≤ 64 * M.d) (hst : (st.map fun v => v.category).sum ≤ 8)
    (h : Gx Γ M b τ P k n (pc + 3) lv st r) (h0 : M'.mc = 0 ∧ M'.ms = 0 := by exact ⟨rfl, rfl⟩) (h1 : k ≤ M.mc ∧ n ≤ M.ms := by exact ⟨Nat.le_of_ble_eq_true rfl, Nat.le_of_ble_eq_true rfl⟩) : Gx Γ M b τ P k n pc lv (As.reverse ++ st) σ := by
  refine gx_callS hd hC hok.1 hl hok.2 hna hR hst (by rw [h0.1, h0.2]; exact h1) (Or.inl h0.1) ?_
  rintro v σ' ⟨rfl, rfl⟩
  rw [h0.1, h0.2]
  exact h
theorem c_char1 {i : Int32} (h0 : ¬ i < 0) (h1 : i.toNatClampNeg < 96) : Ct Γ M_char1 yJ1_charAt_3b067 b τ [.ref (Γ.sa 3), .int i] σ (PI (wdB.getD i.toNatClampNeg 0, σ)) := by
  have hw := wd_ok _ h1
  refine ct_of (by decide) rfl (fun q => nomatch q) (Nat.le_of_ble_eq_true rfl) ?_
  refine gx_iload_n 1 dJ1_charAt_3b067_0 rfl rfl ?_
  refine gx_aload_n 0 dJ1_charAt_3b067_1 rfl rfl ?_
  refine gx_slenB dJ1_charAt_3b067_2 ?_
  refine gx_cSV (As := [.int i, .int 96]) (st := []) dJ1_charAt_3b067_3 (c_chk0 h0 (lt96 h0 h1)) mo_chk0 (tbl_t2 193 rfl rfl) rfl ⟨Nat.le_of_ble_eq_true rfl, Nat.le_of_ble_eq_true rfl⟩ (Nat.le_of_ble_eq_true rfl) ?_
  refine gx_aload_n 0 dJ1_charAt_3b067_6 rfl rfl ?_
  refine gx_iload_n 1 dJ1_charAt_3b067_7 rfl rfl ?_
  refine gx_sbald dJ1_charAt_3b067_8 h0 h1 ?_
  refine gx_sipush (v := 255) dJ1_charAt_3b067_9 (by decide) ?_
  refine gx_iand dJ1_charAt_3b067_12 ?_
  refine gx_i2c dJ1_charAt_3b067_13 ?_
  rw [hw.1]
  exact gx_zret dJ1_charAt_3b067_14 rfl hw.2 (Nat.le_of_ble_eq_true rfl) (Nat.le_of_ble_eq_true rfl) ⟨rfl, rfl⟩
theorem c_char0 {i : Int32} (h0 : ¬ i < 0) (h1 : i.toNatClampNeg < 96) : Ct Γ M_char0 yJ0_charAt_5068e b τ [.ref (Γ.sa 2), .int i] σ (PI (wdB.getD i.toNatClampNeg 0, σ)) := by
  have hw := wd_ok _ h1
  refine ct_of (by decide) rfl (fun q => nomatch q) (Nat.le_of_ble_eq_true rfl) ?_
  refine gx_aload_n 0 dJ0_charAt_5068e_0 rfl rfl ?_
  refine gx_cStr (As := []) (st := []) dJ0_charAt_5068e_1 c_latin mo_latin (tbl_t2 186 rfl rfl) (tbl_t2 187 rfl rfl) (tbl_t2 188 rfl rfl) rfl rfl ⟨Nat.le_of_ble_eq_true rfl, Nat.le_of_ble_eq_true rfl⟩ (Nat.le_of_ble_eq_true rfl) ?_
  refine gx_if_eq 16 dJ0_charAt_5068e_4 (by decide) (fun c => absurd (show (1 : Int32) = 0 from c) (by decide)) (fun c => ?_)
  refine gx_aload_n 0 dJ0_charAt_5068e_7 rfl rfl ?_
  refine gx_sval dJ0_charAt_5068e_8 (tbl_t7 29 rfl rfl) ?_
  refine gx_iload_n 1 dJ0_charAt_5068e_11 rfl rfl ?_
  refine gx_cSI (As := [.ref (Γ.sa 3), .int i]) (st := []) dJ0_charAt_5068e_12 (c_char1 h0 h1) mo_char1 (tbl_t2 190 rfl rfl) rfl ⟨Nat.le_of_ble_eq_true rfl, Nat.le_of_ble_eq_true rfl⟩ (Nat.le_of_ble_eq_true rfl) ?_
  exact gx_zret dJ0_charAt_5068e_15 rfl hw.2 (Nat.le_of_ble_eq_true rfl) (Nat.le_of_ble_eq_true rfl) ⟨rfl, rfl⟩
/-- what the language's words are -/
theorem gx_slen {M : Ms} {P : Option Value → Mm → Prop} {k n pc : Nat} {lv : List (Nat × Value)} {st : List Value} (hd : decode M.cc pc = .ok (.invokevirtual 73, 3)) (h : Gx Γ M b τ P k n (pc + 3) lv (.int 96 :: st) σ) (ho : M.own = RX6 := by rfl) (hd6 : 6 ≤ M.d := by exact Nat.le_of_ble_eq_true rfl) (hst : (st.map fun v => v.category).sum ≤ 8 := by exact Nat.le_of_ble_eq_true rfl) (h1 : k ≤ M.mc ∧ n ≤ M.ms := by exact ⟨Nat.le_of_ble_eq_true rfl, Nat.le_of_ble_eq_true rfl⟩) : Gx Γ M b τ P k n pc lv (.ref (Γ.sa 2) :: st) σ :=
  gx_cStr (As := []) (st := st) hd c_length mo_length (by rw [ho]; exact tbl_t2 169 rfl rfl) (tbl_t2 170 rfl rfl) (tbl_t2 171 rfl rfl) rfl rfl ⟨by show 1 + 1 ≤ M.d; omega, by show 8 + (1 + 11) + 64 * 1 ≤ 64 * M.d; omega⟩ hst h ⟨rfl, rfl⟩ h1
end GT
def chA (i : Int32) : Option Int32 := if ¬ i < 0 ∧ i.toNatClampNeg < 96 then some (wdB.getD i.toNatClampNeg 0) else none
theorem gx_schar {Γ : Cn} {b : Nat} {τ σ : Mm} {M : Ms} {P : Option Value → Mm → Prop} {k n pc : Nat} {lv : List (Nat × Value)} {st : List Value} {i x : Int32} (hd : decode M.cc pc = .ok (.invokevirtual 82, 3)) (hv : chA i = some x) (h : Gx Γ M b τ P k n (pc + 3) lv (.int x :: st) σ) (ho : M.own = RX6 := by rfl) (hd6 : 6 ≤ M.d := by exact Nat.le_of_ble_eq_true rfl) (hst : (st.map fun v => v.category).sum ≤ 8 := by exact Nat.le_of_ble_eq_true rfl) (h1 : k ≤ M.mc ∧ n ≤ M.ms := by exact ⟨Nat.le_of_ble_eq_true rfl, Nat.le_of_ble_eq_true rfl⟩) : Gx Γ M b τ P k n pc lv (.int i :: .ref (Γ.sa 2) :: st) σ := by
  obtain ⟨⟨q0, q1⟩, rfl⟩ := of_if' hv
  exact gx_cStr (As := [.int i]) (st := st) hd (c_char0 q0 q1) mo_char0 (by rw [ho]; exact tbl_t2 182 rfl rfl) (tbl_t2 183 rfl rfl) (tbl_t2 184 rfl rfl) rfl rfl ⟨by show 3 + 1 ≤ M.d; omega, by show 8 + (2 + 11) + 64 * 3 ≤ 64 * M.d; omega⟩ hst h ⟨rfl, rfl⟩ h1
section GM
variable {Γ : Cn} {M : Ms} {b : Nat} {τ σ : Mm} {P : Option Value → Mm → Prop} {k n pc index : Nat} {lv : List (Nat × Value)} {st : List Value}
theorem gx_mminI {x y : Int32} (hd : decode M.cc pc = .ok (.invokestatic index, 3)) (hl : Cond.methodLink M.own index yJ9_min_7cf53 ∈ tbl) (hfr : 1 ≤ M.d) (hst : (st.map fun v => v.category).sum + 13 ≤ 64 * M.d) (h : Gx Γ M b τ P k n (pc + 3) lv (.int (if y < x then y else x) :: st) σ) (hk : k ≤ M.mc := by exact Nat.le_of_ble_eq_true rfl) (hn : n ≤ M.ms := by exact Nat.le_of_ble_eq_true rfl) : Gx Γ M b τ P k n pc lv (.int y :: .int x :: st) σ := by
  intro p e s m args below meth c' H locs ls g hlv hw hS hz
  obtain ⟨⟨hx, hb, hml, hown, hts⟩, hret, hlo, hin, hK, hSx, hB⟩ := id g
  exact va_mmin hx hb (by rw [hml]; exact hlv.1.symm) hown (hts _ hl) (hts _ (tbl_t3 178 rfl rfl)) (hts _ (tbl_t1 18 rfl rfl)) (hts _ (tbl_t3 179 rfl rfl)) hfr hst hk hn hd (h p e s m args below meth c' H locs ls g hlv hw hS hz)
theorem gx_mminJ {x y : Int64} (hd : decode M.cc pc = .ok (.invokestatic index, 3)) (hl : Cond.methodLink M.own index yJ9_min_f86c9 ∈ tbl) (hfr : 1 ≤ M.d) (hst : (st.map fun v => v.category).sum + 15 ≤ 64 * M.d) (h : Gx Γ M b τ P k n (pc + 3) lv (.long (if y < x then y else x) :: st) σ) (hk : k ≤ M.mc := by exact Nat.le_of_ble_eq_true rfl) (hn : n ≤ M.ms := by exact Nat.le_of_ble_eq_true rfl) : Gx Γ M b τ P k n pc lv (.long y :: .long x :: st) σ := by
  intro p e s m args below meth c' H locs ls g hlv hw hS hz
  obtain ⟨⟨hx, hb, hml, hown, hts⟩, hret, hlo, hin, hK, hSx, hB⟩ := id g
  exact va_mmin_long hx hb (by rw [hml]; exact hlv.1.symm) hown (hts _ hl) (hts _ (tbl_t3 194 rfl rfl)) (hts _ (tbl_t1 18 rfl rfl)) (hts _ (tbl_t3 195 rfl rfl)) hfr hst hk hn hd (h p e s m args below meth c' H locs ls g hlv hw hS hz)
theorem gx_mmaxJ {x y : Int64} (hd : decode M.cc pc = .ok (.invokestatic index, 3)) (hl : Cond.methodLink M.own index yJ9_max_f86c9 ∈ tbl) (hfr : 1 ≤ M.d) (hst : (st.map fun v => v.category).sum + 15 ≤ 64 * M.d) (h : Gx Γ M b τ P k n (pc + 3) lv (.long (if y < x then x else y) :: st) σ) (hk : k ≤ M.mc := by exact Nat.le_of_ble_eq_true rfl) (hn : n ≤ M.ms := by exact Nat.le_of_ble_eq_true rfl) : Gx Γ M b τ P k n pc lv (.long y :: .long x :: st) σ := by
  intro p e s m args below meth c' H locs ls g hlv hw hS hz
  obtain ⟨⟨hx, hb, hml, hown, hts⟩, hret, hlo, hin, hK, hSx, hB⟩ := id g
  exact va_mmax_long hx hb (by rw [hml]; exact hlv.1.symm) hown (hts _ hl) (hts _ (tbl_t3 197 rfl rfl)) (hts _ (tbl_t1 18 rfl rfl)) (hts _ (tbl_t3 198 rfl rfl)) hfr hst hk hn hd (h p e s m args below meth c' H locs ls g hlv hw hS hz)
end GM
