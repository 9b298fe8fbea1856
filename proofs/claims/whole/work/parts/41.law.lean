theorem lw_454 : (Cond.methodLink RL 13 yX10_feed : Cond) ∈ tbl := tbl_t2 119 rfl rfl
theorem lw_1133 : (Cond.methodLink RL 17 yX11_feed : Cond) ∈ tbl := tbl_t5 78 rfl rfl
theorem lw_462 : (Cond.methodLink RL 18 yX10_end : Cond) ∈ tbl := tbl_t2 127 rfl rfl
theorem lw_1141 : (Cond.methodLink RL 22 yX11_end : Cond) ∈ tbl := tbl_t5 86 rfl rfl
theorem lw_466 : (Cond.methodLink RL 23 yX10_valley : Cond) ∈ tbl := tbl_t2 131 rfl rfl
theorem lw_1283 : (Cond.methodLink RL 27 yX11_valley : Cond) ∈ tbl := tbl_t5 228 rfl rfl
theorem lw_629 : (Cond.methodLink RL 28 yX10_law : Cond) ∈ tbl := tbl_t3 54 rfl rfl
theorem lw_1145 : (Cond.methodLink RL 31 yX11_law : Cond) ∈ tbl := tbl_t5 90 rfl rfl
theorem lw_682 : (Cond.methodLink RL 32 yX10_cock : Cond) ∈ tbl := tbl_t3 107 rfl rfl
theorem lw_1287 : (Cond.methodLink RL 36 yX11_cock : Cond) ∈ tbl := tbl_t5 232 rfl rfl
theorem lw_690 : (Cond.methodLink RL 37 yX10_tree : Cond) ∈ tbl := tbl_t3 115 rfl rfl
theorem lw_1300 : (Cond.methodLink RL 40 yX11_tree : Cond) ∈ tbl := tbl_t6 5 rfl rfl
theorem lw_698 : (Cond.methodLink RL 41 yX10_worth : Cond) ∈ tbl := tbl_t3 123 rfl rfl
theorem lw_1313 : (Cond.methodLink RL 44 yX11_worth : Cond) ∈ tbl := tbl_t6 18 rfl rfl
theorem lw_711 : (Cond.methodLink RL 45 yX10_lee : Cond) ∈ tbl := tbl_t3 136 rfl rfl
theorem lw_1321 : (Cond.methodLink RL 48 yX11_lee : Cond) ∈ tbl := tbl_t6 26 rfl rfl
theorem lw_727 : (Cond.methodLink RL 49 yX10_blow : Cond) ∈ tbl := tbl_t3 152 rfl rfl
theorem lw_1335 : (Cond.methodLink RL 53 yX11_blow : Cond) ∈ tbl := tbl_t6 40 rfl rfl
theorem lw_774 : (Cond.methodLink RL 54 yX10_bend : Cond) ∈ tbl := tbl_t3 199 rfl rfl
theorem lw_1374 : (Cond.methodLink RL 57 yX11_bend : Cond) ∈ tbl := tbl_t6 79 rfl rfl
theorem lw_782 : (Cond.methodLink RL 58 yX10_oil : Cond) ∈ tbl := tbl_t3 207 rfl rfl
theorem lw_1382 : (Cond.methodLink RL 61 yX11_oil : Cond) ∈ tbl := tbl_t6 87 rfl rfl
theorem lw_790 : (Cond.methodLink RL 62 yX10_rusts : Cond) ∈ tbl := tbl_t3 215 rfl rfl
theorem lw_1391 : (Cond.methodLink RL 65 yX11_rusts : Cond) ∈ tbl := tbl_t6 96 rfl rfl
theorem lw_791 : (Cond.methodLink RL 66 yX10_fell : Cond) ∈ tbl := tbl_t3 216 rfl rfl
theorem lw_1392 : (Cond.methodLink RL 70 yX11_fell : Cond) ∈ tbl := tbl_t6 97 rfl rfl
theorem lw_795 : (Cond.methodLink RL 71 yX10_morning : Cond) ∈ tbl := tbl_t3 220 rfl rfl
theorem lw_1396 : (Cond.methodLink RL 74 yX11_morning : Cond) ∈ tbl := tbl_t6 101 rfl rfl
theorem lw_799 : (Cond.methodLink RL 75 yX10_vote : Cond) ∈ tbl := tbl_t3 224 rfl rfl
theorem lw_1400 : (Cond.methodLink RL 78 yX11_vote : Cond) ∈ tbl := tbl_t6 105 rfl rfl
theorem lw_842 : (Cond.methodLink RL 79 yX10_says : Cond) ∈ tbl := tbl_t4 27 rfl rfl
theorem lw_1447 : (Cond.methodLink RL 82 yX11_says : Cond) ∈ tbl := tbl_t6 152 rfl rfl
theorem lw_846 : (Cond.methodLink RL 83 yX10_cheapest : Cond) ∈ tbl := tbl_t4 31 rfl rfl
theorem lw_1451 : (Cond.methodLink RL 87 yX11_cheapest : Cond) ∈ tbl := tbl_t6 156 rfl rfl
theorem lw_905 : (Cond.methodLink RL 88 yX10_answer : Cond) ∈ tbl := tbl_t4 90 rfl rfl
theorem lw_1481 : (Cond.methodLink RL 92 yX11_answer : Cond) ∈ tbl := tbl_t6 186 rfl rfl
theorem lw_913 : (Cond.methodLink RL 93 yX10_bought : Cond) ∈ tbl := tbl_t4 98 rfl rfl
theorem lw_1485 : (Cond.methodLink RL 96 yX11_bought : Cond) ∈ tbl := tbl_t6 190 rfl rfl
theorem lw_921 : (Cond.methodLink RL 97 yX10_swings : Cond) ∈ tbl := tbl_t4 106 rfl rfl
theorem lw_1490 : (Cond.methodLink RL 100 yX11_swings : Cond) ∈ tbl := tbl_t6 195 rfl rfl
theorem lw_929 : (Cond.methodLink RL 101 yX10_explained : Cond) ∈ tbl := tbl_t4 114 rfl rfl
theorem lw_1494 : (Cond.methodLink RL 104 yX11_explained : Cond) ∈ tbl := tbl_t6 199 rfl rfl
theorem lw_939 : (Cond.methodLink RL 105 yX10_trueWind : Cond) ∈ tbl := tbl_t4 124 rfl rfl
theorem lw_1506 : (Cond.methodLink RL 108 yX11_trueWind : Cond) ∈ tbl := tbl_t6 211 rfl rfl
theorem lw_948 : (Cond.methodLink RL 109 yX10_after : Cond) ∈ tbl := tbl_t4 133 rfl rfl
theorem lw_1510 : (Cond.methodLink RL 112 yX11_after : Cond) ∈ tbl := tbl_t6 215 rfl rfl
theorem lw_956 : (Cond.methodLink RL 113 yX10_felled : Cond) ∈ tbl := tbl_t4 141 rfl rfl
theorem lw_1518 : (Cond.methodLink RL 116 yX11_felled : Cond) ∈ tbl := tbl_t6 223 rfl rfl
theorem lw_960 : (Cond.methodLink RL 117 yX10_oiled : Cond) ∈ tbl := tbl_t4 145 rfl rfl
theorem lw_1522 : (Cond.methodLink RL 120 yX11_oiled : Cond) ∈ tbl := tbl_t6 227 rfl rfl
theorem lw_964 : (Cond.methodLink RL 121 yX10_bestPoint : Cond) ∈ tbl := tbl_t4 149 rfl rfl
theorem lw_1526 : (Cond.methodLink RL 124 yX11_bestPoint : Cond) ∈ tbl := tbl_t6 231 rfl rfl
theorem lw_972 : (Cond.methodLink RL 125 yX10_seed : Cond) ∈ tbl := tbl_t4 157 rfl rfl
theorem lw_1532 : (Cond.methodLink RL 128 yX11_seed : Cond) ∈ tbl := tbl_t6 237 rfl rfl
theorem lw_976 : (Cond.methodLink RL 129 yX10_lot : Cond) ∈ tbl := tbl_t4 161 rfl rfl
theorem lw_1536 : (Cond.methodLink RL 132 yX11_lot : Cond) ∈ tbl := tbl_t7 1 rfl rfl
theorem lw_987 : (Cond.methodLink RL 133 yX10_years : Cond) ∈ tbl := tbl_t4 172 rfl rfl
theorem lw_1544 : (Cond.methodLink RL 136 yX11_years : Cond) ∈ tbl := tbl_t7 9 rfl rfl
theorem lw_1010 : (Cond.methodLink RL 137 yX10_count : Cond) ∈ tbl := tbl_t4 195 rfl rfl
theorem lw_1552 : (Cond.methodLink RL 140 yX11_count : Cond) ∈ tbl := tbl_t7 17 rfl rfl
theorem lw_1018 : (Cond.methodLink RL 141 yX10_image : Cond) ∈ tbl := tbl_t4 203 rfl rfl
theorem lw_1556 : (Cond.methodLink RL 144 yX11_image : Cond) ∈ tbl := tbl_t7 21 rfl rfl
theorem lw_1022 : (Cond.methodLink RL 145 yX10_back : Cond) ∈ tbl := tbl_t4 207 rfl rfl
theorem lw_1560 : (Cond.methodLink RL 148 yX11_back : Cond) ∈ tbl := tbl_t7 25 rfl rfl
def StepI (Inv : Mm → Mm → Prop) (f g : Mm → Option (Int32 × Mm)) : Prop := ∀ σ τ, Inv σ τ → ∃ (r : Int32) (σ' τ' : Mm), f σ = some (r, σ') ∧ g (setn τ (nn σ')) = some (r, τ') ∧ nn τ' = nn σ' ∧ Inv σ' τ'
def Good (N : Nat) (Inv : Mm → Mm → Prop) : Prop := ∀ a1 a2 a3 a4 a5 a6 : Int32, StepI Inv (f_X10_feed N 0 a1 a2 a3 a4 a5) (f_X11_feed N 63 a1 a2 a3 a4 a5) ∧ StepI Inv (f_X10_end N 0 a1) (f_X11_end N 63 a1) ∧ StepI Inv (f_X10_valley N 0) (f_X11_valley N 63) ∧ StepI Inv (f_X10_law N 0) (f_X11_law N 63) ∧ StepI Inv (f_X10_cock N 0 a1 a2) (f_X11_cock N 63 a1 a2) ∧ StepI Inv (f_X10_tree N 0 a1 a2) (f_X11_tree N 63 a1 a2) ∧ StepI Inv (f_X10_worth N 0 a1 a2) (f_X11_worth N 63 a1 a2) ∧ StepI Inv (f_X10_lee N 0 a1 a2) (f_X11_lee N 63 a1 a2) ∧ StepI Inv (f_X10_blow N 0 a1 a2 a3) (f_X11_blow N 63 a1 a2 a3) ∧ StepI Inv (f_X10_bend N 0 a1 a2) (f_X11_bend N 63 a1 a2) ∧ StepI Inv (f_X10_oil N 0 a1) (f_X11_oil N 63 a1) ∧ StepI Inv (f_X10_rusts N 0 a1 a2) (f_X11_rusts N 63 a1 a2) ∧ StepI Inv (f_X10_fell N 0 a1 (if a2 = 0 then 0 else 1)) (f_X11_fell N 63 a1 (if a2 = 0 then 0 else 1)) ∧ StepI Inv (f_X10_morning N 0) (f_X11_morning N 63) ∧ StepI Inv (f_X10_vote N 0 a1) (f_X11_vote N 63 a1) ∧ StepI Inv (f_X10_says N 0 a1) (f_X11_says N 63 a1) ∧ StepI Inv (f_X10_cheapest N 0 a1 a2 a3 a4) (f_X11_cheapest N 63 a1 a2 a3 a4) ∧ StepI Inv (f_X10_answer N 0 a1 a2 a3 a4 a5 a6) (f_X11_answer N 63 a1 a2 a3 a4 a5 a6) ∧ StepI Inv (f_X10_bought N 0 a1 a2) (f_X11_bought N 63 a1 a2) ∧ StepI Inv (f_X10_swings N 0 a1 a2 a3 a4) (f_X11_swings N 63 a1 a2 a3 a4) ∧ StepI Inv (f_X10_explained N 0 a1 a2 a3) (f_X11_explained N 63 a1 a2 a3) ∧ StepI Inv (f_X10_trueWind N 0 a1 a2 a3) (f_X11_trueWind N 63 a1 a2 a3) ∧ StepI Inv (f_X10_after N 0 a1 a2 a3 a4 a5) (f_X11_after N 63 a1 a2 a3 a4 a5) ∧ StepI Inv (f_X10_felled N 0 a1 a2 a3 a4) (f_X11_felled N 63 a1 a2 a3 a4) ∧ StepI Inv (f_X10_oiled N 0 a1 a2 a3 a4 a5) (f_X11_oiled N 63 a1 a2 a3 a4 a5) ∧ StepI Inv (f_X10_bestPoint N 0 a1 a2 a3 a4) (f_X11_bestPoint N 63 a1 a2 a3 a4) ∧ StepI Inv (f_X10_seed N 0 a1) (f_X11_seed N 63 a1) ∧ StepI Inv (f_X10_lot N 0) (f_X11_lot N 63) ∧ StepI Inv (f_X10_years N 0 a1 a2 a3 a4 a5 a6) (f_X11_years N 63 a1 a2 a3 a4 a5 a6) ∧ StepI Inv (f_X10_count N 0 a1) (f_X11_count N 63 a1) ∧ StepI Inv (f_X10_image N 0 a1) (f_X11_image N 63 a1) ∧ StepI Inv (f_X10_back N 0 a1) (f_X11_back N 63 a1)
theorem sxk {i k : Nat} {v : Int32} (hv : v = nI k) (h : i + k < 2 ^ 31) : ¬ (nI i + v < 0) ∧ (nI i + v).toNatClampNeg = i + k := by
  subst hv
  rw [nI_add]
  exact ⟨nI_pos h, nI_clamp h⟩
theorem and31 (x : Int32) : ∃ j : Nat, j < 32 ∧ x &&& 31 = nI j := by
  refine ⟨(x &&& 31).toBitVec.toNat, ?_, ?_⟩
  · have h1 : (x &&& 31).toBitVec = x.toBitVec &&& (31 : Int32).toBitVec := rfl
    rw [h1, BitVec.toNat_and]
    exact Nat.lt_of_le_of_lt Nat.and_le_right (by decide)
  · apply Int32.toBitVec_inj.mp
    show (x &&& 31).toBitVec = BitVec.ofNat 32 _
    rw [BitVec.ofNat_toNat]
    simp
theorem lt7 {L i : Nat} (hL : L ≤ 3584) (hi : i ≤ L) : (nI L - 7 < nI i) ↔ L < i + 7 := by
  rw [Int32.lt_iff_toInt_lt, show (7 : Int32) = nI 7 from rfl, pk_sub_toInt (by omega) (by omega), nI_toInt (by omega)]
  omega
set_option maxRecDepth 4000 in
set_option maxHeartbeats 4000000 in
theorem law_loop {Γ : Cn} {b0 L : Nat} {xs : Nat → Int32} {N : Nat} {Inv : Mm → Mm → Prop} (hL : L ≤ 3584) (hG : Good N Inv) (hI : ∀ σ τ, Inv σ τ → 65 < nn σ) : ∀ (f i k n : Nat) (σ τ : Mm), L + 7 ≤ i + 7 * f → i ≤ L → 7 * k ≤ 700 + 11 * i → 7 * n ≤ 100000 + 154 * i → Inv σ τ → LG Γ b0 L xs k n 18 [(3, .int (nI i)), (0, .ref b0), (1, .ref (Γ.B + pp 0)), (2, .ref (Γ.B + pp 63))] [] σ τ := by
  intro f
  induction f with
  | zero =>
    intro i k n σ τ h1 h2
    omega
  | succ f ih =>
    intro i k n σ τ hf hi hk hn hinv
    have hnn := hI σ τ hinv
    refine lg_iload_n 0 dL_law_18 rfl rfl ?_
    refine lg_aload_n 1 dL_law_19 rfl rfl ?_
    refine lg_slen dL_law_20 ?_
    refine lg_bipush (v := 7) dL_law_21 (by decide) ?_
    refine lg_isub dL_law_23 ?_
    refine lg_icmp_gt 1378 dL_law_24 (by decide) (fun _ => ?_) (fun c => ?_)
    · refine lg_iconst (v := 1) dL_law_1378 (by decide) ?_
      exact lg_ret dL_law_1379 (by omega) (by omega)
    · have hi7 : i + 7 ≤ L := by
        rcases Nat.lt_or_ge L (i + 7) with q | q
        · exact absurd ((lt7 hL hi).mpr q) c
        · exact q
      have tail : ∀ (k' n' : Nat) (σ' τ' : Mm), Inv σ' τ' → 7 * k' ≤ 700 + 11 * (i + 7) → 7 * n' ≤ 100000 + 154 * (i + 7) → LG Γ b0 L xs k' n' 1372 [(3, .int (nI i)), (0, .ref b0), (1, .ref (Γ.B + pp 0)), (2, .ref (Γ.B + pp 63))] [] σ' τ' := by
        intro k' n' σ' τ' h1 h2 h3
        refine lg_iinc (v := nI (i + 7)) (lv' := [(3, .int (nI (i + 7))), (0, .ref b0), (1, .ref (Γ.B + pp 0)), (2, .ref (Γ.B + pp 63))]) 0 dL_law_1372 rfl (nI_add i 7) (by decide) rfl ?_
        refine lg_goto 18 dL_law_1375 (by decide) ?_
        exact ih (i + 7) k' n' σ' τ' (by omega) hi7 h2 h3 h1
      refine lg_aload_n 1 dL_law_27 rfl rfl ?_
      refine lg_iload_n 0 dL_law_28 rfl rfl ?_
      refine lg_sld (j := i) dL_law_29 (nI_pos (by omega)) (nI_clamp (by omega)) (by omega) ?_
      refine lg_bipush (v := 31) dL_law_30 (by decide) ?_
      refine lg_iand dL_law_32 ?_
      obtain ⟨j, hj, hx⟩ := and31 (xs i)
      have hG' := hG (xs (i + 1)) (xs (i + 2)) (xs (i + 3)) (xs (i + 4)) (xs (i + 5)) (xs (i + 6))
      match j, hj, hx with
      | 0, _, hx =>
        refine lg_tIn 176 dL_law_33 (by rw [hx]; decide) (by rw [hx]; decide) (by rw [hx]; rfl) (by decide) ?_
        obtain ⟨r, σ', τ', h1, h2, h3, h4⟩ := hG'.1 σ τ hinv
        have hnn' := hI σ' τ' h4
        refine lg_aload_n 2 dL_law_176 rfl rfl ?_
        refine lg_aload_n 1 dL_law_177 rfl rfl ?_
        refine lg_iload_n 0 dL_law_178 rfl rfl ?_
        refine lg_iconst (v := 1) dL_law_179 (by decide) ?_
        refine lg_iadd dL_law_180 ?_
        refine lg_sld (j := i + 1) dL_law_181 (sxk (k := 1) rfl (by omega)).1 (sxk (k := 1) rfl (by omega)).2 (by omega) ?_
        refine lg_aload_n 1 dL_law_182 rfl rfl ?_
        refine lg_iload_n 0 dL_law_183 rfl rfl ?_
        refine lg_iconst (v := 2) dL_law_184 (by decide) ?_
        refine lg_iadd dL_law_185 ?_
        refine lg_sld (j := i + 2) dL_law_186 (sxk (k := 2) rfl (by omega)).1 (sxk (k := 2) rfl (by omega)).2 (by omega) ?_
        refine lg_aload_n 1 dL_law_187 rfl rfl ?_
        refine lg_iload_n 0 dL_law_188 rfl rfl ?_
        refine lg_iconst (v := 3) dL_law_189 (by decide) ?_
        refine lg_iadd dL_law_190 ?_
        refine lg_sld (j := i + 3) dL_law_191 (sxk (k := 3) rfl (by omega)).1 (sxk (k := 3) rfl (by omega)).2 (by omega) ?_
        refine lg_aload_n 1 dL_law_192 rfl rfl ?_
        refine lg_iload_n 0 dL_law_193 rfl rfl ?_
        refine lg_iconst (v := 4) dL_law_194 (by decide) ?_
        refine lg_iadd dL_law_195 ?_
        refine lg_sld (j := i + 4) dL_law_196 (sxk (k := 4) rfl (by omega)).1 (sxk (k := 4) rfl (by omega)).2 (by omega) ?_
        refine lg_aload_n 1 dL_law_197 rfl rfl ?_
        refine lg_iload_n 0 dL_law_198 rfl rfl ?_
        refine lg_iconst (v := 5) dL_law_199 (by decide) ?_
        refine lg_iadd dL_law_200 ?_
        refine lg_sld (j := i + 5) dL_law_201 (sxk (k := 5) rfl (by omega)).1 (sxk (k := 5) rfl (by omega)).2 (by omega) ?_
        refine lg_cX (As := [.int (xs (i + 1)), .int (xs (i + 2)), .int (xs (i + 3)), .int (xs (i + 4)), .int (xs (i + 5))]) (st := []) dL_law_202 (c_X10_feed h1) mov_X10_feed lw_454 (by omega) rfl ⟨Nat.le_of_ble_eq_true rfl, Nat.le_of_ble_eq_true rfl⟩ (Nat.le_of_ble_eq_true rfl) ⟨by show k + 0 ≤ 600000; omega, by show n + 0 ≤ 7302250; omega⟩ ?_
        refine lg_aload_n 3 dL_law_205 rfl rfl ?_
        refine lg_aload_n 1 dL_law_206 rfl rfl ?_
        refine lg_iload_n 0 dL_law_207 rfl rfl ?_
        refine lg_iconst (v := 1) dL_law_208 (by decide) ?_
        refine lg_iadd dL_law_209 ?_
        refine lg_sld (j := i + 1) dL_law_210 (sxk (k := 1) rfl (by omega)).1 (sxk (k := 1) rfl (by omega)).2 (by omega) ?_
        refine lg_aload_n 1 dL_law_211 rfl rfl ?_
        refine lg_iload_n 0 dL_law_212 rfl rfl ?_
        refine lg_iconst (v := 2) dL_law_213 (by decide) ?_
        refine lg_iadd dL_law_214 ?_
        refine lg_sld (j := i + 2) dL_law_215 (sxk (k := 2) rfl (by omega)).1 (sxk (k := 2) rfl (by omega)).2 (by omega) ?_
        refine lg_aload_n 1 dL_law_216 rfl rfl ?_
        refine lg_iload_n 0 dL_law_217 rfl rfl ?_
        refine lg_iconst (v := 3) dL_law_218 (by decide) ?_
        refine lg_iadd dL_law_219 ?_
        refine lg_sld (j := i + 3) dL_law_220 (sxk (k := 3) rfl (by omega)).1 (sxk (k := 3) rfl (by omega)).2 (by omega) ?_
        refine lg_aload_n 1 dL_law_221 rfl rfl ?_
        refine lg_iload_n 0 dL_law_222 rfl rfl ?_
        refine lg_iconst (v := 4) dL_law_223 (by decide) ?_
        refine lg_iadd dL_law_224 ?_
        refine lg_sld (j := i + 4) dL_law_225 (sxk (k := 4) rfl (by omega)).1 (sxk (k := 4) rfl (by omega)).2 (by omega) ?_
        refine lg_aload_n 1 dL_law_226 rfl rfl ?_
        refine lg_iload_n 0 dL_law_227 rfl rfl ?_
        refine lg_iconst (v := 5) dL_law_228 (by decide) ?_
        refine lg_iadd dL_law_229 ?_
        refine lg_sld (j := i + 5) dL_law_230 (sxk (k := 5) rfl (by omega)).1 (sxk (k := 5) rfl (by omega)).2 (by omega) ?_
        refine lg_cM (As := [.int (xs (i + 1)), .int (xs (i + 2)), .int (xs (i + 3)), .int (xs (i + 4)), .int (xs (i + 5))]) (st := [.int r]) dL_law_231 (c_X11_feed h2) mov_X11_feed lw_1133 hnn' h3 rfl ⟨Nat.le_of_ble_eq_true rfl, Nat.le_of_ble_eq_true rfl⟩ (Nat.le_of_ble_eq_true rfl) ⟨by show k + 0 + 0 ≤ 600000; omega, by show n + 0 + 0 ≤ 7302250; omega⟩ ?_
        refine lg_icmp_eq 1372 dL_law_234 (by decide) (fun _ => ?_) (fun c => absurd rfl c)
        exact tail _ _ _ _ h4 (by show 7 * (k + 0 + 0) ≤ _; omega) (by show 7 * (n + 0 + 0) ≤ _; omega)
      | 1, _, hx =>
        refine lg_tIn 239 dL_law_33 (by rw [hx]; decide) (by rw [hx]; decide) (by rw [hx]; rfl) (by decide) ?_
        obtain ⟨r, σ', τ', h1, h2, h3, h4⟩ := hG'.2.1 σ τ hinv
        have hnn' := hI σ' τ' h4
        refine lg_aload_n 2 dL_law_239 rfl rfl ?_
        refine lg_aload_n 1 dL_law_240 rfl rfl ?_
        refine lg_iload_n 0 dL_law_241 rfl rfl ?_
        refine lg_iconst (v := 1) dL_law_242 (by decide) ?_
        refine lg_iadd dL_law_243 ?_
        refine lg_sld (j := i + 1) dL_law_244 (sxk (k := 1) rfl (by omega)).1 (sxk (k := 1) rfl (by omega)).2 (by omega) ?_
        refine lg_cX (As := [.int (xs (i + 1))]) (st := []) dL_law_245 (c_X10_end h1) mov_X10_end lw_462 (by omega) rfl ⟨Nat.le_of_ble_eq_true rfl, Nat.le_of_ble_eq_true rfl⟩ (Nat.le_of_ble_eq_true rfl) ⟨by show k + 0 ≤ 600000; omega, by show n + 0 ≤ 7302250; omega⟩ ?_
        refine lg_aload_n 3 dL_law_248 rfl rfl ?_
        refine lg_aload_n 1 dL_law_249 rfl rfl ?_
        refine lg_iload_n 0 dL_law_250 rfl rfl ?_
        refine lg_iconst (v := 1) dL_law_251 (by decide) ?_
        refine lg_iadd dL_law_252 ?_
        refine lg_sld (j := i + 1) dL_law_253 (sxk (k := 1) rfl (by omega)).1 (sxk (k := 1) rfl (by omega)).2 (by omega) ?_
        refine lg_cM (As := [.int (xs (i + 1))]) (st := [.int r]) dL_law_254 (c_X11_end h2) mov_X11_end lw_1141 hnn' h3 rfl ⟨Nat.le_of_ble_eq_true rfl, Nat.le_of_ble_eq_true rfl⟩ (Nat.le_of_ble_eq_true rfl) ⟨by show k + 0 + 0 ≤ 600000; omega, by show n + 0 + 0 ≤ 7302250; omega⟩ ?_
        refine lg_icmp_eq 1372 dL_law_257 (by decide) (fun _ => ?_) (fun c => absurd rfl c)
        exact tail _ _ _ _ h4 (by show 7 * (k + 0 + 0) ≤ _; omega) (by show 7 * (n + 0 + 0) ≤ _; omega)
      | 2, _, hx =>
        refine lg_tIn 262 dL_law_33 (by rw [hx]; decide) (by rw [hx]; decide) (by rw [hx]; rfl) (by decide) ?_
        obtain ⟨r, σ', τ', h1, h2, h3, h4⟩ := hG'.2.2.1 σ τ hinv
        have hnn' := hI σ' τ' h4
        refine lg_aload_n 2 dL_law_262 rfl rfl ?_
        refine lg_cX (As := []) (st := []) dL_law_263 (c_X10_valley h1) mov_X10_valley lw_466 (by omega) rfl ⟨Nat.le_of_ble_eq_true rfl, Nat.le_of_ble_eq_true rfl⟩ (Nat.le_of_ble_eq_true rfl) ⟨by show k + 0 ≤ 600000; omega, by show n + 0 ≤ 7302250; omega⟩ ?_
        refine lg_aload_n 3 dL_law_266 rfl rfl ?_
        refine lg_cM (As := []) (st := [.int r]) dL_law_267 (c_X11_valley h2) mov_X11_valley lw_1283 hnn' h3 rfl ⟨Nat.le_of_ble_eq_true rfl, Nat.le_of_ble_eq_true rfl⟩ (Nat.le_of_ble_eq_true rfl) ⟨by show k + 0 + 0 ≤ 600000; omega, by show n + 0 + 0 ≤ 7302250; omega⟩ ?_
        refine lg_icmp_eq 1372 dL_law_270 (by decide) (fun _ => ?_) (fun c => absurd rfl c)
        exact tail _ _ _ _ h4 (by show 7 * (k + 0 + 0) ≤ _; omega) (by show 7 * (n + 0 + 0) ≤ _; omega)
      | 3, _, hx =>
        refine lg_tIn 275 dL_law_33 (by rw [hx]; decide) (by rw [hx]; decide) (by rw [hx]; rfl) (by decide) ?_
        obtain ⟨r, σ', τ', h1, h2, h3, h4⟩ := hG'.2.2.2.1 σ τ hinv
        have hnn' := hI σ' τ' h4
        refine lg_aload_n 2 dL_law_275 rfl rfl ?_
        refine lg_cX (As := []) (st := []) dL_law_276 (c_X10_law h1) mov_X10_law lw_629 (by omega) rfl ⟨Nat.le_of_ble_eq_true rfl, Nat.le_of_ble_eq_true rfl⟩ (Nat.le_of_ble_eq_true rfl) ⟨by show k + 0 ≤ 600000; omega, by show n + 0 ≤ 7302250; omega⟩ ?_
        refine lg_aload_n 3 dL_law_279 rfl rfl ?_
        refine lg_cM (As := []) (st := [.int r]) dL_law_280 (c_X11_law h2) mov_X11_law lw_1145 hnn' h3 rfl ⟨Nat.le_of_ble_eq_true rfl, Nat.le_of_ble_eq_true rfl⟩ (Nat.le_of_ble_eq_true rfl) ⟨by show k + 0 + 0 ≤ 600000; omega, by show n + 0 + 0 ≤ 7302250; omega⟩ ?_
        refine lg_icmp_eq 1372 dL_law_283 (by decide) (fun _ => ?_) (fun c => absurd rfl c)
        exact tail _ _ _ _ h4 (by show 7 * (k + 0 + 0) ≤ _; omega) (by show 7 * (n + 0 + 0) ≤ _; omega)
      | 4, _, hx =>
        refine lg_tIn 288 dL_law_33 (by rw [hx]; decide) (by rw [hx]; decide) (by rw [hx]; rfl) (by decide) ?_
        obtain ⟨r, σ', τ', h1, h2, h3, h4⟩ := hG'.2.2.2.2.1 σ τ hinv
        have hnn' := hI σ' τ' h4
        refine lg_aload_n 2 dL_law_288 rfl rfl ?_
        refine lg_aload_n 1 dL_law_289 rfl rfl ?_
        refine lg_iload_n 0 dL_law_290 rfl rfl ?_
        refine lg_iconst (v := 1) dL_law_291 (by decide) ?_
        refine lg_iadd dL_law_292 ?_
        refine lg_sld (j := i + 1) dL_law_293 (sxk (k := 1) rfl (by omega)).1 (sxk (k := 1) rfl (by omega)).2 (by omega) ?_
        refine lg_aload_n 1 dL_law_294 rfl rfl ?_
        refine lg_iload_n 0 dL_law_295 rfl rfl ?_
        refine lg_iconst (v := 2) dL_law_296 (by decide) ?_
        refine lg_iadd dL_law_297 ?_
        refine lg_sld (j := i + 2) dL_law_298 (sxk (k := 2) rfl (by omega)).1 (sxk (k := 2) rfl (by omega)).2 (by omega) ?_
        refine lg_cX (As := [.int (xs (i + 1)), .int (xs (i + 2))]) (st := []) dL_law_299 (c_X10_cock h1) mov_X10_cock lw_682 (by omega) rfl ⟨Nat.le_of_ble_eq_true rfl, Nat.le_of_ble_eq_true rfl⟩ (Nat.le_of_ble_eq_true rfl) ⟨by show k + 0 ≤ 600000; omega, by show n + 0 ≤ 7302250; omega⟩ ?_
        refine lg_aload_n 3 dL_law_302 rfl rfl ?_
        refine lg_aload_n 1 dL_law_303 rfl rfl ?_
        refine lg_iload_n 0 dL_law_304 rfl rfl ?_
        refine lg_iconst (v := 1) dL_law_305 (by decide) ?_
        refine lg_iadd dL_law_306 ?_
        refine lg_sld (j := i + 1) dL_law_307 (sxk (k := 1) rfl (by omega)).1 (sxk (k := 1) rfl (by omega)).2 (by omega) ?_
        refine lg_aload_n 1 dL_law_308 rfl rfl ?_
        refine lg_iload_n 0 dL_law_309 rfl rfl ?_
        refine lg_iconst (v := 2) dL_law_310 (by decide) ?_
        refine lg_iadd dL_law_311 ?_
        refine lg_sld (j := i + 2) dL_law_312 (sxk (k := 2) rfl (by omega)).1 (sxk (k := 2) rfl (by omega)).2 (by omega) ?_
        refine lg_cM (As := [.int (xs (i + 1)), .int (xs (i + 2))]) (st := [.int r]) dL_law_313 (c_X11_cock h2) mov_X11_cock lw_1287 hnn' h3 rfl ⟨Nat.le_of_ble_eq_true rfl, Nat.le_of_ble_eq_true rfl⟩ (Nat.le_of_ble_eq_true rfl) ⟨by show k + 0 + 0 ≤ 600000; omega, by show n + 0 + 0 ≤ 7302250; omega⟩ ?_
        refine lg_icmp_eq 1372 dL_law_316 (by decide) (fun _ => ?_) (fun c => absurd rfl c)
        exact tail _ _ _ _ h4 (by show 7 * (k + 0 + 0) ≤ _; omega) (by show 7 * (n + 0 + 0) ≤ _; omega)
      | 5, _, hx =>
        refine lg_tIn 321 dL_law_33 (by rw [hx]; decide) (by rw [hx]; decide) (by rw [hx]; rfl) (by decide) ?_
        obtain ⟨r, σ', τ', h1, h2, h3, h4⟩ := hG'.2.2.2.2.2.1 σ τ hinv
        have hnn' := hI σ' τ' h4
        refine lg_aload_n 2 dL_law_321 rfl rfl ?_
        refine lg_aload_n 1 dL_law_322 rfl rfl ?_
        refine lg_iload_n 0 dL_law_323 rfl rfl ?_
        refine lg_iconst (v := 1) dL_law_324 (by decide) ?_
        refine lg_iadd dL_law_325 ?_
        refine lg_sld (j := i + 1) dL_law_326 (sxk (k := 1) rfl (by omega)).1 (sxk (k := 1) rfl (by omega)).2 (by omega) ?_
        refine lg_aload_n 1 dL_law_327 rfl rfl ?_
        refine lg_iload_n 0 dL_law_328 rfl rfl ?_
        refine lg_iconst (v := 2) dL_law_329 (by decide) ?_
        refine lg_iadd dL_law_330 ?_
        refine lg_sld (j := i + 2) dL_law_331 (sxk (k := 2) rfl (by omega)).1 (sxk (k := 2) rfl (by omega)).2 (by omega) ?_
        refine lg_cX (As := [.int (xs (i + 1)), .int (xs (i + 2))]) (st := []) dL_law_332 (c_X10_tree h1) mov_X10_tree lw_690 (by omega) rfl ⟨Nat.le_of_ble_eq_true rfl, Nat.le_of_ble_eq_true rfl⟩ (Nat.le_of_ble_eq_true rfl) ⟨by show k + 0 ≤ 600000; omega, by show n + 0 ≤ 7302250; omega⟩ ?_
        refine lg_aload_n 3 dL_law_335 rfl rfl ?_
        refine lg_aload_n 1 dL_law_336 rfl rfl ?_
        refine lg_iload_n 0 dL_law_337 rfl rfl ?_
        refine lg_iconst (v := 1) dL_law_338 (by decide) ?_
        refine lg_iadd dL_law_339 ?_
        refine lg_sld (j := i + 1) dL_law_340 (sxk (k := 1) rfl (by omega)).1 (sxk (k := 1) rfl (by omega)).2 (by omega) ?_
        refine lg_aload_n 1 dL_law_341 rfl rfl ?_
        refine lg_iload_n 0 dL_law_342 rfl rfl ?_
        refine lg_iconst (v := 2) dL_law_343 (by decide) ?_
        refine lg_iadd dL_law_344 ?_
        refine lg_sld (j := i + 2) dL_law_345 (sxk (k := 2) rfl (by omega)).1 (sxk (k := 2) rfl (by omega)).2 (by omega) ?_
        refine lg_cM (As := [.int (xs (i + 1)), .int (xs (i + 2))]) (st := [.int r]) dL_law_346 (c_X11_tree h2) mov_X11_tree lw_1300 hnn' h3 rfl ⟨Nat.le_of_ble_eq_true rfl, Nat.le_of_ble_eq_true rfl⟩ (Nat.le_of_ble_eq_true rfl) ⟨by show k + 0 + 0 ≤ 600000; omega, by show n + 0 + 0 ≤ 7302250; omega⟩ ?_
        refine lg_icmp_eq 1372 dL_law_349 (by decide) (fun _ => ?_) (fun c => absurd rfl c)
        exact tail _ _ _ _ h4 (by show 7 * (k + 0 + 0) ≤ _; omega) (by show 7 * (n + 0 + 0) ≤ _; omega)
      | 6, _, hx =>
        refine lg_tIn 354 dL_law_33 (by rw [hx]; decide) (by rw [hx]; decide) (by rw [hx]; rfl) (by decide) ?_
        obtain ⟨r, σ', τ', h1, h2, h3, h4⟩ := hG'.2.2.2.2.2.2.1 σ τ hinv
        have hnn' := hI σ' τ' h4
        refine lg_aload_n 2 dL_law_354 rfl rfl ?_
        refine lg_aload_n 1 dL_law_355 rfl rfl ?_
        refine lg_iload_n 0 dL_law_356 rfl rfl ?_
        refine lg_iconst (v := 1) dL_law_357 (by decide) ?_
        refine lg_iadd dL_law_358 ?_
        refine lg_sld (j := i + 1) dL_law_359 (sxk (k := 1) rfl (by omega)).1 (sxk (k := 1) rfl (by omega)).2 (by omega) ?_
        refine lg_aload_n 1 dL_law_360 rfl rfl ?_
        refine lg_iload_n 0 dL_law_361 rfl rfl ?_
        refine lg_iconst (v := 2) dL_law_362 (by decide) ?_
        refine lg_iadd dL_law_363 ?_
        refine lg_sld (j := i + 2) dL_law_364 (sxk (k := 2) rfl (by omega)).1 (sxk (k := 2) rfl (by omega)).2 (by omega) ?_
        refine lg_cX (As := [.int (xs (i + 1)), .int (xs (i + 2))]) (st := []) dL_law_365 (c_X10_worth h1) mov_X10_worth lw_698 (by omega) rfl ⟨Nat.le_of_ble_eq_true rfl, Nat.le_of_ble_eq_true rfl⟩ (Nat.le_of_ble_eq_true rfl) ⟨by show k + 0 ≤ 600000; omega, by show n + 0 ≤ 7302250; omega⟩ ?_
        refine lg_aload_n 3 dL_law_368 rfl rfl ?_
        refine lg_aload_n 1 dL_law_369 rfl rfl ?_
        refine lg_iload_n 0 dL_law_370 rfl rfl ?_
        refine lg_iconst (v := 1) dL_law_371 (by decide) ?_
        refine lg_iadd dL_law_372 ?_
        refine lg_sld (j := i + 1) dL_law_373 (sxk (k := 1) rfl (by omega)).1 (sxk (k := 1) rfl (by omega)).2 (by omega) ?_
        refine lg_aload_n 1 dL_law_374 rfl rfl ?_
        refine lg_iload_n 0 dL_law_375 rfl rfl ?_
        refine lg_iconst (v := 2) dL_law_376 (by decide) ?_
        refine lg_iadd dL_law_377 ?_
        refine lg_sld (j := i + 2) dL_law_378 (sxk (k := 2) rfl (by omega)).1 (sxk (k := 2) rfl (by omega)).2 (by omega) ?_
        refine lg_cM (As := [.int (xs (i + 1)), .int (xs (i + 2))]) (st := [.int r]) dL_law_379 (c_X11_worth h2) mov_X11_worth lw_1313 hnn' h3 rfl ⟨Nat.le_of_ble_eq_true rfl, Nat.le_of_ble_eq_true rfl⟩ (Nat.le_of_ble_eq_true rfl) ⟨by show k + 0 + 0 ≤ 600000; omega, by show n + 0 + 0 ≤ 7302250; omega⟩ ?_
        refine lg_icmp_eq 1372 dL_law_382 (by decide) (fun _ => ?_) (fun c => absurd rfl c)
        exact tail _ _ _ _ h4 (by show 7 * (k + 0 + 0) ≤ _; omega) (by show 7 * (n + 0 + 0) ≤ _; omega)
      | 7, _, hx =>
        refine lg_tIn 387 dL_law_33 (by rw [hx]; decide) (by rw [hx]; decide) (by rw [hx]; rfl) (by decide) ?_
        obtain ⟨r, σ', τ', h1, h2, h3, h4⟩ := hG'.2.2.2.2.2.2.2.1 σ τ hinv
        have hnn' := hI σ' τ' h4
        refine lg_aload_n 2 dL_law_387 rfl rfl ?_
        refine lg_aload_n 1 dL_law_388 rfl rfl ?_
        refine lg_iload_n 0 dL_law_389 rfl rfl ?_
        refine lg_iconst (v := 1) dL_law_390 (by decide) ?_
        refine lg_iadd dL_law_391 ?_
        refine lg_sld (j := i + 1) dL_law_392 (sxk (k := 1) rfl (by omega)).1 (sxk (k := 1) rfl (by omega)).2 (by omega) ?_
        refine lg_aload_n 1 dL_law_393 rfl rfl ?_
        refine lg_iload_n 0 dL_law_394 rfl rfl ?_
        refine lg_iconst (v := 2) dL_law_395 (by decide) ?_
        refine lg_iadd dL_law_396 ?_
        refine lg_sld (j := i + 2) dL_law_397 (sxk (k := 2) rfl (by omega)).1 (sxk (k := 2) rfl (by omega)).2 (by omega) ?_
        refine lg_cX (As := [.int (xs (i + 1)), .int (xs (i + 2))]) (st := []) dL_law_398 (c_X10_lee h1) mov_X10_lee lw_711 (by omega) rfl ⟨Nat.le_of_ble_eq_true rfl, Nat.le_of_ble_eq_true rfl⟩ (Nat.le_of_ble_eq_true rfl) ⟨by show k + 0 ≤ 600000; omega, by show n + 0 ≤ 7302250; omega⟩ ?_
        refine lg_aload_n 3 dL_law_401 rfl rfl ?_
        refine lg_aload_n 1 dL_law_402 rfl rfl ?_
        refine lg_iload_n 0 dL_law_403 rfl rfl ?_
        refine lg_iconst (v := 1) dL_law_404 (by decide) ?_
        refine lg_iadd dL_law_405 ?_
        refine lg_sld (j := i + 1) dL_law_406 (sxk (k := 1) rfl (by omega)).1 (sxk (k := 1) rfl (by omega)).2 (by omega) ?_
        refine lg_aload_n 1 dL_law_407 rfl rfl ?_
        refine lg_iload_n 0 dL_law_408 rfl rfl ?_
        refine lg_iconst (v := 2) dL_law_409 (by decide) ?_
        refine lg_iadd dL_law_410 ?_
        refine lg_sld (j := i + 2) dL_law_411 (sxk (k := 2) rfl (by omega)).1 (sxk (k := 2) rfl (by omega)).2 (by omega) ?_
        refine lg_cM (As := [.int (xs (i + 1)), .int (xs (i + 2))]) (st := [.int r]) dL_law_412 (c_X11_lee h2) mov_X11_lee lw_1321 hnn' h3 rfl ⟨Nat.le_of_ble_eq_true rfl, Nat.le_of_ble_eq_true rfl⟩ (Nat.le_of_ble_eq_true rfl) ⟨by show k + 0 + 0 ≤ 600000; omega, by show n + 0 + 0 ≤ 7302250; omega⟩ ?_
        refine lg_icmp_eq 1372 dL_law_415 (by decide) (fun _ => ?_) (fun c => absurd rfl c)
        exact tail _ _ _ _ h4 (by show 7 * (k + 0 + 0) ≤ _; omega) (by show 7 * (n + 0 + 0) ≤ _; omega)
      | 8, _, hx =>
        refine lg_tIn 420 dL_law_33 (by rw [hx]; decide) (by rw [hx]; decide) (by rw [hx]; rfl) (by decide) ?_
        obtain ⟨r, σ', τ', h1, h2, h3, h4⟩ := hG'.2.2.2.2.2.2.2.2.1 σ τ hinv
        have hnn' := hI σ' τ' h4
        refine lg_aload_n 2 dL_law_420 rfl rfl ?_
        refine lg_aload_n 1 dL_law_421 rfl rfl ?_
        refine lg_iload_n 0 dL_law_422 rfl rfl ?_
        refine lg_iconst (v := 1) dL_law_423 (by decide) ?_
        refine lg_iadd dL_law_424 ?_
        refine lg_sld (j := i + 1) dL_law_425 (sxk (k := 1) rfl (by omega)).1 (sxk (k := 1) rfl (by omega)).2 (by omega) ?_
        refine lg_aload_n 1 dL_law_426 rfl rfl ?_
        refine lg_iload_n 0 dL_law_427 rfl rfl ?_
        refine lg_iconst (v := 2) dL_law_428 (by decide) ?_
        refine lg_iadd dL_law_429 ?_
        refine lg_sld (j := i + 2) dL_law_430 (sxk (k := 2) rfl (by omega)).1 (sxk (k := 2) rfl (by omega)).2 (by omega) ?_
        refine lg_aload_n 1 dL_law_431 rfl rfl ?_
        refine lg_iload_n 0 dL_law_432 rfl rfl ?_
        refine lg_iconst (v := 3) dL_law_433 (by decide) ?_
        refine lg_iadd dL_law_434 ?_
        refine lg_sld (j := i + 3) dL_law_435 (sxk (k := 3) rfl (by omega)).1 (sxk (k := 3) rfl (by omega)).2 (by omega) ?_
        refine lg_cX (As := [.int (xs (i + 1)), .int (xs (i + 2)), .int (xs (i + 3))]) (st := []) dL_law_436 (c_X10_blow h1) mov_X10_blow lw_727 (by omega) rfl ⟨Nat.le_of_ble_eq_true rfl, Nat.le_of_ble_eq_true rfl⟩ (Nat.le_of_ble_eq_true rfl) ⟨by show k + 0 ≤ 600000; omega, by show n + 0 ≤ 7302250; omega⟩ ?_
        refine lg_aload_n 3 dL_law_439 rfl rfl ?_
        refine lg_aload_n 1 dL_law_440 rfl rfl ?_
        refine lg_iload_n 0 dL_law_441 rfl rfl ?_
        refine lg_iconst (v := 1) dL_law_442 (by decide) ?_
        refine lg_iadd dL_law_443 ?_
        refine lg_sld (j := i + 1) dL_law_444 (sxk (k := 1) rfl (by omega)).1 (sxk (k := 1) rfl (by omega)).2 (by omega) ?_
        refine lg_aload_n 1 dL_law_445 rfl rfl ?_
        refine lg_iload_n 0 dL_law_446 rfl rfl ?_
        refine lg_iconst (v := 2) dL_law_447 (by decide) ?_
        refine lg_iadd dL_law_448 ?_
        refine lg_sld (j := i + 2) dL_law_449 (sxk (k := 2) rfl (by omega)).1 (sxk (k := 2) rfl (by omega)).2 (by omega) ?_
        refine lg_aload_n 1 dL_law_450 rfl rfl ?_
        refine lg_iload_n 0 dL_law_451 rfl rfl ?_
        refine lg_iconst (v := 3) dL_law_452 (by decide) ?_
        refine lg_iadd dL_law_453 ?_
        refine lg_sld (j := i + 3) dL_law_454 (sxk (k := 3) rfl (by omega)).1 (sxk (k := 3) rfl (by omega)).2 (by omega) ?_
        refine lg_cM (As := [.int (xs (i + 1)), .int (xs (i + 2)), .int (xs (i + 3))]) (st := [.int r]) dL_law_455 (c_X11_blow h2) mov_X11_blow lw_1335 hnn' h3 rfl ⟨Nat.le_of_ble_eq_true rfl, Nat.le_of_ble_eq_true rfl⟩ (Nat.le_of_ble_eq_true rfl) ⟨by show k + 0 + 0 ≤ 600000; omega, by show n + 0 + 0 ≤ 7302250; omega⟩ ?_
        refine lg_icmp_eq 1372 dL_law_458 (by decide) (fun _ => ?_) (fun c => absurd rfl c)
        exact tail _ _ _ _ h4 (by show 7 * (k + 0 + 0) ≤ _; omega) (by show 7 * (n + 0 + 0) ≤ _; omega)
      | 9, _, hx =>
        refine lg_tIn 463 dL_law_33 (by rw [hx]; decide) (by rw [hx]; decide) (by rw [hx]; rfl) (by decide) ?_
        obtain ⟨r, σ', τ', h1, h2, h3, h4⟩ := hG'.2.2.2.2.2.2.2.2.2.1 σ τ hinv
        have hnn' := hI σ' τ' h4
        refine lg_aload_n 2 dL_law_463 rfl rfl ?_
        refine lg_aload_n 1 dL_law_464 rfl rfl ?_
        refine lg_iload_n 0 dL_law_465 rfl rfl ?_
        refine lg_iconst (v := 1) dL_law_466 (by decide) ?_
        refine lg_iadd dL_law_467 ?_
        refine lg_sld (j := i + 1) dL_law_468 (sxk (k := 1) rfl (by omega)).1 (sxk (k := 1) rfl (by omega)).2 (by omega) ?_
        refine lg_aload_n 1 dL_law_469 rfl rfl ?_
        refine lg_iload_n 0 dL_law_470 rfl rfl ?_
        refine lg_iconst (v := 2) dL_law_471 (by decide) ?_
        refine lg_iadd dL_law_472 ?_
        refine lg_sld (j := i + 2) dL_law_473 (sxk (k := 2) rfl (by omega)).1 (sxk (k := 2) rfl (by omega)).2 (by omega) ?_
        refine lg_cX (As := [.int (xs (i + 1)), .int (xs (i + 2))]) (st := []) dL_law_474 (c_X10_bend h1) mov_X10_bend lw_774 (by omega) rfl ⟨Nat.le_of_ble_eq_true rfl, Nat.le_of_ble_eq_true rfl⟩ (Nat.le_of_ble_eq_true rfl) ⟨by show k + 0 ≤ 600000; omega, by show n + 0 ≤ 7302250; omega⟩ ?_
        refine lg_aload_n 3 dL_law_477 rfl rfl ?_
        refine lg_aload_n 1 dL_law_478 rfl rfl ?_
        refine lg_iload_n 0 dL_law_479 rfl rfl ?_
        refine lg_iconst (v := 1) dL_law_480 (by decide) ?_
        refine lg_iadd dL_law_481 ?_
        refine lg_sld (j := i + 1) dL_law_482 (sxk (k := 1) rfl (by omega)).1 (sxk (k := 1) rfl (by omega)).2 (by omega) ?_
        refine lg_aload_n 1 dL_law_483 rfl rfl ?_
        refine lg_iload_n 0 dL_law_484 rfl rfl ?_
        refine lg_iconst (v := 2) dL_law_485 (by decide) ?_
        refine lg_iadd dL_law_486 ?_
        refine lg_sld (j := i + 2) dL_law_487 (sxk (k := 2) rfl (by omega)).1 (sxk (k := 2) rfl (by omega)).2 (by omega) ?_
        refine lg_cM (As := [.int (xs (i + 1)), .int (xs (i + 2))]) (st := [.int r]) dL_law_488 (c_X11_bend h2) mov_X11_bend lw_1374 hnn' h3 rfl ⟨Nat.le_of_ble_eq_true rfl, Nat.le_of_ble_eq_true rfl⟩ (Nat.le_of_ble_eq_true rfl) ⟨by show k + 0 + 0 ≤ 600000; omega, by show n + 0 + 0 ≤ 7302250; omega⟩ ?_
        refine lg_icmp_eq 1372 dL_law_491 (by decide) (fun _ => ?_) (fun c => absurd rfl c)
        exact tail _ _ _ _ h4 (by show 7 * (k + 0 + 0) ≤ _; omega) (by show 7 * (n + 0 + 0) ≤ _; omega)
      | 10, _, hx =>
        refine lg_tIn 496 dL_law_33 (by rw [hx]; decide) (by rw [hx]; decide) (by rw [hx]; rfl) (by decide) ?_
        obtain ⟨r, σ', τ', h1, h2, h3, h4⟩ := hG'.2.2.2.2.2.2.2.2.2.2.1 σ τ hinv
        have hnn' := hI σ' τ' h4
        refine lg_aload_n 2 dL_law_496 rfl rfl ?_
        refine lg_aload_n 1 dL_law_497 rfl rfl ?_
        refine lg_iload_n 0 dL_law_498 rfl rfl ?_
        refine lg_iconst (v := 1) dL_law_499 (by decide) ?_
        refine lg_iadd dL_law_500 ?_
        refine lg_sld (j := i + 1) dL_law_501 (sxk (k := 1) rfl (by omega)).1 (sxk (k := 1) rfl (by omega)).2 (by omega) ?_
        refine lg_cX (As := [.int (xs (i + 1))]) (st := []) dL_law_502 (c_X10_oil h1) mov_X10_oil lw_782 (by omega) rfl ⟨Nat.le_of_ble_eq_true rfl, Nat.le_of_ble_eq_true rfl⟩ (Nat.le_of_ble_eq_true rfl) ⟨by show k + 0 ≤ 600000; omega, by show n + 0 ≤ 7302250; omega⟩ ?_
        refine lg_aload_n 3 dL_law_505 rfl rfl ?_
        refine lg_aload_n 1 dL_law_506 rfl rfl ?_
        refine lg_iload_n 0 dL_law_507 rfl rfl ?_
        refine lg_iconst (v := 1) dL_law_508 (by decide) ?_
        refine lg_iadd dL_law_509 ?_
        refine lg_sld (j := i + 1) dL_law_510 (sxk (k := 1) rfl (by omega)).1 (sxk (k := 1) rfl (by omega)).2 (by omega) ?_
        refine lg_cM (As := [.int (xs (i + 1))]) (st := [.int r]) dL_law_511 (c_X11_oil h2) mov_X11_oil lw_1382 hnn' h3 rfl ⟨Nat.le_of_ble_eq_true rfl, Nat.le_of_ble_eq_true rfl⟩ (Nat.le_of_ble_eq_true rfl) ⟨by show k + 0 + 0 ≤ 600000; omega, by show n + 0 + 0 ≤ 7302250; omega⟩ ?_
        refine lg_icmp_eq 1372 dL_law_514 (by decide) (fun _ => ?_) (fun c => absurd rfl c)
        exact tail _ _ _ _ h4 (by show 7 * (k + 0 + 0) ≤ _; omega) (by show 7 * (n + 0 + 0) ≤ _; omega)
      | 11, _, hx =>
        refine lg_tIn 519 dL_law_33 (by rw [hx]; decide) (by rw [hx]; decide) (by rw [hx]; rfl) (by decide) ?_
        obtain ⟨r, σ', τ', h1, h2, h3, h4⟩ := hG'.2.2.2.2.2.2.2.2.2.2.2.1 σ τ hinv
        have hnn' := hI σ' τ' h4
        refine lg_aload_n 2 dL_law_519 rfl rfl ?_
        refine lg_aload_n 1 dL_law_520 rfl rfl ?_
        refine lg_iload_n 0 dL_law_521 rfl rfl ?_
        refine lg_iconst (v := 1) dL_law_522 (by decide) ?_
        refine lg_iadd dL_law_523 ?_
        refine lg_sld (j := i + 1) dL_law_524 (sxk (k := 1) rfl (by omega)).1 (sxk (k := 1) rfl (by omega)).2 (by omega) ?_
        refine lg_aload_n 1 dL_law_525 rfl rfl ?_
        refine lg_iload_n 0 dL_law_526 rfl rfl ?_
        refine lg_iconst (v := 2) dL_law_527 (by decide) ?_
        refine lg_iadd dL_law_528 ?_
        refine lg_sld (j := i + 2) dL_law_529 (sxk (k := 2) rfl (by omega)).1 (sxk (k := 2) rfl (by omega)).2 (by omega) ?_
        refine lg_cX (As := [.int (xs (i + 1)), .int (xs (i + 2))]) (st := []) dL_law_530 (c_X10_rusts h1) mov_X10_rusts lw_790 (by omega) rfl ⟨Nat.le_of_ble_eq_true rfl, Nat.le_of_ble_eq_true rfl⟩ (Nat.le_of_ble_eq_true rfl) ⟨by show k + 0 ≤ 600000; omega, by show n + 0 ≤ 7302250; omega⟩ ?_
        refine lg_aload_n 3 dL_law_533 rfl rfl ?_
        refine lg_aload_n 1 dL_law_534 rfl rfl ?_
        refine lg_iload_n 0 dL_law_535 rfl rfl ?_
        refine lg_iconst (v := 1) dL_law_536 (by decide) ?_
        refine lg_iadd dL_law_537 ?_
        refine lg_sld (j := i + 1) dL_law_538 (sxk (k := 1) rfl (by omega)).1 (sxk (k := 1) rfl (by omega)).2 (by omega) ?_
        refine lg_aload_n 1 dL_law_539 rfl rfl ?_
        refine lg_iload_n 0 dL_law_540 rfl rfl ?_
        refine lg_iconst (v := 2) dL_law_541 (by decide) ?_
        refine lg_iadd dL_law_542 ?_
        refine lg_sld (j := i + 2) dL_law_543 (sxk (k := 2) rfl (by omega)).1 (sxk (k := 2) rfl (by omega)).2 (by omega) ?_
        refine lg_cM (As := [.int (xs (i + 1)), .int (xs (i + 2))]) (st := [.int r]) dL_law_544 (c_X11_rusts h2) mov_X11_rusts lw_1391 hnn' h3 rfl ⟨Nat.le_of_ble_eq_true rfl, Nat.le_of_ble_eq_true rfl⟩ (Nat.le_of_ble_eq_true rfl) ⟨by show k + 0 + 0 ≤ 600000; omega, by show n + 0 + 0 ≤ 7302250; omega⟩ ?_
        refine lg_icmp_eq 1372 dL_law_547 (by decide) (fun _ => ?_) (fun c => absurd rfl c)
        exact tail _ _ _ _ h4 (by show 7 * (k + 0 + 0) ≤ _; omega) (by show 7 * (n + 0 + 0) ≤ _; omega)
      | 12, _, hx =>
        refine lg_tIn 552 dL_law_33 (by rw [hx]; decide) (by rw [hx]; decide) (by rw [hx]; rfl) (by decide) ?_
        obtain ⟨r, σ', τ', h1, h2, h3, h4⟩ := hG'.2.2.2.2.2.2.2.2.2.2.2.2.1 σ τ hinv
        have hnn' := hI σ' τ' h4
        by_cases hz : xs (i + 2) = 0
        · rw [if_pos hz] at h1 h2
          refine lg_aload_n 2 dL_law_552 rfl rfl ?_
          refine lg_aload_n 1 dL_law_553 rfl rfl ?_
          refine lg_iload_n 0 dL_law_554 rfl rfl ?_
          refine lg_iconst (v := 1) dL_law_555 (by decide) ?_
          refine lg_iadd dL_law_556 ?_
          refine lg_sld (j := i + 1) dL_law_557 (sxk (k := 1) rfl (by omega)).1 (sxk (k := 1) rfl (by omega)).2 (by omega) ?_
          refine lg_aload_n 1 dL_law_558 rfl rfl ?_
          refine lg_iload_n 0 dL_law_559 rfl rfl ?_
          refine lg_iconst (v := 2) dL_law_560 (by decide) ?_
          refine lg_iadd dL_law_561 ?_
          refine lg_sld (j := i + 2) dL_law_562 (sxk (k := 2) rfl (by omega)).1 (sxk (k := 2) rfl (by omega)).2 (by omega) ?_
          refine lg_if_eq 570 dL_law_563 (by decide) (fun _ => ?_) (fun c => absurd hz c)
          refine lg_iconst (v := 0) dL_law_570 (by decide) ?_
          refine lg_cX (As := [.int (xs (i + 1)), .int 0]) (st := []) dL_law_571 (c_X10_fell h1) mov_X10_fell lw_791 (by omega) rfl ⟨Nat.le_of_ble_eq_true rfl, Nat.le_of_ble_eq_true rfl⟩ (Nat.le_of_ble_eq_true rfl) ⟨by show k + 0 ≤ 600000; omega, by show n + 0 ≤ 7302250; omega⟩ ?_
          refine lg_aload_n 3 dL_law_574 rfl rfl ?_
          refine lg_aload_n 1 dL_law_575 rfl rfl ?_
          refine lg_iload_n 0 dL_law_576 rfl rfl ?_
          refine lg_iconst (v := 1) dL_law_577 (by decide) ?_
          refine lg_iadd dL_law_578 ?_
          refine lg_sld (j := i + 1) dL_law_579 (sxk (k := 1) rfl (by omega)).1 (sxk (k := 1) rfl (by omega)).2 (by omega) ?_
          refine lg_aload_n 1 dL_law_580 rfl rfl ?_
          refine lg_iload_n 0 dL_law_581 rfl rfl ?_
          refine lg_iconst (v := 2) dL_law_582 (by decide) ?_
          refine lg_iadd dL_law_583 ?_
          refine lg_sld (j := i + 2) dL_law_584 (sxk (k := 2) rfl (by omega)).1 (sxk (k := 2) rfl (by omega)).2 (by omega) ?_
          refine lg_if_eq 592 dL_law_585 (by decide) (fun _ => ?_) (fun c => absurd hz c)
          refine lg_iconst (v := 0) dL_law_592 (by decide) ?_
          refine lg_cM (As := [.int (xs (i + 1)), .int 0]) (st := [.int r]) dL_law_593 (c_X11_fell h2) mov_X11_fell lw_1392 hnn' h3 rfl ⟨Nat.le_of_ble_eq_true rfl, Nat.le_of_ble_eq_true rfl⟩ (Nat.le_of_ble_eq_true rfl) ⟨by show k + 0 + 0 ≤ 600000; omega, by show n + 0 + 0 ≤ 7302250; omega⟩ ?_
          refine lg_icmp_eq 1372 dL_law_596 (by decide) (fun _ => ?_) (fun c => absurd rfl c)
          exact tail _ _ _ _ h4 (by show 7 * (k + 0 + 0) ≤ _; omega) (by show 7 * (n + 0 + 0) ≤ _; omega)
        · rw [if_neg hz] at h1 h2
          refine lg_aload_n 2 dL_law_552 rfl rfl ?_
          refine lg_aload_n 1 dL_law_553 rfl rfl ?_
          refine lg_iload_n 0 dL_law_554 rfl rfl ?_
          refine lg_iconst (v := 1) dL_law_555 (by decide) ?_
          refine lg_iadd dL_law_556 ?_
          refine lg_sld (j := i + 1) dL_law_557 (sxk (k := 1) rfl (by omega)).1 (sxk (k := 1) rfl (by omega)).2 (by omega) ?_
          refine lg_aload_n 1 dL_law_558 rfl rfl ?_
          refine lg_iload_n 0 dL_law_559 rfl rfl ?_
          refine lg_iconst (v := 2) dL_law_560 (by decide) ?_
          refine lg_iadd dL_law_561 ?_
          refine lg_sld (j := i + 2) dL_law_562 (sxk (k := 2) rfl (by omega)).1 (sxk (k := 2) rfl (by omega)).2 (by omega) ?_
          refine lg_if_eq 570 dL_law_563 (by decide) (fun c => absurd c hz) (fun _ => ?_)
          refine lg_iconst (v := 1) dL_law_566 (by decide) ?_
          refine lg_goto 571 dL_law_567 (by decide) ?_
          refine lg_cX (As := [.int (xs (i + 1)), .int 1]) (st := []) dL_law_571 (c_X10_fell h1) mov_X10_fell lw_791 (by omega) rfl ⟨Nat.le_of_ble_eq_true rfl, Nat.le_of_ble_eq_true rfl⟩ (Nat.le_of_ble_eq_true rfl) ⟨by show k + 0 ≤ 600000; omega, by show n + 0 ≤ 7302250; omega⟩ ?_
          refine lg_aload_n 3 dL_law_574 rfl rfl ?_
          refine lg_aload_n 1 dL_law_575 rfl rfl ?_
          refine lg_iload_n 0 dL_law_576 rfl rfl ?_
          refine lg_iconst (v := 1) dL_law_577 (by decide) ?_
          refine lg_iadd dL_law_578 ?_
          refine lg_sld (j := i + 1) dL_law_579 (sxk (k := 1) rfl (by omega)).1 (sxk (k := 1) rfl (by omega)).2 (by omega) ?_
          refine lg_aload_n 1 dL_law_580 rfl rfl ?_
          refine lg_iload_n 0 dL_law_581 rfl rfl ?_
          refine lg_iconst (v := 2) dL_law_582 (by decide) ?_
          refine lg_iadd dL_law_583 ?_
          refine lg_sld (j := i + 2) dL_law_584 (sxk (k := 2) rfl (by omega)).1 (sxk (k := 2) rfl (by omega)).2 (by omega) ?_
          refine lg_if_eq 592 dL_law_585 (by decide) (fun c => absurd c hz) (fun _ => ?_)
          refine lg_iconst (v := 1) dL_law_588 (by decide) ?_
          refine lg_goto 593 dL_law_589 (by decide) ?_
          refine lg_cM (As := [.int (xs (i + 1)), .int 1]) (st := [.int r]) dL_law_593 (c_X11_fell h2) mov_X11_fell lw_1392 hnn' h3 rfl ⟨Nat.le_of_ble_eq_true rfl, Nat.le_of_ble_eq_true rfl⟩ (Nat.le_of_ble_eq_true rfl) ⟨by show k + 0 + 0 ≤ 600000; omega, by show n + 0 + 0 ≤ 7302250; omega⟩ ?_
          refine lg_icmp_eq 1372 dL_law_596 (by decide) (fun _ => ?_) (fun c => absurd rfl c)
          exact tail _ _ _ _ h4 (by show 7 * (k + 0 + 0) ≤ _; omega) (by show 7 * (n + 0 + 0) ≤ _; omega)
      | 13, _, hx =>
        refine lg_tIn 601 dL_law_33 (by rw [hx]; decide) (by rw [hx]; decide) (by rw [hx]; rfl) (by decide) ?_
        obtain ⟨r, σ', τ', h1, h2, h3, h4⟩ := hG'.2.2.2.2.2.2.2.2.2.2.2.2.2.1 σ τ hinv
        have hnn' := hI σ' τ' h4
        refine lg_aload_n 2 dL_law_601 rfl rfl ?_
        refine lg_cX (As := []) (st := []) dL_law_602 (c_X10_morning h1) mov_X10_morning lw_795 (by omega) rfl ⟨Nat.le_of_ble_eq_true rfl, Nat.le_of_ble_eq_true rfl⟩ (Nat.le_of_ble_eq_true rfl) ⟨by show k + 0 ≤ 600000; omega, by show n + 0 ≤ 7302250; omega⟩ ?_
        refine lg_aload_n 3 dL_law_605 rfl rfl ?_
        refine lg_cM (As := []) (st := [.int r]) dL_law_606 (c_X11_morning h2) mov_X11_morning lw_1396 hnn' h3 rfl ⟨Nat.le_of_ble_eq_true rfl, Nat.le_of_ble_eq_true rfl⟩ (Nat.le_of_ble_eq_true rfl) ⟨by show k + 0 + 0 ≤ 600000; omega, by show n + 0 + 0 ≤ 7302250; omega⟩ ?_
        refine lg_icmp_eq 1372 dL_law_609 (by decide) (fun _ => ?_) (fun c => absurd rfl c)
        exact tail _ _ _ _ h4 (by show 7 * (k + 0 + 0) ≤ _; omega) (by show 7 * (n + 0 + 0) ≤ _; omega)
      | 14, _, hx =>
        refine lg_tIn 614 dL_law_33 (by rw [hx]; decide) (by rw [hx]; decide) (by rw [hx]; rfl) (by decide) ?_
        obtain ⟨r, σ', τ', h1, h2, h3, h4⟩ := hG'.2.2.2.2.2.2.2.2.2.2.2.2.2.2.1 σ τ hinv
        have hnn' := hI σ' τ' h4
        refine lg_aload_n 2 dL_law_614 rfl rfl ?_
        refine lg_aload_n 1 dL_law_615 rfl rfl ?_
        refine lg_iload_n 0 dL_law_616 rfl rfl ?_
        refine lg_iconst (v := 1) dL_law_617 (by decide) ?_
        refine lg_iadd dL_law_618 ?_
        refine lg_sld (j := i + 1) dL_law_619 (sxk (k := 1) rfl (by omega)).1 (sxk (k := 1) rfl (by omega)).2 (by omega) ?_
        refine lg_cX (As := [.int (xs (i + 1))]) (st := []) dL_law_620 (c_X10_vote h1) mov_X10_vote lw_799 (by omega) rfl ⟨Nat.le_of_ble_eq_true rfl, Nat.le_of_ble_eq_true rfl⟩ (Nat.le_of_ble_eq_true rfl) ⟨by show k + 0 ≤ 600000; omega, by show n + 0 ≤ 7302250; omega⟩ ?_
        refine lg_aload_n 3 dL_law_623 rfl rfl ?_
        refine lg_aload_n 1 dL_law_624 rfl rfl ?_
        refine lg_iload_n 0 dL_law_625 rfl rfl ?_
        refine lg_iconst (v := 1) dL_law_626 (by decide) ?_
        refine lg_iadd dL_law_627 ?_
        refine lg_sld (j := i + 1) dL_law_628 (sxk (k := 1) rfl (by omega)).1 (sxk (k := 1) rfl (by omega)).2 (by omega) ?_
        refine lg_cM (As := [.int (xs (i + 1))]) (st := [.int r]) dL_law_629 (c_X11_vote h2) mov_X11_vote lw_1400 hnn' h3 rfl ⟨Nat.le_of_ble_eq_true rfl, Nat.le_of_ble_eq_true rfl⟩ (Nat.le_of_ble_eq_true rfl) ⟨by show k + 0 + 0 ≤ 600000; omega, by show n + 0 + 0 ≤ 7302250; omega⟩ ?_
        refine lg_icmp_eq 1372 dL_law_632 (by decide) (fun _ => ?_) (fun c => absurd rfl c)
        exact tail _ _ _ _ h4 (by show 7 * (k + 0 + 0) ≤ _; omega) (by show 7 * (n + 0 + 0) ≤ _; omega)
      | 15, _, hx =>
        refine lg_tIn 637 dL_law_33 (by rw [hx]; decide) (by rw [hx]; decide) (by rw [hx]; rfl) (by decide) ?_
        obtain ⟨r, σ', τ', h1, h2, h3, h4⟩ := hG'.2.2.2.2.2.2.2.2.2.2.2.2.2.2.2.1 σ τ hinv
        have hnn' := hI σ' τ' h4
        refine lg_aload_n 2 dL_law_637 rfl rfl ?_
        refine lg_aload_n 1 dL_law_638 rfl rfl ?_
        refine lg_iload_n 0 dL_law_639 rfl rfl ?_
        refine lg_iconst (v := 1) dL_law_640 (by decide) ?_
        refine lg_iadd dL_law_641 ?_
        refine lg_sld (j := i + 1) dL_law_642 (sxk (k := 1) rfl (by omega)).1 (sxk (k := 1) rfl (by omega)).2 (by omega) ?_
        refine lg_cX (As := [.int (xs (i + 1))]) (st := []) dL_law_643 (c_X10_says h1) mov_X10_says lw_842 (by omega) rfl ⟨Nat.le_of_ble_eq_true rfl, Nat.le_of_ble_eq_true rfl⟩ (Nat.le_of_ble_eq_true rfl) ⟨by show k + 0 ≤ 600000; omega, by show n + 0 ≤ 7302250; omega⟩ ?_
        refine lg_aload_n 3 dL_law_646 rfl rfl ?_
        refine lg_aload_n 1 dL_law_647 rfl rfl ?_
        refine lg_iload_n 0 dL_law_648 rfl rfl ?_
        refine lg_iconst (v := 1) dL_law_649 (by decide) ?_
        refine lg_iadd dL_law_650 ?_
        refine lg_sld (j := i + 1) dL_law_651 (sxk (k := 1) rfl (by omega)).1 (sxk (k := 1) rfl (by omega)).2 (by omega) ?_
        refine lg_cM (As := [.int (xs (i + 1))]) (st := [.int r]) dL_law_652 (c_X11_says h2) mov_X11_says lw_1447 hnn' h3 rfl ⟨Nat.le_of_ble_eq_true rfl, Nat.le_of_ble_eq_true rfl⟩ (Nat.le_of_ble_eq_true rfl) ⟨by show k + 0 + 0 ≤ 600000; omega, by show n + 0 + 0 ≤ 7302250; omega⟩ ?_
        refine lg_icmp_eq 1372 dL_law_655 (by decide) (fun _ => ?_) (fun c => absurd rfl c)
        exact tail _ _ _ _ h4 (by show 7 * (k + 0 + 0) ≤ _; omega) (by show 7 * (n + 0 + 0) ≤ _; omega)
      | 16, _, hx =>
        refine lg_tIn 660 dL_law_33 (by rw [hx]; decide) (by rw [hx]; decide) (by rw [hx]; rfl) (by decide) ?_
        obtain ⟨r, σ', τ', h1, h2, h3, h4⟩ := hG'.2.2.2.2.2.2.2.2.2.2.2.2.2.2.2.2.1 σ τ hinv
        have hnn' := hI σ' τ' h4
        refine lg_aload_n 2 dL_law_660 rfl rfl ?_
        refine lg_aload_n 1 dL_law_661 rfl rfl ?_
        refine lg_iload_n 0 dL_law_662 rfl rfl ?_
        refine lg_iconst (v := 1) dL_law_663 (by decide) ?_
        refine lg_iadd dL_law_664 ?_
        refine lg_sld (j := i + 1) dL_law_665 (sxk (k := 1) rfl (by omega)).1 (sxk (k := 1) rfl (by omega)).2 (by omega) ?_
        refine lg_aload_n 1 dL_law_666 rfl rfl ?_
        refine lg_iload_n 0 dL_law_667 rfl rfl ?_
        refine lg_iconst (v := 2) dL_law_668 (by decide) ?_
        refine lg_iadd dL_law_669 ?_
        refine lg_sld (j := i + 2) dL_law_670 (sxk (k := 2) rfl (by omega)).1 (sxk (k := 2) rfl (by omega)).2 (by omega) ?_
        refine lg_aload_n 1 dL_law_671 rfl rfl ?_
        refine lg_iload_n 0 dL_law_672 rfl rfl ?_
        refine lg_iconst (v := 3) dL_law_673 (by decide) ?_
        refine lg_iadd dL_law_674 ?_
        refine lg_sld (j := i + 3) dL_law_675 (sxk (k := 3) rfl (by omega)).1 (sxk (k := 3) rfl (by omega)).2 (by omega) ?_
        refine lg_aload_n 1 dL_law_676 rfl rfl ?_
        refine lg_iload_n 0 dL_law_677 rfl rfl ?_
        refine lg_iconst (v := 4) dL_law_678 (by decide) ?_
        refine lg_iadd dL_law_679 ?_
        refine lg_sld (j := i + 4) dL_law_680 (sxk (k := 4) rfl (by omega)).1 (sxk (k := 4) rfl (by omega)).2 (by omega) ?_
        refine lg_cX (As := [.int (xs (i + 1)), .int (xs (i + 2)), .int (xs (i + 3)), .int (xs (i + 4))]) (st := []) dL_law_681 (c_X10_cheapest h1) mov_X10_cheapest lw_846 (by omega) rfl ⟨Nat.le_of_ble_eq_true rfl, Nat.le_of_ble_eq_true rfl⟩ (Nat.le_of_ble_eq_true rfl) ⟨by show k + 0 ≤ 600000; omega, by show n + 0 ≤ 7302250; omega⟩ ?_
        refine lg_aload_n 3 dL_law_684 rfl rfl ?_
        refine lg_aload_n 1 dL_law_685 rfl rfl ?_
        refine lg_iload_n 0 dL_law_686 rfl rfl ?_
        refine lg_iconst (v := 1) dL_law_687 (by decide) ?_
        refine lg_iadd dL_law_688 ?_
        refine lg_sld (j := i + 1) dL_law_689 (sxk (k := 1) rfl (by omega)).1 (sxk (k := 1) rfl (by omega)).2 (by omega) ?_
        refine lg_aload_n 1 dL_law_690 rfl rfl ?_
        refine lg_iload_n 0 dL_law_691 rfl rfl ?_
        refine lg_iconst (v := 2) dL_law_692 (by decide) ?_
        refine lg_iadd dL_law_693 ?_
        refine lg_sld (j := i + 2) dL_law_694 (sxk (k := 2) rfl (by omega)).1 (sxk (k := 2) rfl (by omega)).2 (by omega) ?_
        refine lg_aload_n 1 dL_law_695 rfl rfl ?_
        refine lg_iload_n 0 dL_law_696 rfl rfl ?_
        refine lg_iconst (v := 3) dL_law_697 (by decide) ?_
        refine lg_iadd dL_law_698 ?_
        refine lg_sld (j := i + 3) dL_law_699 (sxk (k := 3) rfl (by omega)).1 (sxk (k := 3) rfl (by omega)).2 (by omega) ?_
        refine lg_aload_n 1 dL_law_700 rfl rfl ?_
        refine lg_iload_n 0 dL_law_701 rfl rfl ?_
        refine lg_iconst (v := 4) dL_law_702 (by decide) ?_
        refine lg_iadd dL_law_703 ?_
        refine lg_sld (j := i + 4) dL_law_704 (sxk (k := 4) rfl (by omega)).1 (sxk (k := 4) rfl (by omega)).2 (by omega) ?_
        refine lg_cM (As := [.int (xs (i + 1)), .int (xs (i + 2)), .int (xs (i + 3)), .int (xs (i + 4))]) (st := [.int r]) dL_law_705 (c_X11_cheapest h2) mov_X11_cheapest lw_1451 hnn' h3 rfl ⟨Nat.le_of_ble_eq_true rfl, Nat.le_of_ble_eq_true rfl⟩ (Nat.le_of_ble_eq_true rfl) ⟨by show k + 0 + 0 ≤ 600000; omega, by show n + 0 + 0 ≤ 7302250; omega⟩ ?_
        refine lg_icmp_eq 1372 dL_law_708 (by decide) (fun _ => ?_) (fun c => absurd rfl c)
        exact tail _ _ _ _ h4 (by show 7 * (k + 0 + 0) ≤ _; omega) (by show 7 * (n + 0 + 0) ≤ _; omega)
      | 17, _, hx =>
        refine lg_tIn 713 dL_law_33 (by rw [hx]; decide) (by rw [hx]; decide) (by rw [hx]; rfl) (by decide) ?_
        obtain ⟨r, σ', τ', h1, h2, h3, h4⟩ := hG'.2.2.2.2.2.2.2.2.2.2.2.2.2.2.2.2.2.1 σ τ hinv
        have hnn' := hI σ' τ' h4
        refine lg_aload_n 2 dL_law_713 rfl rfl ?_
        refine lg_aload_n 1 dL_law_714 rfl rfl ?_
        refine lg_iload_n 0 dL_law_715 rfl rfl ?_
        refine lg_iconst (v := 1) dL_law_716 (by decide) ?_
        refine lg_iadd dL_law_717 ?_
        refine lg_sld (j := i + 1) dL_law_718 (sxk (k := 1) rfl (by omega)).1 (sxk (k := 1) rfl (by omega)).2 (by omega) ?_
        refine lg_aload_n 1 dL_law_719 rfl rfl ?_
        refine lg_iload_n 0 dL_law_720 rfl rfl ?_
        refine lg_iconst (v := 2) dL_law_721 (by decide) ?_
        refine lg_iadd dL_law_722 ?_
        refine lg_sld (j := i + 2) dL_law_723 (sxk (k := 2) rfl (by omega)).1 (sxk (k := 2) rfl (by omega)).2 (by omega) ?_
        refine lg_aload_n 1 dL_law_724 rfl rfl ?_
        refine lg_iload_n 0 dL_law_725 rfl rfl ?_
        refine lg_iconst (v := 3) dL_law_726 (by decide) ?_
        refine lg_iadd dL_law_727 ?_
        refine lg_sld (j := i + 3) dL_law_728 (sxk (k := 3) rfl (by omega)).1 (sxk (k := 3) rfl (by omega)).2 (by omega) ?_
        refine lg_aload_n 1 dL_law_729 rfl rfl ?_
        refine lg_iload_n 0 dL_law_730 rfl rfl ?_
        refine lg_iconst (v := 4) dL_law_731 (by decide) ?_
        refine lg_iadd dL_law_732 ?_
        refine lg_sld (j := i + 4) dL_law_733 (sxk (k := 4) rfl (by omega)).1 (sxk (k := 4) rfl (by omega)).2 (by omega) ?_
        refine lg_aload_n 1 dL_law_734 rfl rfl ?_
        refine lg_iload_n 0 dL_law_735 rfl rfl ?_
        refine lg_iconst (v := 5) dL_law_736 (by decide) ?_
        refine lg_iadd dL_law_737 ?_
        refine lg_sld (j := i + 5) dL_law_738 (sxk (k := 5) rfl (by omega)).1 (sxk (k := 5) rfl (by omega)).2 (by omega) ?_
        refine lg_aload_n 1 dL_law_739 rfl rfl ?_
        refine lg_iload_n 0 dL_law_740 rfl rfl ?_
        refine lg_bipush (v := 6) dL_law_741 (by decide) ?_
        refine lg_iadd dL_law_743 ?_
        refine lg_sld (j := i + 6) dL_law_744 (sxk (k := 6) rfl (by omega)).1 (sxk (k := 6) rfl (by omega)).2 (by omega) ?_
        refine lg_cX (As := [.int (xs (i + 1)), .int (xs (i + 2)), .int (xs (i + 3)), .int (xs (i + 4)), .int (xs (i + 5)), .int (xs (i + 6))]) (st := []) dL_law_745 (c_X10_answer h1) mov_X10_answer lw_905 (by omega) rfl ⟨Nat.le_of_ble_eq_true rfl, Nat.le_of_ble_eq_true rfl⟩ (Nat.le_of_ble_eq_true rfl) ⟨by show k + 0 ≤ 600000; omega, by show n + 0 ≤ 7302250; omega⟩ ?_
        refine lg_aload_n 3 dL_law_748 rfl rfl ?_
        refine lg_aload_n 1 dL_law_749 rfl rfl ?_
        refine lg_iload_n 0 dL_law_750 rfl rfl ?_
        refine lg_iconst (v := 1) dL_law_751 (by decide) ?_
        refine lg_iadd dL_law_752 ?_
        refine lg_sld (j := i + 1) dL_law_753 (sxk (k := 1) rfl (by omega)).1 (sxk (k := 1) rfl (by omega)).2 (by omega) ?_
        refine lg_aload_n 1 dL_law_754 rfl rfl ?_
        refine lg_iload_n 0 dL_law_755 rfl rfl ?_
        refine lg_iconst (v := 2) dL_law_756 (by decide) ?_
        refine lg_iadd dL_law_757 ?_
        refine lg_sld (j := i + 2) dL_law_758 (sxk (k := 2) rfl (by omega)).1 (sxk (k := 2) rfl (by omega)).2 (by omega) ?_
        refine lg_aload_n 1 dL_law_759 rfl rfl ?_
        refine lg_iload_n 0 dL_law_760 rfl rfl ?_
        refine lg_iconst (v := 3) dL_law_761 (by decide) ?_
        refine lg_iadd dL_law_762 ?_
        refine lg_sld (j := i + 3) dL_law_763 (sxk (k := 3) rfl (by omega)).1 (sxk (k := 3) rfl (by omega)).2 (by omega) ?_
        refine lg_aload_n 1 dL_law_764 rfl rfl ?_
        refine lg_iload_n 0 dL_law_765 rfl rfl ?_
        refine lg_iconst (v := 4) dL_law_766 (by decide) ?_
        refine lg_iadd dL_law_767 ?_
        refine lg_sld (j := i + 4) dL_law_768 (sxk (k := 4) rfl (by omega)).1 (sxk (k := 4) rfl (by omega)).2 (by omega) ?_
        refine lg_aload_n 1 dL_law_769 rfl rfl ?_
        refine lg_iload_n 0 dL_law_770 rfl rfl ?_
        refine lg_iconst (v := 5) dL_law_771 (by decide) ?_
        refine lg_iadd dL_law_772 ?_
        refine lg_sld (j := i + 5) dL_law_773 (sxk (k := 5) rfl (by omega)).1 (sxk (k := 5) rfl (by omega)).2 (by omega) ?_
        refine lg_aload_n 1 dL_law_774 rfl rfl ?_
        refine lg_iload_n 0 dL_law_775 rfl rfl ?_
        refine lg_bipush (v := 6) dL_law_776 (by decide) ?_
        refine lg_iadd dL_law_778 ?_
        refine lg_sld (j := i + 6) dL_law_779 (sxk (k := 6) rfl (by omega)).1 (sxk (k := 6) rfl (by omega)).2 (by omega) ?_
        refine lg_cM (As := [.int (xs (i + 1)), .int (xs (i + 2)), .int (xs (i + 3)), .int (xs (i + 4)), .int (xs (i + 5)), .int (xs (i + 6))]) (st := [.int r]) dL_law_780 (c_X11_answer h2) mov_X11_answer lw_1481 hnn' h3 rfl ⟨Nat.le_of_ble_eq_true rfl, Nat.le_of_ble_eq_true rfl⟩ (Nat.le_of_ble_eq_true rfl) ⟨by show k + 0 + 0 ≤ 600000; omega, by show n + 0 + 0 ≤ 7302250; omega⟩ ?_
        refine lg_icmp_eq 1372 dL_law_783 (by decide) (fun _ => ?_) (fun c => absurd rfl c)
        exact tail _ _ _ _ h4 (by show 7 * (k + 0 + 0) ≤ _; omega) (by show 7 * (n + 0 + 0) ≤ _; omega)
      | 18, _, hx =>
        refine lg_tIn 788 dL_law_33 (by rw [hx]; decide) (by rw [hx]; decide) (by rw [hx]; rfl) (by decide) ?_
        obtain ⟨r, σ', τ', h1, h2, h3, h4⟩ := hG'.2.2.2.2.2.2.2.2.2.2.2.2.2.2.2.2.2.2.1 σ τ hinv
        have hnn' := hI σ' τ' h4
        refine lg_aload_n 2 dL_law_788 rfl rfl ?_
        refine lg_aload_n 1 dL_law_789 rfl rfl ?_
        refine lg_iload_n 0 dL_law_790 rfl rfl ?_
        refine lg_iconst (v := 1) dL_law_791 (by decide) ?_
        refine lg_iadd dL_law_792 ?_
        refine lg_sld (j := i + 1) dL_law_793 (sxk (k := 1) rfl (by omega)).1 (sxk (k := 1) rfl (by omega)).2 (by omega) ?_
        refine lg_aload_n 1 dL_law_794 rfl rfl ?_
        refine lg_iload_n 0 dL_law_795 rfl rfl ?_
        refine lg_iconst (v := 2) dL_law_796 (by decide) ?_
        refine lg_iadd dL_law_797 ?_
        refine lg_sld (j := i + 2) dL_law_798 (sxk (k := 2) rfl (by omega)).1 (sxk (k := 2) rfl (by omega)).2 (by omega) ?_
        refine lg_cX (As := [.int (xs (i + 1)), .int (xs (i + 2))]) (st := []) dL_law_799 (c_X10_bought h1) mov_X10_bought lw_913 (by omega) rfl ⟨Nat.le_of_ble_eq_true rfl, Nat.le_of_ble_eq_true rfl⟩ (Nat.le_of_ble_eq_true rfl) ⟨by show k + 0 ≤ 600000; omega, by show n + 0 ≤ 7302250; omega⟩ ?_
        refine lg_aload_n 3 dL_law_802 rfl rfl ?_
        refine lg_aload_n 1 dL_law_803 rfl rfl ?_
        refine lg_iload_n 0 dL_law_804 rfl rfl ?_
        refine lg_iconst (v := 1) dL_law_805 (by decide) ?_
        refine lg_iadd dL_law_806 ?_
        refine lg_sld (j := i + 1) dL_law_807 (sxk (k := 1) rfl (by omega)).1 (sxk (k := 1) rfl (by omega)).2 (by omega) ?_
        refine lg_aload_n 1 dL_law_808 rfl rfl ?_
        refine lg_iload_n 0 dL_law_809 rfl rfl ?_
        refine lg_iconst (v := 2) dL_law_810 (by decide) ?_
        refine lg_iadd dL_law_811 ?_
        refine lg_sld (j := i + 2) dL_law_812 (sxk (k := 2) rfl (by omega)).1 (sxk (k := 2) rfl (by omega)).2 (by omega) ?_
        refine lg_cM (As := [.int (xs (i + 1)), .int (xs (i + 2))]) (st := [.int r]) dL_law_813 (c_X11_bought h2) mov_X11_bought lw_1485 hnn' h3 rfl ⟨Nat.le_of_ble_eq_true rfl, Nat.le_of_ble_eq_true rfl⟩ (Nat.le_of_ble_eq_true rfl) ⟨by show k + 0 + 0 ≤ 600000; omega, by show n + 0 + 0 ≤ 7302250; omega⟩ ?_
        refine lg_icmp_eq 1372 dL_law_816 (by decide) (fun _ => ?_) (fun c => absurd rfl c)
        exact tail _ _ _ _ h4 (by show 7 * (k + 0 + 0) ≤ _; omega) (by show 7 * (n + 0 + 0) ≤ _; omega)
      | 19, _, hx =>
        refine lg_tIn 821 dL_law_33 (by rw [hx]; decide) (by rw [hx]; decide) (by rw [hx]; rfl) (by decide) ?_
        obtain ⟨r, σ', τ', h1, h2, h3, h4⟩ := hG'.2.2.2.2.2.2.2.2.2.2.2.2.2.2.2.2.2.2.2.1 σ τ hinv
        have hnn' := hI σ' τ' h4
        refine lg_aload_n 2 dL_law_821 rfl rfl ?_
        refine lg_aload_n 1 dL_law_822 rfl rfl ?_
        refine lg_iload_n 0 dL_law_823 rfl rfl ?_
        refine lg_iconst (v := 1) dL_law_824 (by decide) ?_
        refine lg_iadd dL_law_825 ?_
        refine lg_sld (j := i + 1) dL_law_826 (sxk (k := 1) rfl (by omega)).1 (sxk (k := 1) rfl (by omega)).2 (by omega) ?_
        refine lg_aload_n 1 dL_law_827 rfl rfl ?_
        refine lg_iload_n 0 dL_law_828 rfl rfl ?_
        refine lg_iconst (v := 2) dL_law_829 (by decide) ?_
        refine lg_iadd dL_law_830 ?_
        refine lg_sld (j := i + 2) dL_law_831 (sxk (k := 2) rfl (by omega)).1 (sxk (k := 2) rfl (by omega)).2 (by omega) ?_
        refine lg_aload_n 1 dL_law_832 rfl rfl ?_
        refine lg_iload_n 0 dL_law_833 rfl rfl ?_
        refine lg_iconst (v := 3) dL_law_834 (by decide) ?_
        refine lg_iadd dL_law_835 ?_
        refine lg_sld (j := i + 3) dL_law_836 (sxk (k := 3) rfl (by omega)).1 (sxk (k := 3) rfl (by omega)).2 (by omega) ?_
        refine lg_aload_n 1 dL_law_837 rfl rfl ?_
        refine lg_iload_n 0 dL_law_838 rfl rfl ?_
        refine lg_iconst (v := 4) dL_law_839 (by decide) ?_
        refine lg_iadd dL_law_840 ?_
        refine lg_sld (j := i + 4) dL_law_841 (sxk (k := 4) rfl (by omega)).1 (sxk (k := 4) rfl (by omega)).2 (by omega) ?_
        refine lg_cX (As := [.int (xs (i + 1)), .int (xs (i + 2)), .int (xs (i + 3)), .int (xs (i + 4))]) (st := []) dL_law_842 (c_X10_swings h1) mov_X10_swings lw_921 (by omega) rfl ⟨Nat.le_of_ble_eq_true rfl, Nat.le_of_ble_eq_true rfl⟩ (Nat.le_of_ble_eq_true rfl) ⟨by show k + 0 ≤ 600000; omega, by show n + 0 ≤ 7302250; omega⟩ ?_
        refine lg_aload_n 3 dL_law_845 rfl rfl ?_
        refine lg_aload_n 1 dL_law_846 rfl rfl ?_
        refine lg_iload_n 0 dL_law_847 rfl rfl ?_
        refine lg_iconst (v := 1) dL_law_848 (by decide) ?_
        refine lg_iadd dL_law_849 ?_
        refine lg_sld (j := i + 1) dL_law_850 (sxk (k := 1) rfl (by omega)).1 (sxk (k := 1) rfl (by omega)).2 (by omega) ?_
        refine lg_aload_n 1 dL_law_851 rfl rfl ?_
        refine lg_iload_n 0 dL_law_852 rfl rfl ?_
        refine lg_iconst (v := 2) dL_law_853 (by decide) ?_
        refine lg_iadd dL_law_854 ?_
        refine lg_sld (j := i + 2) dL_law_855 (sxk (k := 2) rfl (by omega)).1 (sxk (k := 2) rfl (by omega)).2 (by omega) ?_
        refine lg_aload_n 1 dL_law_856 rfl rfl ?_
        refine lg_iload_n 0 dL_law_857 rfl rfl ?_
        refine lg_iconst (v := 3) dL_law_858 (by decide) ?_
        refine lg_iadd dL_law_859 ?_
        refine lg_sld (j := i + 3) dL_law_860 (sxk (k := 3) rfl (by omega)).1 (sxk (k := 3) rfl (by omega)).2 (by omega) ?_
        refine lg_aload_n 1 dL_law_861 rfl rfl ?_
        refine lg_iload_n 0 dL_law_862 rfl rfl ?_
        refine lg_iconst (v := 4) dL_law_863 (by decide) ?_
        refine lg_iadd dL_law_864 ?_
        refine lg_sld (j := i + 4) dL_law_865 (sxk (k := 4) rfl (by omega)).1 (sxk (k := 4) rfl (by omega)).2 (by omega) ?_
        refine lg_cM (As := [.int (xs (i + 1)), .int (xs (i + 2)), .int (xs (i + 3)), .int (xs (i + 4))]) (st := [.int r]) dL_law_866 (c_X11_swings h2) mov_X11_swings lw_1490 hnn' h3 rfl ⟨Nat.le_of_ble_eq_true rfl, Nat.le_of_ble_eq_true rfl⟩ (Nat.le_of_ble_eq_true rfl) ⟨by show k + 0 + 0 ≤ 600000; omega, by show n + 0 + 0 ≤ 7302250; omega⟩ ?_
        refine lg_icmp_eq 1372 dL_law_869 (by decide) (fun _ => ?_) (fun c => absurd rfl c)
        exact tail _ _ _ _ h4 (by show 7 * (k + 0 + 0) ≤ _; omega) (by show 7 * (n + 0 + 0) ≤ _; omega)
      | 20, _, hx =>
        refine lg_tIn 874 dL_law_33 (by rw [hx]; decide) (by rw [hx]; decide) (by rw [hx]; rfl) (by decide) ?_
        obtain ⟨r, σ', τ', h1, h2, h3, h4⟩ := hG'.2.2.2.2.2.2.2.2.2.2.2.2.2.2.2.2.2.2.2.2.1 σ τ hinv
        have hnn' := hI σ' τ' h4
        refine lg_aload_n 2 dL_law_874 rfl rfl ?_
        refine lg_aload_n 1 dL_law_875 rfl rfl ?_
        refine lg_iload_n 0 dL_law_876 rfl rfl ?_
        refine lg_iconst (v := 1) dL_law_877 (by decide) ?_
        refine lg_iadd dL_law_878 ?_
        refine lg_sld (j := i + 1) dL_law_879 (sxk (k := 1) rfl (by omega)).1 (sxk (k := 1) rfl (by omega)).2 (by omega) ?_
        refine lg_aload_n 1 dL_law_880 rfl rfl ?_
        refine lg_iload_n 0 dL_law_881 rfl rfl ?_
        refine lg_iconst (v := 2) dL_law_882 (by decide) ?_
        refine lg_iadd dL_law_883 ?_
        refine lg_sld (j := i + 2) dL_law_884 (sxk (k := 2) rfl (by omega)).1 (sxk (k := 2) rfl (by omega)).2 (by omega) ?_
        refine lg_aload_n 1 dL_law_885 rfl rfl ?_
        refine lg_iload_n 0 dL_law_886 rfl rfl ?_
        refine lg_iconst (v := 3) dL_law_887 (by decide) ?_
        refine lg_iadd dL_law_888 ?_
        refine lg_sld (j := i + 3) dL_law_889 (sxk (k := 3) rfl (by omega)).1 (sxk (k := 3) rfl (by omega)).2 (by omega) ?_
        refine lg_cX (As := [.int (xs (i + 1)), .int (xs (i + 2)), .int (xs (i + 3))]) (st := []) dL_law_890 (c_X10_explained h1) mov_X10_explained lw_929 (by omega) rfl ⟨Nat.le_of_ble_eq_true rfl, Nat.le_of_ble_eq_true rfl⟩ (Nat.le_of_ble_eq_true rfl) ⟨by show k + 0 ≤ 600000; omega, by show n + 0 ≤ 7302250; omega⟩ ?_
        refine lg_aload_n 3 dL_law_893 rfl rfl ?_
        refine lg_aload_n 1 dL_law_894 rfl rfl ?_
        refine lg_iload_n 0 dL_law_895 rfl rfl ?_
        refine lg_iconst (v := 1) dL_law_896 (by decide) ?_
        refine lg_iadd dL_law_897 ?_
        refine lg_sld (j := i + 1) dL_law_898 (sxk (k := 1) rfl (by omega)).1 (sxk (k := 1) rfl (by omega)).2 (by omega) ?_
        refine lg_aload_n 1 dL_law_899 rfl rfl ?_
        refine lg_iload_n 0 dL_law_900 rfl rfl ?_
        refine lg_iconst (v := 2) dL_law_901 (by decide) ?_
        refine lg_iadd dL_law_902 ?_
        refine lg_sld (j := i + 2) dL_law_903 (sxk (k := 2) rfl (by omega)).1 (sxk (k := 2) rfl (by omega)).2 (by omega) ?_
        refine lg_aload_n 1 dL_law_904 rfl rfl ?_
        refine lg_iload_n 0 dL_law_905 rfl rfl ?_
        refine lg_iconst (v := 3) dL_law_906 (by decide) ?_
        refine lg_iadd dL_law_907 ?_
        refine lg_sld (j := i + 3) dL_law_908 (sxk (k := 3) rfl (by omega)).1 (sxk (k := 3) rfl (by omega)).2 (by omega) ?_
        refine lg_cM (As := [.int (xs (i + 1)), .int (xs (i + 2)), .int (xs (i + 3))]) (st := [.int r]) dL_law_909 (c_X11_explained h2) mov_X11_explained lw_1494 hnn' h3 rfl ⟨Nat.le_of_ble_eq_true rfl, Nat.le_of_ble_eq_true rfl⟩ (Nat.le_of_ble_eq_true rfl) ⟨by show k + 0 + 0 ≤ 600000; omega, by show n + 0 + 0 ≤ 7302250; omega⟩ ?_
        refine lg_icmp_eq 1372 dL_law_912 (by decide) (fun _ => ?_) (fun c => absurd rfl c)
        exact tail _ _ _ _ h4 (by show 7 * (k + 0 + 0) ≤ _; omega) (by show 7 * (n + 0 + 0) ≤ _; omega)
      | 21, _, hx =>
        refine lg_tIn 917 dL_law_33 (by rw [hx]; decide) (by rw [hx]; decide) (by rw [hx]; rfl) (by decide) ?_
        obtain ⟨r, σ', τ', h1, h2, h3, h4⟩ := hG'.2.2.2.2.2.2.2.2.2.2.2.2.2.2.2.2.2.2.2.2.2.1 σ τ hinv
        have hnn' := hI σ' τ' h4
        refine lg_aload_n 2 dL_law_917 rfl rfl ?_
        refine lg_aload_n 1 dL_law_918 rfl rfl ?_
        refine lg_iload_n 0 dL_law_919 rfl rfl ?_
        refine lg_iconst (v := 1) dL_law_920 (by decide) ?_
        refine lg_iadd dL_law_921 ?_
        refine lg_sld (j := i + 1) dL_law_922 (sxk (k := 1) rfl (by omega)).1 (sxk (k := 1) rfl (by omega)).2 (by omega) ?_
        refine lg_aload_n 1 dL_law_923 rfl rfl ?_
        refine lg_iload_n 0 dL_law_924 rfl rfl ?_
        refine lg_iconst (v := 2) dL_law_925 (by decide) ?_
        refine lg_iadd dL_law_926 ?_
        refine lg_sld (j := i + 2) dL_law_927 (sxk (k := 2) rfl (by omega)).1 (sxk (k := 2) rfl (by omega)).2 (by omega) ?_
        refine lg_aload_n 1 dL_law_928 rfl rfl ?_
        refine lg_iload_n 0 dL_law_929 rfl rfl ?_
        refine lg_iconst (v := 3) dL_law_930 (by decide) ?_
        refine lg_iadd dL_law_931 ?_
        refine lg_sld (j := i + 3) dL_law_932 (sxk (k := 3) rfl (by omega)).1 (sxk (k := 3) rfl (by omega)).2 (by omega) ?_
        refine lg_cX (As := [.int (xs (i + 1)), .int (xs (i + 2)), .int (xs (i + 3))]) (st := []) dL_law_933 (c_X10_trueWind h1) mov_X10_trueWind lw_939 (by omega) rfl ⟨Nat.le_of_ble_eq_true rfl, Nat.le_of_ble_eq_true rfl⟩ (Nat.le_of_ble_eq_true rfl) ⟨by show k + 0 ≤ 600000; omega, by show n + 0 ≤ 7302250; omega⟩ ?_
        refine lg_aload_n 3 dL_law_936 rfl rfl ?_
        refine lg_aload_n 1 dL_law_937 rfl rfl ?_
        refine lg_iload_n 0 dL_law_938 rfl rfl ?_
        refine lg_iconst (v := 1) dL_law_939 (by decide) ?_
        refine lg_iadd dL_law_940 ?_
        refine lg_sld (j := i + 1) dL_law_941 (sxk (k := 1) rfl (by omega)).1 (sxk (k := 1) rfl (by omega)).2 (by omega) ?_
        refine lg_aload_n 1 dL_law_942 rfl rfl ?_
        refine lg_iload_n 0 dL_law_943 rfl rfl ?_
        refine lg_iconst (v := 2) dL_law_944 (by decide) ?_
        refine lg_iadd dL_law_945 ?_
        refine lg_sld (j := i + 2) dL_law_946 (sxk (k := 2) rfl (by omega)).1 (sxk (k := 2) rfl (by omega)).2 (by omega) ?_
        refine lg_aload_n 1 dL_law_947 rfl rfl ?_
        refine lg_iload_n 0 dL_law_948 rfl rfl ?_
        refine lg_iconst (v := 3) dL_law_949 (by decide) ?_
        refine lg_iadd dL_law_950 ?_
        refine lg_sld (j := i + 3) dL_law_951 (sxk (k := 3) rfl (by omega)).1 (sxk (k := 3) rfl (by omega)).2 (by omega) ?_
        refine lg_cM (As := [.int (xs (i + 1)), .int (xs (i + 2)), .int (xs (i + 3))]) (st := [.int r]) dL_law_952 (c_X11_trueWind h2) mov_X11_trueWind lw_1506 hnn' h3 rfl ⟨Nat.le_of_ble_eq_true rfl, Nat.le_of_ble_eq_true rfl⟩ (Nat.le_of_ble_eq_true rfl) ⟨by show k + 0 + 0 ≤ 600000; omega, by show n + 0 + 0 ≤ 7302250; omega⟩ ?_
        refine lg_icmp_eq 1372 dL_law_955 (by decide) (fun _ => ?_) (fun c => absurd rfl c)
        exact tail _ _ _ _ h4 (by show 7 * (k + 0 + 0) ≤ _; omega) (by show 7 * (n + 0 + 0) ≤ _; omega)
      | 22, _, hx =>
        refine lg_tIn 960 dL_law_33 (by rw [hx]; decide) (by rw [hx]; decide) (by rw [hx]; rfl) (by decide) ?_
        obtain ⟨r, σ', τ', h1, h2, h3, h4⟩ := hG'.2.2.2.2.2.2.2.2.2.2.2.2.2.2.2.2.2.2.2.2.2.2.1 σ τ hinv
        have hnn' := hI σ' τ' h4
        refine lg_aload_n 2 dL_law_960 rfl rfl ?_
        refine lg_aload_n 1 dL_law_961 rfl rfl ?_
        refine lg_iload_n 0 dL_law_962 rfl rfl ?_
        refine lg_iconst (v := 1) dL_law_963 (by decide) ?_
        refine lg_iadd dL_law_964 ?_
        refine lg_sld (j := i + 1) dL_law_965 (sxk (k := 1) rfl (by omega)).1 (sxk (k := 1) rfl (by omega)).2 (by omega) ?_
        refine lg_aload_n 1 dL_law_966 rfl rfl ?_
        refine lg_iload_n 0 dL_law_967 rfl rfl ?_
        refine lg_iconst (v := 2) dL_law_968 (by decide) ?_
        refine lg_iadd dL_law_969 ?_
        refine lg_sld (j := i + 2) dL_law_970 (sxk (k := 2) rfl (by omega)).1 (sxk (k := 2) rfl (by omega)).2 (by omega) ?_
        refine lg_aload_n 1 dL_law_971 rfl rfl ?_
        refine lg_iload_n 0 dL_law_972 rfl rfl ?_
        refine lg_iconst (v := 3) dL_law_973 (by decide) ?_
        refine lg_iadd dL_law_974 ?_
        refine lg_sld (j := i + 3) dL_law_975 (sxk (k := 3) rfl (by omega)).1 (sxk (k := 3) rfl (by omega)).2 (by omega) ?_
        refine lg_aload_n 1 dL_law_976 rfl rfl ?_
        refine lg_iload_n 0 dL_law_977 rfl rfl ?_
        refine lg_iconst (v := 4) dL_law_978 (by decide) ?_
        refine lg_iadd dL_law_979 ?_
        refine lg_sld (j := i + 4) dL_law_980 (sxk (k := 4) rfl (by omega)).1 (sxk (k := 4) rfl (by omega)).2 (by omega) ?_
        refine lg_aload_n 1 dL_law_981 rfl rfl ?_
        refine lg_iload_n 0 dL_law_982 rfl rfl ?_
        refine lg_iconst (v := 5) dL_law_983 (by decide) ?_
        refine lg_iadd dL_law_984 ?_
        refine lg_sld (j := i + 5) dL_law_985 (sxk (k := 5) rfl (by omega)).1 (sxk (k := 5) rfl (by omega)).2 (by omega) ?_
        refine lg_cX (As := [.int (xs (i + 1)), .int (xs (i + 2)), .int (xs (i + 3)), .int (xs (i + 4)), .int (xs (i + 5))]) (st := []) dL_law_986 (c_X10_after h1) mov_X10_after lw_948 (by omega) rfl ⟨Nat.le_of_ble_eq_true rfl, Nat.le_of_ble_eq_true rfl⟩ (Nat.le_of_ble_eq_true rfl) ⟨by show k + 0 ≤ 600000; omega, by show n + 0 ≤ 7302250; omega⟩ ?_
        refine lg_aload_n 3 dL_law_989 rfl rfl ?_
        refine lg_aload_n 1 dL_law_990 rfl rfl ?_
        refine lg_iload_n 0 dL_law_991 rfl rfl ?_
        refine lg_iconst (v := 1) dL_law_992 (by decide) ?_
        refine lg_iadd dL_law_993 ?_
        refine lg_sld (j := i + 1) dL_law_994 (sxk (k := 1) rfl (by omega)).1 (sxk (k := 1) rfl (by omega)).2 (by omega) ?_
        refine lg_aload_n 1 dL_law_995 rfl rfl ?_
        refine lg_iload_n 0 dL_law_996 rfl rfl ?_
        refine lg_iconst (v := 2) dL_law_997 (by decide) ?_
        refine lg_iadd dL_law_998 ?_
        refine lg_sld (j := i + 2) dL_law_999 (sxk (k := 2) rfl (by omega)).1 (sxk (k := 2) rfl (by omega)).2 (by omega) ?_
        refine lg_aload_n 1 dL_law_1000 rfl rfl ?_
        refine lg_iload_n 0 dL_law_1001 rfl rfl ?_
        refine lg_iconst (v := 3) dL_law_1002 (by decide) ?_
        refine lg_iadd dL_law_1003 ?_
        refine lg_sld (j := i + 3) dL_law_1004 (sxk (k := 3) rfl (by omega)).1 (sxk (k := 3) rfl (by omega)).2 (by omega) ?_
        refine lg_aload_n 1 dL_law_1005 rfl rfl ?_
        refine lg_iload_n 0 dL_law_1006 rfl rfl ?_
        refine lg_iconst (v := 4) dL_law_1007 (by decide) ?_
        refine lg_iadd dL_law_1008 ?_
        refine lg_sld (j := i + 4) dL_law_1009 (sxk (k := 4) rfl (by omega)).1 (sxk (k := 4) rfl (by omega)).2 (by omega) ?_
        refine lg_aload_n 1 dL_law_1010 rfl rfl ?_
        refine lg_iload_n 0 dL_law_1011 rfl rfl ?_
        refine lg_iconst (v := 5) dL_law_1012 (by decide) ?_
        refine lg_iadd dL_law_1013 ?_
        refine lg_sld (j := i + 5) dL_law_1014 (sxk (k := 5) rfl (by omega)).1 (sxk (k := 5) rfl (by omega)).2 (by omega) ?_
        refine lg_cM (As := [.int (xs (i + 1)), .int (xs (i + 2)), .int (xs (i + 3)), .int (xs (i + 4)), .int (xs (i + 5))]) (st := [.int r]) dL_law_1015 (c_X11_after h2) mov_X11_after lw_1510 hnn' h3 rfl ⟨Nat.le_of_ble_eq_true rfl, Nat.le_of_ble_eq_true rfl⟩ (Nat.le_of_ble_eq_true rfl) ⟨by show k + 0 + 0 ≤ 600000; omega, by show n + 0 + 0 ≤ 7302250; omega⟩ ?_
        refine lg_icmp_eq 1372 dL_law_1018 (by decide) (fun _ => ?_) (fun c => absurd rfl c)
        exact tail _ _ _ _ h4 (by show 7 * (k + 0 + 0) ≤ _; omega) (by show 7 * (n + 0 + 0) ≤ _; omega)
      | 23, _, hx =>
        refine lg_tIn 1023 dL_law_33 (by rw [hx]; decide) (by rw [hx]; decide) (by rw [hx]; rfl) (by decide) ?_
        obtain ⟨r, σ', τ', h1, h2, h3, h4⟩ := hG'.2.2.2.2.2.2.2.2.2.2.2.2.2.2.2.2.2.2.2.2.2.2.2.1 σ τ hinv
        have hnn' := hI σ' τ' h4
        refine lg_aload_n 2 dL_law_1023 rfl rfl ?_
        refine lg_aload_n 1 dL_law_1024 rfl rfl ?_
        refine lg_iload_n 0 dL_law_1025 rfl rfl ?_
        refine lg_iconst (v := 1) dL_law_1026 (by decide) ?_
        refine lg_iadd dL_law_1027 ?_
        refine lg_sld (j := i + 1) dL_law_1028 (sxk (k := 1) rfl (by omega)).1 (sxk (k := 1) rfl (by omega)).2 (by omega) ?_
        refine lg_aload_n 1 dL_law_1029 rfl rfl ?_
        refine lg_iload_n 0 dL_law_1030 rfl rfl ?_
        refine lg_iconst (v := 2) dL_law_1031 (by decide) ?_
        refine lg_iadd dL_law_1032 ?_
        refine lg_sld (j := i + 2) dL_law_1033 (sxk (k := 2) rfl (by omega)).1 (sxk (k := 2) rfl (by omega)).2 (by omega) ?_
        refine lg_aload_n 1 dL_law_1034 rfl rfl ?_
        refine lg_iload_n 0 dL_law_1035 rfl rfl ?_
        refine lg_iconst (v := 3) dL_law_1036 (by decide) ?_
        refine lg_iadd dL_law_1037 ?_
        refine lg_sld (j := i + 3) dL_law_1038 (sxk (k := 3) rfl (by omega)).1 (sxk (k := 3) rfl (by omega)).2 (by omega) ?_
        refine lg_aload_n 1 dL_law_1039 rfl rfl ?_
        refine lg_iload_n 0 dL_law_1040 rfl rfl ?_
        refine lg_iconst (v := 4) dL_law_1041 (by decide) ?_
        refine lg_iadd dL_law_1042 ?_
        refine lg_sld (j := i + 4) dL_law_1043 (sxk (k := 4) rfl (by omega)).1 (sxk (k := 4) rfl (by omega)).2 (by omega) ?_
        refine lg_cX (As := [.int (xs (i + 1)), .int (xs (i + 2)), .int (xs (i + 3)), .int (xs (i + 4))]) (st := []) dL_law_1044 (c_X10_felled h1) mov_X10_felled lw_956 (by omega) rfl ⟨Nat.le_of_ble_eq_true rfl, Nat.le_of_ble_eq_true rfl⟩ (Nat.le_of_ble_eq_true rfl) ⟨by show k + 0 ≤ 600000; omega, by show n + 0 ≤ 7302250; omega⟩ ?_
        refine lg_aload_n 3 dL_law_1047 rfl rfl ?_
        refine lg_aload_n 1 dL_law_1048 rfl rfl ?_
        refine lg_iload_n 0 dL_law_1049 rfl rfl ?_
        refine lg_iconst (v := 1) dL_law_1050 (by decide) ?_
        refine lg_iadd dL_law_1051 ?_
        refine lg_sld (j := i + 1) dL_law_1052 (sxk (k := 1) rfl (by omega)).1 (sxk (k := 1) rfl (by omega)).2 (by omega) ?_
        refine lg_aload_n 1 dL_law_1053 rfl rfl ?_
        refine lg_iload_n 0 dL_law_1054 rfl rfl ?_
        refine lg_iconst (v := 2) dL_law_1055 (by decide) ?_
        refine lg_iadd dL_law_1056 ?_
        refine lg_sld (j := i + 2) dL_law_1057 (sxk (k := 2) rfl (by omega)).1 (sxk (k := 2) rfl (by omega)).2 (by omega) ?_
        refine lg_aload_n 1 dL_law_1058 rfl rfl ?_
        refine lg_iload_n 0 dL_law_1059 rfl rfl ?_
        refine lg_iconst (v := 3) dL_law_1060 (by decide) ?_
        refine lg_iadd dL_law_1061 ?_
        refine lg_sld (j := i + 3) dL_law_1062 (sxk (k := 3) rfl (by omega)).1 (sxk (k := 3) rfl (by omega)).2 (by omega) ?_
        refine lg_aload_n 1 dL_law_1063 rfl rfl ?_
        refine lg_iload_n 0 dL_law_1064 rfl rfl ?_
        refine lg_iconst (v := 4) dL_law_1065 (by decide) ?_
        refine lg_iadd dL_law_1066 ?_
        refine lg_sld (j := i + 4) dL_law_1067 (sxk (k := 4) rfl (by omega)).1 (sxk (k := 4) rfl (by omega)).2 (by omega) ?_
        refine lg_cM (As := [.int (xs (i + 1)), .int (xs (i + 2)), .int (xs (i + 3)), .int (xs (i + 4))]) (st := [.int r]) dL_law_1068 (c_X11_felled h2) mov_X11_felled lw_1518 hnn' h3 rfl ⟨Nat.le_of_ble_eq_true rfl, Nat.le_of_ble_eq_true rfl⟩ (Nat.le_of_ble_eq_true rfl) ⟨by show k + 0 + 0 ≤ 600000; omega, by show n + 0 + 0 ≤ 7302250; omega⟩ ?_
        refine lg_icmp_eq 1372 dL_law_1071 (by decide) (fun _ => ?_) (fun c => absurd rfl c)
        exact tail _ _ _ _ h4 (by show 7 * (k + 0 + 0) ≤ _; omega) (by show 7 * (n + 0 + 0) ≤ _; omega)
      | 24, _, hx =>
        refine lg_tIn 1076 dL_law_33 (by rw [hx]; decide) (by rw [hx]; decide) (by rw [hx]; rfl) (by decide) ?_
        obtain ⟨r, σ', τ', h1, h2, h3, h4⟩ := hG'.2.2.2.2.2.2.2.2.2.2.2.2.2.2.2.2.2.2.2.2.2.2.2.2.1 σ τ hinv
        have hnn' := hI σ' τ' h4
        refine lg_aload_n 2 dL_law_1076 rfl rfl ?_
        refine lg_aload_n 1 dL_law_1077 rfl rfl ?_
        refine lg_iload_n 0 dL_law_1078 rfl rfl ?_
        refine lg_iconst (v := 1) dL_law_1079 (by decide) ?_
        refine lg_iadd dL_law_1080 ?_
        refine lg_sld (j := i + 1) dL_law_1081 (sxk (k := 1) rfl (by omega)).1 (sxk (k := 1) rfl (by omega)).2 (by omega) ?_
        refine lg_aload_n 1 dL_law_1082 rfl rfl ?_
        refine lg_iload_n 0 dL_law_1083 rfl rfl ?_
        refine lg_iconst (v := 2) dL_law_1084 (by decide) ?_
        refine lg_iadd dL_law_1085 ?_
        refine lg_sld (j := i + 2) dL_law_1086 (sxk (k := 2) rfl (by omega)).1 (sxk (k := 2) rfl (by omega)).2 (by omega) ?_
        refine lg_aload_n 1 dL_law_1087 rfl rfl ?_
        refine lg_iload_n 0 dL_law_1088 rfl rfl ?_
        refine lg_iconst (v := 3) dL_law_1089 (by decide) ?_
        refine lg_iadd dL_law_1090 ?_
        refine lg_sld (j := i + 3) dL_law_1091 (sxk (k := 3) rfl (by omega)).1 (sxk (k := 3) rfl (by omega)).2 (by omega) ?_
        refine lg_aload_n 1 dL_law_1092 rfl rfl ?_
        refine lg_iload_n 0 dL_law_1093 rfl rfl ?_
        refine lg_iconst (v := 4) dL_law_1094 (by decide) ?_
        refine lg_iadd dL_law_1095 ?_
        refine lg_sld (j := i + 4) dL_law_1096 (sxk (k := 4) rfl (by omega)).1 (sxk (k := 4) rfl (by omega)).2 (by omega) ?_
        refine lg_aload_n 1 dL_law_1097 rfl rfl ?_
        refine lg_iload_n 0 dL_law_1098 rfl rfl ?_
        refine lg_iconst (v := 5) dL_law_1099 (by decide) ?_
        refine lg_iadd dL_law_1100 ?_
        refine lg_sld (j := i + 5) dL_law_1101 (sxk (k := 5) rfl (by omega)).1 (sxk (k := 5) rfl (by omega)).2 (by omega) ?_
        refine lg_cX (As := [.int (xs (i + 1)), .int (xs (i + 2)), .int (xs (i + 3)), .int (xs (i + 4)), .int (xs (i + 5))]) (st := []) dL_law_1102 (c_X10_oiled h1) mov_X10_oiled lw_960 (by omega) rfl ⟨Nat.le_of_ble_eq_true rfl, Nat.le_of_ble_eq_true rfl⟩ (Nat.le_of_ble_eq_true rfl) ⟨by show k + 0 ≤ 600000; omega, by show n + 0 ≤ 7302250; omega⟩ ?_
        refine lg_aload_n 3 dL_law_1105 rfl rfl ?_
        refine lg_aload_n 1 dL_law_1106 rfl rfl ?_
        refine lg_iload_n 0 dL_law_1107 rfl rfl ?_
        refine lg_iconst (v := 1) dL_law_1108 (by decide) ?_
        refine lg_iadd dL_law_1109 ?_
        refine lg_sld (j := i + 1) dL_law_1110 (sxk (k := 1) rfl (by omega)).1 (sxk (k := 1) rfl (by omega)).2 (by omega) ?_
        refine lg_aload_n 1 dL_law_1111 rfl rfl ?_
        refine lg_iload_n 0 dL_law_1112 rfl rfl ?_
        refine lg_iconst (v := 2) dL_law_1113 (by decide) ?_
        refine lg_iadd dL_law_1114 ?_
        refine lg_sld (j := i + 2) dL_law_1115 (sxk (k := 2) rfl (by omega)).1 (sxk (k := 2) rfl (by omega)).2 (by omega) ?_
        refine lg_aload_n 1 dL_law_1116 rfl rfl ?_
        refine lg_iload_n 0 dL_law_1117 rfl rfl ?_
        refine lg_iconst (v := 3) dL_law_1118 (by decide) ?_
        refine lg_iadd dL_law_1119 ?_
        refine lg_sld (j := i + 3) dL_law_1120 (sxk (k := 3) rfl (by omega)).1 (sxk (k := 3) rfl (by omega)).2 (by omega) ?_
        refine lg_aload_n 1 dL_law_1121 rfl rfl ?_
        refine lg_iload_n 0 dL_law_1122 rfl rfl ?_
        refine lg_iconst (v := 4) dL_law_1123 (by decide) ?_
        refine lg_iadd dL_law_1124 ?_
        refine lg_sld (j := i + 4) dL_law_1125 (sxk (k := 4) rfl (by omega)).1 (sxk (k := 4) rfl (by omega)).2 (by omega) ?_
        refine lg_aload_n 1 dL_law_1126 rfl rfl ?_
        refine lg_iload_n 0 dL_law_1127 rfl rfl ?_
        refine lg_iconst (v := 5) dL_law_1128 (by decide) ?_
        refine lg_iadd dL_law_1129 ?_
        refine lg_sld (j := i + 5) dL_law_1130 (sxk (k := 5) rfl (by omega)).1 (sxk (k := 5) rfl (by omega)).2 (by omega) ?_
        refine lg_cM (As := [.int (xs (i + 1)), .int (xs (i + 2)), .int (xs (i + 3)), .int (xs (i + 4)), .int (xs (i + 5))]) (st := [.int r]) dL_law_1131 (c_X11_oiled h2) mov_X11_oiled lw_1522 hnn' h3 rfl ⟨Nat.le_of_ble_eq_true rfl, Nat.le_of_ble_eq_true rfl⟩ (Nat.le_of_ble_eq_true rfl) ⟨by show k + 0 + 0 ≤ 600000; omega, by show n + 0 + 0 ≤ 7302250; omega⟩ ?_
        refine lg_icmp_eq 1372 dL_law_1134 (by decide) (fun _ => ?_) (fun c => absurd rfl c)
        exact tail _ _ _ _ h4 (by show 7 * (k + 0 + 0) ≤ _; omega) (by show 7 * (n + 0 + 0) ≤ _; omega)
      | 25, _, hx =>
        refine lg_tIn 1139 dL_law_33 (by rw [hx]; decide) (by rw [hx]; decide) (by rw [hx]; rfl) (by decide) ?_
        obtain ⟨r, σ', τ', h1, h2, h3, h4⟩ := hG'.2.2.2.2.2.2.2.2.2.2.2.2.2.2.2.2.2.2.2.2.2.2.2.2.2.1 σ τ hinv
        have hnn' := hI σ' τ' h4
        refine lg_aload_n 2 dL_law_1139 rfl rfl ?_
        refine lg_aload_n 1 dL_law_1140 rfl rfl ?_
        refine lg_iload_n 0 dL_law_1141 rfl rfl ?_
        refine lg_iconst (v := 1) dL_law_1142 (by decide) ?_
        refine lg_iadd dL_law_1143 ?_
        refine lg_sld (j := i + 1) dL_law_1144 (sxk (k := 1) rfl (by omega)).1 (sxk (k := 1) rfl (by omega)).2 (by omega) ?_
        refine lg_aload_n 1 dL_law_1145 rfl rfl ?_
        refine lg_iload_n 0 dL_law_1146 rfl rfl ?_
        refine lg_iconst (v := 2) dL_law_1147 (by decide) ?_
        refine lg_iadd dL_law_1148 ?_
        refine lg_sld (j := i + 2) dL_law_1149 (sxk (k := 2) rfl (by omega)).1 (sxk (k := 2) rfl (by omega)).2 (by omega) ?_
        refine lg_aload_n 1 dL_law_1150 rfl rfl ?_
        refine lg_iload_n 0 dL_law_1151 rfl rfl ?_
        refine lg_iconst (v := 3) dL_law_1152 (by decide) ?_
        refine lg_iadd dL_law_1153 ?_
        refine lg_sld (j := i + 3) dL_law_1154 (sxk (k := 3) rfl (by omega)).1 (sxk (k := 3) rfl (by omega)).2 (by omega) ?_
        refine lg_aload_n 1 dL_law_1155 rfl rfl ?_
        refine lg_iload_n 0 dL_law_1156 rfl rfl ?_
        refine lg_iconst (v := 4) dL_law_1157 (by decide) ?_
        refine lg_iadd dL_law_1158 ?_
        refine lg_sld (j := i + 4) dL_law_1159 (sxk (k := 4) rfl (by omega)).1 (sxk (k := 4) rfl (by omega)).2 (by omega) ?_
        refine lg_cX (As := [.int (xs (i + 1)), .int (xs (i + 2)), .int (xs (i + 3)), .int (xs (i + 4))]) (st := []) dL_law_1160 (c_X10_bestPoint h1) mov_X10_bestPoint lw_964 (by omega) rfl ⟨Nat.le_of_ble_eq_true rfl, Nat.le_of_ble_eq_true rfl⟩ (Nat.le_of_ble_eq_true rfl) ⟨by show k + 0 ≤ 600000; omega, by show n + 0 ≤ 7302250; omega⟩ ?_
        refine lg_aload_n 3 dL_law_1163 rfl rfl ?_
        refine lg_aload_n 1 dL_law_1164 rfl rfl ?_
        refine lg_iload_n 0 dL_law_1165 rfl rfl ?_
        refine lg_iconst (v := 1) dL_law_1166 (by decide) ?_
        refine lg_iadd dL_law_1167 ?_
        refine lg_sld (j := i + 1) dL_law_1168 (sxk (k := 1) rfl (by omega)).1 (sxk (k := 1) rfl (by omega)).2 (by omega) ?_
        refine lg_aload_n 1 dL_law_1169 rfl rfl ?_
        refine lg_iload_n 0 dL_law_1170 rfl rfl ?_
        refine lg_iconst (v := 2) dL_law_1171 (by decide) ?_
        refine lg_iadd dL_law_1172 ?_
        refine lg_sld (j := i + 2) dL_law_1173 (sxk (k := 2) rfl (by omega)).1 (sxk (k := 2) rfl (by omega)).2 (by omega) ?_
        refine lg_aload_n 1 dL_law_1174 rfl rfl ?_
        refine lg_iload_n 0 dL_law_1175 rfl rfl ?_
        refine lg_iconst (v := 3) dL_law_1176 (by decide) ?_
        refine lg_iadd dL_law_1177 ?_
        refine lg_sld (j := i + 3) dL_law_1178 (sxk (k := 3) rfl (by omega)).1 (sxk (k := 3) rfl (by omega)).2 (by omega) ?_
        refine lg_aload_n 1 dL_law_1179 rfl rfl ?_
        refine lg_iload_n 0 dL_law_1180 rfl rfl ?_
        refine lg_iconst (v := 4) dL_law_1181 (by decide) ?_
        refine lg_iadd dL_law_1182 ?_
        refine lg_sld (j := i + 4) dL_law_1183 (sxk (k := 4) rfl (by omega)).1 (sxk (k := 4) rfl (by omega)).2 (by omega) ?_
        refine lg_cM (As := [.int (xs (i + 1)), .int (xs (i + 2)), .int (xs (i + 3)), .int (xs (i + 4))]) (st := [.int r]) dL_law_1184 (c_X11_bestPoint h2) mov_X11_bestPoint lw_1526 hnn' h3 rfl ⟨Nat.le_of_ble_eq_true rfl, Nat.le_of_ble_eq_true rfl⟩ (Nat.le_of_ble_eq_true rfl) ⟨by show k + 0 + 0 ≤ 600000; omega, by show n + 0 + 0 ≤ 7302250; omega⟩ ?_
        refine lg_icmp_eq 1372 dL_law_1187 (by decide) (fun _ => ?_) (fun c => absurd rfl c)
        exact tail _ _ _ _ h4 (by show 7 * (k + 0 + 0) ≤ _; omega) (by show 7 * (n + 0 + 0) ≤ _; omega)
      | 26, _, hx =>
        refine lg_tIn 1192 dL_law_33 (by rw [hx]; decide) (by rw [hx]; decide) (by rw [hx]; rfl) (by decide) ?_
        obtain ⟨r, σ', τ', h1, h2, h3, h4⟩ := hG'.2.2.2.2.2.2.2.2.2.2.2.2.2.2.2.2.2.2.2.2.2.2.2.2.2.2.1 σ τ hinv
        have hnn' := hI σ' τ' h4
        refine lg_aload_n 2 dL_law_1192 rfl rfl ?_
        refine lg_aload_n 1 dL_law_1193 rfl rfl ?_
        refine lg_iload_n 0 dL_law_1194 rfl rfl ?_
        refine lg_iconst (v := 1) dL_law_1195 (by decide) ?_
        refine lg_iadd dL_law_1196 ?_
        refine lg_sld (j := i + 1) dL_law_1197 (sxk (k := 1) rfl (by omega)).1 (sxk (k := 1) rfl (by omega)).2 (by omega) ?_
        refine lg_cX (As := [.int (xs (i + 1))]) (st := []) dL_law_1198 (c_X10_seed h1) mov_X10_seed lw_972 (by omega) rfl ⟨Nat.le_of_ble_eq_true rfl, Nat.le_of_ble_eq_true rfl⟩ (Nat.le_of_ble_eq_true rfl) ⟨by show k + 0 ≤ 600000; omega, by show n + 0 ≤ 7302250; omega⟩ ?_
        refine lg_aload_n 3 dL_law_1201 rfl rfl ?_
        refine lg_aload_n 1 dL_law_1202 rfl rfl ?_
        refine lg_iload_n 0 dL_law_1203 rfl rfl ?_
        refine lg_iconst (v := 1) dL_law_1204 (by decide) ?_
        refine lg_iadd dL_law_1205 ?_
        refine lg_sld (j := i + 1) dL_law_1206 (sxk (k := 1) rfl (by omega)).1 (sxk (k := 1) rfl (by omega)).2 (by omega) ?_
        refine lg_cM (As := [.int (xs (i + 1))]) (st := [.int r]) dL_law_1207 (c_X11_seed h2) mov_X11_seed lw_1532 hnn' h3 rfl ⟨Nat.le_of_ble_eq_true rfl, Nat.le_of_ble_eq_true rfl⟩ (Nat.le_of_ble_eq_true rfl) ⟨by show k + 0 + 0 ≤ 600000; omega, by show n + 0 + 0 ≤ 7302250; omega⟩ ?_
        refine lg_icmp_eq 1372 dL_law_1210 (by decide) (fun _ => ?_) (fun c => absurd rfl c)
        exact tail _ _ _ _ h4 (by show 7 * (k + 0 + 0) ≤ _; omega) (by show 7 * (n + 0 + 0) ≤ _; omega)
      | 27, _, hx =>
        refine lg_tIn 1215 dL_law_33 (by rw [hx]; decide) (by rw [hx]; decide) (by rw [hx]; rfl) (by decide) ?_
        obtain ⟨r, σ', τ', h1, h2, h3, h4⟩ := hG'.2.2.2.2.2.2.2.2.2.2.2.2.2.2.2.2.2.2.2.2.2.2.2.2.2.2.2.1 σ τ hinv
        have hnn' := hI σ' τ' h4
        refine lg_aload_n 2 dL_law_1215 rfl rfl ?_
        refine lg_cX (As := []) (st := []) dL_law_1216 (c_X10_lot h1) mov_X10_lot lw_976 (by omega) rfl ⟨Nat.le_of_ble_eq_true rfl, Nat.le_of_ble_eq_true rfl⟩ (Nat.le_of_ble_eq_true rfl) ⟨by show k + 0 ≤ 600000; omega, by show n + 0 ≤ 7302250; omega⟩ ?_
        refine lg_aload_n 3 dL_law_1219 rfl rfl ?_
        refine lg_cM (As := []) (st := [.int r]) dL_law_1220 (c_X11_lot h2) mov_X11_lot lw_1536 hnn' h3 rfl ⟨Nat.le_of_ble_eq_true rfl, Nat.le_of_ble_eq_true rfl⟩ (Nat.le_of_ble_eq_true rfl) ⟨by show k + 0 + 0 ≤ 600000; omega, by show n + 0 + 0 ≤ 7302250; omega⟩ ?_
        refine lg_icmp_eq 1372 dL_law_1223 (by decide) (fun _ => ?_) (fun c => absurd rfl c)
        exact tail _ _ _ _ h4 (by show 7 * (k + 0 + 0) ≤ _; omega) (by show 7 * (n + 0 + 0) ≤ _; omega)
      | 28, _, hx =>
        refine lg_tIn 1228 dL_law_33 (by rw [hx]; decide) (by rw [hx]; decide) (by rw [hx]; rfl) (by decide) ?_
        obtain ⟨r, σ', τ', h1, h2, h3, h4⟩ := hG'.2.2.2.2.2.2.2.2.2.2.2.2.2.2.2.2.2.2.2.2.2.2.2.2.2.2.2.2.1 σ τ hinv
        have hnn' := hI σ' τ' h4
        refine lg_aload_n 2 dL_law_1228 rfl rfl ?_
        refine lg_aload_n 1 dL_law_1229 rfl rfl ?_
        refine lg_iload_n 0 dL_law_1230 rfl rfl ?_
        refine lg_iconst (v := 1) dL_law_1231 (by decide) ?_
        refine lg_iadd dL_law_1232 ?_
        refine lg_sld (j := i + 1) dL_law_1233 (sxk (k := 1) rfl (by omega)).1 (sxk (k := 1) rfl (by omega)).2 (by omega) ?_
        refine lg_aload_n 1 dL_law_1234 rfl rfl ?_
        refine lg_iload_n 0 dL_law_1235 rfl rfl ?_
        refine lg_iconst (v := 2) dL_law_1236 (by decide) ?_
        refine lg_iadd dL_law_1237 ?_
        refine lg_sld (j := i + 2) dL_law_1238 (sxk (k := 2) rfl (by omega)).1 (sxk (k := 2) rfl (by omega)).2 (by omega) ?_
        refine lg_aload_n 1 dL_law_1239 rfl rfl ?_
        refine lg_iload_n 0 dL_law_1240 rfl rfl ?_
        refine lg_iconst (v := 3) dL_law_1241 (by decide) ?_
        refine lg_iadd dL_law_1242 ?_
        refine lg_sld (j := i + 3) dL_law_1243 (sxk (k := 3) rfl (by omega)).1 (sxk (k := 3) rfl (by omega)).2 (by omega) ?_
        refine lg_aload_n 1 dL_law_1244 rfl rfl ?_
        refine lg_iload_n 0 dL_law_1245 rfl rfl ?_
        refine lg_iconst (v := 4) dL_law_1246 (by decide) ?_
        refine lg_iadd dL_law_1247 ?_
        refine lg_sld (j := i + 4) dL_law_1248 (sxk (k := 4) rfl (by omega)).1 (sxk (k := 4) rfl (by omega)).2 (by omega) ?_
        refine lg_aload_n 1 dL_law_1249 rfl rfl ?_
        refine lg_iload_n 0 dL_law_1250 rfl rfl ?_
        refine lg_iconst (v := 5) dL_law_1251 (by decide) ?_
        refine lg_iadd dL_law_1252 ?_
        refine lg_sld (j := i + 5) dL_law_1253 (sxk (k := 5) rfl (by omega)).1 (sxk (k := 5) rfl (by omega)).2 (by omega) ?_
        refine lg_aload_n 1 dL_law_1254 rfl rfl ?_
        refine lg_iload_n 0 dL_law_1255 rfl rfl ?_
        refine lg_bipush (v := 6) dL_law_1256 (by decide) ?_
        refine lg_iadd dL_law_1258 ?_
        refine lg_sld (j := i + 6) dL_law_1259 (sxk (k := 6) rfl (by omega)).1 (sxk (k := 6) rfl (by omega)).2 (by omega) ?_
        refine lg_cX (As := [.int (xs (i + 1)), .int (xs (i + 2)), .int (xs (i + 3)), .int (xs (i + 4)), .int (xs (i + 5)), .int (xs (i + 6))]) (st := []) dL_law_1260 (c_X10_years h1) mov_X10_years lw_987 (by omega) rfl ⟨Nat.le_of_ble_eq_true rfl, Nat.le_of_ble_eq_true rfl⟩ (Nat.le_of_ble_eq_true rfl) ⟨by show k + 0 ≤ 600000; omega, by show n + 0 ≤ 7302250; omega⟩ ?_
        refine lg_aload_n 3 dL_law_1263 rfl rfl ?_
        refine lg_aload_n 1 dL_law_1264 rfl rfl ?_
        refine lg_iload_n 0 dL_law_1265 rfl rfl ?_
        refine lg_iconst (v := 1) dL_law_1266 (by decide) ?_
        refine lg_iadd dL_law_1267 ?_
        refine lg_sld (j := i + 1) dL_law_1268 (sxk (k := 1) rfl (by omega)).1 (sxk (k := 1) rfl (by omega)).2 (by omega) ?_
        refine lg_aload_n 1 dL_law_1269 rfl rfl ?_
        refine lg_iload_n 0 dL_law_1270 rfl rfl ?_
        refine lg_iconst (v := 2) dL_law_1271 (by decide) ?_
        refine lg_iadd dL_law_1272 ?_
        refine lg_sld (j := i + 2) dL_law_1273 (sxk (k := 2) rfl (by omega)).1 (sxk (k := 2) rfl (by omega)).2 (by omega) ?_
        refine lg_aload_n 1 dL_law_1274 rfl rfl ?_
        refine lg_iload_n 0 dL_law_1275 rfl rfl ?_
        refine lg_iconst (v := 3) dL_law_1276 (by decide) ?_
        refine lg_iadd dL_law_1277 ?_
        refine lg_sld (j := i + 3) dL_law_1278 (sxk (k := 3) rfl (by omega)).1 (sxk (k := 3) rfl (by omega)).2 (by omega) ?_
        refine lg_aload_n 1 dL_law_1279 rfl rfl ?_
        refine lg_iload_n 0 dL_law_1280 rfl rfl ?_
        refine lg_iconst (v := 4) dL_law_1281 (by decide) ?_
        refine lg_iadd dL_law_1282 ?_
        refine lg_sld (j := i + 4) dL_law_1283 (sxk (k := 4) rfl (by omega)).1 (sxk (k := 4) rfl (by omega)).2 (by omega) ?_
        refine lg_aload_n 1 dL_law_1284 rfl rfl ?_
        refine lg_iload_n 0 dL_law_1285 rfl rfl ?_
        refine lg_iconst (v := 5) dL_law_1286 (by decide) ?_
        refine lg_iadd dL_law_1287 ?_
        refine lg_sld (j := i + 5) dL_law_1288 (sxk (k := 5) rfl (by omega)).1 (sxk (k := 5) rfl (by omega)).2 (by omega) ?_
        refine lg_aload_n 1 dL_law_1289 rfl rfl ?_
        refine lg_iload_n 0 dL_law_1290 rfl rfl ?_
        refine lg_bipush (v := 6) dL_law_1291 (by decide) ?_
        refine lg_iadd dL_law_1293 ?_
        refine lg_sld (j := i + 6) dL_law_1294 (sxk (k := 6) rfl (by omega)).1 (sxk (k := 6) rfl (by omega)).2 (by omega) ?_
        refine lg_cM (As := [.int (xs (i + 1)), .int (xs (i + 2)), .int (xs (i + 3)), .int (xs (i + 4)), .int (xs (i + 5)), .int (xs (i + 6))]) (st := [.int r]) dL_law_1295 (c_X11_years h2) mov_X11_years lw_1544 hnn' h3 rfl ⟨Nat.le_of_ble_eq_true rfl, Nat.le_of_ble_eq_true rfl⟩ (Nat.le_of_ble_eq_true rfl) ⟨by show k + 0 + 0 ≤ 600000; omega, by show n + 0 + 0 ≤ 7302250; omega⟩ ?_
        refine lg_icmp_eq 1372 dL_law_1298 (by decide) (fun _ => ?_) (fun c => absurd rfl c)
        exact tail _ _ _ _ h4 (by show 7 * (k + 0 + 0) ≤ _; omega) (by show 7 * (n + 0 + 0) ≤ _; omega)
      | 29, _, hx =>
        refine lg_tIn 1303 dL_law_33 (by rw [hx]; decide) (by rw [hx]; decide) (by rw [hx]; rfl) (by decide) ?_
        obtain ⟨r, σ', τ', h1, h2, h3, h4⟩ := hG'.2.2.2.2.2.2.2.2.2.2.2.2.2.2.2.2.2.2.2.2.2.2.2.2.2.2.2.2.2.1 σ τ hinv
        have hnn' := hI σ' τ' h4
        refine lg_aload_n 2 dL_law_1303 rfl rfl ?_
        refine lg_aload_n 1 dL_law_1304 rfl rfl ?_
        refine lg_iload_n 0 dL_law_1305 rfl rfl ?_
        refine lg_iconst (v := 1) dL_law_1306 (by decide) ?_
        refine lg_iadd dL_law_1307 ?_
        refine lg_sld (j := i + 1) dL_law_1308 (sxk (k := 1) rfl (by omega)).1 (sxk (k := 1) rfl (by omega)).2 (by omega) ?_
        refine lg_cX (As := [.int (xs (i + 1))]) (st := []) dL_law_1309 (c_X10_count h1) mov_X10_count lw_1010 (by omega) rfl ⟨Nat.le_of_ble_eq_true rfl, Nat.le_of_ble_eq_true rfl⟩ (Nat.le_of_ble_eq_true rfl) ⟨by show k + 0 ≤ 600000; omega, by show n + 0 ≤ 7302250; omega⟩ ?_
        refine lg_aload_n 3 dL_law_1312 rfl rfl ?_
        refine lg_aload_n 1 dL_law_1313 rfl rfl ?_
        refine lg_iload_n 0 dL_law_1314 rfl rfl ?_
        refine lg_iconst (v := 1) dL_law_1315 (by decide) ?_
        refine lg_iadd dL_law_1316 ?_
        refine lg_sld (j := i + 1) dL_law_1317 (sxk (k := 1) rfl (by omega)).1 (sxk (k := 1) rfl (by omega)).2 (by omega) ?_
        refine lg_cM (As := [.int (xs (i + 1))]) (st := [.int r]) dL_law_1318 (c_X11_count h2) mov_X11_count lw_1552 hnn' h3 rfl ⟨Nat.le_of_ble_eq_true rfl, Nat.le_of_ble_eq_true rfl⟩ (Nat.le_of_ble_eq_true rfl) ⟨by show k + 0 + 0 ≤ 600000; omega, by show n + 0 + 0 ≤ 7302250; omega⟩ ?_
        refine lg_icmp_eq 1372 dL_law_1321 (by decide) (fun _ => ?_) (fun c => absurd rfl c)
        exact tail _ _ _ _ h4 (by show 7 * (k + 0 + 0) ≤ _; omega) (by show 7 * (n + 0 + 0) ≤ _; omega)
      | 30, _, hx =>
        refine lg_tIn 1326 dL_law_33 (by rw [hx]; decide) (by rw [hx]; decide) (by rw [hx]; rfl) (by decide) ?_
        obtain ⟨r, σ', τ', h1, h2, h3, h4⟩ := hG'.2.2.2.2.2.2.2.2.2.2.2.2.2.2.2.2.2.2.2.2.2.2.2.2.2.2.2.2.2.2.1 σ τ hinv
        have hnn' := hI σ' τ' h4
        refine lg_aload_n 2 dL_law_1326 rfl rfl ?_
        refine lg_aload_n 1 dL_law_1327 rfl rfl ?_
        refine lg_iload_n 0 dL_law_1328 rfl rfl ?_
        refine lg_iconst (v := 1) dL_law_1329 (by decide) ?_
        refine lg_iadd dL_law_1330 ?_
        refine lg_sld (j := i + 1) dL_law_1331 (sxk (k := 1) rfl (by omega)).1 (sxk (k := 1) rfl (by omega)).2 (by omega) ?_
        refine lg_cX (As := [.int (xs (i + 1))]) (st := []) dL_law_1332 (c_X10_image h1) mov_X10_image lw_1018 (by omega) rfl ⟨Nat.le_of_ble_eq_true rfl, Nat.le_of_ble_eq_true rfl⟩ (Nat.le_of_ble_eq_true rfl) ⟨by show k + 11 ≤ 600000; omega, by show n + 154 ≤ 7302250; omega⟩ ?_
        refine lg_aload_n 3 dL_law_1335 rfl rfl ?_
        refine lg_aload_n 1 dL_law_1336 rfl rfl ?_
        refine lg_iload_n 0 dL_law_1337 rfl rfl ?_
        refine lg_iconst (v := 1) dL_law_1338 (by decide) ?_
        refine lg_iadd dL_law_1339 ?_
        refine lg_sld (j := i + 1) dL_law_1340 (sxk (k := 1) rfl (by omega)).1 (sxk (k := 1) rfl (by omega)).2 (by omega) ?_
        refine lg_cM (As := [.int (xs (i + 1))]) (st := [.int r]) dL_law_1341 (c_X11_image h2) mov_X11_image lw_1556 hnn' h3 rfl ⟨Nat.le_of_ble_eq_true rfl, Nat.le_of_ble_eq_true rfl⟩ (Nat.le_of_ble_eq_true rfl) ⟨by show k + 11 + 0 ≤ 600000; omega, by show n + 154 + 0 ≤ 7302250; omega⟩ ?_
        refine lg_icmp_eq 1372 dL_law_1344 (by decide) (fun _ => ?_) (fun c => absurd rfl c)
        exact tail _ _ _ _ h4 (by show 7 * (k + 11 + 0) ≤ _; omega) (by show 7 * (n + 154 + 0) ≤ _; omega)
      | 31, _, hx =>
        refine lg_tIn 1349 dL_law_33 (by rw [hx]; decide) (by rw [hx]; decide) (by rw [hx]; rfl) (by decide) ?_
        obtain ⟨r, σ', τ', h1, h2, h3, h4⟩ := hG'.2.2.2.2.2.2.2.2.2.2.2.2.2.2.2.2.2.2.2.2.2.2.2.2.2.2.2.2.2.2.2 σ τ hinv
        have hnn' := hI σ' τ' h4
        refine lg_aload_n 2 dL_law_1349 rfl rfl ?_
        refine lg_aload_n 1 dL_law_1350 rfl rfl ?_
        refine lg_iload_n 0 dL_law_1351 rfl rfl ?_
        refine lg_iconst (v := 1) dL_law_1352 (by decide) ?_
        refine lg_iadd dL_law_1353 ?_
        refine lg_sld (j := i + 1) dL_law_1354 (sxk (k := 1) rfl (by omega)).1 (sxk (k := 1) rfl (by omega)).2 (by omega) ?_
        refine lg_cX (As := [.int (xs (i + 1))]) (st := []) dL_law_1355 (c_X10_back h1) mov_X10_back lw_1022 (by omega) rfl ⟨Nat.le_of_ble_eq_true rfl, Nat.le_of_ble_eq_true rfl⟩ (Nat.le_of_ble_eq_true rfl) ⟨by show k + 0 ≤ 600000; omega, by show n + 0 ≤ 7302250; omega⟩ ?_
        refine lg_aload_n 3 dL_law_1358 rfl rfl ?_
        refine lg_aload_n 1 dL_law_1359 rfl rfl ?_
        refine lg_iload_n 0 dL_law_1360 rfl rfl ?_
        refine lg_iconst (v := 1) dL_law_1361 (by decide) ?_
        refine lg_iadd dL_law_1362 ?_
        refine lg_sld (j := i + 1) dL_law_1363 (sxk (k := 1) rfl (by omega)).1 (sxk (k := 1) rfl (by omega)).2 (by omega) ?_
        refine lg_cM (As := [.int (xs (i + 1))]) (st := [.int r]) dL_law_1364 (c_X11_back h2) mov_X11_back lw_1560 hnn' h3 rfl ⟨Nat.le_of_ble_eq_true rfl, Nat.le_of_ble_eq_true rfl⟩ (Nat.le_of_ble_eq_true rfl) ⟨by show k + 0 + 0 ≤ 600000; omega, by show n + 0 + 0 ≤ 7302250; omega⟩ ?_
        refine lg_icmp_eq 1372 dL_law_1367 (by decide) (fun _ => ?_) (fun c => absurd rfl c)
        exact tail _ _ _ _ h4 (by show 7 * (k + 0 + 0) ≤ _; omega) (by show 7 * (n + 0 + 0) ≤ _; omega)
      | j + 32, hj, _ => exact absurd hj (by omega)
