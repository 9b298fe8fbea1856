theorem tbl_t1 {w : Cond} (j : Nat) (h : tables_1_1[j]? = some w) (hg : goodWord w = true) : w ∈ tbl := List.mem_filter.mpr ⟨List.mem_append_right _ (List.mem_append_left _ (List.mem_of_getElem? h)), hg⟩
theorem tbl_t2 {w : Cond} (j : Nat) (h : tables_1_2[j]? = some w) (hg : goodWord w = true) : w ∈ tbl := List.mem_filter.mpr ⟨List.mem_append_right _ (List.mem_append_right _ (List.mem_append_left _ (List.mem_of_getElem? h))), hg⟩
theorem tbl_t3 {w : Cond} (j : Nat) (h : tables_1_3[j]? = some w) (hg : goodWord w = true) : w ∈ tbl := List.mem_filter.mpr ⟨List.mem_append_right _ (List.mem_append_right _ (List.mem_append_right _ (List.mem_append_left _ (List.mem_of_getElem? h)))), hg⟩
theorem tbl_t4 {w : Cond} (j : Nat) (h : tables_1_4[j]? = some w) (hg : goodWord w = true) : w ∈ tbl := List.mem_filter.mpr ⟨List.mem_append_right _ (List.mem_append_right _ (List.mem_append_right _ (List.mem_append_right _ (List.mem_append_left _ (List.mem_of_getElem? h))))), hg⟩
theorem tbl_t5 {w : Cond} (j : Nat) (h : tables_1_5[j]? = some w) (hg : goodWord w = true) : w ∈ tbl := List.mem_filter.mpr ⟨List.mem_append_right _ (List.mem_append_right _ (List.mem_append_right _ (List.mem_append_right _ (List.mem_append_right _ (List.mem_append_left _ (List.mem_of_getElem? h)))))), hg⟩
theorem tbl_t6 {w : Cond} (j : Nat) (h : tables_1_6[j]? = some w) (hg : goodWord w = true) : w ∈ tbl := List.mem_filter.mpr ⟨List.mem_append_right _ (List.mem_append_right _ (List.mem_append_right _ (List.mem_append_right _ (List.mem_append_right _ (List.mem_append_right _ (List.mem_append_left _ (List.mem_of_getElem? h))))))), hg⟩
theorem tbl_t7 {w : Cond} (j : Nat) (h : tables_1_7[j]? = some w) (hg : goodWord w = true) : w ∈ tbl := List.mem_filter.mpr ⟨List.mem_append_right _ (List.mem_append_right _ (List.mem_append_right _ (List.mem_append_right _ (List.mem_append_right _ (List.mem_append_right _ (List.mem_append_right _ (List.mem_of_getElem? h))))))), hg⟩
theorem bnd {α β : Type} {a : Option α} {f : α → Option β} {o : β} (h : a.bind f = some o) : ∃ x, a = some x ∧ f x = some o := by
  cases a with
  | none => cases h
  | some x => exact ⟨x, rfl, h⟩
theorem of_ifn {α : Type} {p : Prop} [Decidable p] {x : Option α} {v : α} (h : (if p then none else x) = some v) : ¬ p ∧ x = some v := by
  by_cases hp : p
  · rw [if_pos hp] at h; cases h
  · rw [if_neg hp] at h; exact ⟨hp, h⟩
theorem nar_z {x : Int32} (h : x = 0 ∨ x = 1) : narrow .boolean (.int x) = .int x := by
  rcases h with rfl | rfl <;> rfl
abbrev PI (o : Int32 × Mm) : Option Value → Mm → Prop := fun v σ' => v = some (.int o.1) ∧ σ' = o.2
abbrev PJ (o : Int64 × Mm) : Option Value → Mm → Prop := fun v σ' => v = some (.long o.1) ∧ σ' = o.2
abbrev PV (o : Mm) : Option Value → Mm → Prop := fun v σ' => v = none ∧ σ' = o
def ob (c : Nat) (σ : Mm) (o : Nat) : Option Unit := if pp o < nn σ ∧ (SH o).1 = c then some () else none
def MOV (y : MethodName) (M : Ms) (na c b : Nat) : Prop := MOK y M na ∧ Cond.instanceMethod y ∈ tbl ∧ Cond.selects y.cls y y ∈ tbl ∧ c < 12 ∧ (∃ q, vwCl[c]? = some q ∧ q.1 = y.cls) ∧ bkc c = b
def MOS (y : MethodName) (M : Ms) (na : Nat) : Prop := MOK y M na ∧ Cond.static y ∈ tbl
def MOI (y : MethodName) (M : Ms) (na : Nat) : Prop := MOK y M na ∧ Cond.instanceMethod y ∈ tbl ∧ y.name = "<init>" ∧ M.ret = none
section GW
variable {Γ : Cn} {M M' : Ms} {b : Nat} {τ : Mm} {P : Option Value → Mm → Prop} {k n k' n' pc na index o c : Nat} {lv lv' : List (Nat × Value)} {st As : List Value} {σ σ' : Mm} {y : MethodName}
theorem gx_cVI {r : Int32 × Mm} {u : Unit} (hd : decode M.cc pc = .ok (.invokevirtual index, 3)) (hC : Ct Γ M' y b τ (.ref (Γ.B + pp o) :: As) σ (PI r)) (hok : MOV y M' na c b) (hl : Cond.methodLink M.own index y ∈ tbl) (ho : ob c σ o = some u) (hna : As.length = na) (hR : M'.d + 1 ≤ M.d ∧ 8 + (M'.nL + 11) + 64 * M'.d ≤ 64 * M.d) (hst : (st.map fun v => v.category).sum ≤ 8)
    (h : Gx Γ M b τ P k n (pc + 3) lv (.int r.1 :: st) r.2) (h0 : M'.mc = 0 ∧ M'.ms = 0 := by exact ⟨rfl, rfl⟩) (h1 : k ≤ M.mc ∧ n ≤ M.ms := by exact ⟨Nat.le_of_ble_eq_true rfl, Nat.le_of_ble_eq_true rfl⟩) : Gx Γ M b τ P k n pc lv (As.reverse ++ .ref (Γ.B + pp o) :: st) σ := by
  obtain ⟨k1, k2, k3, k4, ⟨q, k5, k6⟩, k7⟩ := hok
  obtain ⟨o1, o2⟩ := (of_if' ho).1
  refine gx_callV hd hC k1 hl k2 k3 o1 o2 k4 k5 k6 k7 hna hR hst (by rw [h0.1, h0.2]; exact h1) (Or.inl h0.1) ?_
  rintro v σ' ⟨rfl, rfl⟩
  rw [h0.1, h0.2]
  exact h
theorem gx_cVJ {r : Int64 × Mm} {u : Unit} (hd : decode M.cc pc = .ok (.invokevirtual index, 3)) (hC : Ct Γ M' y b τ (.ref (Γ.B + pp o) :: As) σ (PJ r)) (hok : MOV y M' na c b) (hl : Cond.methodLink M.own index y ∈ tbl) (ho : ob c σ o = some u) (hna : As.length = na) (hR : M'.d + 1 ≤ M.d ∧ 8 + (M'.nL + 11) + 64 * M'.d ≤ 64 * M.d) (hst : (st.map fun v => v.category).sum ≤ 8)
    (h : Gx Γ M b τ P k n (pc + 3) lv (.long r.1 :: st) r.2) (h0 : M'.mc = 0 ∧ M'.ms = 0 := by exact ⟨rfl, rfl⟩) (h1 : k ≤ M.mc ∧ n ≤ M.ms := by exact ⟨Nat.le_of_ble_eq_true rfl, Nat.le_of_ble_eq_true rfl⟩) : Gx Γ M b τ P k n pc lv (As.reverse ++ .ref (Γ.B + pp o) :: st) σ := by
  obtain ⟨k1, k2, k3, k4, ⟨q, k5, k6⟩, k7⟩ := hok
  obtain ⟨o1, o2⟩ := (of_if' ho).1
  refine gx_callV hd hC k1 hl k2 k3 o1 o2 k4 k5 k6 k7 hna hR hst (by rw [h0.1, h0.2]; exact h1) (Or.inl h0.1) ?_
  rintro v σ' ⟨rfl, rfl⟩
  rw [h0.1, h0.2]
  exact h
theorem gx_cVV {r : Mm} {u : Unit} (hd : decode M.cc pc = .ok (.invokevirtual index, 3)) (hC : Ct Γ M' y b τ (.ref (Γ.B + pp o) :: As) σ (PV r)) (hok : MOV y M' na c b) (hl : Cond.methodLink M.own index y ∈ tbl) (ho : ob c σ o = some u) (hna : As.length = na) (hR : M'.d + 1 ≤ M.d ∧ 8 + (M'.nL + 11) + 64 * M'.d ≤ 64 * M.d) (hst : (st.map fun v => v.category).sum ≤ 8)
    (h : Gx Γ M b τ P k n (pc + 3) lv st r) (h0 : M'.mc = 0 ∧ M'.ms = 0 := by exact ⟨rfl, rfl⟩) (h1 : k ≤ M.mc ∧ n ≤ M.ms := by exact ⟨Nat.le_of_ble_eq_true rfl, Nat.le_of_ble_eq_true rfl⟩) : Gx Γ M b τ P k n pc lv (As.reverse ++ .ref (Γ.B + pp o) :: st) σ := by
  obtain ⟨k1, k2, k3, k4, ⟨q, k5, k6⟩, k7⟩ := hok
  obtain ⟨o1, o2⟩ := (of_if' ho).1
  refine gx_callV hd hC k1 hl k2 k3 o1 o2 k4 k5 k6 k7 hna hR hst (by rw [h0.1, h0.2]; exact h1) (Or.inl h0.1) ?_
  rintro v σ' ⟨rfl, rfl⟩
  rw [h0.1, h0.2]
  exact h
theorem gx_cSI {r : Int32 × Mm} (hd : decode M.cc pc = .ok (.invokestatic index, 3)) (hC : Ct Γ M' y b τ As σ (PI r)) (hok : MOS y M' na) (hl : Cond.methodLink M.own index y ∈ tbl) (hna : As.length = na) (hR : M'.d + 1 ≤ M.d ∧ 8 + (M'.nL + 11) + 64 * M'.d ≤ 64 * M.d) (hst : (st.map fun v => v.category).sum ≤ 8)
    (h : Gx Γ M b τ P k n (pc + 3) lv (.int r.1 :: st) r.2) (h0 : M'.mc = 0 ∧ M'.ms = 0 := by exact ⟨rfl, rfl⟩) (h1 : k ≤ M.mc ∧ n ≤ M.ms := by exact ⟨Nat.le_of_ble_eq_true rfl, Nat.le_of_ble_eq_true rfl⟩) : Gx Γ M b τ P k n pc lv (As.reverse ++ st) σ := by
  refine gx_callS hd hC hok.1 hl hok.2 hna hR hst (by rw [h0.1, h0.2]; exact h1) (Or.inl h0.1) ?_
  rintro v σ' ⟨rfl, rfl⟩
  rw [h0.1, h0.2]
  exact h
theorem gx_cSJ {r : Int64 × Mm} (hd : decode M.cc pc = .ok (.invokestatic index, 3)) (hC : Ct Γ M' y b τ As σ (PJ r)) (hok : MOS y M' na) (hl : Cond.methodLink M.own index y ∈ tbl) (hna : As.length = na) (hR : M'.d + 1 ≤ M.d ∧ 8 + (M'.nL + 11) + 64 * M'.d ≤ 64 * M.d) (hst : (st.map fun v => v.category).sum ≤ 8)
    (h : Gx Γ M b τ P k n (pc + 3) lv (.long r.1 :: st) r.2) (h0 : M'.mc = 0 ∧ M'.ms = 0 := by exact ⟨rfl, rfl⟩) (h1 : k ≤ M.mc ∧ n ≤ M.ms := by exact ⟨Nat.le_of_ble_eq_true rfl, Nat.le_of_ble_eq_true rfl⟩) : Gx Γ M b τ P k n pc lv (As.reverse ++ st) σ := by
  refine gx_callS hd hC hok.1 hl hok.2 hna hR hst (by rw [h0.1, h0.2]; exact h1) (Or.inl h0.1) ?_
  rintro v σ' ⟨rfl, rfl⟩
  rw [h0.1, h0.2]
  exact h
theorem gx_cSNI {r : Int32 × Mm} (hd : decode M.cc pc = .ok (.invokestatic index, 3)) (hC : Ct Γ M' y b τ As σ (PI r)) (hok : MOS y M' na) (hl : (M.own, index, y) ∈ nwl) (hna : As.length = na) (hR : M'.d + 1 ≤ M.d ∧ 8 + (M'.nL + 11) + 64 * M'.d ≤ 64 * M.d) (hst : (st.map fun v => v.category).sum ≤ 8)
    (h : Gx Γ M b τ P k n (pc + 3) lv (.int r.1 :: st) r.2) (h0 : M'.mc = 0 ∧ M'.ms = 0 := by exact ⟨rfl, rfl⟩) (h1 : k ≤ M.mc ∧ n ≤ M.ms := by exact ⟨Nat.le_of_ble_eq_true rfl, Nat.le_of_ble_eq_true rfl⟩) : Gx Γ M b τ P k n pc lv (As.reverse ++ st) σ := by
  refine gx_callSN hd hC hok.1 hl hok.2 hna hR hst (by rw [h0.1, h0.2]; exact h1) (Or.inl h0.1) ?_
  rintro v σ' ⟨rfl, rfl⟩
  rw [h0.1, h0.2]
  exact h
theorem gx_cIV {r : Mm} (hd : decode M.cc pc = .ok (.invokespecial index, 3)) (hC : Ct Γ M' y b τ (.ref (Γ.B + pp o) :: As) σ (PV r)) (hok : MOI y M' na) (hl : Cond.methodLink M.own index y ∈ tbl) (hna : As.length = na) (hR : M'.d + 1 ≤ M.d ∧ 8 + (M'.nL + 11) + 64 * M'.d ≤ 64 * M.d) (hst : (st.map fun v => v.category).sum ≤ 8)
    (hk : k + M'.mc = k') (hn : n + M'.ms = n') (hk2 : k' ≤ M.mc) (hn2 : n' ≤ M.ms) (hex : nn r = nn σ + M'.mc) (h : Gx Γ M b τ P k' n' (pc + 3) lv st r) : Gx Γ M b τ P k n pc lv (As.reverse ++ .ref (Γ.B + pp o) :: st) σ := by
  refine gx_callI hd hC hok.1 hl hok.2.1 hok.2.2.1 hok.2.2.2 hna hR hst ⟨by rw [hk]; exact hk2, by rw [hn]; exact hn2⟩ (Or.inr ?_) ?_
  · rintro v σ' ⟨rfl, rfl⟩; exact hex
  · rintro v σ' ⟨rfl, rfl⟩
    rw [hk, hn]
    exact h
theorem gx_cINV {r : Mm} (hd : decode M.cc pc = .ok (.invokespecial index, 3)) (hC : Ct Γ M' y b τ (.ref (Γ.B + pp o) :: As) σ (PV r)) (hok : MOI y M' na) (hl : (M.own, index, y) ∈ nwl) (hna : As.length = na) (hR : M'.d + 1 ≤ M.d ∧ 8 + (M'.nL + 11) + 64 * M'.d ≤ 64 * M.d) (hst : (st.map fun v => v.category).sum ≤ 8)
    (hk : k + M'.mc = k') (hn : n + M'.ms = n') (hk2 : k' ≤ M.mc) (hn2 : n' ≤ M.ms) (hex : nn r = nn σ + M'.mc) (h : Gx Γ M b τ P k' n' (pc + 3) lv st r) : Gx Γ M b τ P k n pc lv (As.reverse ++ .ref (Γ.B + pp o) :: st) σ := by
  refine gx_callIN hd hC hok.1 hl hok.2.1 hok.2.2.1 hok.2.2.2 hna hR hst ⟨by rw [hk]; exact hk2, by rw [hn]; exact hn2⟩ (Or.inr ?_) ?_
  · rintro v σ' ⟨rfl, rfl⟩; exact hex
  · rintro v σ' ⟨rfl, rfl⟩
    rw [hk, hn]
    exact h
/-! what stood there before -/
def tAX (i : Int32) : Option Int32 := if ¬ i < 0 ∧ i.toNatClampNeg < 8 then some (stX i.toNatClampNeg) else none
def tAY (i : Int32) : Option Int32 := if ¬ i < 0 ∧ i.toNatClampNeg < 8 then some (stY i.toNatClampNeg) else none
theorem gx_getsX (hd : decode M.cc pc = .ok (.getstatic index, 3)) (hl : Cond.fieldLink M.own index "MostCocks$Valley" "STEP_X" "[I" ∈ tbl) (h : Gx Γ M b τ P k n (pc + 3) lv (.ref (Γ.sa 0) :: st) σ) : Gx Γ M b τ P k n pc lv st σ := by
  intro p e s m args below meth c' H locs ls g hlv hw hS hz
  obtain ⟨⟨hx, hb, hml, hown, hts⟩, hret, hlo, hin, hK, hSx, hB⟩ := id g
  exact va_gets hx hb hSx.2.2.1.1 hS hown (hts _ hl) (fun _ h9 => h9) hd (h p e s m args below meth c' H locs ls g hlv hw hS hz)
theorem gx_getsY (hd : decode M.cc pc = .ok (.getstatic index, 3)) (hl : Cond.fieldLink M.own index "MostCocks$Valley" "STEP_Y" "[I" ∈ tbl) (h : Gx Γ M b τ P k n (pc + 3) lv (.ref (Γ.sa 1) :: st) σ) : Gx Γ M b τ P k n pc lv st σ := by
  intro p e s m args below meth c' H locs ls g hlv hw hS hz
  obtain ⟨⟨hx, hb, hml, hown, hts⟩, hret, hlo, hin, hK, hSx, hB⟩ := id g
  exact va_gets hx hb hSx.2.2.2.1.1 hS hown (hts _ hl) (fun _ h9 => h9) hd (h p e s m args below meth c' H locs ls g hlv hw hS hz)
theorem gx_tiX {i x : Int32} (hd : decode M.cc pc = .ok (.iaload, 1)) (hv : tAX i = some x) (h : Gx Γ M b τ P k n (pc + 1) lv (.int x :: st) σ) : Gx Γ M b τ P k n pc lv (.int i :: .ref (Γ.sa 0) :: st) σ := by
  intro p e s m args below meth c' H locs ls g hlv hw hS hz
  obtain ⟨⟨h0, h1⟩, rfl⟩ := of_if' hv
  exact va_ti g.1.1 g.1.2.1 g.2.2.2.2.2.1.2.2.1.2 hS (vp_ok h0 h1) rfl hd (h p e s m args below meth c' H locs ls g hlv hw hS hz)
theorem gx_tiY {i x : Int32} (hd : decode M.cc pc = .ok (.iaload, 1)) (hv : tAY i = some x) (h : Gx Γ M b τ P k n (pc + 1) lv (.int x :: st) σ) : Gx Γ M b τ P k n pc lv (.int i :: .ref (Γ.sa 1) :: st) σ := by
  intro p e s m args below meth c' H locs ls g hlv hw hS hz
  obtain ⟨⟨h0, h1⟩, rfl⟩ := of_if' hv
  exact va_ti g.1.1 g.1.2.1 g.2.2.2.2.2.1.2.2.2.1.2 hS (vp_ok h0 h1) rfl hd (h p e s m args below meth c' H locs ls g hlv hw hS hz)
end GW
/-! switches -/
theorem sw_in {x : Int32} {lo hi : Int} (h : ¬ (x.toInt < lo ∨ hi < x.toInt)) : ∃ j : Nat, j < (hi + 1 - lo).toNat ∧ x = Int32.ofInt (lo + j) := by
  refine ⟨(x.toInt - lo).toNat, by omega, ?_⟩
  rw [show lo + ((x.toInt - lo).toNat : Int) = x.toInt by omega]
  exact (Int32.ofInt_toInt x).symm
theorem lk_cons {x v : Int32} {a o d : Int} {r : List (Int × Int)} (h : ¬ x = v) (hv : v.toInt = a) (hr : Op.lookupswitch.offset r d x.toInt = d) : Op.lookupswitch.offset ((a, o) :: r) d x.toInt = d := by
  rw [Op.lookupswitch.offset_cons, if_neg ?_]
  · exact hr
  · intro e
    exact h (Int32.toInt_inj.mp (by rw [hv]; exact e.symm))
