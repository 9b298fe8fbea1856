/-! what the code does with the memory: none where the machine would throw -/
def gI (c j : Nat) (σ : Mm) (o : Nat) : Option Int32 := if pp o < nn σ ∧ (SH o).1 = c then some (iv σ o j) else none
def gN (c j : Nat) (σ : Mm) (o : Nat) : Option Nat := if pp o < nn σ ∧ (SH o).1 = c then rv σ o j else none
def pI (c j : Nat) (σ : Mm) (o : Nat) (v : Int32) : Option Mm := if pp o < nn σ ∧ (SH o).1 = c then some (si σ o j v) else none
def pZ (c j : Nat) (σ : Mm) (o : Nat) (v : Int32) : Option Mm := if (pp o < nn σ ∧ (SH o).1 = c) ∧ (v = 0 ∨ v = 1) then some (si σ o j v) else none
def pR (c j : Nat) (σ : Mm) (o : Nat) (r : Option Nat) : Option Mm := if pp o < nn σ ∧ (SH o).1 = c then some (sr σ o j r) else none
def aI (kd : Nat) (σ : Mm) (a : Nat) (i : Int32) : Option Int32 := if (pp a < nn σ ∧ (SH a).1 = kd) ∧ ¬ i < 0 ∧ i.toNatClampNeg < (SH a).2 then some (iv σ a i.toNatClampNeg) else none
def aJ (kd : Nat) (σ : Mm) (a : Nat) (i : Int32) : Option Int64 := if (pp a < nn σ ∧ (SH a).1 = kd) ∧ ¬ i < 0 ∧ i.toNatClampNeg < (SH a).2 then some (jv σ a i.toNatClampNeg) else none
def aQ (kd : Nat) (σ : Mm) (a : Nat) (i : Int32) : Option (Option Nat) := if (pp a < nn σ ∧ (SH a).1 = kd) ∧ ¬ i < 0 ∧ i.toNatClampNeg < (SH a).2 then some (rv σ a i.toNatClampNeg) else none
def aN (kd : Nat) (σ : Mm) (a : Nat) (i : Int32) : Option Nat := if (pp a < nn σ ∧ (SH a).1 = kd) ∧ ¬ i < 0 ∧ i.toNatClampNeg < (SH a).2 then rv σ a i.toNatClampNeg else none
def sI (kd : Nat) (σ : Mm) (a : Nat) (i v : Int32) : Option Mm := if (pp a < nn σ ∧ (SH a).1 = kd) ∧ ¬ i < 0 ∧ i.toNatClampNeg < (SH a).2 then some (si σ a i.toNatClampNeg v) else none
def sJ (kd : Nat) (σ : Mm) (a : Nat) (i : Int32) (v : Int64) : Option Mm := if (pp a < nn σ ∧ (SH a).1 = kd) ∧ ¬ i < 0 ∧ i.toNatClampNeg < (SH a).2 then some (sj σ a i.toNatClampNeg v) else none
def sB (kd : Nat) (σ : Mm) (a : Nat) (i v : Int32) : Option Mm := sI kd σ a i (vp_nar .byte v)
def sZ (kd : Nat) (σ : Mm) (a : Nat) (i v : Int32) : Option Mm := sI kd σ a i (vp_nar .boolean v)
def sN (kd c : Nat) (σ : Mm) (a : Nat) (i : Int32) (v : Nat) : Option Mm := if ((pp a < nn σ ∧ (SH a).1 = kd) ∧ ¬ i < 0 ∧ i.toNatClampNeg < (SH a).2) ∧ (pp v < nn σ ∧ (SH v).1 = c) then some (sr σ a i.toNatClampNeg (some v)) else none
def ln (bb : Nat) (σ : Mm) (a : Nat) : Option Int32 := if pp a < nn σ ∧ 12 ≤ (SH a).1 % 100 ∧ (SH a).1 % 100 < 18 ∧ bkc (SH a).1 = bb then some (Int32.ofNat (SH a).2) else none
def cpA (kd : Nat) (σ : Mm) (a : Nat) (sp : Int32) (d : Nat) (dp n : Int32) : Option Mm := if ((pp a < nn σ ∧ (SH a).1 = kd) ∧ (pp d < nn σ ∧ (SH d).1 = kd)) ∧ (¬ sp < 0 ∧ ¬ dp < 0 ∧ ¬ n < 0) ∧ (sp.toNatClampNeg + n.toNatClampNeg ≤ (SH a).2 ∧ dp.toNatClampNeg + n.toNatClampNeg ≤ (SH d).2) then some (cpy σ a sp.toNatClampNeg d dp.toNatClampNeg n.toNatClampNeg) else none
def nO (c : Nat) (σ : Mm) : Option Mm := if (SH (pq (nn σ))).1 = c then some (nw σ) else none
def nA (kd : Nat) (σ : Mm) (len : Int32) : Option Mm := if (SH (pq (nn σ))).1 = kd ∧ ¬ len < 0 ∧ (SH (pq (nn σ))).2 = len.toNatClampNeg then some (nw σ) else none
theorem of_if {α : Type} {p : Prop} [Decidable p] {x : Option α} {v : α} (h : (if p then x else none) = some v) : p ∧ x = some v := by
  by_cases hp : p
  · rw [if_pos hp] at h; exact ⟨hp, h⟩
  · rw [if_neg hp] at h; cases h
theorem of_if' {α : Type} {p : Prop} [Decidable p] {x v : α} (h : (if p then some x else none) = some v) : p ∧ x = v := by
  obtain ⟨h1, h2⟩ := of_if h
  exact ⟨h1, Option.some.inj h2⟩
/-! cells -/
theorem cel_o {B : Nat} {cy : Nat → ClassId} {σ : Mm} {o c : Nat} (h : (SH o).1 = c) (hc : c < 12) : cel B cy σ o = .inr (c, (List.range (nsl c)).map (fldv B σ o c)) := by
  unfold cel
  rw [h, Nat.mod_eq_of_lt (show c < 100 by omega), if_pos hc]
theorem cel_i {B : Nat} {cy : Nat → ClassId} {σ : Mm} {o kd r : Nat} (h : (SH o).1 = kd) (hr : kd % 100 = r) (h1 : ¬ r < 12) (h2 : ¬ r = 14) (h3 : r < 16) : cel B cy σ o = .inl (cy (r - 12), (SH o).2, .inl (iv σ o)) := by
  unfold cel
  rw [h, hr, if_neg h1, if_neg h2, if_pos h3]
theorem cel_j {B : Nat} {cy : Nat → ClassId} {σ : Mm} {o kd : Nat} (h : (SH o).1 = kd) (hr : kd % 100 = 14) : cel B cy σ o = .inl (cy 2, (SH o).2, .inr (.inl (jv σ o))) := by
  unfold cel
  rw [h, hr, if_neg (by decide), if_pos rfl]
theorem cel_r {B : Nat} {cy : Nat → ClassId} {σ : Mm} {o kd r : Nat} (h : (SH o).1 = kd) (hr : kd % 100 = r) (h1 : 16 ≤ r) : cel B cy σ o = .inl (cy (r - 12), (SH o).2, .inr (.inr (.inr (.inr (fun i => (rv σ o i).map (fun r => B + pp r)))))) := by
  unfold cel
  rw [h, hr, if_neg (by omega), if_neg (by omega), if_neg (by omega)]
/-- a cell depends on its own object's memory alone -/
theorem cel_cong {B : Nat} {cy : Nat → ClassId} {σ σ' : Mm} {o : Nat} (h1 : iv σ' o = iv σ o) (h2 : jv σ' o = jv σ o) (h3 : rv σ' o = rv σ o) : cel B cy σ' o = cel B cy σ o := by
  have hf : ∀ c, fldv B σ' o c = fldv B σ o c := by
    intro c
    funext j
    unfold fldv
    rw [h1, h3]
  unfold cel
  rw [h1, h2, h3, hf]
theorem up2_ne {α : Type} (f : Nat → Nat → α) {o k o' : Nat} (v : α) (h : o' ≠ o) : up2 f o k v o' = f o' := by
  funext k'
  unfold up2
  rw [if_neg (fun e => h e.1)]
theorem up2_row {α : Type} (f : Nat → Nat → α) (o k : Nat) (v : α) : up2 f o k v o = fun j => if j = k then v else f o j := by
  funext j
  unfold up2
  by_cases hj : j = k
  · rw [if_pos ⟨rfl, hj⟩, if_pos hj]
  · rw [if_neg (fun e => hj e.2), if_neg hj]
theorem cel_si {B : Nat} {cy : Nat → ClassId} {σ : Mm} {o k : Nat} {v : Int32} : ∀ o', o' ≠ o → cel B cy (si σ o k v) o' = cel B cy σ o' := fun o' h => cel_cong (up2_ne _ _ h) rfl rfl
theorem cel_sj {B : Nat} {cy : Nat → ClassId} {σ : Mm} {o k : Nat} {v : Int64} : ∀ o', o' ≠ o → cel B cy (sj σ o k v) o' = cel B cy σ o' := fun o' h => cel_cong rfl (up2_ne _ _ h) rfl
theorem cel_sr {B : Nat} {cy : Nat → ClassId} {σ : Mm} {o k : Nat} {v : Option Nat} : ∀ o', o' ≠ o → cel B cy (sr σ o k v) o' = cel B cy σ o' := fun o' h => cel_cong rfl rfl (up2_ne _ _ h)
theorem fld_at {B : Nat} {σ : Mm} {o c j N : Nat} (hN : nsl c = N) (hj : j < N) : ((List.range (nsl c)).map (fldv B σ o c))[j]? = some (fldv B σ o c j) := by
  rw [List.getElem?_map, List.getElem?_range (by rw [hN]; exact hj)]
  rfl
theorem fld_set {B : Nat} {σ σ' : Mm} {o c j : Nat} {v : Value} (hv : fldv B σ' o c j = v) (hσ : ∀ i, i ≠ j → fldv B σ' o c i = fldv B σ o c i) : ((List.range (nsl c)).map (fldv B σ o c)).set j v = (List.range (nsl c)).map (fldv B σ' o c) := by
  apply List.ext_getElem?
  intro i
  rw [List.getElem?_set, List.getElem?_map]
  by_cases hi : j = i
  · subst hi
    rw [if_pos rfl]
    by_cases h : j < nsl c
    · rw [if_pos (by simpa using h), List.getElem?_map, List.getElem?_range h]
      simp [hv]
    · rw [if_neg (by simpa using h), List.getElem?_eq_none (by simpa using h)]
  · rw [if_neg hi, List.getElem?_map]
    by_cases h : i < nsl c
    · rw [List.getElem?_range h]
      simp [hσ i (fun e => hi e.symm)]
    · rw [List.getElem?_eq_none (by simpa using h)]
      rfl
/-! the classes' tables -/
set_option maxRecDepth 20000 in
theorem clin_0 : ∀ w ∈ u_ws RX0 TX0 9, w ∈ tbl := by decide +kernel
set_option maxRecDepth 20000 in
theorem clin_1 : ∀ w ∈ u_ws RX1 TX1 6, w ∈ tbl := by decide +kernel
set_option maxRecDepth 20000 in
theorem clin_2 : ∀ w ∈ u_ws RX2 TX2 2, w ∈ tbl := by decide +kernel
set_option maxRecDepth 20000 in
theorem clin_3 : ∀ w ∈ u_ws RX3 TX3 3, w ∈ tbl := by decide +kernel
set_option maxRecDepth 20000 in
theorem clin_4 : ∀ w ∈ u_ws RX4 TX4 9, w ∈ tbl := by decide +kernel
set_option maxRecDepth 20000 in
theorem clin_5 : ∀ w ∈ u_ws RX5 TX5 2, w ∈ tbl := by decide +kernel
set_option maxRecDepth 20000 in
theorem clin_6 : ∀ w ∈ u_ws RX6 TX6 6, w ∈ tbl := by decide +kernel
set_option maxRecDepth 20000 in
theorem clin_7 : ∀ w ∈ u_ws RX7 TX7 14, w ∈ tbl := by decide +kernel
set_option maxRecDepth 20000 in
theorem clin_8 : ∀ w ∈ u_ws RX8 TX8 2, w ∈ tbl := by decide +kernel
set_option maxRecDepth 20000 in
theorem clin_9 : ∀ w ∈ u_ws RX9 TX9 2, w ∈ tbl := by decide +kernel
set_option maxRecDepth 20000 in
theorem clin_10 : ∀ w ∈ u_ws RX10 TX10 14, w ∈ tbl := by decide +kernel
set_option maxRecDepth 20000 in
theorem clin_11 : ∀ w ∈ u_ws RX11 TX11 33, w ∈ tbl := by decide +kernel
theorem clin : ∀ (c : Nat) (q : vw_C), vwCl[c]? = some q → ∀ w ∈ u_ws q.1 q.2.1 q.2.2, w ∈ tbl := by
  intro c q h
  match c, h with
  | 0, h => cases h; exact clin_0
  | 1, h => cases h; exact clin_1
  | 2, h => cases h; exact clin_2
  | 3, h => cases h; exact clin_3
  | 4, h => cases h; exact clin_4
  | 5, h => cases h; exact clin_5
  | 6, h => cases h; exact clin_6
  | 7, h => cases h; exact clin_7
  | 8, h => cases h; exact clin_8
  | 9, h => cases h; exact clin_9
  | 10, h => cases h; exact clin_10
  | 11, h => cases h; exact clin_11
  | c + 12, h => simp [vwCl] at h
theorem cltab : ∀ (c : Nat) (q : vw_C), vwCl[c]? = some q → ∃ ty0 : Nat → FieldType, (∀ k, k < q.2.2 → parseFieldDescriptor (q.2.1 k).2.2.1 = some (ty0 k)) ∧ ∀ a, a < q.2.2 → ∀ b, b < q.2.2 → a ≠ b → (q.2.1 a).2.1 ≠ (q.2.1 b).2.1 := by
  intro c q h
  match c, h with
  | 0, h => cases h; exact ⟨tyX0, tyX0_ok, nmX0⟩
  | 1, h => cases h; exact ⟨tyX1, tyX1_ok, nmX1⟩
  | 2, h => cases h; exact ⟨tyX2, tyX2_ok, nmX2⟩
  | 3, h => cases h; exact ⟨tyX3, tyX3_ok, nmX3⟩
  | 4, h => cases h; exact ⟨tyX4, tyX4_ok, nmX4⟩
  | 5, h => cases h; exact ⟨tyX5, tyX5_ok, nmX5⟩
  | 6, h => cases h; exact ⟨tyX6, tyX6_ok, nmX6⟩
  | 7, h => cases h; exact ⟨tyX7, tyX7_ok, nmX7⟩
  | 8, h => cases h; exact ⟨tyX8, tyX8_ok, nmX8⟩
  | 9, h => cases h; exact ⟨tyX9, tyX9_ok, nmX9⟩
  | 10, h => cases h; exact ⟨tyX10, tyX10_ok, nmX10⟩
  | 11, h => cases h; exact ⟨tyX11, tyX11_ok, nmX11⟩
  | c + 12, h => simp [vwCl] at h
/-- a field by its link: class c, place j -/
def FL (own : String) (index c j : Nat) (ref : Bool) (ty : FieldType) : Prop := ∃ (C : String) (T : u_T) (N : Nat), vwCl[c]? = some (C, T, N) ∧ c < 12 ∧ nsl c = N ∧ j < N ∧ isr c j = ref ∧ Cond.fieldLink own index (T j).1 (T j).2.1 (T j).2.2.1 ∈ tbl ∧ parseFieldDescriptor (T j).2.2.1 = some ty
/-- and may it be written -/
def FP (own : String) (c j : Nat) (fin : Bool) : Prop := ∃ (C : String) (T : u_T) (N : Nat), vwCl[c]? = some (C, T, N) ∧ (T j).2.2.2 = fin ∧ (fin = true → (T j).1 = own)
section GH
variable {Γ : Cn} {M : Ms} {b : Nat} {τ : Mm} {P : Option Value → Mm → Prop} {k n pc : Nat} {lv lv' : List (Nat × Value)} {st : List Value} {σ σ' : Mm}
theorem gx_getI {c j o index : Nat} {ty : FieldType} {x : Int32} (hd : decode M.cc pc = .ok (.getfield index, 3)) (hv : gI c j σ o = some x) (hf : FL M.own index c j false ty) (hbk : bkc c = b) (h : Gx Γ M b τ P k n (pc + 3) lv (.int x :: st) σ) : Gx Γ M b τ P k n pc lv (.ref (Γ.B + pp o) :: st) σ := by
  intro p e s m args below meth c' H locs ls g hlv hw hS hz
  obtain ⟨⟨ho, hk⟩, rfl⟩ := of_if' hv
  obtain ⟨C, T, N, hcl, hc, hN, hj, hr, hm, -⟩ := hf
  obtain ⟨⟨hx, hb, hml, hown, hts⟩, hret, hlo, hin, hK, hSx, hB⟩ := id g
  refine va_get (D := Γ.D) (ci := c) (C := C) (T := T) (N := N) (v := .int (iv σ o j)) hx hb hts (clin c _ hcl) hown hK hw.2 (pp o) (he := (wld_at ho (by rw [hk]; exact hbk)).trans (by rw [cel_o hk hc])) hcl j hj (hts _ hm) (fun _ h9 => h9) ?_ hd (h p e s m args below meth c' H locs ls g hlv hw hS hz)
  rw [fld_at hN hj]
  unfold fldv
  rw [hr]
  rfl
theorem gx_getN {c j o index a : Nat} {ty : FieldType} (hd : decode M.cc pc = .ok (.getfield index, 3)) (hv : gN c j σ o = some a) (hf : FL M.own index c j true ty) (hbk : bkc c = b) (h : Gx Γ M b τ P k n (pc + 3) lv (.ref (Γ.B + pp a) :: st) σ) : Gx Γ M b τ P k n pc lv (.ref (Γ.B + pp o) :: st) σ := by
  intro p e s m args below meth c' H locs ls g hlv hw hS hz
  obtain ⟨⟨ho, hk⟩, hra⟩ := of_if hv
  obtain ⟨C, T, N, hcl, hc, hN, hj, hr, hm, -⟩ := hf
  obtain ⟨⟨hx, hb, hml, hown, hts⟩, hret, hlo, hin, hK, hSx, hB⟩ := id g
  refine va_get (D := Γ.D) (ci := c) (C := C) (T := T) (N := N) (v := .ref (Γ.B + pp a)) hx hb hts (clin c _ hcl) hown hK hw.2 (pp o) (he := (wld_at ho (by rw [hk]; exact hbk)).trans (by rw [cel_o hk hc])) hcl j hj (hts _ hm) (fun _ h9 => h9) ?_ hd (h p e s m args below meth c' H locs ls g hlv hw hS hz)
  rw [fld_at hN hj]
  unfold fldv
  rw [if_pos hr, hra]
  rfl
/-- behind a store: the heap holds the new memory -/
theorem Wp.set {H1 : Heap} {H : Heap} {o : Nat} (hw : Wp Γ b τ σ H) (hn : nn σ' = nn σ) (hz : H1.size = H.size) (hbk : bkc (SH o).1 = b) (hσ : ∀ o', o' ≠ o → cel Γ.B Γ.cy σ' o' = cel Γ.B Γ.cy σ o') (hP : va_P Γ.D vwCl ((wld Γ.B Γ.cy σ τ b (nn σ)).set (pp o) (Γ.B + pp o, cel Γ.B Γ.cy σ' o)) H1) : Wp Γ b τ σ' H1 := by
  refine ⟨by rw [hz, hn]; exact hw.1, ?_⟩
  rw [hn, ← wld_set hbk hσ]
  exact hP
end GH
