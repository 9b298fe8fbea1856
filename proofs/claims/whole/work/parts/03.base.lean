/-! the words that may be carried from call to call -/
def tbl : List Cond := lw_tbl.filter goodWord
theorem tbl_mem {w : Cond} (i : Nat) (h : lw_tbl[i]? = some w) (hg : goodWord w = true) : w ∈ tbl := List.mem_filter.mpr ⟨List.mem_of_getElem? h, hg⟩
theorem tbl_good : ∀ w ∈ tbl, (w.onTables && w.keeps) = true ∨ ∃ ty, w = .arrayClass ty := fun w h => good_of_word (List.mem_filter.mp h).2
theorem tbl_in {c : Cond} (hc : c ∈ tbl) : GoodIn tbl (c :: tbl) := by
  intro w hw
  rcases List.mem_cons.mp hw with rfl | h
  · exact ⟨hc, tbl_good _ hc⟩
  · exact ⟨h, tbl_good _ h⟩
/-! memory: ints, longs, references by object and place, and how many objects there are -/
abbrev Mm : Type := (Nat → Nat → Int32) × (Nat → Nat → Int64) × (Nat → Nat → Option Nat) × Nat
def iv (σ : Mm) (o k : Nat) : Int32 := σ.1 o k
def jv (σ : Mm) (o k : Nat) : Int64 := σ.2.1 o k
def rv (σ : Mm) (o k : Nat) : Option Nat := σ.2.2.1 o k
def nn (σ : Mm) : Nat := σ.2.2.2
def up2 {α : Type} (f : Nat → Nat → α) (o k : Nat) (v : α) : Nat → Nat → α := fun o' k' => if o' = o ∧ k' = k then v else f o' k'
def si (σ : Mm) (o k : Nat) (v : Int32) : Mm := (up2 σ.1 o k v, σ.2)
def sj (σ : Mm) (o k : Nat) (v : Int64) : Mm := (σ.1, up2 σ.2.1 o k v, σ.2.2)
def sr (σ : Mm) (o k : Nat) (v : Option Nat) : Mm := (σ.1, σ.2.1, up2 σ.2.2.1 o k v, σ.2.2.2)
/-- an object's number and its place in the order of making: the law's draft and its steps, 83 and 84, are made tenth and eleventh -/
def pp (o : Nat) : Nat := if o < 9 then o else if o < 83 then o + 2 else if o < 85 then o - 74 else o
def pq (i : Nat) : Nat := if i < 9 then i else if i < 11 then i + 74 else if i < 85 then i - 2 else i
theorem pp_pq (i : Nat) : pp (pq i) = i := by
  unfold pp pq
  by_cases h1 : i < 9
  · simp [h1]
  · by_cases h2 : i < 11
    · rw [if_neg h1, if_pos h2, if_neg (by omega), if_neg (by omega), if_pos (by omega)]; omega
    · by_cases h3 : i < 85
      · rw [if_neg h1, if_neg h2, if_pos h3, if_neg (by omega), if_pos (by omega)]; omega
      · rw [if_neg h1, if_neg h2, if_neg h3, if_neg h1, if_neg (by omega), if_neg h3]
theorem pq_pp (o : Nat) : pq (pp o) = o := by
  unfold pp pq
  by_cases h1 : o < 9
  · simp [h1]
  · by_cases h2 : o < 83
    · rw [if_neg h1, if_pos h2, if_neg (by omega), if_neg (by omega), if_pos (by omega)]; omega
    · by_cases h3 : o < 85
      · rw [if_neg h1, if_neg h2, if_pos h3, if_neg (by omega), if_pos (by omega)]; omega
      · rw [if_neg h1, if_neg h2, if_neg h3, if_neg h1, if_neg (by omega), if_neg h3]
theorem pp_ge {o : Nat} (h : 85 ≤ o) : pp o = o := by unfold pp; rw [if_neg (by omega), if_neg (by omega), if_neg (by omega)]
theorem pq_ge {i : Nat} (h : 85 ≤ i) : pq i = i := by unfold pq; rw [if_neg (by omega), if_neg (by omega), if_neg (by omega)]
theorem pp_lt {o n : Nat} (h : o < n) (hn : 85 ≤ n) : pp o < n := by
  unfold pp
  by_cases h1 : o < 9
  · rw [if_pos h1]; exact h
  · by_cases h2 : o < 83
    · rw [if_neg h1, if_pos h2]; omega
    · by_cases h3 : o < 85
      · rw [if_neg h1, if_neg h2, if_pos h3]; omega
      · rw [if_neg h1, if_neg h2, if_neg h3]; exact h
theorem pp_inj {a b : Nat} (h : pp a = pp b) : a = b := by rw [← pq_pp a, h, pq_pp]
def nw (σ : Mm) : Mm := (fun o k => if o = pq (nn σ) then 0 else σ.1 o k, fun o k => if o = pq (nn σ) then 0 else σ.2.1 o k, fun o k => if o = pq (nn σ) then none else σ.2.2.1 o k, nn σ + 1)
def cpy (σ : Mm) (a sp b dp n : Nat) : Mm := (fun o k => if o = b ∧ dp ≤ k ∧ k < dp + n then σ.1 a (sp + (k - dp)) else σ.1 o k, σ.2)
theorem iv_si (σ : Mm) (o k : Nat) (v : Int32) (o' k' : Nat) : iv (si σ o k v) o' k' = if o' = o ∧ k' = k then v else iv σ o' k' := rfl
theorem iv_sj (σ : Mm) (o k : Nat) (v : Int64) : iv (sj σ o k v) = iv σ := rfl
theorem iv_sr (σ : Mm) (o k : Nat) (v : Option Nat) : iv (sr σ o k v) = iv σ := rfl
theorem jv_si (σ : Mm) (o k : Nat) (v : Int32) : jv (si σ o k v) = jv σ := rfl
theorem jv_sj (σ : Mm) (o k : Nat) (v : Int64) (o' k' : Nat) : jv (sj σ o k v) o' k' = if o' = o ∧ k' = k then v else jv σ o' k' := rfl
theorem jv_sr (σ : Mm) (o k : Nat) (v : Option Nat) : jv (sr σ o k v) = jv σ := rfl
theorem rv_si (σ : Mm) (o k : Nat) (v : Int32) : rv (si σ o k v) = rv σ := rfl
theorem rv_sj (σ : Mm) (o k : Nat) (v : Int64) : rv (sj σ o k v) = rv σ := rfl
theorem rv_sr (σ : Mm) (o k : Nat) (v : Option Nat) (o' k' : Nat) : rv (sr σ o k v) o' k' = if o' = o ∧ k' = k then v else rv σ o' k' := rfl
theorem nn_si (σ : Mm) (o k : Nat) (v : Int32) : nn (si σ o k v) = nn σ := rfl
theorem nn_sj (σ : Mm) (o k : Nat) (v : Int64) : nn (sj σ o k v) = nn σ := rfl
theorem nn_sr (σ : Mm) (o k : Nat) (v : Option Nat) : nn (sr σ o k v) = nn σ := rfl
theorem nn_cpy (σ : Mm) (a sp b dp n : Nat) : nn (cpy σ a sp b dp n) = nn σ := rfl
theorem rv_cpy (σ : Mm) (a sp b dp n : Nat) : rv (cpy σ a sp b dp n) = rv σ := rfl
theorem jv_cpy (σ : Mm) (a sp b dp n : Nat) : jv (cpy σ a sp b dp n) = jv σ := rfl
theorem iv_cpy (σ : Mm) (a sp b dp n o k : Nat) : iv (cpy σ a sp b dp n) o k = if o = b ∧ dp ≤ k ∧ k < dp + n then iv σ a (sp + (k - dp)) else iv σ o k := rfl
/-! the objects of this program: what each is (a class's number, or an array's kind: 12 byte, 13 int, 14 long, 15 boolean, 16 Law, 17 Valley; 100 more: the model's) and how long -/
abbrev shl : List (Nat × Nat) := [(10, 0), (5, 0), (13, 400), (6, 0), (13, 401), (13, 401), (13, 401), (8, 0), (3, 0),
  (7, 0), (13, 12), (13, 12), (13, 12), (13, 12), (13, 12), (13, 12), (13, 12), (13, 12), (13, 12), (13, 32),
  (7, 0), (13, 12), (13, 12), (13, 12), (13, 12), (13, 12), (13, 12), (13, 12), (13, 12), (13, 12), (13, 32),
  (17, 4), (16, 6), (9, 0), (13, 9), (14, 64), (1, 0), (13, 12), (13, 12), (13, 8), (13, 8), (13, 8),
  (4, 0), (13, 12), (13, 12), (13, 12), (13, 12), (0, 0), (13, 12), (13, 768), (13, 12),
  (2, 0), (13, 400), (2, 0), (13, 400), (2, 0), (13, 400), (2, 0), (13, 400), (2, 0), (13, 400), (2, 0), (13, 400),
  (11, 0), (112, 400), (113, 2400), (113, 7), (113, 288), (113, 6), (113, 72), (113, 24), (113, 32), (113, 400), (114, 64), (114, 9), (113, 156), (113, 12), (113, 8), (113, 12), (113, 12), (113, 12), (113, 624), (115, 4),
  (2, 0), (13, 400)]
def SH (o : Nat) : Nat × Nat := if o < 85 then shl.getD o (0, 0) else if (o - 85) % 11 = 0 then (7, 0) else if (o - 85) % 11 = 10 then (13, 32) else (13, 12)
def bkc (k : Nat) : Nat := if k = 11 ∨ 100 ≤ k then 100 else 0
def nsl (k : Nat) : Nat := ([9, 6, 2, 3, 9, 2, 6, 14, 2, 2, 14, 33] : List Nat).getD k 0
def isr (k j : Nat) : Bool := (([63, 62, 1, 3, 31, 1, 7, 5886, 1, 3, 16127, 8315735673] : List Nat).getD k 0).testBit j
def fldv (B : Nat) (σ : Mm) (o k j : Nat) : Value := if isr k j = true then va_rf ((rv σ o j).map (fun r => B + pp r)) else .int (iv σ o j)
def cel (B : Nat) (cy : Nat → ClassId) (σ : Mm) (o : Nat) : va_E :=
  if (SH o).1 % 100 < 12 then .inr ((SH o).1 % 100, (List.range (nsl ((SH o).1 % 100))).map (fldv B σ o ((SH o).1 % 100)))
  else if (SH o).1 % 100 = 14 then .inl (cy 2, (SH o).2, .inr (.inl (jv σ o)))
  else if (SH o).1 % 100 < 16 then .inl (cy ((SH o).1 % 100 - 12), (SH o).2, .inl (iv σ o))
  else .inl (cy ((SH o).1 % 100 - 12), (SH o).2, .inr (.inr (.inr (.inr (fun i => (rv σ o i).map (fun r => B + pp r))))))
def tyl (cy : Nat → ClassId) : List (ClassId × FieldType) := [(cy 0, .byte), (cy 1, .int), (cy 2, .long), (cy 3, .boolean), (cy 4, .object "MostCocks$Law"), (cy 5, .object "MostCocks$Valley")]
def wld (B : Nat) (cy : Nat → ClassId) (σ τ : Mm) (b N : Nat) : va_W := (List.range N).map (fun i => (B + i, cel B cy (if bkc (SH (pq i)).1 = b then σ else τ) (pq i)))
theorem wld_at {B : Nat} {cy : Nat → ClassId} {σ τ : Mm} {b N o : Nat} (h : pp o < N) (hb : bkc (SH o).1 = b) : (wld B cy σ τ b N)[pp o]? = some (B + pp o, cel B cy σ o) := by
  unfold wld
  rw [List.getElem?_map, List.getElem?_range h]
  simp [hb, pq_pp]
theorem wld_len {B : Nat} {cy : Nat → ClassId} {σ τ : Mm} {b N : Nat} : (wld B cy σ τ b N).length = N := by simp [wld]
theorem wld_set {B : Nat} {cy : Nat → ClassId} {σ σ' τ : Mm} {b N o : Nat} (hb : bkc (SH o).1 = b) (hσ : ∀ o', o' ≠ o → cel B cy σ' o' = cel B cy σ o') : (wld B cy σ τ b N).set (pp o) (B + pp o, cel B cy σ' o) = wld B cy σ' τ b N := by
  apply List.ext_getElem?
  intro i
  rw [List.getElem?_set]
  by_cases hi : pp o = i
  · subst hi
    by_cases hN : pp o < N
    · rw [if_pos rfl, wld_len, if_pos hN, wld_at hN hb]
    · rw [if_pos rfl, wld_len, if_neg hN]
      symm
      apply List.getElem?_eq_none
      rw [wld_len]
      omega
  · rw [if_neg hi]
    unfold wld
    rw [List.getElem?_map, List.getElem?_map]
    by_cases hN : i < N
    · rw [List.getElem?_range hN]
      simp only [Option.map_some]
      by_cases h2 : bkc (SH (pq i)).1 = b
      · rw [if_pos h2, if_pos h2, hσ (pq i) (fun e => hi (by rw [← e, pp_pq]))]
      · rw [if_neg h2, if_neg h2]
    · rw [List.getElem?_eq_none (by rw [List.length_range]; omega)]
      rfl
theorem wld_D {B : Nat} {cy : Nat → ClassId} {σ τ : Mm} {b N : Nat} : va_D (fun q => B ≤ q) (wld B cy σ τ b N) := by
  have key : ∀ (i : Nat) (p : Nat × va_E), (wld B cy σ τ b N)[i]? = some p → p.1 = B + i := by
    intro i p h
    have hi : i < N := by
      have := (List.getElem?_eq_some_iff.mp h).1
      rw [wld_len] at this
      exact this
    unfold wld at h
    rw [List.getElem?_map, List.getElem?_range hi] at h
    simp only [Option.map_some] at h
    rw [← Option.some.inj h]
  refine ⟨fun i j p q hp hq e => ?_, fun k q h => ?_⟩
  · have h1 := key i p hp
    have h2 := key j q hq
    omega
  · show B ≤ q.1
    rw [key k q h]
    omega
