/-! the beginning -/
def F1 : Mm := (f_X10_init 5000 0 (nw mm0)).getD mm0
def G1 : Mm := (f_X11_init 5000 63 (nw (setn mm0 65))).getD mm0
theorem F1_is : (f_X10_init 5000 0 (nw mm0)).isSome = true := by decide +kernel
theorem G1_is : (f_X11_init 5000 63 (nw (setn mm0 65))).isSome = true := by decide +kernel
theorem F1_eq : f_X10_init 5000 0 (nw mm0) = some F1 := by
  unfold F1
  cases e : f_X10_init 5000 0 (nw mm0) with
  | none => have := F1_is; rw [e] at this; cases this
  | some s => rfl
theorem G1_eq : f_X11_init 5000 63 (nw (setn mm0 65)) = some G1 := by
  unfold G1
  cases e : f_X11_init 5000 63 (nw (setn mm0 65)) with
  | none => have := G1_is; rw [e] at this; cases this
  | some s => rfl
theorem F1_nn : nn F1 = 65 := by decide +kernel
theorem G1_nn : nn G1 = 85 := by decide +kernel
theorem F1_rf : ∀ p ∈ crefs, rv F1 p.1 p.2.1 = some p.2.2 := by decide +kernel
theorem F1_v9 : ∀ p ∈ vrefs, rv F1 9 p.1 = some (9 + p.2) ∧ rv F1 20 p.1 = some (20 + p.2) := by decide +kernel
theorem F1_im : ∀ k, k < 4 → rv F1 31 k = none := by decide +kernel
theorem F1_iv : iv F1 1 1 = 0 ∧ iv F1 0 8 = 0 ∧ iv F1 9 0 = 0 ∧ iv F1 9 8 = 0 ∧ iv F1 9 13 = 0 ∧ iv F1 9 11 = 0 ∧ ∀ k, k < 32 → iv F1 19 k = 0 := by decide +kernel
theorem G1_wm : WFm G1 := by unfold WFm; decide +kernel
theorem G1_iv : iv G1 63 1 = 0 ∧ iv G1 63 2 = 0 ∧ (∀ k, k < 4 → iv G1 82 k = 0) ∧ ∀ i, i < 156 → iv G1 75 i = 0 := by decide +kernel
