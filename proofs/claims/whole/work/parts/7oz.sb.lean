/-! bytes with a sign -/
abbrev sb (x : Nat) : Int32 := (nI x).toInt8.toInt32
theorem sb_all : ∀ x, x < 256 → (sb x = 32 ↔ x = 32) ∧ ((sb x < 48 ∨ 57 < sb x) ↔ dg x = false) ∧ ((sb x < 97 ∨ 122 < sb x) ↔ lt' x = false) ∧ sb x &&& 255 = nI x ∧ (x < 128 → sb x = nI x) := by decide +kernel
theorem sb_eq : ∀ x, x < 256 → ∀ c, c < 128 → (sb x = nI c ↔ x = c) := by decide +kernel
