/-! bits -/
theorem sm32 : ∀ t, t < 32 → ((nI t &&& 31).toBitVec.smod 32).toNat = t := by decide +kernel
theorem bitAt {F t : Nat} (hF : F < 2 ^ 31) (ht : t < 32) : (nI F >>> (nI t &&& 31)) &&& 1 = nI (F / 2 ^ t % 2) := by
  rw [pk_shrN hF _ t (sm32 t ht), pk_andN (n := F / 2 ^ t) (Nat.lt_of_le_of_lt (Nat.div_le_self _ _) (by omega)) 1 (by decide)]
theorem shl1 {t : Nat} (ht : t < 32) : (1 : Int32) <<< (nI t &&& 31) = nI (2 ^ t) := by
  rw [show (1 : Int32) = nI 1 from rfl, pk_shlN (n := 1) _ t (sm32 t ht) (by rw [Nat.one_mul]; exact Nat.pow_lt_pow_right (by decide) ht), Nat.one_mul]
theorem nI_and (a b : Nat) (ha : a < 2 ^ 32) (hb : b < 2 ^ 32) : nI a &&& nI b = nI (a &&& b) := by
  apply Int32.toBitVec_inj.mp
  apply BitVec.eq_of_toNat_eq
  show ((nI a).toBitVec &&& (nI b).toBitVec).toNat = _
  rw [BitVec.toNat_and, pk_tn ha, pk_tn hb, pk_tn (Nat.lt_of_le_of_lt Nat.and_le_left ha)]
theorem nI_or (a b : Nat) (ha : a < 2 ^ 32) (hb : b < 2 ^ 32) : nI a ||| nI b = nI (a ||| b) := by
  apply Int32.toBitVec_inj.mp
  apply BitVec.eq_of_toNat_eq
  show ((nI a).toBitVec ||| (nI b).toBitVec).toNat = _
  rw [BitVec.toNat_or, pk_tn ha, pk_tn hb, pk_tn (Nat.or_lt_two_pow ha hb)]
theorem nI_xor (a b : Nat) (ha : a < 2 ^ 32) (hb : b < 2 ^ 32) : nI a ^^^ nI b = nI (a ^^^ b) := by
  apply Int32.toBitVec_inj.mp
  apply BitVec.eq_of_toNat_eq
  show ((nI a).toBitVec ^^^ (nI b).toBitVec).toNat = _
  rw [BitVec.toNat_xor, pk_tn ha, pk_tn hb, pk_tn (Nat.xor_lt_two_pow ha hb)]
theorem all64 {P : Nat → Prop} (h : ∀ a, a < 64 → ∀ b, b < 64 → P (64 * a + b)) : ∀ F, F < 4096 → P F := by
  intro F hF
  have := h (F / 64) (by omega) (F % 64) (by omega)
  rwa [Nat.div_add_mod] at this
/-- how many bits -/
def pc (F : Nat) : Nat := ((List.range 12).filter (fun i => F.testBit i)).length
def kern : Nat → Nat → Nat
  | 0, _ => 0
  | n + 1, s => if s = 0 then 0 else 1 + kern n (s &&& (s - 1))
theorem kern_pc : ∀ F, F < 4096 → kern 13 F = pc F := all64 (P := fun F => kern 13 F = pc F) (by decide +kernel)
theorem kern_le : ∀ n s, kern n s ≤ n := by
  intro n
  induction n with
  | zero => intro s; exact Nat.le_refl _
  | succ n ih =>
    intro s
    unfold kern
    by_cases h : s = 0
    · rw [if_pos h]; omega
    · rw [if_neg h]; have := ih (s &&& (s - 1)); omega
theorem kern_stop : ∀ F, F < 4096 → kern 12 F = kern 13 F := all64 (P := fun F => kern 12 F = kern 13 F) (by decide +kernel)
theorem bits_loop {N : Nat} {τ : Mm} : ∀ (k n a s : Nat), s < 2 ^ 31 → kern k s = kern (k + 1) s → k < n → f_X11_bits_4 N n (nI a) (nI s) τ = some (nI (a + kern (k + 1) s), τ) := by
  intro k
  induction k with
  | zero =>
    intro n a s hs hk hn
    obtain ⟨n, rfl⟩ : ∃ q, n = q + 1 := ⟨n - 1, by omega⟩
    by_cases h0 : s = 0
    · subst h0
      rw [f_X11_bits_4, if_pos (by decide)]
      rfl
    · exfalso
      simp [kern, h0] at hk
  | succ k ih =>
    intro n a s hs hk hn
    obtain ⟨n, rfl⟩ : ∃ q, n = q + 1 := ⟨n - 1, by omega⟩
    rw [f_X11_bits_4]
    by_cases h0 : s = 0
    · subst h0
      rw [if_pos (by decide)]
      rfl
    · rw [if_neg (by rw [show (0 : Int32) = nI 0 from rfl, nI_eq hs (by decide)]; exact h0)]
      have e1 : nI s - 1 = nI (s - 1) := by rw [show (1 : Int32) = nI 1 from rfl, pk_sub (by omega)]
      rw [e1, nI_and s (s - 1) (by omega) (by omega), nI_1]
      have hk2 : kern k (s &&& (s - 1)) = kern (k + 1) (s &&& (s - 1)) := by
        have := hk
        rw [kern, kern, if_neg h0, if_neg h0] at this
        omega
      rw [ih n (a + 1) (s &&& (s - 1)) (Nat.lt_of_le_of_lt Nat.and_le_left hs) hk2 (by omega)]
      rw [show kern (k + 1 + 1) s = 1 + kern (k + 1) (s &&& (s - 1)) by rw [kern, if_neg h0]]
      congr 3
      omega
theorem e_bits {N F : Nat} {τ : Mm} (hF : F < 4096) (hN : 100 ≤ N) : f_X11_bits N (nI F) τ = some (nI (pc F), τ) := by
  unfold f_X11_bits
  rw [show (0 : Int32) = nI 0 from rfl, bits_loop 12 N 0 F (by omega) (kern_stop F hF) (by omega), Nat.zero_add, kern_pc F hF]
def swar (l0 : Int32) : Int32 :=
  let a := l0 - ((UInt32.toInt32 (Int32.toUInt32 l0 >>> (Int32.toUInt32 1 &&& Int32.toUInt32 31))) &&& 1431655765)
  let b := (a &&& 858993459) + ((UInt32.toInt32 (Int32.toUInt32 a >>> (Int32.toUInt32 2 &&& Int32.toUInt32 31))) &&& 858993459)
  let c := (b + (UInt32.toInt32 (Int32.toUInt32 b >>> (Int32.toUInt32 4 &&& Int32.toUInt32 31)))) &&& 252645135
  let d := c + (UInt32.toInt32 (Int32.toUInt32 c >>> (Int32.toUInt32 8 &&& Int32.toUInt32 31)))
  let e := d + (UInt32.toInt32 (Int32.toUInt32 d >>> (Int32.toUInt32 16 &&& Int32.toUInt32 31)))
  e &&& 63
theorem swar_pc : ∀ F, F < 4096 → swar (nI F) = nI (pc F) := all64 (P := fun F => swar (nI F) = nI (pc F)) (by decide +kernel)
theorem e_bitCount {N F : Nat} {σ : Mm} (hF : F < 4096) : f_J6_bitCount_0f7a4 N (nI F) σ = some (nI (pc F), σ) := by
  rw [← swar_pc F hF]
  rfl
theorem pc_le (F : Nat) : pc F ≤ 12 := by
  unfold pc
  exact Nat.le_trans (List.length_filter_le _ _) (by simp)
theorem no12 {c : Nat} (h : c < 12) : ¬ (12 : Int32) ≤ nI c := by rw [show (12 : Int32) = nI 12 from rfl]; exact nI_ge h (by decide)
theorem no4096 {c : Nat} (h : c < 4096) : ¬ (4096 : Int32) ≤ nI c := by rw [show (4096 : Int32) = nI 4096 from rfl]; exact nI_ge h (by decide)
