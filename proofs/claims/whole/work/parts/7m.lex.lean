/-! the signs of a tape -/
def dg (x : Nat) : Bool := decide (48 ≤ x) && decide (x ≤ 57)
def lt' (x : Nat) : Bool := decide (97 ≤ x) && decide (x ≤ 122)
theorem dg_iff (x : Nat) : dg x = true ↔ 48 ≤ x ∧ x ≤ 57 := by unfold dg; simp
theorem lt_iff' (x : Nat) : lt' x = true ↔ 97 ≤ x ∧ x ≤ 122 := by unfold lt'; simp
/-- a run of signs -/
def rn (P : Nat → Bool) (b : Nat → Nat) : Nat → Nat → Nat
  | 0, i => i
  | d + 1, i => if P (b i) then rn P b d (i + 1) else i
def TP (b : Nat → Nat) (t : Nat) : Prop := t ≤ 400 ∧ (∀ i, b i < 256) ∧ ∀ i, t ≤ i → b i = 0
def rE (P : Nat → Bool) (b : Nat → Nat) (t i : Nat) : Nat := rn P b (t - i) i
def sp' (x : Nat) : Bool := decide (x = 32)
theorem rE_y {P : Nat → Bool} {b : Nat → Nat} {t i : Nat} (h0 : P 0 = false) (hb : TP b t) (h : P (b i) = true) : rE P b t i = rE P b t (i + 1) ∧ i < t := by
  have hi : i < t := by
    by_cases q : i < t
    · exact q
    · rw [hb.2.2 i (by omega), h0] at h; cases h
  refine ⟨?_, hi⟩
  unfold rE
  rw [show t - i = (t - (i + 1)) + 1 by omega]
  show (if P (b i) then rn P b (t - (i + 1)) (i + 1) else i) = _
  rw [if_pos h]
theorem rE_n {P : Nat → Bool} {b : Nat → Nat} {t i : Nat} (h : P (b i) = false) : rE P b t i = i := by
  unfold rE
  cases e : t - i with
  | zero => rfl
  | succ d =>
    show (if P (b i) then rn P b d (i + 1) else i) = _
    rw [if_neg (by rw [h]; decide)]
theorem rE_spec {P : Nat → Bool} {b : Nat → Nat} {t : Nat} (h0 : P 0 = false) (hb : TP b t) : ∀ d i, t - i = d → i ≤ rE P b t i ∧ (i ≤ t → rE P b t i ≤ t) ∧ P (b (rE P b t i)) = false ∧ ∀ j, i ≤ j → j < rE P b t i → P (b j) = true := by
  intro d
  induction d with
  | zero =>
    intro i hi
    have hn : P (b i) = false := by rw [hb.2.2 i (by omega)]; exact h0
    rw [rE_n hn]
    exact ⟨Nat.le_refl _, fun h => h, hn, fun j a c => by omega⟩
  | succ d ih =>
    intro i hi
    cases h : P (b i)
    · rw [rE_n h]
      exact ⟨Nat.le_refl _, fun h => h, h, fun j a c => by omega⟩
    · obtain ⟨e, hi'⟩ := rE_y h0 hb h
      rw [e]
      obtain ⟨g1, g2, g3, g4⟩ := ih (i + 1) (by omega)
      refine ⟨by omega, fun _ => g2 (by omega), g3, fun j a c => ?_⟩
      by_cases q : j = i
      · rw [q]; exact h
      · exact g4 j (by omega) c
section LX
variable (b : Nat → Nat) (t : Nat)
abbrev skp (i : Nat) : Nat := rE sp' b t i
abbrev lE (i : Nat) : Nat := rE lt' b t i
abbrev dE (i : Nat) : Nat := rE dg b t i
/-- a word as one number -/
def ac (f : Nat → Nat) : Nat → Nat
  | 0 => 0
  | i + 1 => ac f i * 256 + f i
def wT : List Nat := [116, 117, 114, 110, 32, 32, 105, 102, 32, 32, 32, 32, 111, 114, 32, 32, 32, 32, 97, 110, 100, 32, 32, 32, 110, 111, 116, 32, 32, 32, 99, 111, 99, 107, 32, 32, 114, 117, 115, 116, 32, 32, 97, 103, 101, 32, 32, 32, 111, 119, 110, 101, 114, 32, 97, 116, 32, 32, 32, 32, 111, 102, 102, 32, 32, 32, 119, 105, 110, 100, 32, 32, 108, 101, 101, 32, 32, 32, 104, 111, 117, 114, 32, 32, 116, 114, 101, 101, 32, 32, 119, 111, 114, 116, 104, 32]
def wc (j i : Nat) : Nat := wT.getD (6 * j + i) 0
def wl (j : Nat) : Nat := ([4, 2, 2, 3, 3, 4, 4, 3, 5, 2, 3, 4, 3, 4, 4, 5] : List Nat).getD j 0
def wp (j : Nat) : Nat := ([1953854062, 26982, 28530, 6385252, 7237492, 1668244331, 1920299892, 6383461, 478745093490, 24948, 7300710, 2003398244, 7103845, 1752135026, 1953654117, 512970880104] : List Nat).getD j 0
def kwL (v : Nat) : Nat → Nat → Nat
  | _, 0 => 2
  | j, d + 1 => if v = wp j then 20 + j else kwL v (j + 1) d
def wK (p : Nat) : Nat := kwL (ac (fun i => b (p + i)) (lE b t p - p)) 0 16
def sK (x : Nat) : Nat := if x = 42 then 9 else if x = 43 then 7 else if x = 45 then 8 else if x = 47 then 10 else if x = 59 then 4 else if x = 60 then 11 else if x = 61 then 13 else if x = 62 then 15 else if x = 91 then 5 else if x = 93 then 6 else 2
def wd' (p : Nat) : Bool := (decide (b p = 60) || decide (b p = 62)) && decide (b (p + 1) = 61)
def tK (p : Nat) : Nat := if t ≤ p then 1 else if dg (b p) then 3 else if lt' (b p) then wK b t p else if wd' b p then sK (b p) + (if b p = 60 then 1 else 0) - (if b p = 62 then 1 else 0) else sK (b p)
def tE (p : Nat) : Nat := if dg (b p) then dE b t p else if lt' (b p) then lE b t p else if wd' b p then p + 2 else p + 1
def vl (p : Nat) : Nat → Nat
  | 0 => 0
  | i + 1 => vl p i * 10 + b (p + i) - 48
def tV (p : Nat) : Int32 := if t ≤ p then 0 else if dg (b p) then (if 5 < dE b t p - p then -1 else nI (vl b p (dE b t p - p))) else 0
def pl : Nat → Nat
  | 0 => skp b t 0
  | k + 1 => skp b t (tE b t (pl k))
end LX
theorem ac_cong {f g : Nat → Nat} : ∀ L, (∀ i, i < L → f i = g i) → ac f L = ac g L := by
  intro L
  induction L with
  | zero => intro _; rfl
  | succ L ih =>
    intro h
    show ac f L * 256 + f L = ac g L * 256 + g L
    rw [ih (fun i hi => h i (by omega)), h L (by omega)]
theorem ac_inj {f g : Nat → Nat} : ∀ L L', (∀ i, i < L → 97 ≤ f i ∧ f i ≤ 122) → (∀ i, i < L' → 97 ≤ g i ∧ g i ≤ 122) → ac f L = ac g L' → L = L' ∧ ∀ i, i < L → f i = g i := by
  intro L
  induction L with
  | zero =>
    intro L' hf hg h
    cases L' with
    | zero => exact ⟨rfl, fun i hi => absurd hi (Nat.not_lt_zero _)⟩
    | succ L' =>
      have := hg L' (by omega)
      have h : 0 = ac g L' * 256 + g L' := h
      omega
  | succ L ih =>
    intro L' hf hg h
    cases L' with
    | zero =>
      have := hf L (by omega)
      have h : ac f L * 256 + f L = 0 := h
      omega
    | succ L' =>
      have h : ac f L * 256 + f L = ac g L' * 256 + g L' := h
      have h1 := hf L (by omega)
      have h2 := hg L' (by omega)
      obtain ⟨e1, e2⟩ := ih L' (fun i hi => hf i (by omega)) (fun i hi => hg i (by omega)) (by omega)
      subst e1
      refine ⟨rfl, fun i hi => ?_⟩
      by_cases q : i = L
      · subst q; omega
      · exact e2 i (by omega)
theorem wp_ac : ∀ j, j < 16 → wp j = ac (wc j) (wl j) ∧ wl j ≤ 5 ∧ 1 ≤ wl j ∧ (∀ i, i < 6 → i < wl j → 97 ≤ wc j i ∧ wc j i ≤ 122) ∧ ∀ i, i < 6 → wl j ≤ i → wc j i = 32 := by decide +kernel
theorem wp_ne : ∀ i, i < 16 → ∀ j, j < 16 → wp i = wp j → i = j := by decide +kernel
theorem kwL_at {v : Nat} : ∀ d j, j + d = 16 → (∃ i, j ≤ i ∧ i < 16 ∧ v = wp i ∧ kwL v j d = 20 + i) ∨ ((∀ i, j ≤ i → i < 16 → v ≠ wp i) ∧ kwL v j d = 2) := by
  intro d
  induction d with
  | zero => intro j h; right; exact ⟨fun i a c => by omega, rfl⟩
  | succ d ih =>
    intro j h
    unfold kwL
    by_cases q : v = wp j
    · left; exact ⟨j, Nat.le_refl _, by omega, q, if_pos q⟩
    · rw [if_neg q]
      rcases ih (j + 1) (by omega) with ⟨i, a, c, e, f⟩ | ⟨a, c⟩
      · left; exact ⟨i, by omega, c, e, f⟩
      · right
        refine ⟨fun i x y => ?_, c⟩
        by_cases z : i = j
        · rw [z]; exact q
        · exact a i (by omega) y
theorem kw_iff {v j : Nat} (hj : j < 16) : kwL v 0 16 = 20 + j ↔ v = wp j := by
  rcases kwL_at (v := v) 16 0 rfl with ⟨i, _, c, e, f⟩ | ⟨a, c⟩
  · rw [f]
    constructor
    · intro h; rw [e, show i = j by omega]
    · intro h; rw [wp_ne i c j hj (e.symm.trans h)]
  · rw [c]
    constructor
    · intro h; omega
    · intro h; exact absurd h (a j (Nat.zero_le _) hj)
theorem kw_rg (v : Nat) : kwL v 0 16 = 2 ∨ (20 ≤ kwL v 0 16 ∧ kwL v 0 16 ≤ 35) := by
  rcases kwL_at (v := v) 16 0 rfl with ⟨i, _, c, e, f⟩ | ⟨a, c⟩
  · right; rw [f]; omega
  · left; exact c
theorem dg0 : dg 0 = false := by decide
theorem lt0 : lt' 0 = false := by decide
theorem sp0 : sp' 0 = false := by decide
section LY
variable {b : Nat → Nat} {t : Nat}
theorem skp_sp (hb : TP b t) (i : Nat) : i ≤ skp b t i ∧ (i ≤ t → skp b t i ≤ t) ∧ b (skp b t i) ≠ 32 ∧ skp b t (skp b t i) = skp b t i := by
  obtain ⟨g1, g2, g3, _⟩ := rE_spec sp0 hb (t - i) i rfl
  refine ⟨g1, g2, ?_, rE_n g3⟩
  exact of_decide_eq_false g3
theorem dg_lt {x : Nat} (h : dg x = true) : lt' x = false := by
  rw [dg_iff] at h
  cases e : lt' x
  · rfl
  · rw [lt_iff'] at e; omega
theorem tE_sp (hb : TP b t) {p : Nat} (hp : p < t) : p < tE b t p ∧ tE b t p ≤ t := by
  unfold tE
  cases d : dg (b p)
  · simp only [Bool.false_eq_true, if_false]
    cases l : lt' (b p)
    · simp only [Bool.false_eq_true, if_false]
      cases w : wd' b p
      · simp only [Bool.false_eq_true, if_false]; omega
      · simp only [if_true]
        have : p + 1 < t := by
          unfold wd' at w
          simp only [Bool.and_eq_true, decide_eq_true_eq] at w
          by_cases q : p + 1 < t
          · exact q
          · have := hb.2.2 (p + 1) (by omega)
            omega
        omega
    · simp only [if_true]
      obtain ⟨e, _⟩ := rE_y lt0 hb l
      obtain ⟨g1, g2, _⟩ := rE_spec lt0 hb (t - (p + 1)) (p + 1) rfl
      rw [show lE b t p = rE lt' b t (p + 1) from e]
      exact ⟨by omega, g2 (by omega)⟩
  · simp only [if_true]
    obtain ⟨e, _⟩ := rE_y dg0 hb d
    obtain ⟨g1, g2, _⟩ := rE_spec dg0 hb (t - (p + 1)) (p + 1) rfl
    rw [show dE b t p = rE dg b t (p + 1) from e]
    exact ⟨by omega, g2 (by omega)⟩
theorem pl_le (hb : TP b t) : ∀ k, (∀ j, j < k → pl b t j < t) → k ≤ pl b t k ∧ pl b t k ≤ t ∧ b (pl b t k) ≠ 32 ∧ skp b t (pl b t k) = pl b t k := by
  intro k
  induction k with
  | zero =>
    intro _
    have := skp_sp hb 0
    exact ⟨Nat.zero_le _, this.2.1 (Nat.zero_le _), this.2.2.1, this.2.2.2⟩
  | succ k ih =>
    intro h
    obtain ⟨g1, g2, _⟩ := ih (fun j hj => h j (by omega))
    have hk := h k (by omega)
    obtain ⟨e1, e2⟩ := tE_sp hb hk
    have := skp_sp hb (tE b t (pl b t k))
    refine ⟨?_, this.2.1 e2, this.2.2.1, this.2.2.2⟩
    show k + 1 ≤ skp b t (tE b t (pl b t k))
    have := this.1
    omega
/-- letters up to the end of a word -/
theorem lE_le (hb : TP b t) (p : Nat) : p ≤ lE b t p ∧ ∀ i, i < lE b t p - p → 97 ≤ b (p + i) ∧ b (p + i) ≤ 122 := by
  obtain ⟨g1, _, _, g4⟩ := rE_spec lt0 hb (t - p) p rfl
  refine ⟨g1, fun i hi => ?_⟩
  have hi : i < rE lt' b t p - p := hi
  exact (lt_iff' _).1 (g4 (p + i) (by omega) (by omega))
end LY
