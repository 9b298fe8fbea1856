/-! the VOTE, in numbers -/
def gr (k : Nat → Nat) : Nat → Nat
  | 0 => 0
  | p + 1 => if k p ≤ gr k p then gr k p else k p
theorem gr_ge (k : Nat → Nat) : ∀ p j, j < p → k j ≤ gr k p := by
  intro p
  induction p with
  | zero => intro j hj; omega
  | succ p ih =>
    intro j hj
    unfold gr
    by_cases h : k p ≤ gr k p
    · rw [if_pos h]
      by_cases e : j = p
      · rw [e]; exact h
      · exact ih j (by omega)
    · rw [if_neg h]
      by_cases e : j = p
      · rw [e]; exact Nat.le_refl _
      · have := ih j (by omega); omega
theorem gr_at (k : Nat → Nat) : ∀ p, 0 < gr k p → ∃ j, j < p ∧ k j = gr k p := by
  intro p
  induction p with
  | zero => intro h; exact absurd h (by unfold gr; omega)
  | succ p ih =>
    unfold gr
    by_cases h : k p ≤ gr k p
    · rw [if_pos h]
      intro h0
      obtain ⟨j, j1, j2⟩ := ih h0
      exact ⟨j, by omega, j2⟩
    · rw [if_neg h]
      intro _
      exact ⟨p, by omega, rfl⟩
theorem gr_cong {k k' : Nat → Nat} : ∀ p, (∀ j, j < p → k j = k' j) → gr k p = gr k' p := by
  intro p
  induction p with
  | zero => intro _; rfl
  | succ p ih =>
    intro h
    unfold gr
    rw [ih (fun j hj => h j (by omega)), h p (by omega)]
theorem gr_le {k : Nat → Nat} {B : Nat} : ∀ p, (∀ j, j < p → k j ≤ B) → gr k p ≤ B := by
  intro p
  induction p with
  | zero => intro _; exact Nat.zero_le _
  | succ p ih =>
    intro h
    unfold gr
    by_cases q : k p ≤ gr k p
    · rw [if_pos q]; exact ih (fun j hj => h j (by omega))
    · rw [if_neg q]; exact h p (by omega)
/-- the oldest of those that say what most say -/
def old (r k a : Nat → Nat) (M : Nat) : Nat → Option Nat
  | 0 => none
  | c + 1 => if k (r c) = M then (match old r k a M c with
    | none => some c
    | some o => if a c ≤ a o then some o else some c) else old r k a M c
theorem old_in (r k a : Nat → Nat) (M : Nat) : ∀ c o, old r k a M c = some o → o < c ∧ k (r o) = M := by
  intro c
  induction c with
  | zero => intro o h; cases h
  | succ c ih =>
    intro o h
    unfold old at h
    by_cases q : k (r c) = M
    · rw [if_pos q] at h
      cases e : old r k a M c with
      | none =>
        rw [e] at h
        have := Option.some.inj h
        subst this
        exact ⟨by omega, q⟩
      | some x =>
        rw [e] at h
        have hx := ih x e
        by_cases z : a c ≤ a x
        · simp only [if_pos z] at h
          have := Option.some.inj h
          subst this
          exact ⟨by omega, hx.2⟩
        · simp only [if_neg z] at h
          have := Option.some.inj h
          subst this
          exact ⟨by omega, q⟩
    · rw [if_neg q] at h
      have := ih o h
      exact ⟨by omega, this.2⟩
theorem old_ex (r k a : Nat → Nat) (M : Nat) : ∀ c j, j < c → k (r j) = M → ∃ o, old r k a M c = some o := by
  intro c
  induction c with
  | zero => intro j h; omega
  | succ c ih =>
    intro j hj hk
    unfold old
    by_cases q : k (r c) = M
    · rw [if_pos q]
      cases e : old r k a M c with
      | none => exact ⟨c, rfl⟩
      | some x =>
        by_cases z : a c ≤ a x
        · exact ⟨x, by simp only [if_pos z]⟩
        · exact ⟨c, by simp only [if_neg z]⟩
    · rw [if_neg q]
      have : j ≠ c := fun e => q (e ▸ hk)
      exact ih j (by omega) hk
def vMost (r k a : Nat → Nat) (n : Nat) : Nat := match old r k a (gr k 8) n with
  | some o => r o
  | none => 0
def mid (k : Nat → Nat) (pl : Nat) : Nat → Nat → Nat
  | 0, p => p
  | d + 1, p => if pl < sg k 0 (p + 1) then p else mid k pl d (p + 1)
def wst (k : Nat → Nat) : Nat → Option Nat
  | 0 => none
  | p + 1 => if 0 < k p then (match wst k p with
    | none => some p
    | some q => if k q < k p then some q else some p) else wst k p
def nrs (k : Nat → Nat) (p : Nat) : Nat → Nat → Nat
  | 0, _ => p
  | f + 1, d => if 0 < k ((p + d) % 8) then (p + d) % 8 else if 0 < k ((p + 8 - d) % 8) then (p + 8 - d) % 8 else nrs k p f (d + 1)
def strk (k : Nat → Nat) (out to : Nat) : Nat → Nat := fun j => if j = out then 0 else if j = to then k to + k out else k j
def strike (k : Nat → Nat) : Nat → Nat := strk k ((wst k 8).getD 0) (nrs k ((wst k 8).getD 0) 4 1)
def fstG (k : Nat → Nat) (M : Nat) : Nat → Nat → Nat
  | 0, p => p
  | d + 1, p => if k p = M then p else fstG k M d (p + 1)
def vs (n : Nat) : Nat → (Nat → Nat) → Nat
  | 0, _ => 0
  | s + 1, k => if n < 2 * gr k 8 then fstG k (gr k 8) 8 0 else vs n s (strike k)
/-- the VOTE -/
def voteV (way n : Nat) (r a : Nat → Nat) : Nat :=
  if way = 0 then vMost r (cnt r (fun _ => 1) n) a n else if way = 1 then vMost r (cnt r (fun c => a c + 1) n) a n else if way = 2 then mid (cnt r (fun _ => 1) n) ((n - 1) / 2) 8 0 else vs n 8 (cnt r (fun _ => 1) n)
/-! sums -/
theorem sg_ge (f : Nat → Nat) : ∀ d c j, c ≤ j → j < c + d → f j ≤ sg f c d := by
  intro d
  induction d with
  | zero => intro c j h1 h2; omega
  | succ d ih =>
    intro c j h1 h2
    unfold sg
    by_cases e : j = c
    · rw [e]; omega
    · have := ih (c + 1) j (by omega) (by omega); omega
theorem sg_pos (f : Nat → Nat) : ∀ d c, 0 < sg f c d → ∃ j, c ≤ j ∧ j < c + d ∧ 0 < f j := by
  intro d
  induction d with
  | zero => intro c h; exact absurd h (by unfold sg; omega)
  | succ d ih =>
    intro c h
    unfold sg at h
    by_cases e : 0 < f c
    · exact ⟨c, by omega, by omega, e⟩
    · obtain ⟨j, j1, j2, j3⟩ := ih (c + 1) (by omega)
      exact ⟨j, by omega, by omega, j3⟩
theorem sg_bd {f : Nat → Nat} {B : Nat} : ∀ d c, (∀ j, c ≤ j → j < c + d → f j ≤ B) → sg f c d ≤ B * d := by
  intro d
  induction d with
  | zero => intro c _; exact Nat.zero_le _
  | succ d ih =>
    intro c h
    unfold sg
    have h1 := h c (by omega) (by omega)
    have h2 := ih (c + 1) (fun j a b => h j (by omega) (by omega))
    rw [Nat.mul_succ]
    omega
theorem sg_plus (f g : Nat → Nat) : ∀ d c, sg (fun j => f j + g j) c d = sg f c d + sg g c d := by
  intro d
  induction d with
  | zero => intro c; rfl
  | succ d ih => intro c; unfold sg; rw [ih]; omega
theorem sg_one {p : Nat} : ∀ d c (x : Nat), c ≤ p → p < c + d → sg (fun j => if p = j then x else 0) c d = x := by
  intro d
  induction d with
  | zero => intro c x h1 h2; omega
  | succ d ih =>
    intro c x h1 h2
    unfold sg
    by_cases e : p = c
    · rw [if_pos e, sg_zero d (c + 1) (fun j a b => if_neg (by omega))]; omega
    · rw [if_neg e, ih (c + 1) x (by omega) (by omega)]; omega
theorem cnt_succ (r w : Nat → Nat) (n p : Nat) : cnt r w (n + 1) p = cnt r w n p + (if r n = p then w n else 0) := by
  unfold cnt; rw [sg_succ, Nat.zero_add]
theorem cnt_pos {r w : Nat → Nat} {n c : Nat} (hc : c < n) : w c ≤ cnt r w n (r c) := by
  unfold cnt
  have := sg_ge (fun j => if r j = r c then w j else 0) n 0 c (by omega) (by omega)
  simpa using this
theorem cnt_ex {r w : Nat → Nat} {n p : Nat} (h : 0 < cnt r w n p) : ∃ c, c < n ∧ r c = p := by
  obtain ⟨j, _, j2, j3⟩ := sg_pos _ n 0 h
  refine ⟨j, by omega, ?_⟩
  by_cases e : r j = p
  · exact e
  · exact absurd j3 (by simp [e])
theorem cnt_bd {r w : Nat → Nat} {n : Nat} (p : Nat) (hw : ∀ c, c < n → w c ≤ 100) : cnt r w n p ≤ 100 * n := by
  unfold cnt
  apply sg_bd
  intro j _ hj
  by_cases e : r j = p
  · rw [if_pos e]; exact hw j (by omega)
  · rw [if_neg e]; omega
theorem cnt_bd1 (r : Nat → Nat) (n p : Nat) : cnt r (fun _ => 1) n p ≤ n := by
  show sg (fun c => if r c = p then 1 else 0) 0 n ≤ n
  have := sg_bd (f := fun c => if r c = p then 1 else 0) (B := 1) n 0 (fun j _ _ => by
    show (if r j = p then 1 else 0) ≤ 1
    by_cases e : r j = p
    · rw [if_pos e]; omega
    · rw [if_neg e]; omega)
  omega
theorem cnt_sum {r : Nat → Nat} : ∀ n, (∀ c, c < n → r c < 8) → sg (cnt r (fun _ => 1) n) 0 8 = n := by
  intro n
  induction n with
  | zero => intro _; rfl
  | succ n ih =>
    intro h
    have e : sg (cnt r (fun _ => 1) (n + 1)) 0 8 = sg (fun p => cnt r (fun _ => 1) n p + (if r n = p then 1 else 0)) 0 8 := sg_cong 8 0 (fun j _ _ => cnt_succ r _ n j)
    rw [e, sg_plus, ih (fun c hc => h c (by omega)), sg_one 8 0 1 (by omega) (by have := h n (by omega); omega)]
theorem cnt_cong {r r' w : Nat → Nat} {n p : Nat} (h : ∀ c, c < n → r c = r' c) : cnt r w n p = cnt r' w n p := by
  unfold cnt
  apply sg_cong
  intro j _ hj
  rw [h j (by omega)]
/-! striking out -/
def ps (k : Nat → Nat) : Nat := sg (fun p => if 0 < k p then 1 else 0) 0 8
theorem wst_in (k : Nat → Nat) : ∀ p o, wst k p = some o → o < p ∧ 0 < k o := by
  intro p
  induction p with
  | zero => intro o h; cases h
  | succ p ih =>
    intro o h
    unfold wst at h
    by_cases q : 0 < k p
    · rw [if_pos q] at h
      cases e : wst k p with
      | none =>
        rw [e] at h
        have := Option.some.inj h
        subst this
        exact ⟨by omega, q⟩
      | some x =>
        rw [e] at h
        have hx := ih x e
        by_cases z : k x < k p
        · simp only [if_pos z] at h
          have := Option.some.inj h
          subst this
          exact ⟨by omega, hx.2⟩
        · simp only [if_neg z] at h
          have := Option.some.inj h
          subst this
          exact ⟨by omega, q⟩
    · rw [if_neg q] at h
      have := ih o h
      exact ⟨by omega, this.2⟩
theorem wst_ex (k : Nat → Nat) : ∀ p j, j < p → 0 < k j → ∃ o, wst k p = some o := by
  intro p
  induction p with
  | zero => intro j h; omega
  | succ p ih =>
    intro j hj hk
    unfold wst
    by_cases q : 0 < k p
    · rw [if_pos q]
      cases e : wst k p with
      | none => exact ⟨p, rfl⟩
      | some x =>
        by_cases z : k x < k p
        · exact ⟨x, by simp only [if_pos z]⟩
        · exact ⟨p, by simp only [if_neg z]⟩
    · rw [if_neg q]
      have : j ≠ p := fun e => q (e ▸ hk)
      exact ih j (by omega) hk
theorem nrs_in (k : Nat → Nat) {p : Nat} (hp : p < 8) : ∀ f d, 1 ≤ d → d + f = 5 → nrs k p f d < 8 ∧ ((nrs k p f d ≠ p ∧ 0 < k (nrs k p f d)) ∨ ∀ e, d ≤ e → e < 5 → k ((p + e) % 8) = 0 ∧ k ((p + 8 - e) % 8) = 0) := by
  intro f
  induction f with
  | zero => intro d h1 h2; exact ⟨hp, Or.inr (fun e h3 h4 => absurd h4 (by omega))⟩
  | succ f ih =>
    intro d h1 h2
    unfold nrs
    by_cases q1 : 0 < k ((p + d) % 8)
    · rw [if_pos q1]
      exact ⟨by omega, Or.inl ⟨by omega, q1⟩⟩
    · rw [if_neg q1]
      by_cases q2 : 0 < k ((p + 8 - d) % 8)
      · rw [if_pos q2]
        exact ⟨by omega, Or.inl ⟨by omega, q2⟩⟩
      · rw [if_neg q2]
        obtain ⟨i1, i2⟩ := ih (d + 1) (by omega) (by omega)
        refine ⟨i1, ?_⟩
        rcases i2 with i2 | i2
        · exact Or.inl i2
        · refine Or.inr (fun e h3 h4 => ?_)
          by_cases z : e = d
          · rw [z]; omega
          · exact i2 e (by omega) h4
theorem nrs_ok {k : Nat → Nat} {p j : Nat} (hp : p < 8) (hj : j < 8) (hne : j ≠ p) (hk : 0 < k j) : nrs k p 4 1 < 8 ∧ nrs k p 4 1 ≠ p ∧ 0 < k (nrs k p 4 1) := by
  obtain ⟨i1, i2⟩ := nrs_in k hp 4 1 (by omega) (by omega)
  refine ⟨i1, ?_⟩
  rcases i2 with i2 | i2
  · exact i2
  · exfalso
    have key : ∃ e, 1 ≤ e ∧ e < 5 ∧ ((p + e) % 8 = j ∨ (p + 8 - e) % 8 = j) := by
      have : ∀ p, p < 8 → ∀ j, j < 8 → j ≠ p → ∃ e, e < 5 ∧ 1 ≤ e ∧ ((p + e) % 8 = j ∨ (p + 8 - e) % 8 = j) := by decide
      obtain ⟨e, a, b, c⟩ := this p hp j hj hne
      exact ⟨e, b, a, c⟩
    obtain ⟨e, e1, e2, e3⟩ := key
    have := i2 e e1 e2
    rcases e3 with e3 | e3
    · rw [e3] at this; omega
    · rw [e3] at this; omega
/-- one that is changed in a sum -/
theorem sg_upd {f g : Nat → Nat} {c : Nat} : ∀ d b, b ≤ c → c < b + d → (∀ j, j ≠ c → g j = f j) → sg g b d + f c = sg f b d + g c := by
  intro d
  induction d with
  | zero => intro b h1 h2; omega
  | succ d ih =>
    intro b h1 h2 h
    unfold sg
    by_cases e : b = c
    · subst e
      rw [sg_cong (f := g) (g := f) d (b + 1) (fun j a _ => h j (by omega))]
      omega
    · have := ih (b + 1) (by omega) (by omega) h
      rw [h b e]
      omega
theorem strk_sum {k : Nat → Nat} {o t : Nat} (ho : o < 8) (ht : t < 8) (hne : t ≠ o) : sg (strk k o t) 0 8 = sg k 0 8 := by
  have e1 := sg_upd (f := k) (g := fun j => if j = t then k t + k o else k j) (c := t) 8 0 (by omega) (by omega) (fun j hj => if_neg hj)
  have e2 := sg_upd (f := fun j => if j = t then k t + k o else k j) (g := strk k o t) (c := o) 8 0 (by omega) (by omega) (fun j hj => by unfold strk; rw [if_neg hj])
  have q1 : strk k o t o = 0 := by unfold strk; rw [if_pos rfl]
  simp only [if_true, q1, if_neg (Ne.symm hne)] at e1 e2
  omega
theorem strk_ps {k : Nat → Nat} {o t : Nat} (ho : o < 8) (ht : t < 8) (hne : t ≠ o) (hko : 0 < k o) (hkt : 0 < k t) : ps (strk k o t) + 1 = ps k := by
  unfold ps
  have e := sg_upd (f := fun p => if 0 < k p then 1 else 0) (g := fun p => if 0 < strk k o t p then 1 else 0) (c := o) 8 0 (by omega) (by omega) (fun j hj => by
    show (if 0 < strk k o t j then 1 else 0) = if 0 < k j then 1 else 0
    unfold strk
    rw [if_neg hj]
    by_cases q : j = t
    · rw [if_pos q, q, if_pos (by omega), if_pos hkt]
    · rw [if_neg q])
  have q1 : strk k o t o = 0 := by unfold strk; rw [if_pos rfl]
  simp only [q1, if_pos hko, Nat.lt_irrefl, if_false] at e
  omega
/-- no one has more than half: two POINTS are said -/
theorem two_said {k : Nat → Nat} {n : Nat} (hs : sg k 0 8 = n) (hn : 0 < n) (h : ¬ n < 2 * gr k 8) {p : Nat} (hp : p < 8) : ∃ j, j < 8 ∧ j ≠ p ∧ 0 < k j := by
  have hg := gr_ge k 8 p hp
  have e := sg_upd (f := k) (g := fun j => if j = p then 0 else k j) (c := p) 8 0 (by omega) (by omega) (fun j hj => if_neg hj)
  simp only [if_true] at e
  obtain ⟨j, _, j2, j3⟩ := sg_pos (fun j => if j = p then 0 else k j) 8 0 (by omega)
  have hne : j ≠ p := fun q => by subst q; simp at j3
  refine ⟨j, by omega, hne, ?_⟩
  simpa [hne] using j3
theorem one_said {k : Nat → Nat} {n : Nat} (hs : sg k 0 8 = n) (hn : 0 < n) (h : ps k ≤ 1) : n < 2 * gr k 8 := by
  apply Classical.byContradiction
  intro q
  obtain ⟨j0, _, j1, j2⟩ := sg_pos k 8 0 (by omega)
  obtain ⟨j, i1, i2, i3⟩ := two_said hs hn q (show j0 < 8 by omega)
  have e := sg_upd (f := fun p => if 0 < k p then 1 else 0) (g := fun p => if p = j0 then 0 else if 0 < k p then 1 else 0) (c := j0) 8 0 (by omega) (by omega) (fun x hx => if_neg hx)
  simp only [if_true, if_pos j2] at e
  have := sg_ge (fun p => if p = j0 then 0 else if 0 < k p then 1 else 0) 8 0 j (by omega) (by omega)
  simp only [if_neg i2, if_pos i3] at this
  unfold ps at h
  omega
