/-! the model reads its tape -/
theorem si_self {σ : Mm} {o k : Nat} {v : Int32} (h : iv σ o k = v) : si σ o k v = σ := by
  have : up2 σ.1 o k v = σ.1 := by
    funext o' k'
    unfold up2
    by_cases q : o' = o ∧ k' = k
    · rw [q.1, q.2]
      rw [if_pos (by first | exact ⟨rfl, rfl⟩ | rfl)]
      first | exact h.symm | (rw [if_pos rfl]; exact h.symm)
    · first | rw [if_neg q] | (by_cases q1 : o' = o <;> simp_all)
  show (up2 σ.1 o k v, σ.2) = σ
  rw [this]
theorem si_si {σ : Mm} {o k : Nat} {v w : Int32} : si (si σ o k v) o k w = si σ o k w := by
  have : up2 (up2 σ.1 o k v) o k w = up2 σ.1 o k w := by
    funext o' k'
    unfold up2
    by_cases q1 : o' = o <;> by_cases q2 : k' = k <;> simp_all
  show (up2 (up2 σ.1 o k v) o k w, σ.2) = (up2 σ.1 o k w, σ.2)
  rw [this]
/-- only such fields of the model have changed -/
def KF (l : List Nat) (τ τ' : Mm) : Prop := nn τ' = nn τ ∧ (∀ o, rv τ' o = rv τ o) ∧ (∀ o, o ≠ 63 → iv τ' o = iv τ o) ∧ ∀ k, k ∉ l → iv τ' 63 k = iv τ 63 k
theorem KF.rf (l : List Nat) (τ : Mm) : KF l τ τ := ⟨rfl, fun _ => rfl, fun _ _ => rfl, fun _ _ => rfl⟩
theorem KF.tr {l : List Nat} {a c d : Mm} (h : KF l a c) (g : KF l c d) : KF l a d := ⟨g.1.trans h.1, fun x => (g.2.1 x).trans (h.2.1 x), fun x q => (g.2.2.1 x q).trans (h.2.2.1 x q), fun x q => (g.2.2.2 x q).trans (h.2.2.2 x q)⟩
theorem KF.mono {l l' : List Nat} {τ τ' : Mm} (h : KF l τ τ') (hl : ∀ x ∈ l, x ∈ l') : KF l' τ τ' := ⟨h.1, h.2.1, h.2.2.1, fun k q => h.2.2.2 k (fun e => q (hl k e))⟩
theorem KF.si {l : List Nat} (τ : Mm) {k : Nat} (v : Int32) (h : k ∈ l) : KF l τ (si τ 63 k v) := ⟨rfl, fun _ => rfl, fun _ q => iv_row τ _ _ q, fun j q => by rw [iv_si, if_neg (fun e : 63 = 63 ∧ j = k => q (by rw [e.2]; exact h))]⟩
theorem KF.wm {l : List Nat} {τ τ' : Mm} (h : KF l τ τ') (hm : WFm τ) : WFm τ' := hm.rvc h.1 h.2.1
def MT (τ : Mm) (b : Nat → Nat) (t : Nat) : Prop := iv τ 63 1 = nI t ∧ ∀ i, i < t → iv τ 64 i = sb (b i)
abbrev ps' (τ : Mm) (p : Nat) : Mm := si τ 63 12 (nI p)
section ML
variable {N : Nat} {b : Nat → Nat} {t : Nat}
theorem KF.mt {l : List Nat} {τ τ' : Mm} (h : KF l τ τ') (h1 : 1 ∉ l) (hT : MT τ b t) : MT τ' b t := by
  refine ⟨?_, ?_⟩
  · rw [h.2.2.2 1 h1]; exact hT.1
  · rw [h.2.2.1 64 (by decide)]; exact hT.2
theorem MT.ps {τ : Mm} (h : MT τ b t) (p : Nat) : MT (ps' τ p) b t := (KF.si (l := [12]) τ _ (by decide)).mt (by decide) h
theorem iv_ps (τ : Mm) (p : Nat) : iv (ps' τ p) 63 12 = nI p := by rw [iv_si, if_pos ⟨rfl, rfl⟩]
/-- where the model stands, spaces passed over -/
def seen (b : Nat → Nat) (t p : Nat) : Int32 := if p < t then nI (b p) else -1
theorem see0 (hb : TP b t) : ∀ d x fu τ, t - x = d → d < fu → x ≤ t → WFm τ → MT τ b t → iv τ 63 12 = nI x → f_X11_see_0 N fu 63 τ = some (seen b t (skp b t x), ps' τ (skp b t x)) := by
  have h4 := hb.1
  intro d
  induction d with
  | zero =>
    intro x fu τ h1 h2 hx hm hT hp
    obtain ⟨fu, rfl⟩ : ∃ q, fu = q + 1 := ⟨fu - 1, by omega⟩
    have e : skp b t x = x := rE_n (by rw [hb.2.2 x (by omega)]; rfl)
    rw [e, show seen b t x = -1 from if_neg (by omega), f_X11_see_0, m_gI hm, Option.bind_some, hp, m_gI hm, Option.bind_some, hT.1, if_pos (nI_le (by omega) (by omega)), f_X11_see_38, m_gI hm, Option.bind_some, hp, m_gI hm, Option.bind_some, hT.1, if_pos (nI_le (by omega) (by omega)), f_X11_see_66, show ps' τ x = τ from si_self hp]
  | succ d ih =>
    intro x fu τ h1 h2 hx hm hT hp
    obtain ⟨fu, rfl⟩ : ∃ q, fu = q + 1 := ⟨fu - 1, by omega⟩
    have h256 := hb.2.1 x
    obtain ⟨s1, s2, s3, s4, s5⟩ := sb_all (b x) h256
    rw [f_X11_see_0, m_gI hm, Option.bind_some, hp, m_gI hm, Option.bind_some, hT.1, if_neg (nI_ge (by omega) (by omega)), m_g0 hm, Option.bind_some, Option.bind_some, m_aB hm rfl (by omega), Option.bind_some, hT.2 x (by omega)]
    by_cases q : b x = 32
    · rw [if_pos (s1.2 q), Option.bind_some, nI_1, m_pI hm, Option.bind_some]
      have key := ih (x + 1) fu (ps' τ (x + 1)) (by omega) (by omega) (by omega) hm (hT.ps _) (iv_ps _ _)
      rw [show skp b t x = skp b t (x + 1) from (rE_y sp0 hb (show sp' (b x) = true from decide_eq_true q)).1, key, show ps' (ps' τ (x + 1)) (skp b t (x + 1)) = ps' τ (skp b t (x + 1)) from si_si]
    · have e : skp b t x = x := rE_n (show sp' (b x) = false from decide_eq_false q)
      rw [if_neg (fun z => q (s1.1 z)), e, show seen b t x = nI (b x) from if_pos (by omega), f_X11_see_38, m_gI hm, Option.bind_some, hp, m_gI hm, Option.bind_some, hT.1, if_neg (nI_ge (by omega) (by omega)), m_g0 hm, Option.bind_some, Option.bind_some, m_aB hm rfl (by omega), Option.bind_some, hT.2 x (by omega), s4, f_X11_see_66, show ps' τ x = τ from si_self hp]
theorem e_see (hN : 500 ≤ N) (hb : TP b t) {τ : Mm} {x : Nat} (hx : x ≤ t) (hm : WFm τ) (hT : MT τ b t) (hp : iv τ 63 12 = nI x) : f_X11_see N 63 τ = some (seen b t (skp b t x), ps' τ (skp b t x)) := see0 hb (t - x) x N τ rfl (by have := hb.1; omega) hx hm hT hp
theorem e_mDg (hb : TP b t) {τ : Mm} (hm : WFm τ) (hT : MT τ b t) {i : Nat} (hi : i < 2 ^ 31) : f_X11_isDigit N 63 (nI i) τ = some (bi (dg (b i) = true), τ) := by
  have h4 := hb.1
  unfold f_X11_isDigit f_X11_isDigit_34 f_X11_isDigit_35
  rw [m_gI hm, Option.bind_some, hT.1]
  by_cases q : i < t
  · obtain ⟨_, s2, _⟩ := sb_all (b i) (hb.2.1 i)
    rw [if_neg (nI_ge q (by omega)), m_g0 hm, Option.bind_some, m_aB hm rfl (by omega), Option.bind_some, hT.2 i q]
    by_cases z1' : sb (b i) < 48
    · rw [if_pos z1', if_pos (Or.inl rfl), bi_n (by rw [s2.1 (Or.inl z1')]; decide)]
    · rw [if_neg z1', Option.bind_some, m_aB hm rfl (show i < 400 by omega), Option.bind_some, hT.2 i q]
      by_cases z2 : 57 < sb (b i)
      · rw [if_pos z2, if_pos (Or.inl rfl), bi_n (by rw [s2.1 (Or.inr z2)]; decide)]
      · have : dg (b i) = true := by
          cases e : dg (b i)
          · rcases s2.2 e with y | y
            · exact absurd y z1'
            · exact absurd y z2
          · rfl
        rw [if_neg z2, if_pos (Or.inr rfl), bi_y this]
  · rw [if_pos (nI_le (by omega) hi), if_pos (Or.inl rfl), hb.2.2 i (by omega), bi_n (by decide)]
theorem e_mLt (hb : TP b t) {τ : Mm} (hm : WFm τ) (hT : MT τ b t) {i : Nat} (hi : i < 2 ^ 31) : f_X11_isLetter N 63 (nI i) τ = some (bi (lt' (b i) = true), τ) := by
  have h4 := hb.1
  unfold f_X11_isLetter f_X11_isLetter_34 f_X11_isLetter_35
  rw [m_gI hm, Option.bind_some, hT.1]
  by_cases q : i < t
  · obtain ⟨_, _, s2, _⟩ := sb_all (b i) (hb.2.1 i)
    rw [if_neg (nI_ge q (by omega)), m_g0 hm, Option.bind_some, m_aB hm rfl (by omega), Option.bind_some, hT.2 i q]
    by_cases z1' : sb (b i) < 97
    · rw [if_pos z1', if_pos (Or.inl rfl), bi_n (by rw [s2.1 (Or.inl z1')]; decide)]
    · rw [if_neg z1', Option.bind_some, m_aB hm rfl (show i < 400 by omega), Option.bind_some, hT.2 i q]
      by_cases z2 : 122 < sb (b i)
      · rw [if_pos z2, if_pos (Or.inl rfl), bi_n (by rw [s2.1 (Or.inr z2)]; decide)]
      · have : lt' (b i) = true := by
          cases e : lt' (b i)
          · rcases s2.2 e with y | y
            · exact absurd y z1'
            · exact absurd y z2
          · rfl
        rw [if_neg z2, if_pos (Or.inr rfl), bi_y this]
  · rw [if_pos (nI_le (by omega) hi), if_pos (Or.inl rfl), hb.2.2 i (by omega), bi_n (by decide)]
theorem pass0 (hb : TP b t) : ∀ d x fu τ, t - x = d → d < fu → x ≤ t → WFm τ → MT τ b t → iv τ 63 12 = nI x → f_X11_passWord_0 N fu 63 τ = some (ps' τ (lE b t x)) := by
  have h4 := hb.1
  intro d
  induction d with
  | zero =>
    intro x fu τ h1 h2 hx hm hT hp
    obtain ⟨fu, rfl⟩ : ∃ q, fu = q + 1 := ⟨fu - 1, by omega⟩
    have q : lt' (b x) = false := by rw [hb.2.2 x (by omega)]; rfl
    have e : lE b t x = x := rE_n q
    rw [e, f_X11_passWord_0, m_gI hm, Option.bind_some, hp, m_ob hm, Option.bind_some, e_mLt hb hm hT (by omega), Option.bind_some, bi_n (by rw [q]; decide), if_pos rfl, show ps' τ x = τ from si_self hp]
  | succ d ih =>
    intro x fu τ h1 h2 hx hm hT hp
    obtain ⟨fu, rfl⟩ : ∃ q, fu = q + 1 := ⟨fu - 1, by omega⟩
    rw [f_X11_passWord_0, m_gI hm, Option.bind_some, hp, m_ob hm, Option.bind_some, e_mLt hb hm hT (by omega), Option.bind_some]
    cases q : lt' (b x)
    · have e : lE b t x = x := rE_n q
      rw [e, bi_n (by decide), if_pos rfl, show ps' τ x = τ from si_self hp]
    · have key := ih (x + 1) fu (ps' τ (x + 1)) (by omega) (by omega) (by omega) hm (hT.ps _) (iv_ps _ _)
      rw [bi_y rfl, if_neg z1, m_gI hm, Option.bind_some, hp, nI_1, m_pI hm, Option.bind_some, key, show ps' (ps' τ (x + 1)) (lE b t (x + 1)) = ps' τ (lE b t (x + 1)) from si_si, show lE b t x = lE b t (x + 1) from (rE_y lt0 hb q).1]
theorem e_pass (hN : 500 ≤ N) (hb : TP b t) {τ : Mm} {x : Nat} (hx : x ≤ t) (hm : WFm τ) (hT : MT τ b t) (hp : iv τ 63 12 = nI x) : f_X11_passWord N 63 τ = some (ps' τ (lE b t x)) := pass0 hb (t - x) x N τ rfl (by have := hb.1; omega) hx hm hT hp
theorem lN_tn {a : Nat} (h : a < 2 ^ 63) : (lN a).toBitVec.toNat = a := by
  show (BitVec.ofNat 64 a).toNat = a
  rw [BitVec.toNat_ofNat, Nat.mod_eq_of_lt (by omega)]
theorem lN_eq' {a c : Nat} (ha : a < 2 ^ 63) (hc : c < 2 ^ 63) : lN a = lN c ↔ a = c := by
  constructor
  · intro h
    have := congrArg (fun x : Int64 => x.toBitVec.toNat) h
    simp only [lN_tn ha, lN_tn hc] at this
    exact this
  · intro h; rw [h]
theorem lN_shl {a c : Nat} (ha : a < 2 ^ 54) (hc : c < 256) : (lN a <<< (Int32.toInt64 (8 : Int32) &&& 63)) ||| Int32.toInt64 (nI c) = lN (a * 256 + c) := by
  apply Int64.toBitVec_inj.mp
  apply BitVec.eq_of_toNat_eq
  have e1 : (Int32.toInt64 (nI c)) = lN c := nI_l (by omega)
  rw [e1]
  have e2 : (lN a <<< (Int32.toInt64 (8 : Int32) &&& 63)).toBitVec.toNat = a * 256 := by
    show ((lN a).toBitVec <<< ((Int32.toInt64 (8 : Int32) &&& 63).toBitVec.smod 64)).toNat = a * 256
    rw [show (Int32.toInt64 (8 : Int32) &&& 63).toBitVec.smod 64 = 8#64 by decide]
    show ((lN a).toBitVec <<< (8#64).toNat).toNat = a * 256
    rw [BitVec.toNat_shiftLeft, lN_tn (by omega), Nat.shiftLeft_eq, Nat.mod_eq_of_lt (by show a * 2 ^ 8 < 2 ^ 64; omega)]
    rfl
  rw [Int64.toBitVec_or, BitVec.toNat_or, e2, lN_tn (by omega), lN_tn (by omega)]
  have := Nat.two_pow_add_eq_or_of_lt (i := 8) (b := c) (by omega) a
  rw [show a * 256 = 2 ^ 8 * a by omega, ← this]
theorem ac_lt {f : Nat → Nat} : ∀ L, (∀ i, i < L → f i < 256) → ac f L < 256 ^ L := by
  intro L
  induction L with
  | zero => intro _; exact (by decide : 0 < 256 ^ 0)
  | succ L ih =>
    intro h
    have h1 := ih (fun i hi => h i (by omega))
    have h2 := h L (by omega)
    show ac f L * 256 + f L < 256 ^ (L + 1)
    rw [Nat.pow_succ]
    omega
theorem isw10 (hb : TP b t) {p j : Nat} {τ : Mm} (hp' : p ≤ t) (hj : j < 16) (hm : WFm τ) (hT : MT τ b t) (hp : iv τ 63 12 = nI p) : ∀ d i fu, p + i + d = lE b t p → d < fu → f_X11_isWord_10 N fu 63 (lN (wp j)) (lN (ac (fun i => b (p + i)) (min i 8))) (nI i) τ = some (bi (0 < lE b t p - p ∧ ac (fun i => b (p + i)) (lE b t p - p) = wp j), τ) := by
  obtain ⟨w1, w2, w3, w4, w5⟩ := wp_ac j hj
  obtain ⟨l1, l2⟩ := lE_le hb p
  obtain ⟨_, g2, g3, g4⟩ := rE_spec lt0 hb (t - p) p rfl
  have g2 : lE b t p ≤ t := g2 hp'
  have h4 := hb.1
  have wpl : wp j < 2 ^ 63 := by
    have : ∀ j, j < 16 → wp j < 2 ^ 63 := by decide
    exact this j hj
  intro d
  induction d with
  | zero =>
    intro i fu h1 h2
    obtain ⟨fu, rfl⟩ : ∃ q, fu = q + 1 := ⟨fu - 1, by omega⟩
    have h1 : p + i = lE b t p := h1
    have hq : lt' (b (p + i)) = false := by rw [h1]; exact g3
    rw [f_X11_isWord_10, m_gI hm, Option.bind_some, hp, m_ob hm, Option.bind_some, nI_add, e_mLt hb hm hT (by omega), Option.bind_some, bi_n (by rw [hq]; decide), if_pos rfl]
    unfold f_X11_isWord_78 f_X11_isWord_79
    have e2 : lE b t p - p = i := by omega
    rw [e2] at l2
    rw [e2]
    by_cases q0 : i = 0
    · rw [if_pos (show nI i ≤ 0 from (npos_iff (by omega)).2 q0), if_pos (Or.inl rfl), bi_n (fun z => by omega)]
    · rw [if_neg (show ¬ nI i ≤ 0 from fun z => q0 ((npos_iff (by omega)).1 z))]
      by_cases q8 : 8 ≤ i
      · rw [if_pos (show (8 : Int32) ≤ nI i by rw [i8]; exact nI_le q8 (by omega)), if_pos (Or.inl rfl), bi_n (fun z => by
          rw [w1] at z
          have := (ac_inj i (wl j) l2 (fun x hx => w4 x (by omega) hx) z.2).1
          omega)]
      · rw [if_neg (show ¬ (8 : Int32) ≤ nI i by rw [i8]; exact nI_ge (by omega) (by decide)), show min i 8 = i by omega]
        have al := ac_lt (f := fun i => b (p + i)) i (fun x _ => hb.2.1 _)
        have al2 : (256 : Nat) ^ i ≤ 256 ^ 7 := Nat.pow_le_pow_right (by decide) (by omega)
        have al3 : ac (fun i => b (p + i)) i < 2 ^ 63 := Nat.lt_of_lt_of_le al (Nat.le_trans al2 (by decide))
        by_cases z : ac (fun i => b (p + i)) i = wp j
        · rw [if_pos ((cmp_eq _ _).2 (by rw [z])), if_pos (Or.inr rfl), bi_y ⟨by omega, z⟩]
        · rw [if_neg (fun y => z ((lN_eq' al3 wpl).1 ((cmp_eq _ _).1 y))), if_pos (Or.inl rfl), bi_n (fun y => z y.2)]
  | succ d ih =>
    intro i fu h1 h2
    obtain ⟨fu, rfl⟩ : ∃ q, fu = q + 1 := ⟨fu - 1, by omega⟩
    have hl := l2 i (by omega)
    have hq : lt' (b (p + i)) = true := (lt_iff' _).2 hl
    have key := ih (i + 1) fu (by omega) (by omega)
    rw [f_X11_isWord_10, m_gI hm, Option.bind_some, hp, m_ob hm, Option.bind_some, nI_add, e_mLt hb hm hT (by omega), Option.bind_some, bi_y hq, if_neg z1]
    by_cases q8 : 8 ≤ i
    · rw [if_pos (show (8 : Int32) ≤ nI i by rw [i8]; exact nI_le q8 (by omega)), f_X11_isWord_50, nI_1, show min i 8 = min (i + 1) 8 by omega]
      exact key
    · have al := ac_lt (f := fun i => b (p + i)) i (fun x _ => hb.2.1 _)
      have al2 : (256 : Nat) ^ i ≤ 256 ^ 6 ∨ i = 7 := by
        by_cases y : i = 7
        · exact Or.inr y
        · exact Or.inl (Nat.pow_le_pow_right (by decide) (by omega))
      rw [if_neg (show ¬ (8 : Int32) ≤ nI i by rw [i8]; exact nI_ge (by omega) (by decide)), m_g0 hm, Option.bind_some, m_gI hm, Option.bind_some, hp, nI_add, m_aB hm rfl (by omega), Option.bind_some, hT.2 _ (by omega), (sb_all _ (hb.2.1 _)).2.2.2.2 (by omega), f_X11_isWord_50, nI_1]
      rcases al2 with y | y
      · rw [show min i 8 = i by omega, lN_shl (Nat.lt_of_lt_of_le al (Nat.le_trans y (by decide))) (by omega)]
        rw [show min (i + 1) 8 = i + 1 by omega] at key
        exact key
      · -- at eight letters the number no longer counts
        have w8 : ∀ (l3 : Int64) d i fu, p + i + d = lE b t p → d < fu → 8 ≤ i → f_X11_isWord_10 N fu 63 (lN (wp j)) l3 (nI i) τ = some (bi (0 < lE b t p - p ∧ ac (fun i => b (p + i)) (lE b t p - p) = wp j), τ) := by
          intro l3 d
          induction d with
          | zero =>
            intro i fu h1 h2 q8
            obtain ⟨fu, rfl⟩ : ∃ q, fu = q + 1 := ⟨fu - 1, by omega⟩
            have h1 : p + i = lE b t p := h1
            have hq : lt' (b (p + i)) = false := by rw [h1]; exact g3
            rw [f_X11_isWord_10, m_gI hm, Option.bind_some, hp, m_ob hm, Option.bind_some, nI_add, e_mLt hb hm hT (by omega), Option.bind_some, bi_n (by rw [hq]; decide), if_pos rfl]
            unfold f_X11_isWord_78 f_X11_isWord_79
            rw [if_neg (show ¬ nI i ≤ 0 from fun z => by have := (npos_iff (by omega)).1 z; omega), if_pos (show (8 : Int32) ≤ nI i by rw [i8]; exact nI_le q8 (by omega)), if_pos (Or.inl rfl), bi_n (fun z => by
              rw [w1] at z
              have := (ac_inj _ (wl j) l2 (fun x hx => w4 x (by omega) hx) z.2).1
              omega)]
          | succ d ih2 =>
            intro i fu h1 h2 q8
            obtain ⟨fu, rfl⟩ : ∃ q, fu = q + 1 := ⟨fu - 1, by omega⟩
            have hl := l2 i (by omega)
            have hq : lt' (b (p + i)) = true := (lt_iff' _).2 hl
            rw [f_X11_isWord_10, m_gI hm, Option.bind_some, hp, m_ob hm, Option.bind_some, nI_add, e_mLt hb hm hT (by omega), Option.bind_some, bi_y hq, if_neg z1, if_pos (show (8 : Int32) ≤ nI i by rw [i8]; exact nI_le q8 (by omega)), f_X11_isWord_50, nI_1]
            exact ih2 (i + 1) fu (by omega) (by omega) (by omega)
        exact w8 _ d (i + 1) fu (by omega) (by omega) (by omega)
theorem tK_word {p j : Nat} (hb : TP b t) (hp : p ≤ t) (hj : j < 16) : tK b t p = 20 + j ↔ (0 < lE b t p - p ∧ ac (fun i => b (p + i)) (lE b t p - p) = wp j) := by
  have no : lt' (b p) = false → lE b t p = p := fun h => rE_n h
  by_cases q : p < t
  · rw [tK_lt q]
    cases d : dg (b p)
    · simp only [Bool.false_eq_true, if_false]
      cases l : lt' (b p)
      · simp only [Bool.false_eq_true, if_false]
        rw [no l]
        have sk : ∀ x, sK x ≤ 15 := by intro x; unfold sK; (repeat' split) <;> omega
        have := sk (b p)
        constructor
        · intro h
          split at h
          · by_cases y : b p = 60
            · rw [y] at h; simp [sK] at h; omega
            · rw [if_neg y] at h; omega
          · omega
        · intro h; omega
      · simp only [if_true]
        unfold wK
        rw [kw_iff hj]
        obtain ⟨e, _⟩ := rE_y lt0 hb l
        have := (rE_spec lt0 hb (t - (p + 1)) (p + 1) rfl).1
        have e : lE b t p = rE lt' b t (p + 1) := e
        constructor
        · intro h; exact ⟨by omega, h⟩
        · intro h; exact h.2
    · simp only [if_true]
      rw [no (dg_lt d)]
      omega
  · rw [show tK b t p = 1 from if_pos (by omega), no (by rw [hb.2.2 p (by omega)]; rfl)]
    omega
theorem e_mword (hN : 500 ≤ N) (hb : TP b t) {τ : Mm} {x j : Nat} {w : Int64} (hw : w = lN (wp j)) (hj : j < 16) (hx : x ≤ t) (hm : WFm τ) (hT : MT τ b t) (hp : iv τ 63 12 = nI x) : f_X11_isWord N 63 w τ = some (bi (tK b t (skp b t x) = 20 + j), ps' τ (skp b t x)) := by
  subst hw
  have sk := skp_sp hb x
  have hle := sk.2.1 hx
  have l1 := (lE_le hb (skp b t x)).1
  have l3 : lE b t (skp b t x) ≤ t := (rE_spec lt0 hb (t - skp b t x) (skp b t x) rfl).2.1 hle
  have h4 := hb.1
  unfold f_X11_isWord
  have key := isw10 (N := N) (τ := ps' τ (skp b t x)) hb hle hj hm (hT.ps _) (iv_ps _ _) (lE b t (skp b t x) - skp b t x) 0 N (by omega) (by omega)
  rw [m_ob hm, Option.bind_some, e_see hN hb hx hm hT hp, Option.bind_some]
  refine Eq.trans key ?_
  have := tK_word (j := j) hb hle hj
  by_cases z : tK b t (skp b t x) = 20 + j
  · rw [bi_y z, bi_y (this.1 z)]
  · rw [bi_n z, bi_n (fun y => z (this.2 y))]
/-- a FAULT is marked -/
theorem e_mfail {τ : Mm} {p w : Nat} (hm : WFm τ) (h0 : iv τ 63 13 = 0) : f_X11_fails N 63 (nI w) (nI p) τ = some (0, si τ 63 13 (flt p w)) := by
  unfold f_X11_fails f_X11_fails_19
  rw [m_gI hm, Option.bind_some, h0, if_pos rfl, m_pI hm, Option.bind_some, show (1 : Int32) = nI 1 from rfl, i8, pk_mul, nI_add, nI_add]
  rfl
theorem num34 (hb : TP b t) {p h : Nat} (hp' : p ≤ t) (hh : h ≤ 99999) : ∀ d i fu τ, p + i + d = dE b t p → d < fu → WFm τ → MT τ b t → iv τ 63 12 = nI (p + i) → f_X11_numberHere_34 N fu 63 (nI 0) (nI h) (nI p) (nI (vl b p (min i 5))) τ = f_X11_numberHere_34 N (fu - d) 63 (nI 0) (nI h) (nI p) (nI (vl b p (min (dE b t p - p) 5))) (ps' τ (dE b t p)) := by
  obtain ⟨_, g2, g3, g4⟩ := rE_spec dg0 hb (t - p) p rfl
  have g2 : dE b t p ≤ t := g2 hp'
  have h4 := hb.1
  intro d
  induction d with
  | zero =>
    intro i fu τ h1 h2 hm hT hp
    have h1 : p + i = dE b t p := h1
    rw [show dE b t p - p = i by omega, show ps' τ (dE b t p) = τ from si_self (by rw [hp, h1])]
    rfl
  | succ d ih =>
    intro i fu τ h1 h2 hm hT hp
    obtain ⟨fu, rfl⟩ : ∃ q, fu = q + 1 := ⟨fu - 1, by omega⟩
    have h1' : p + i + (d + 1) = rE dg b t p := h1
    have hq := g4 (p + i) (by omega) (by omega)
    have hd := (dg_iff _).1 hq
    have key := ih (i + 1) fu (ps' τ (p + i + 1)) (by omega) (by omega) hm (hT.ps _) (iv_ps _ _)
    rw [show ps' (ps' τ (p + i + 1)) (dE b t p) = ps' τ (dE b t p) from si_si] at key
    rw [f_X11_numberHere_34, m_gI hm, Option.bind_some, hp, m_ob hm, Option.bind_some, e_mDg hb hm hT (by omega), Option.bind_some, bi_y hq, if_neg z1, m_gI hm, Option.bind_some, hp, pk_sub (by omega), show p + i - p = i by omega, show (5 : Int32) = nI 5 from rfl, show fu + 1 - (d + 1) = fu - d by omega, ← key]
    by_cases q : 5 ≤ i
    · rw [if_pos (nI_le q (by omega)), f_X11_numberHere_75, m_gI hm, Option.bind_some, hp, nI_1, m_pI hm, Option.bind_some, show min i 5 = min (i + 1) 5 by omega]
    · rw [if_neg (nI_ge (by omega) (by decide)), m_g0 hm, Option.bind_some, Option.bind_some, m_aB hm rfl (show p + i < 400 by omega), Option.bind_some, hT.2 _ (by omega), (sb_all _ (hb.2.1 _)).2.2.2.2 (by omega), f_X11_numberHere_75, m_gI hm, Option.bind_some, hp, nI_1, m_pI hm, Option.bind_some, show min i 5 = i by omega, show min (i + 1) 5 = i + 1 by omega, show (10 : Int32) = nI 10 from rfl, pk_mul, nI_add, show (48 : Int32) = nI 48 from rfl, pk_sub (by omega), show 10 * vl b p i + b (p + i) - 48 = vl b p (i + 1) by show _ = vl b p i * 10 + b (p + i) - 48; omega]
theorem vl_lt (hb : TP b t) {p : Nat} : ∀ i, (∀ j, j < i → dg (b (p + j)) = true) → vl b p i < 10 ^ i := by
  intro i
  induction i with
  | zero => intro _; exact (by decide : 0 < 10 ^ 0)
  | succ i ih =>
    intro h
    have h1 := ih (fun j hj => h j (by omega))
    have h2 := (dg_iff _).1 (h i (by omega))
    show vl b p i * 10 + b (p + i) - 48 < 10 ^ (i + 1)
    rw [Nat.pow_succ]
    omega
/-- a number, if one is there: as it is told -/
theorem e_mnum (hN : 500 ≤ N) (hb : TP b t) {τ : Mm} {x h : Nat} (hh : h ≤ 99999) (hx : x ≤ t) (hm : WFm τ) (hT : MT τ b t) (hp : iv τ 63 12 = nI x) (h0 : iv τ 63 13 = 0) :
    (tK b t (skp b t x) ≠ 3 → ∃ τ', f_X11_numberHere N 63 (nI 0) (nI h) τ = some (0, τ') ∧ KF [12, 13, 14] τ τ' ∧ iv τ' 63 13 = flt (skp b t x) 0) ∧
    (tK b t (skp b t x) = 3 → (tV b t (skp b t x) < 0 ∨ nI h < tV b t (skp b t x)) → ∃ τ', f_X11_numberHere N 63 (nI 0) (nI h) τ = some (0, τ') ∧ KF [12, 13, 14] τ τ' ∧ iv τ' 63 13 = flt (skp b t x) 1) ∧
    (tK b t (skp b t x) = 3 → ¬ tV b t (skp b t x) < 0 → ¬ nI h < tV b t (skp b t x) → ∃ v τ', v ≤ h ∧ tV b t (skp b t x) = nI v ∧ f_X11_numberHere N 63 (nI 0) (nI h) τ = some (1, τ') ∧ KF [12, 14] τ τ' ∧ iv τ' 63 14 = nI v ∧ iv τ' 63 12 = nI (tE b t (skp b t x))) := by
  obtain ⟨p, hpe⟩ : ∃ p, p = skp b t x := ⟨_, rfl⟩
  have sk := skp_sp hb x
  have hle : p ≤ t := by rw [hpe]; exact sk.2.1 hx
  have h4 := hb.1
  rw [← hpe]
  have m1 : WFm (ps' τ p) := hm
  have T1 : MT (ps' τ p) b t := hT.ps _
  have t3 : tK b t p = 3 ↔ dg (b p) = true := by
    by_cases q : p < t
    · rw [tK_lt q]
      cases d : dg (b p)
      · simp only [Bool.false_eq_true, if_false, iff_false]
        cases l : lt' (b p)
        · simp only [Bool.false_eq_true, if_false]
          have sk : ∀ x, sK x ≠ 3 := by intro x; unfold sK; (repeat' split) <;> omega
          split
          · by_cases y : b p = 60
            · rw [y]; decide
            · by_cases y2 : b p = 62
              · rw [y2]; decide
              · rename_i w
                unfold wd' at w
                simp [y, y2] at w
          · exact sk _
        · simp only [if_true]
          have := kw_rg (ac (fun i => b (p + i)) (lE b t p - p))
          show kwL (ac (fun i => b (p + i)) (lE b t p - p)) 0 16 ≠ 3
          omega
      · simp
    · rw [show tK b t p = 1 from if_pos (by omega), hb.2.2 p (by omega)]
      decide
  have e0 : f_X11_numberHere N 63 (nI 0) (nI h) τ = if bi (dg (b p) = true) = 0 then ((f_X11_fails N 63 (0 : Int32) (nI p) (ps' τ p)).bind fun q7 => if q7.1 = 0 ∨ q7.1 = 1 then some (q7.1, q7.2) else none) else f_X11_numberHere_34 N N 63 (nI 0) (nI h) (nI p) (0 : Int32) (ps' τ p) := by
    unfold f_X11_numberHere
    rw [m_ob hm, Option.bind_some, e_see hN hb hx hm hT hp, Option.bind_some, ← hpe]
    simp only []
    rw [m_gI m1, Option.bind_some, iv_ps, m_ob m1, Option.bind_some, e_mDg hb m1 T1 (by omega), Option.bind_some]
    by_cases y : bi (dg (b p) = true) = 0
    · rw [if_pos y, if_pos y]; simp only []; rw [m_gI m1, Option.bind_some, iv_ps, m_ob m1, Option.bind_some]
    · rw [if_neg y, if_neg y]; simp only []; rw [m_gI m1, Option.bind_some, iv_ps]
  have i13 : iv (ps' τ p) 63 13 = 0 := by rw [iv_si, if_neg (by decide)]; exact h0
  have k1 : KF [12, 13, 14] τ (ps' τ p) := KF.si τ _ (by decide)
  constructor
  · intro hne
    have hd : ¬ dg (b p) = true := fun z => hne (t3.2 z)
    refine ⟨si (ps' τ p) 63 13 (flt p 0), ?_, k1.tr (KF.si _ _ (by decide)), by rw [iv_si, if_pos ⟨rfl, rfl⟩]⟩
    rw [e0, bi_n hd, if_pos rfl, show (0 : Int32) = nI 0 from rfl, e_mfail m1 i13, Option.bind_some]
    simp
    rfl
  · -- digits stand there
    have dig : tK b t p = 3 → ∃ L, L = dE b t p - p ∧ 0 < L ∧ p < t ∧ vl b p (min L 5) < 10 ^ 5 ∧ tV b t p = (if 5 < L then -1 else nI (vl b p L)) ∧ tE b t p = dE b t p ∧ f_X11_numberHere N 63 (nI 0) (nI h) τ = (if (5 : Int32) < nI L then f_X11_numberHere_117 N 63 (nI p) (si (ps' τ (dE b t p)) 63 14 (nI (vl b p (min L 5)))) else if bi (nI 0 ≤ nI (vl b p (min L 5)) ∧ nI (vl b p (min L 5)) ≤ nI h) = 0 then f_X11_numberHere_117 N 63 (nI p) (si (ps' τ (dE b t p)) 63 14 (nI (vl b p (min L 5)))) else f_X11_numberHere_126 N (si (ps' τ (dE b t p)) 63 14 (nI (vl b p (min L 5))))) := by
      intro h3
      have hd := t3.1 h3
      obtain ⟨ey, hpt⟩ := rE_y dg0 hb hd
      obtain ⟨g1, g2, g3, g4⟩ := rE_spec dg0 hb (t - p) p rfl
      have g2 : dE b t p ≤ t := g2 hle
      have g1 : p ≤ dE b t p := g1
      have g3 : dg (b (dE b t p)) = false := g3
      have g5 := (rE_spec dg0 hb (t - (p + 1)) (p + 1) rfl).1
      have ey : dE b t p = rE dg b t (p + 1) := ey
      refine ⟨dE b t p - p, rfl, by omega, hpt, ?_, ?_, ?_, ?_⟩
      · have := vl_lt hb (p := p) (min (dE b t p - p) 5) (fun j hj => g4 (p + j) (by omega) (by show p + j < dE b t p; omega))
        exact Nat.lt_of_lt_of_le this (Nat.pow_le_pow_right (by decide) (by omega))
      · rw [tV_lt hpt, hd, if_pos rfl]; rfl
      · unfold tE; rw [hd, if_pos rfl]
      · have key := num34 (N := N) (h := h) hb hle hh (dE b t p - p) 0 N (ps' τ p) (by omega) (by omega) m1 T1 (iv_ps _ _)
        rw [e0, bi_y hd, if_neg z1]
        rw [show (0 : Int32) = nI (vl b p (min 0 5)) from rfl]
        refine Eq.trans key ?_
        rw [show ps' (ps' τ p) (dE b t p) = ps' τ (dE b t p) from si_si]
        obtain ⟨fu, hfu⟩ : ∃ q, N - (dE b t p - p) = q + 1 := ⟨N - (dE b t p - p) - 1, by omega⟩
        have m2 : WFm (ps' τ (dE b t p)) := hm
        have T2 : MT (ps' τ (dE b t p)) b t := hT.ps _
        have m3 : WFm (si (ps' τ (dE b t p)) 63 14 (nI (vl b p (min (dE b t p - p) 5)))) := hm
        rw [hfu, f_X11_numberHere_34, m_gI m2, Option.bind_some, iv_ps, m_ob m2, Option.bind_some, e_mDg hb m2 T2 (by omega), Option.bind_some, g3, bi_n (by decide), if_pos rfl, m_pI m2, Option.bind_some, m_gI m3, Option.bind_some, iv_si, if_neg (show ¬ (63 = 63 ∧ 12 = 14) by decide), iv_ps, pk_sub (by omega), e_in32 (nI (vl b p (min (dE b t p - p) 5))) (nI 0) (nI h) rfl rfl, Option.bind_some]
        rfl
    have bad : ∀ v : Int32, ∃ τ', f_X11_numberHere_117 N 63 (nI p) (si (ps' τ (dE b t p)) 63 14 v) = some (0, τ') ∧ KF [12, 13, 14] τ τ' ∧ iv τ' 63 13 = flt p 1 := by
      intro v
      have m3 : WFm (si (ps' τ (dE b t p)) 63 14 v) := hm
      refine ⟨si (si (ps' τ (dE b t p)) 63 14 v) 63 13 (flt p 1), ?_, (((KF.si τ _ (by decide) : KF [12, 13, 14] τ (ps' τ (dE b t p)))).tr (KF.si _ _ (by decide))).tr (KF.si _ _ (by decide)), by rw [iv_si, if_pos ⟨rfl, rfl⟩]⟩
      rw [f_X11_numberHere_117, m_ob m3, Option.bind_some, show (1 : Int32) = nI 1 from rfl, e_mfail m3 (by rw [iv_si, if_neg (by decide), iv_si, if_neg (by decide)]; exact h0), Option.bind_some, if_pos rfl, f_X11_numberHere_131, if_pos (Or.inl rfl)]
    constructor
    · intro h3 hv
      obtain ⟨L, e1, e2, e3, e4, e5, e6, e7⟩ := dig h3
      rw [e7]
      by_cases q : 5 < L
      · rw [if_pos (by rw [show (5 : Int32) = nI 5 from rfl]; exact nI_lt q (by have := (rE_spec dg0 hb (t - p) p rfl).2.1 hle; have : dE b t p ≤ t := this; omega))]
        exact bad _
      · rw [if_neg q] at e5
        have hL : min L 5 = L := by omega
        rw [hL] at e4 ⊢
        have hb5 : vl b p L < 100000 := e4
        rw [if_neg (by rw [show (5 : Int32) = nI 5 from rfl, nI_ltI (by decide) (by omega)]; exact q), bi_n (fun z => by
          rw [e5] at hv
          rcases hv with y | y
          · exact nI_pos (by omega) y
          · rw [nI_ltI (by omega) (by omega)] at y
            have := (nI_leI (by omega) (by omega)).1 z.2
            omega), if_pos rfl]
        exact bad _
    · intro h3 hv1 hv2
      obtain ⟨L, e1, e2, e3, e4, e5, e6, e7⟩ := dig h3
      by_cases q : 5 < L
      · rw [e5, if_pos q] at hv1
        exact absurd (by decide : (-1 : Int32) < 0) hv1
      · rw [if_neg q] at e5
        have hL : min L 5 = L := by omega
        rw [hL] at e4 e7
        have hb5 : vl b p L < 100000 := e4
        rw [e5, nI_ltI (by omega) (by omega)] at hv2
        refine ⟨vl b p L, si (ps' τ (dE b t p)) 63 14 (nI (vl b p L)), by omega, e5, ?_, (KF.si τ _ (by decide)).tr (KF.si _ _ (by decide)), by rw [iv_si, if_pos ⟨rfl, rfl⟩], by rw [iv_si, if_neg (by decide), iv_ps, e6]⟩
        rw [e7, if_neg (by rw [show (5 : Int32) = nI 5 from rfl, nI_ltI (by decide) (by omega)]; exact q), bi_y ⟨nI_le (Nat.zero_le _) (by omega), nI_le (by omega) (by omega)⟩, if_neg z1, f_X11_numberHere_126, f_X11_numberHere_131, if_pos (Or.inr rfl)]
end ML
