/-! the class's search -/
theorem flp : ∀ ch, ch < 4096 → ∀ i, i < 12 → (ch ^^^ (ch - 1)) / 2 ^ i ≠ 0 → ch.testBit i = !(ch - 1).testBit i := all64 (P := fun ch => ∀ i, i < 12 → (ch ^^^ (ch - 1)) / 2 ^ i ≠ 0 → ch.testBit i = !(ch - 1).testBit i) (by decide +kernel)
theorem shrN {F t : Nat} (hF : F < 2 ^ 31) (ht : t < 32) : nI F >>> (nI t &&& 31) = nI (F / 2 ^ t) := pk_shrN hF _ t (sm32 t ht)
theorem bitB {F t : Nat} (hF : F < 2 ^ 31) (ht : t < 32) : (nI F >>> (nI t &&& 31)) &&& 1 = if F.testBit t then 1 else 0 := by
  rw [bitAt hF ht, Nat.testBit_eq_decide_div_mod_eq]
  by_cases h : F / 2 ^ t % 2 = 1
  · rw [h]; rfl
  · rw [show F / 2 ^ t % 2 = 0 by omega]; rfl
def hyb (ch i : Nat) : Nat → Bool := fun j => if j < i then ch.testBit j else (ch - 1).testBit j
theorem hyb_0 (ch : Nat) : hyb ch 0 = (ch - 1).testBit := funext (fun j => if_neg (Nat.not_lt_zero j))
theorem roB_cong {D : Nat → Bool} {f t : Nat → Nat} {b b' : Nat → Bool} {n : Nat} (h : ∀ i, i < kd D n → b i = b' i) : ∀ c, c < n → roB D f t b c = roB D f t b' c := by
  intro c hc
  unfold roB
  cases q : D c
  · rfl
  · rw [h _ (kd_lt hc q)]
theorem coB_cong {D : Nat → Bool} {P : Nat → Nat} {b b' : Nat → Bool} {n : Nat} (h : ∀ i, i < kd D n → b i = b' i) : coB D P n b = coB D P n b' := by
  apply sg_cong
  intro j _ hj
  cases q : D j
  · rfl
  · rw [h _ (kd_lt (by omega) q)]
theorem roB_put {D : Nat → Bool} {f t : Nat → Nat} {b b' : Nat → Bool} {n i : Nat} (hi : i < kd D n) (hb : ∀ j, j ≠ i → b' j = b j) : ∀ c, c < n → um (roB D f t b) (fr D n i) (if b' i then t (fr D n i) else f (fr D n i)) c = roB D f t b' c := by
  intro c hc
  obtain ⟨g1, g2, g3⟩ := fr_ok n i hi
  by_cases e : c = fr D n i
  · rw [e, um_s]
    unfold roB
    rw [g2, g3, Bool.true_and]
  · rw [um_n _ _ e]
    unfold roB
    cases q : D c
    · rfl
    · rw [hb _ (fun z => e (kd_inj q g2 (z.trans g3.symm)))]
theorem coB_put {D : Nat → Bool} {P : Nat → Nat} {b b' : Nat → Bool} {n i : Nat} (hi : i < kd D n) (hb : ∀ j, j ≠ i → b' j = b j) : coB D P n b' + (if b i then P (fr D n i) else 0) = coB D P n b + (if b' i then P (fr D n i) else 0) := by
  unfold coB
  rw [sg_fr, sg_fr]
  exact sg_upd (f := fun i => if b i then P (fr D n i) else 0) (g := fun i => if b' i then P (fr D n i) else 0) (c := i) (kd D n) 0 (by omega) (by omega) (fun j hj => by
    show (if b' j then _ else _) = (if b j then _ else _)
    rw [hb j hj])
theorem Bal.row {σ : Mm} {n : Nat} {r r' a : Nat → Nat} (h : Bal σ n r a) (e : ∀ c, c < n → r c = r' c) : Bal σ n r' a :=
  ⟨h.1, h.2.1, fun c hc => by rw [← e c hc]; exact h.2.2.1 c hc, fun p hp => by rw [← cnt_cong e]; exact h.2.2.2.1 p hp, fun p hp => by rw [← cnt_cong e]; exact h.2.2.2.2 p hp⟩
theorem roB_lt {D : Nat → Bool} {f t : Nat → Nat} {n : Nat} (hf : ∀ c, c < n → f c < 8) (ht : ∀ c, c < n → t c < 8) (b : Nat → Bool) : ∀ c, c < n → roB D f t b c < 8 := by
  intro c hc
  unfold roB
  by_cases q : (D c && b (kd D c)) = true
  · rw [if_pos q]; exact ht c hc
  · rw [if_neg q]; exact hf c hc
def SR (σ : Mm) (D : Nat → Bool) (f t P : Nat → Nat) (n : Nat) : Prop := WFc σ ∧ iv σ 42 5 = nI (kd D n) ∧ (∀ i, i < kd D n → iv σ 46 i = nI (fr D n i)) ∧ (∀ c, c < n → D c = true → iv σ 43 c = nI (f c)) ∧ (∀ c, c < n → D c = true → iv σ 44 c = nI (t c)) ∧ ∀ c, c < n → D c = true → iv σ 45 c = nI (P c)
theorem SR.rs {σ σ' : Mm} {D : Nat → Bool} {f t P : Nat → Nat} {n : Nat} {l : List Nat} (h : SR σ D f t P n) (r : RS l σ σ') (hl : ∀ x ∈ l, x ≤ 42) (h5 : iv σ' 42 5 = iv σ 42 5) : SR σ' D f t P n := by
  obtain ⟨h1, h2, h3, h4, h6, h7⟩ := h
  refine ⟨r.wc h1, h5.trans h2, ?_, ?_, ?_, ?_⟩
  · rw [r.2.2 46 (fun e => absurd (hl _ e) (by decide))]; exact h3
  · rw [r.2.2 43 (fun e => absurd (hl _ e) (by decide))]; exact h4
  · rw [r.2.2 44 (fun e => absurd (hl _ e) (by decide))]; exact h6
  · rw [r.2.2 45 (fun e => absurd (hl _ e) (by decide))]; exact h7
theorem i32_a {a x p b y : Int32} (h : a + (x + p) = (b + p) + y) : a + x = b + y := by
  have h2 : (a + x) + p = (b + y) + p := by
    rw [Int32.add_assoc, h, Int32.add_assoc, Int32.add_assoc, Int32.add_comm p y]
  exact (Int32.add_left_inj p).1 h2
theorem i32_b {a x p b y : Int32} (h : a + x = (b + -p) + y) : a + (x + p) = b + y := by
  rw [← Int32.add_assoc, h, Int32.add_assoc, Int32.add_assoc, Int32.add_comm y p, ← Int32.add_assoc (-p) p y, Int32.add_left_neg, Int32.zero_add]
section SE
variable {N : Nat}
theorem flp19 {D : Nat → Bool} {f t P a : Nat → Nat} {n ch : Nat} (h12 : n ≤ 12) (hf : ∀ c, c < n → f c < 8) (ht : ∀ c, c < n → t c < 8) (hch : ch < 4096) : ∀ d i fu σ l3, i + d = kd D n → d < fu → SR σ D f t P n → Bal σ n (roB D f t (hyb ch i)) a → ∃ σ' l3', f_X4_flip_19 N fu 42 (nI ch) (nI (ch ^^^ (ch - 1))) l3 (nI i) σ = some (l3', σ') ∧ RS [38, 39, 40] σ σ' ∧ Bal σ' n (roB D f t ch.testBit) a ∧ l3' + nI (coB D P n (hyb ch i)) = l3 + nI (coB D P n ch.testBit) := by
  have hk := kd_le D n
  have hx : ch ^^^ (ch - 1) < 2 ^ 12 := Nat.xor_lt_two_pow (n := 12) (by omega) (by omega)
  intro d
  induction d with
  | zero =>
    intro i fu σ l3 h1 h2 hS hB
    obtain ⟨fu, rfl⟩ : ∃ q, fu = q + 1 := ⟨fu - 1, by omega⟩
    have he : ∀ j, j < kd D n → hyb ch i j = ch.testBit j := fun j hj => if_pos (by omega)
    refine ⟨σ, l3, ?_, RS.rf _ _, hB.row (roB_cong he), by rw [coB_cong he]⟩
    rw [f_X4_flip_19, k_i42 hS.1, Option.bind_some, hS.2.1, if_pos (nI_le (by omega) (by omega)), f_X4_flip_140]
  | succ d ih =>
    intro i fu σ l3 h1 h2 hS hB
    obtain ⟨fu, rfl⟩ : ∃ q, fu = q + 1 := ⟨fu - 1, by omega⟩
    have hi : i < kd D n := by omega
    have e0 : f_X4_flip_19 N (fu + 1) 42 (nI ch) (nI (ch ^^^ (ch - 1))) l3 (nI i) σ = if nI ((ch ^^^ (ch - 1)) / 2 ^ i) = 0 then f_X4_flip_140 N l3 σ else (gN 4 4 σ 42).bind fun a5 =>
            (aI 13 σ a5 (nI i)).bind fun x6 =>
            if ((nI ch >>> (nI i &&& 31)) &&& (1 : Int32)) = 0 then (
              f_X4_flip_65 N (f_X4_flip_19 N fu) 42 (nI ch) (nI (ch ^^^ (ch - 1))) l3 (nI i) x6 (0 : Int32) σ) else (
              f_X4_flip_65 N (f_X4_flip_19 N fu) 42 (nI ch) (nI (ch ^^^ (ch - 1))) l3 (nI i) x6 (1 : Int32) σ) := by
      rw [f_X4_flip_19, k_i42 hS.1, Option.bind_some, hS.2.1, if_neg (nI_ge (by omega) (by omega)), if_neg (by rw [show (12 : Int32) = nI 12 from rfl]; exact nI_ge (by omega) (by decide)), shrN (by omega) (by omega)]
    by_cases q : (ch ^^^ (ch - 1)) / 2 ^ i = 0
    · have he : ∀ j, j < kd D n → hyb ch i j = ch.testBit j := fun j hj => by
        unfold hyb
        by_cases z : j < i
        · rw [if_pos z]
        · rw [if_neg z]
          have hl : ch ^^^ (ch - 1) < 2 ^ i := by
            rcases (Nat.div_eq_zero_iff).1 q with w | w
            · exact absurd w (Nat.pos_iff_ne_zero.1 (Nat.pow_pos (by decide)))
            · exact w
          have hb := tb_out hl (show i ≤ j by omega)
          rw [Nat.testBit_xor] at hb
          cases y1 : ch.testBit j <;> cases y2 : (ch - 1).testBit j <;> rw [y1, y2] at hb <;> simp at hb ⊢
      refine ⟨σ, l3, ?_, RS.rf _ _, hB.row (roB_cong he), by rw [coB_cong he]⟩
      rw [e0, q, if_pos (show nI 0 = 0 from rfl), f_X4_flip_140]
    · have hfl := flp ch hch i (by omega) q
      obtain ⟨g1, g2, g3⟩ := fr_ok n i hi
      have hbb : ∀ j, j ≠ i → hyb ch (i + 1) j = hyb ch i j := fun j hj => by
        unfold hyb
        by_cases z : j < i
        · rw [if_pos z, if_pos (by omega)]
        · rw [if_neg z, if_neg (by omega)]
      have hb1 : hyb ch (i + 1) i = ch.testBit i := if_pos (by omega)
      have hb0 : hyb ch i i = (ch - 1).testBit i := if_neg (by omega)
      have hq8 : (if hyb ch (i + 1) i then t (fr D n i) else f (fr D n i)) < 8 := by
        by_cases z : hyb ch (i + 1) i = true
        · rw [if_pos z]; exact ht _ g1
        · rw [if_neg z]; exact hf _ g1
      obtain ⟨s1, p1, p2, p3⟩ := e_put (N := N) h12 hS.1 hB (roB_lt hf ht _) g1 hq8
      have hS1 : SR s1 D f t P n := hS.rs p2 (by decide) (by rw [p2.2.2 42 (by decide)])
      have hB1 := p3.row (roB_put hi hbb)
      have hco := coB_put (P := P) hi hbb
      have x46 : aI 13 σ 46 (nI i) = some (nI (fr D n i)) := by
        rw [k_aI hS.1 (a := 46) (n := 12) (c := i) (by decide) rfl rfl (by omega) (by decide), hS.2.2.1 i hi]
      have x45 : aI 13 s1 45 (nI (fr D n i)) = some (nI (P (fr D n i))) := by
        rw [k_aI hS1.1 (a := 45) (n := 12) (c := fr D n i) (by decide) rfl rfl (by omega) (by decide), hS1.2.2.2.2.2 _ g1 g2]
      rw [hb1] at p1
      rw [hb0, hb1] at hco
      cases y : ch.testBit i
      · rw [y] at p1 hfl hco
        have y2 : (ch - 1).testBit i = true := by simpa using hfl.symm
        rw [y2] at hco
        simp only [if_true, Bool.false_eq_true, if_false, Nat.add_zero] at hco p1
        obtain ⟨σ', l', f1, f2, f3, f4⟩ := ih (i + 1) fu s1 (l3 + -nI (P (fr D n i))) (by omega) (by omega) hS1 hB1
        refine ⟨σ', l', ?_, p2.tr f2, f3, ?_⟩
        · have x43 : aI 13 σ 43 (nI (fr D n i)) = some (nI (f (fr D n i))) := by
            rw [k_aI hS.1 (a := 43) (n := 12) (c := fr D n i) (by decide) rfl rfl (by omega) (by decide), hS.2.2.2.1 _ g1 g2]
          rw [e0, if_neg (show ¬ nI ((ch ^^^ (ch - 1)) / 2 ^ i) = 0 from nIk (Nat.lt_of_le_of_lt (Nat.div_le_self _ _) (by omega)) (by decide) q), k_42_4 hS.1, Option.bind_some, x46, Option.bind_some, bitB (by omega) (by omega), y, if_pos (show (if false = true then (1 : Int32) else 0) = 0 from rfl), f_X4_flip_65, e_isBelow, Option.bind_some, b12 (show fr D n i < 12 by omega), if_neg z1, k_42_0 hS.1, Option.bind_some, if_pos rfl, k_42_1 hS.1, Option.bind_some, x43, Option.bind_some, f_X4_flip_105, k_o36 hS.1, Option.bind_some, p1, Option.bind_some, if_pos rfl, k_42_3 hS1.1, Option.bind_some, x45, Option.bind_some, f_X4_flip_132, f_X4_flip_134, nI_1, f1]
        · rw [← hco, ← nI_add]
          exact i32_b f4
      · rw [y] at p1 hfl hco
        have y2 : (ch - 1).testBit i = false := by simpa using hfl.symm
        rw [y2] at hco
        simp only [if_true, Bool.false_eq_true, if_false, Nat.add_zero] at hco p1
        obtain ⟨σ', l', f1, f2, f3, f4⟩ := ih (i + 1) fu s1 (l3 + nI (P (fr D n i))) (by omega) (by omega) hS1 hB1
        refine ⟨σ', l', ?_, p2.tr f2, f3, ?_⟩
        · have x44 : aI 13 σ 44 (nI (fr D n i)) = some (nI (t (fr D n i))) := by
            rw [k_aI hS.1 (a := 44) (n := 12) (c := fr D n i) (by decide) rfl rfl (by omega) (by decide), hS.2.2.2.2.1 _ g1 g2]
          rw [e0, if_neg (show ¬ nI ((ch ^^^ (ch - 1)) / 2 ^ i) = 0 from nIk (Nat.lt_of_le_of_lt (Nat.div_le_self _ _) (by omega)) (by decide) q), k_42_4 hS.1, Option.bind_some, x46, Option.bind_some, bitB (by omega) (by omega), y, if_neg (show ¬ (if true = true then (1 : Int32) else 0) = 0 from z1), f_X4_flip_65, e_isBelow, Option.bind_some, b12 (show fr D n i < 12 by omega), if_neg z1, k_42_0 hS.1, Option.bind_some, if_neg z1, k_42_2 hS.1, Option.bind_some, x44, Option.bind_some, f_X4_flip_105, k_o36 hS.1, Option.bind_some, p1, Option.bind_some, if_neg z1, k_42_3 hS1.1, Option.bind_some, x45, Option.bind_some, f_X4_flip_132, f_X4_flip_134, nI_1, f1]
        · rw [hco, ← nI_add] at f4
          exact i32_a f4
theorem e_flip (hN : 20 ≤ N) {D : Nat → Bool} {f t P a : Nat → Nat} {n ch : Nat} {σ : Mm} (h12 : n ≤ 12) (hf : ∀ c, c < n → f c < 8) (ht : ∀ c, c < n → t c < 8) (hch : ch < 4096) (hS : SR σ D f t P n) (hB : Bal σ n (roB D f t (ch - 1).testBit) a) : ∃ σ' dl, f_X4_flip N 42 (nI ch) σ = some (dl, σ') ∧ RS [38, 39, 40] σ σ' ∧ Bal σ' n (roB D f t ch.testBit) a ∧ nI (coB D P n (ch - 1).testBit) + dl = nI (coB D P n ch.testBit) := by
  have hk := kd_le D n
  rw [← hyb_0 ch] at hB
  obtain ⟨σ', l', f1, f2, f3, f4⟩ := flp19 (N := N) (P := P) h12 hf ht hch (kd D n) 0 N σ 0 (by omega) (by omega) hS hB
  refine ⟨σ', l', ?_, f2, f3, ?_⟩
  · unfold f_X4_flip f_X4_flip_13
    by_cases q : ch = 0
    · subst q
      rw [if_pos (show nI 0 = 0 from rfl)]
      exact f1
    · rw [if_neg (show ¬ nI ch = 0 from nIk (by omega) (by decide) q), show (1 : Int32) = nI 1 from rfl, pk_sub (by omega), nI_xor _ _ (by omega) (by omega)]
      exact f1
  · rw [hyb_0, Int32.zero_add] at f4
    rw [Int32.add_comm]; exact f4
theorem cof {D : Nat → Bool} {f t P : Nat → Nat} {n ch : Nat} {σ : Mm} (h12 : n ≤ 12) (hch : ch < 4096) (hS : SR σ D f t P n) : ∀ d i fu, i + d = kd D n → d < fu → f_X4_cocksOf_4 N fu 42 (nI ch) (nI (msk (fun j => D j && (ch.testBit (kd D j) && decide (kd D j < i))) n)) (nI i) σ = some (nI (exS D ch n), σ) := by
  have hk := kd_le D n
  intro d
  induction d with
  | zero =>
    intro i fu h1 h2
    obtain ⟨fu, rfl⟩ : ∃ q, fu = q + 1 := ⟨fu - 1, by omega⟩
    rw [f_X4_cocksOf_4, k_i42 hS.1, Option.bind_some, hS.2.1, if_pos (nI_le (by omega) (by omega)), f_X4_cocksOf_43]
    congr 3
    apply msk_cong
    intro j hj
    cases q : D j
    · rfl
    · have := kd_lt hj q
      simp [show kd D j < i by omega]
  | succ d ih =>
    intro i fu h1 h2
    obtain ⟨fu, rfl⟩ : ∃ q, fu = q + 1 := ⟨fu - 1, by omega⟩
    have hi : i < kd D n := by omega
    obtain ⟨g1, g2, g3⟩ := fr_ok n i hi
    have key := ih (i + 1) fu (by omega) (by omega)
    rw [f_X4_cocksOf_4, k_i42 hS.1, Option.bind_some, hS.2.1, if_neg (nI_ge (by omega) (by omega)), if_neg (by rw [show (12 : Int32) = nI 12 from rfl]; exact nI_ge (by omega) (by decide)), bitB (by omega) (by omega)]
    have hl := msk_12 (fun j => D j && (ch.testBit (kd D j) && decide (kd D j < i))) h12
    cases y : ch.testBit i
    · rw [if_pos (show (if false = true then (1 : Int32) else 0) = 0 from rfl), f_X4_cocksOf_37, nI_1, ← key]
      congr 2
      apply msk_cong
      intro j hj
      by_cases z : kd D j = i
      · rw [z, y]; simp
      · have : kd D j < i + 1 ↔ kd D j < i := by omega
        simp [this]
    · rw [if_neg (show ¬ (if true = true then (1 : Int32) else 0) = 0 from z1), k_42_4 hS.1, Option.bind_some, k_aI hS.1 (a := 46) (n := 12) (c := i) (by decide) rfl rfl (by omega) (by decide), Option.bind_some, hS.2.2.1 i hi, f_X4_cocksOf_37, nI_1, shl1 (by omega), nI_or _ _ (by omega) (Nat.pow_lt_pow_right (by decide) (by omega)), ← key]
      congr 2
      apply Nat.eq_of_testBit_eq
      intro j
      rw [Nat.testBit_or, msk_tb, msk_tb, Nat.testBit_two_pow]
      by_cases z : fr D n i = j
      · subst z
        simp [g1, g2, g3, y]
      · simp only [z, decide_false, Bool.or_false]
        by_cases w : D j = true
        · have : kd D j ≠ i := fun e => z (kd_inj g2 w (g3.trans e.symm))
          have : kd D j < i + 1 ↔ kd D j < i := by omega
          simp [this]
        · simp [w]
theorem e_cof (hN : 20 ≤ N) {D : Nat → Bool} {f t P : Nat → Nat} {n ch : Nat} {σ : Mm} (h12 : n ≤ 12) (hch : ch < 4096) (hS : SR σ D f t P n) : f_X4_cocksOf N 42 (nI ch) σ = some (nI (exS D ch n), σ) := by
  have hk := kd_le D n
  have key := cof (N := N) h12 hch hS (kd D n) 0 N (by omega) (by omega)
  rw [show msk (fun j => D j && (ch.testBit (kd D j) && decide (kd D j < 0))) n = 0 from by
    apply Nat.eq_of_testBit_eq
    intro j
    rw [msk_tb]
    simp] at key
  exact key
/-- what the search has found so far -/
def BS (σ : Mm) (l5 : Int32) (co : Nat → Nat) (o : Option Nat) : Prop := match o with
  | none => iv σ 42 6 = 0 ∧ l5 = 0
  | some b => iv σ 42 6 = 1 ∧ iv σ 42 7 = nI (co b) ∧ l5 = nI b
def BR (σ : Mm) (co : Nat → Nat) (o : Option Nat) : Prop := match o with
  | none => iv σ 42 6 = 0
  | some S => iv σ 42 6 = 1 ∧ iv σ 42 7 = nI (co S) ∧ iv σ 42 8 = nI S
theorem RS_42 {σ : Mm} (k : Nat) (v : Int32) : RS [38, 39, 40, 41, 42] σ (si σ 42 k v) := (RO.si _ _ _ _).rs (by decide)
theorem r163 (hN : 20 ≤ N) {D : Nat → Bool} {f t P : Nat → Nat} {n : Nat} {σ : Mm} {l5 : Int32} {o : Option Nat} (h12 : n ≤ 12) (hS : SR σ D f t P n) (hB : BS σ l5 (fun ch => coB D P n ch.testBit) o) (hb : ∀ b, o = some b → b < 4096) : ∃ σ', f_X4_run_171 N 42 l5 σ = some σ' ∧ RS [38, 39, 40, 41, 42] σ σ' ∧ BR σ' (coS P n) (o.map (fun ch => exS D ch n)) := by
  cases o with
  | none =>
    obtain ⟨b1, b2⟩ := hB
    refine ⟨si σ 42 8 (nI (exS D 0 n)), ?_, RS_42 _ _, ?_⟩
    · rw [f_X4_run_171, k_o42 hS.1, Option.bind_some, b2, show (0 : Int32) = nI 0 from rfl, e_cof hN h12 (by decide) hS, Option.bind_some, k_p42 hS.1, Option.bind_some]
    · show iv (si σ 42 8 (nI (exS D 0 n))) 42 6 = 0
      rw [iv_si, if_neg (by decide)]; exact b1
  | some b =>
    obtain ⟨b1, b2, b3⟩ := hB
    refine ⟨si σ 42 8 (nI (exS D b n)), ?_, RS_42 _ _, ?_, ?_, ?_⟩
    · rw [f_X4_run_171, k_o42 hS.1, Option.bind_some, b3, e_cof hN h12 (hb b rfl) hS, Option.bind_some, k_p42 hS.1, Option.bind_some]
    · rw [iv_si, if_neg (by decide)]; exact b1
    · rw [iv_si, if_neg (by decide), co_ex]; exact b2
    · rw [iv_si, if_pos ⟨rfl, rfl⟩]
theorem run43 (hN : 20 ≤ N) {D : Nat → Bool} {f t P a : Nat → Nat} {n way p : Nat} (hn : 0 < n) (h12 : n ≤ 12) (hf : ∀ c, c < n → f c < 8) (ht : ∀ c, c < n → t c < 8) (hP : ∀ c, c < n → P c ≤ 100) (ha9 : ∀ c, c < n → a c ≤ 99) (hway : way < 4) (hp : p < 8) (hv8 : ∀ r : Nat → Nat, (∀ c, c < n → r c < 8) → voteV way n r a < 8) :
    ∀ d ch fu σ l5, ch + d = 2 ^ kd D n → d < fu → SR σ D f t P n → Bal σ n (roB D f t (ch - 1).testBit) a → BS σ l5 (fun ch => coB D P n ch.testBit) (bst (fun ch => decide (voteV way n (roB D f t ch.testBit) a = p)) (fun ch => coB D P n ch.testBit) pc ch) → ∃ σ', f_X4_run_43 N fu 42 (nI way) (nI p) l5 (nI (coB D P n (ch - 1).testBit)) (nI ch) σ = some σ' ∧ RS [38, 39, 40, 41, 42] σ σ' ∧ BR σ' (coS P n) ((bst (fun ch => decide (voteV way n (roB D f t ch.testBit) a = p)) (fun ch => coB D P n ch.testBit) pc (2 ^ kd D n)).map (fun ch => exS D ch n)) := by
  obtain ⟨ok, hok⟩ : ∃ ok, ok = fun ch : Nat => decide (voteV way n (roB D f t ch.testBit) a = p) := ⟨_, rfl⟩
  obtain ⟨co, hco⟩ : ∃ co, co = fun ch : Nat => coB D P n ch.testBit := ⟨_, rfl⟩
  rw [← hok, ← hco]
  have hk := kd_le D n
  have hK : 2 ^ kd D n ≤ 4096 := (Nat.pow_le_pow_right (by decide) (by omega) : 2 ^ kd D n ≤ 2 ^ 12)
  have cob : ∀ ch, co ch < 2 ^ 20 := fun ch => by
    rw [hco]
    have := sg_bd (f := fun j => if D j && ch.testBit (kd D j) then P j else 0) (B := 100) n 0 (fun j _ hj => by
      by_cases q : (D j && ch.testBit (kd D j)) = true
      · show (if (D j && ch.testBit (kd D j)) then P j else 0) ≤ 100
        rw [if_pos q]; exact hP j (by omega)
      · show (if (D j && ch.testBit (kd D j)) then P j else 0) ≤ 100
        rw [if_neg q]; omega)
    show sg (fun j => if D j && ch.testBit (kd D j) then P j else 0) 0 n < 2 ^ 20
    omega
  have co0 : co 0 = 0 := by
    rw [hco]
    exact sg_zero n 0 (fun j _ _ => by
      show (if (D j && (0 : Nat).testBit (kd D j)) = true then P j else 0) = 0
      rw [Nat.zero_testBit, Bool.and_false]; rfl)
  have pc0 : pc 0 = 0 := by decide
  have hb4 : ∀ ch, ch ≤ 2 ^ kd D n → ∀ b, bst ok co pc ch = some b → b < 4096 := by
    intro ch hch b hb
    rcases bst_spec ok co pc ch with ⟨e, _⟩ | ⟨b', e, g1, _⟩
    · rw [e] at hb; cases hb
    · rw [e] at hb; cases hb; omega
  intro d
  induction d with
  | zero =>
    intro ch fu σ l5 h1 h2 hS hB hb
    obtain ⟨fu, rfl⟩ : ∃ q, fu = q + 1 := ⟨fu - 1, by omega⟩
    have e1 : ch = 2 ^ kd D n := by omega
    have hq := hb4 ch (by omega)
    rw [f_X4_run_43, k_i42 hS.1, Option.bind_some, hS.2.1, shl1 (by omega), if_pos (nI_le (by omega) (by omega))]
    rw [← e1]
    rw [hco] at hb
    rw [hco] at hq ⊢
    exact r163 hN h12 hS hb hq
  | succ d ih =>
    intro ch fu σ l5 h1 h2 hS hB hb
    obtain ⟨fu, rfl⟩ : ∃ q, fu = q + 1 := ⟨fu - 1, by omega⟩
    obtain ⟨s1, dl, f1, f2, f3, f4⟩ := e_flip hN h12 hf ht (ch := ch) (by omega) hS hB
    have f2' : RS [38, 39, 40, 41, 42] σ s1 := f2.mono (by decide)
    have hS1 : SR s1 D f t P n := hS.rs f2 (by decide) (by rw [f2.2.2 42 (by decide)])
    have hb1 : BS s1 l5 co (bst ok co pc ch) := by
      unfold BS at hb ⊢
      rw [f2.2.2 42 (by decide)]
      exact hb
    have H142 : ∀ s l, SR s D f t P n → Bal s n (roB D f t ch.testBit) a → BS s l co (bst ok co pc (ch + 1)) → ∃ σ', f_X4_run_150 N (f_X4_run_43 N fu) 42 (nI way) (nI p) l (nI (co ch)) (nI ch) s = some σ' ∧ RS [38, 39, 40, 41, 42] s σ' ∧ BR σ' (coS P n) ((bst ok co pc (2 ^ kd D n)).map (fun ch => exS D ch n)) := by
      intro s l hs hBs hbs
      have I := ih (ch + 1) fu s l (by omega) (by omega) hs (by rw [Nat.add_sub_cancel]; exact hBs) hbs
      rw [Nat.add_sub_cancel, show coB D P n ch.testBit = co ch by rw [hco]] at I
      rw [f_X4_run_150, k_i42 hs.1, Option.bind_some]
      cases e : bst ok co pc (ch + 1) with
      | none =>
        rw [e] at hbs
        rw [hbs.1, if_pos rfl, f_X4_run_165, nI_1]
        exact I
      | some b =>
        rw [e] at hbs
        rw [hbs.1, if_neg z1]
        by_cases q : b = 0
        · subst q
          rw [if_pos (show l = 0 from hbs.2.2)]
          have := bst_stay e co0 pc0 d
          rw [show ch + 1 + d = 2 ^ kd D n by omega] at this
          rw [this]
          rw [hco] at hbs
          exact r163 (o := some 0) hN h12 hs hbs (fun b hb => by cases hb; decide)
        · have hbl := hb4 (ch + 1) (by omega) b e
          rw [hbs.2.2, if_neg (show ¬ nI b = 0 from nIk (by omega) (by decide) q), f_X4_run_165, nI_1, ← hbs.2.2]
          exact I
    have HB : (bst ok co pc ch = none ∨ ∃ b, bst ok co pc ch = some b ∧ (co ch < co b ∨ (co ch = co b ∧ pc ch < pc b))) → ∃ σ', f_X4_run_111 N (f_X4_run_43 N fu) 42 (nI way) (nI p) l5 (nI (co ch)) (nI ch) s1 = some σ' ∧ RS [38, 39, 40, 41, 42] s1 σ' ∧ BR σ' (coS P n) ((bst ok co pc (2 ^ kd D n)).map (fun ch => exS D ch n)) := by
      intro hbet
      obtain ⟨s2, w1, w2⟩ := e_winner hN hn h12 hS1.1 f3 (roB_lt hf ht _) ha9 hway
      have w2' : RS [38, 39, 40, 41, 42] s1 s2 := w2.rs (by decide)
      have hS2 : SR s2 D f t P n := hS1.rs w2' (by decide) (by rw [w2.2.2 42 (by decide)])
      have hB2 : Bal s2 n (roB D f t ch.testBit) a := f3.cong (fun o o1 o2 => w2.2.2 o (by omega))
      have hv := hv8 (roB D f t ch.testBit) (roB_lt hf ht _)
      rw [f_X4_run_111, f_X4_run_116, if_neg z1, k_42_0 hS1.1, Option.bind_some, k_o36 hS1.1, Option.bind_some, w1, Option.bind_some]
      by_cases q : voteV way n (roB D f t ch.testBit) a = p
      · have hokc : ok ch = true := by rw [hok]; exact decide_eq_true q
        have hbn : bst ok co pc (ch + 1) = some ch := by
          rcases hbet with e | ⟨b, e, z⟩
          · exact bst_fst hokc e
          · exact bst_yes hokc e z
        obtain ⟨s3, e3⟩ : ∃ s, s = si (si s2 42 6 1) 42 7 (nI (co ch)) := ⟨_, rfl⟩
        have r3 : RS [38, 39, 40, 41, 42] s2 s3 := by rw [e3]; exact (RS_42 _ _).tr (RS_42 _ _)
        have h35 : iv s3 42 5 = iv s2 42 5 := by rw [e3, iv_si, if_neg (by decide), iv_si, if_neg (by decide)]
        obtain ⟨σ', g1, g2, g3⟩ := H142 s3 (nI ch) (hS2.rs r3 (by decide) h35) (hB2.cong (fun o o1 o2 => by rw [e3, iv_row _ _ _ (by omega), iv_row _ _ _ (by omega)])) (by
          rw [hbn]
          refine ⟨?_, ?_, rfl⟩
          · rw [e3, iv_si, if_neg (by decide), iv_si, if_pos ⟨rfl, rfl⟩]
          · rw [e3, iv_si, if_pos ⟨rfl, rfl⟩])
        refine ⟨σ', ?_, w2'.tr (r3.tr g2), g3⟩
        rw [if_pos (by rw [q]), k_pZ hS2.1 (o := 42) (c := 4) 6 (Or.inr rfl) (by decide) rfl, Option.bind_some, k_p42 (show WFc (si s2 42 6 1) from hS2.1), Option.bind_some, ← e3, g1]
      · have hokc : ok ch = false := by rw [hok]; exact decide_eq_false q
        obtain ⟨σ', g1, g2, g3⟩ := H142 s2 l5 hS2 hB2 (by
          rw [bst_no hokc]
          unfold BS at hb1 ⊢
          rw [w2.2.2 42 (by decide)]
          exact hb1)
        refine ⟨σ', ?_, w2'.tr g2, g3⟩
        rw [if_neg (show ¬ nI (voteV way n (roB D f t ch.testBit) a) = nI p from nIk (by omega) (by omega) q), g1]
    have HN : (∃ b, bst ok co pc ch = some b ∧ ¬ (co ch < co b ∨ (co ch = co b ∧ pc ch < pc b))) → ∃ σ', f_X4_run_115 N (f_X4_run_43 N fu) 42 (nI way) (nI p) l5 (nI (co ch)) (nI ch) s1 = some σ' ∧ RS [38, 39, 40, 41, 42] s1 σ' ∧ BR σ' (coS P n) ((bst ok co pc (2 ^ kd D n)).map (fun ch => exS D ch n)) := by
      rintro ⟨b, e, z⟩
      rw [f_X4_run_115, f_X4_run_116, if_pos rfl]
      exact H142 s1 l5 hS1 f3 (by rw [bst_old e z, ← e]; exact hb1)
    have f4' : nI (coB D P n (ch - 1).testBit) + dl = nI (co ch) := by rw [hco]; exact f4
    have tr : ∀ {X : Mm → Option Mm}, (∃ σ', X s1 = some σ' ∧ RS [38, 39, 40, 41, 42] s1 σ' ∧ BR σ' (coS P n) ((bst ok co pc (2 ^ kd D n)).map (fun ch => exS D ch n))) → ∃ σ', X s1 = some σ' ∧ RS [38, 39, 40, 41, 42] σ σ' ∧ BR σ' (coS P n) ((bst ok co pc (2 ^ kd D n)).map (fun ch => exS D ch n)) := by
      rintro X ⟨σ', g1, g2, g3⟩
      exact ⟨σ', g1, f2'.tr g2, g3⟩
    rw [f_X4_run_43, k_i42 hS.1, Option.bind_some, hS.2.1, shl1 (by omega), if_neg (nI_ge (by omega) (by omega)), if_neg (no4096 (by omega)), k_o42 hS.1, Option.bind_some, f1, Option.bind_some]
    simp only [f4']
    rw [k_i42 hS1.1, Option.bind_some]
    cases e : bst ok co pc ch with
    | none =>
      rw [e] at hb1
      rw [hb1.1, if_pos rfl]
      exact tr (HB (Or.inl e))
    | some b =>
      rw [e] at hb1
      have hbl := hb4 ch (by omega) b e
      have c1 := cob ch
      have c2 := cob b
      rw [hb1.1, if_neg z1, k_i42 hS1.1, Option.bind_some, hb1.2.1]
      by_cases q : co ch < co b
      · rw [if_pos (nI_lt q (by omega))]
        exact tr (HB (Or.inr ⟨b, e, Or.inl q⟩))
      · rw [if_neg (by rw [nI_ltI (by omega) (by omega)]; exact q), Option.bind_some]
        by_cases q2 : co ch = co b
        · rw [if_pos (by rw [q2]), e_bitCount (by omega), Option.bind_some, hb1.2.2, e_bitCount hbl, Option.bind_some]
          have p1 := pc_le ch
          have p2 := pc_le b
          by_cases q3 : pc b ≤ pc ch
          · rw [if_pos (nI_le q3 (by omega)), ← hb1.2.2]
            exact tr (HN ⟨b, e, by omega⟩)
          · rw [if_neg (nI_ge (by omega) (by omega)), ← hb1.2.2]
            exact tr (HB (Or.inr ⟨b, e, Or.inr ⟨q2, by omega⟩⟩))
        · rw [if_neg (show ¬ nI (co ch) = nI (co b) from nIk (by omega) (by omega) q2)]
          exact tr (HN ⟨b, e, by omega⟩)
theorem e_addFree {σ : Mm} {k : Nat} {x : Int32} (hc : WFc σ) (hk : iv σ 42 5 = nI k) (h : k < 12) : f_X4_addFree N 42 x σ = some (si (si σ 46 k x) 42 5 (nI (k + 1))) := by
  have c1 : WFc (si σ 46 k x) := hc
  unfold f_X4_addFree f_X4_addFree_32
  rw [k_i42 hc, Option.bind_some, hk, e_isBelow, Option.bind_some, b12 h, if_neg z1, k_42_4 hc, Option.bind_some, k_i42 hc, Option.bind_some, hk, k_sI hc (a := 46) (n := 12) (c := k) (by decide) rfl rfl h (by decide), Option.bind_some, k_i42 c1, Option.bind_some, iv_row _ _ _ (show 42 ≠ 46 by decide), hk, k_p42 c1, Option.bind_some, nI_1]
theorem lsf {m f t : Nat → Nat} {al : Nat → Bool} {l4 : Int32} (h12 : m 0 ≤ 12) (hf : ∀ c, c < m 0 → f c < 8) (ht : ∀ c, c < m 0 → t c < 8) (hal : ∀ c, c < m 0 → ((l4 >>> (nI c &&& 31)) &&& 1 = 0 ↔ al c = false)) : ∀ d c fu σ, c + d = m 0 → d < fu → WFc σ → RelV σ 9 m → (∀ c, c < m 0 → iv σ 43 c = nI (f c)) → (∀ c, c < m 0 → iv σ 44 c = nI (t c)) → iv σ 42 5 = nI (kd (dif al f t) c) → (∀ i, i < kd (dif al f t) c → iv σ 46 i = nI (fr (dif al f t) c i)) → ∃ σ', f_X4_listFree_7 N fu 42 9 l4 (nI c) σ = some σ' ∧ RS [42, 46] σ σ' ∧ iv σ' 42 5 = nI (kd (dif al f t) (m 0)) ∧ ∀ i, i < kd (dif al f t) (m 0) → iv σ' 46 i = nI (fr (dif al f t) (m 0) i) := by
  intro d
  induction d with
  | zero =>
    intro c fu σ h1 h2 hc hr h43 h44 hk hi
    obtain ⟨fu, rfl⟩ : ∃ q, fu = q + 1 := ⟨fu - 1, by omega⟩
    have e : m 0 = c := by omega
    refine ⟨σ, ?_, RS.rf _ _, by rw [e]; exact hk, by rw [e]; exact hi⟩
    rw [f_X4_listFree_7, v_i (now9 hc), Option.bind_some, hr.1, if_pos (nI_le (by omega) (by omega)), f_X4_listFree_55]
  | succ d ih =>
    intro c fu σ h1 h2 hc hr h43 h44 hk hi
    obtain ⟨fu, rfl⟩ : ∃ q, fu = q + 1 := ⟨fu - 1, by omega⟩
    have hcn : c < m 0 := by omega
    have hkl := kd_le (dif al f t) c
    rw [f_X4_listFree_7, v_i (now9 hc), Option.bind_some, hr.1, if_neg (nI_ge (by omega) (by omega)), if_neg (by rw [show (12 : Int32) = nI 12 from rfl]; exact nI_ge (by omega) (by decide))]
    have no : dif al f t c = false → ∃ σ', f_X4_listFree_49 N (f_X4_listFree_7 N fu) 42 9 l4 (nI c) σ = some σ' ∧ RS [42, 46] σ σ' ∧ iv σ' 42 5 = nI (kd (dif al f t) (m 0)) ∧ ∀ i, i < kd (dif al f t) (m 0) → iv σ' 46 i = nI (fr (dif al f t) (m 0) i) := by
      intro hd
      rw [f_X4_listFree_49, nI_1]
      exact ih (c + 1) fu σ (by omega) (by omega) hc hr h43 h44 (by rw [kd_n hd]; exact hk) (by rw [kd_n hd, fr_n hd]; exact hi)
    by_cases q : al c = false
    · rw [if_pos ((hal c hcn).2 q)]
      exact no (by unfold dif; rw [q]; rfl)
    · rw [if_neg (fun z => q ((hal c hcn).1 z)), k_42_1 hc, Option.bind_some, k_aI hc (a := 43) (n := 12) (c := c) (by decide) rfl rfl (by omega) (by decide), Option.bind_some, h43 c hcn, k_42_2 hc, Option.bind_some, k_aI hc (a := 44) (n := 12) (c := c) (by decide) rfl rfl (by omega) (by decide), Option.bind_some, h44 c hcn]
      have g1 := hf c hcn
      have g2 := ht c hcn
      have qt : al c = true := by simpa using q
      by_cases z : f c = t c
      · rw [if_pos (by rw [z])]
        exact no (by unfold dif; simp [z])
      · have hd : dif al f t c = true := by unfold dif; simp [z, qt]
        obtain ⟨s1, e1⟩ : ∃ s, s = si (si σ 46 (kd (dif al f t) c) (nI c)) 42 5 (nI (kd (dif al f t) c + 1)) := ⟨_, rfl⟩
        have r1 : RS [42, 46] σ s1 := by rw [e1]; exact ((RO.si 46 _ _ _).rs (by decide)).tr ((RO.si 42 _ _ _).rs (by decide))
        obtain ⟨σ', i1, i2, i3, i4⟩ := ih (c + 1) fu s1 (by omega) (by omega) (r1.wc hc) (hr.cong (fun i hi => r1.2.2 _ (by simp; omega))) (by rw [r1.2.2 43 (by decide)]; exact h43) (by rw [r1.2.2 44 (by decide)]; exact h44) (by rw [kd_y hd, e1, iv_si, if_pos ⟨rfl, rfl⟩]) (by
          intro i hi'
          rw [kd_y hd] at hi'
          rw [fr_y hd, e1, iv_row _ _ _ (by decide), iv_si]
          by_cases y : i = kd (dif al f t) c
          · rw [if_pos ⟨rfl, y⟩, y, um_s]
          · rw [if_neg (fun w => y w.2), um_n _ _ y]
            exact hi i (by omega))
        refine ⟨σ', ?_, r1.tr i2, i3, i4⟩
        rw [if_neg (show ¬ nI (f c) = nI (t c) from nIk (by omega) (by omega) z), k_o42 hc, Option.bind_some, e_addFree hc hk (by omega), Option.bind_some, ← e1, f_X4_listFree_49, nI_1]
        exact i1
abbrev runL : List Nat := [36, 37, 38, 39, 40, 41, 42, 46]
theorem voteV_lt {m r : Nat → Nat} {way : Nat} {τ : Mm} (hws : WS m) (h0 : 0 < m 0) (hr8 : ∀ c, c < m 0 → r c < 8) (hway : way < 4) (hm : WFm τ) (hs : ∀ i, i < 156 → iv τ 75 i = nI (m i)) : voteV way (m 0) r (ages m) < 8 := by
  obtain ⟨τ1, e1⟩ : ∃ s : Mm, WFm s ∧ (∀ i, i < 156 → iv s 75 i = nI (m i)) ∧ Rw s (m 0) r := by
    refine ⟨(fun o k => if o = 76 then nI (r k) else iv τ o k, τ.2.1, τ.2.2.1, τ.2.2.2), ?_, ?_, ?_⟩
    · exact hm.rvc rfl (fun _ => rfl)
    · intro i hi; exact hs i hi
    · intro c hc; rfl
  obtain ⟨_, _, _, h⟩ := e_votes (N := 100) (a := ages m) (by decide) hws h0 e1.1 e1.2.1 e1.2.2 hr8 (fun _ => rfl) hway
  exact h
theorem e_run (hN : 5000 ≤ N) {m f t P : Nat → Nat} {al : Nat → Bool} {l4 : Int32} {way p : Nat} {σ : Mm} (hws : WS m) (h0 : 0 < m 0) (hf : ∀ c, c < m 0 → f c < 8) (ht : ∀ c, c < m 0 → t c < 8) (hP : ∀ c, c < m 0 → P c ≤ 100) (hway : way < 4) (hp : p < 8) (hv8 : ∀ r : Nat → Nat, (∀ c, c < m 0 → r c < 8) → voteV way (m 0) r (ages m) < 8) (hal : ∀ c, c < m 0 → ((l4 >>> (nI c &&& 31)) &&& 1 = 0 ↔ al c = false)) (hc : WFc σ) (hr : RelV σ 9 m) (h43 : ∀ c, c < m 0 → iv σ 43 c = nI (f c)) (h44 : ∀ c, c < m 0 → iv σ 44 c = nI (t c)) (h45 : ∀ c, c < m 0 → iv σ 45 c = nI (P c)) : ∃ σ', f_X4_run N 42 9 (nI way) (nI p) l4 σ = some σ' ∧ RS runL σ σ' ∧ BR σ' (coS P (m 0)) (bst (okS al (fun r => voteV way (m 0) r (ages m)) f t (m 0) p) (coS P (m 0)) pc (2 ^ m 0)) := by
  have h12 := hws.1
  have hl : ∀ x ∈ runL, 33 ≤ x ∧ x ≤ 50 := by decide
  have hk := kd_le (dif al f t) (m 0)
  have hK : 2 ^ kd (dif al f t) (m 0) ≤ 4096 := (Nat.pow_le_pow_right (by decide) (by omega) : 2 ^ kd (dif al f t) (m 0) ≤ 2 ^ 12)
  obtain ⟨s0, e0⟩ : ∃ s, s = si σ 42 5 0 := ⟨_, rfl⟩
  have r0 : RS runL σ s0 := by rw [e0]; exact (RO.si _ _ _ _).rs (by decide)
  obtain ⟨s1, f1, f2, f3, f4⟩ := lsf (N := N) (l4 := l4) h12 hf ht hal (m 0) 0 N s0 (by omega) (by omega) (r0.wc hc) (r0.rel hl hr) (by rw [r0.2.2 43 (by decide)]; exact h43) (by rw [r0.2.2 44 (by decide)]; exact h44) (by rw [e0, iv_si, if_pos ⟨rfl, rfl⟩]; rfl) (fun i hi => absurd hi (Nat.not_lt_zero _))
  have r1 : RS runL σ s1 := r0.tr (f2.mono (by decide))
  have c1 := r1.wc hc
  obtain ⟨s2, g1, g2, g3⟩ := e_open (N := N) (a := ages m) (row := 43) (σ := s1) (by omega) h12 (fun _ => rfl) hf (by decide) rfl (Or.inr (by decide)) c1 (r1.rel hl hr) (by rw [r1.2.2 43 (by decide)]; exact h43)
  have r2 : RS runL σ s2 := r1.tr (g2.mono (by decide))
  have c2 := r2.wc hc
  obtain ⟨s3, e3⟩ : ∃ s, s = si (si (si s2 42 6 0) 42 7 0) 42 8 0 := ⟨_, rfl⟩
  have r23 : RS [42] s2 s3 := by rw [e3]; exact (((RO.si _ _ _ _).rs (by decide)).tr ((RO.si _ _ _ _).rs (by decide))).tr ((RO.si _ _ _ _).rs (by decide))
  have r3 : RS runL σ s3 := r2.tr (r23.mono (by decide))
  have c3 := r3.wc hc
  have i5 : iv s3 42 5 = nI (kd (dif al f t) (m 0)) := by
    rw [e3, iv_si, if_neg (by decide), iv_si, if_neg (by decide), iv_si, if_neg (by decide), g2.2.2 42 (by decide)]
    exact f3
  have i46 : iv s3 46 = iv s1 46 := by rw [r23.2.2 46 (by decide), g2.2.2 46 (by decide)]
  have hS : SR s3 (dif al f t) f t P (m 0) := ⟨c3, i5, by rw [i46]; exact f4, by rw [r3.2.2 43 (by decide)]; exact fun c hc _ => h43 c hc, by rw [r3.2.2 44 (by decide)]; exact fun c hc _ => h44 c hc, by rw [r3.2.2 45 (by decide)]; exact fun c hc _ => h45 c hc⟩
  have hB : Bal s3 (m 0) (roB (dif al f t) f t (0 - 1).testBit) (ages m) := by
    refine (g3.cong (fun o o1 o2 => r23.2.2 o (by simp; omega))).row (fun c hc => ?_)
    unfold roB
    rw [Nat.zero_sub, Nat.zero_testBit, Bool.and_false]; rfl
  obtain ⟨σ', w1, w2, w3⟩ := run43 (N := N) (way := way) (p := p) (by omega) h0 h12 hf ht hP hws.age hway hp hv8 (2 ^ kd (dif al f t) (m 0)) 0 N s3 0 (by omega) (by omega) hS hB (by
    refine ⟨?_, rfl⟩
    rw [e3, iv_si, if_neg (by decide), iv_si, if_neg (by decide), iv_si, if_pos ⟨rfl, rfl⟩])
  refine ⟨σ', ?_, r3.tr (w2.mono (by decide)), ?_⟩
  · have z0 : nI (coB (dif al f t) P (m 0) (0 - 1).testBit) = 0 := by
      have : coB (dif al f t) P (m 0) (0 - 1).testBit = 0 := sg_zero _ 0 (fun j _ _ => by
        show (if (dif al f t j && (0 - 1 : Nat).testBit (kd (dif al f t) j)) = true then P j else 0) = 0
        rw [Nat.zero_sub, Nat.zero_testBit, Bool.and_false]; rfl)
      rw [this]; rfl
    rw [z0] at w1
    unfold f_X4_run f_X4_listFree
    rw [k_o42 hc, Option.bind_some, k_p42 hc, Option.bind_some, ← e0, show (0 : Int32) = nI 0 from rfl, f1, Option.bind_some, k_42_0 c1, Option.bind_some, k_42_1 c1, Option.bind_some, k_o36 c1, Option.bind_some, g1, Option.bind_some, k_pZ c2 (o := 42) (c := 4) (v := nI 0) 6 (Or.inl rfl) (by decide) rfl, Option.bind_some, k_p42 (show WFc (si s2 42 6 (nI 0)) from c2), Option.bind_some, k_p42 (show WFc (si (si s2 42 6 (nI 0)) 42 7 (nI 0)) from c2), Option.bind_some]
    rw [show si (si (si s2 42 6 (nI 0)) 42 7 (nI 0)) 42 8 (nI 0) = s3 from e3.symm]
    exact w1
  · rw [srch h12 (fun r r' h => voteV_cong h)]
    exact w3
end SE
