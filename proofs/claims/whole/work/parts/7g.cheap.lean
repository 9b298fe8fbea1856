/-! the model's cheapest set -/
section CH
variable {N : Nat}
theorem FS.p28 (l : List Nat) (τ : Mm) (v : Int32) : FS l τ (si τ 63 28 v) := ⟨rfl, fun _ => rfl, fun o _ q => iv_row τ _ _ q, fun k _ q => by rw [iv_si, if_neg (fun e => q e.2)]⟩
theorem kpr {m r : Nat → Nat} (h12 : m 0 ≤ 12) : ∀ d c fu τ, c + d = m 0 → d < fu → WFm τ → (∀ i, i < 156 → iv τ 75 i = nI (m i)) → Rw τ (m 0) r → (∀ j, j < c → iv τ 78 j = nI (r j)) → ∃ τ', f_X11_keepsRow_2 N fu 63 (nI c) τ = some τ' ∧ RO 78 τ τ' ∧ ∀ j, j < m 0 → iv τ' 78 j = nI (r j) := by
  intro d
  induction d with
  | zero =>
    intro c fu τ h1 h2 hm hs hr hj
    obtain ⟨fu, rfl⟩ : ∃ q, fu = q + 1 := ⟨fu - 1, by omega⟩
    refine ⟨τ, ?_, RO.rf _ _, fun j h => hj j (by omega)⟩
    rw [f_X11_keepsRow_2, m_g24 hm, Option.bind_some, m_aI hm (a := 75) (n := 156) (i := 0) (c := 0) (by decide) rfl rfl (by decide) (by decide), Option.bind_some, hs 0 (by decide), if_pos (nI_le (by omega) (by omega))]
  | succ d ih =>
    intro c fu τ h1 h2 hm hs hr hj
    obtain ⟨fu, rfl⟩ : ∃ q, fu = q + 1 := ⟨fu - 1, by omega⟩
    obtain ⟨τ', f1, f2, f3⟩ := ih (c + 1) fu (si τ 78 c (nI (r c))) (by omega) (by omega) hm (fun i hi => by rw [iv_row τ _ _ (show 75 ≠ 78 by decide)]; exact hs i hi) (fun j hj => by rw [iv_row τ _ _ (show 76 ≠ 78 by decide)]; exact hr j hj) (fun j hj' => by
      rw [iv_si]
      by_cases e : j = c
      · rw [if_pos ⟨rfl, e⟩, e]
      · rw [if_neg (fun q => e q.2)]; exact hj j (by omega))
    refine ⟨τ', ?_, (RO.si 78 τ _ _).tr f2, f3⟩
    rw [f_X11_keepsRow_2, m_g24 hm, Option.bind_some, m_aI hm (a := 75) (n := 156) (i := 0) (c := 0) (by decide) rfl rfl (by decide) (by decide), Option.bind_some, hs 0 (by decide), if_neg (nI_ge (by omega) (by omega)), m_g27 hm, Option.bind_some, m_g25 hm, Option.bind_some, m_aI hm (a := 76) (n := 12) (c := c) (by decide) rfl rfl (by omega) (by decide), Option.bind_some, hr c (by omega), m_sI hm (a := 78) (n := 12) (c := c) (by decide) rfl rfl (by omega) (by decide), Option.bind_some, nI_1, f1]
theorem e_keeps (hN : 20 ≤ N) {m r : Nat → Nat} {τ : Mm} (h12 : m 0 ≤ 12) (hm : WFm τ) (hs : ∀ i, i < 156 → iv τ 75 i = nI (m i)) (hr : Rw τ (m 0) r) : ∃ τ', f_X11_keepsRow N 63 τ = some τ' ∧ RO 78 τ τ' ∧ ∀ j, j < m 0 → iv τ' 78 j = nI (r j) := kpr h12 (m 0) 0 N τ (by omega) (by omega) hm hs hr (fun j hj => absurd hj (Nat.not_lt_zero _))
/-- what it costs to bend one -/
def prc (m f : Nat → Nat) (p c : Nat) : Nat := offM (f c) p * (m (6 + 7 * c) + 1)
theorem prc_le {m f : Nat → Nat} (hw : WS m) {p : Nat} (hp : p < 8) (hf : ∀ c, c < m 0 → f c < 8) : ∀ c, c < m 0 → prc m f p c ≤ 100 := by
  intro c hc
  have h1 := offM_le (f c) (hf c hc) p hp
  have h2 := (hw.2.2.2.2.1 c (by have := hw.1; omega)).2.2.1
  unfold prc
  have := Nat.mul_le_mul h1 (show m (6 + 7 * c) + 1 ≤ 10 by omega)
  omega
theorem e_bendCost {τ : Mm} {m : Nat → Nat} (hm : WFm τ) (hs : ∀ i, i < 156 → iv τ 75 i = nI (m i)) {c a p : Nat} (hc : c < 12) (ha : a < 8) (hp : p < 8) : f_X11_bendCost N 63 (nI c) (nI a) (nI p) τ = some (nI (offM a p * (m (6 + 7 * c) + 1)), τ) := by
  rw [f_X11_bendCost, e_off' ha hp, Option.bind_some, m_ob hm, Option.bind_some, e_c2 hm hc, Option.bind_some, hs _ (by omega), show 4 + 7 * c + 2 = 6 + 7 * c by omega, nI_1, pk_mul]
theorem bnd5 {m f : Nat → Nat} {p S : Nat} (hws : WS m) (hp : p < 8) (hS : S < 4096) (hf : ∀ c, c < m 0 → f c < 8) : ∀ d c fu τ acc, c + d = m 0 → d < fu → WFm τ → (∀ i, i < 156 → iv τ 75 i = nI (m i)) → (∀ j, j < m 0 → iv τ 78 j = nI (f j)) → (∀ j, j < c → iv τ 76 j = nI (roS f (fun _ => p) S j)) → ∃ τ', f_X11_bends_5 N fu 63 (nI S) (nI p) (nI acc) (nI c) τ = some (nI (acc + sg (fun c => if S.testBit c then prc m f p c else 0) c d), τ') ∧ RO 76 τ τ' ∧ Rw τ' (m 0) (roS f (fun _ => p) S) := by
  have h12 := hws.1
  intro d
  induction d with
  | zero =>
    intro c fu τ acc h1 h2 hm hs h78 hj
    obtain ⟨fu, rfl⟩ : ∃ q, fu = q + 1 := ⟨fu - 1, by omega⟩
    refine ⟨τ, ?_, RO.rf _ _, fun j h => hj j (by omega)⟩
    rw [f_X11_bends_5, m_g24 hm, Option.bind_some, m_aI hm (a := 75) (n := 156) (i := 0) (c := 0) (by decide) rfl rfl (by decide) (by decide), Option.bind_some, hs 0 (by decide), if_pos (nI_le (by omega) (by omega))]
    rfl
  | succ d ih =>
    intro c fu τ acc h1 h2 hm hs h78 hj
    obtain ⟨fu, rfl⟩ : ∃ q, fu = q + 1 := ⟨fu - 1, by omega⟩
    have hcn : c < m 0 := by omega
    obtain ⟨s1, e1⟩ : ∃ s, s = si τ 76 c (nI (roS f (fun _ => p) S c)) := ⟨_, rfl⟩
    have r1 : RO 76 τ s1 := by rw [e1]; exact RO.si _ _ _ _
    have m1 := r1.wm hm
    have hs1 : ∀ i, i < 156 → iv s1 75 i = nI (m i) := fun i hi => by rw [r1.2.2 75 (by decide)]; exact hs i hi
    have h781 : ∀ j, j < m 0 → iv s1 78 j = nI (f j) := fun j hj => by rw [r1.2.2 78 (by decide)]; exact h78 j hj
    have hj1 : ∀ j, j < c + 1 → iv s1 76 j = nI (roS f (fun _ => p) S j) := fun j hj' => by
      rw [e1, iv_si]
      by_cases e : j = c
      · rw [if_pos ⟨rfl, e⟩, e]
      · rw [if_neg (fun q => e q.2)]; exact hj j (by omega)
    have bt := bitB (F := S) (t := c) (by omega) (by omega)
    rw [f_X11_bends_5, m_g24 hm, Option.bind_some, m_aI hm (a := 75) (n := 156) (i := 0) (c := 0) (by decide) rfl rfl (by decide) (by decide), Option.bind_some, hs 0 (by decide), if_neg (nI_ge (by omega) (by omega)), m_g25 hm, Option.bind_some, e_isOf, Option.bind_some, bt]
    cases y : S.testBit c
    · obtain ⟨τ', f1, f2, f3⟩ := ih (c + 1) fu s1 acc (by omega) (by omega) m1 hs1 h781 hj1
      refine ⟨τ', ?_, r1.tr f2, f3⟩
      have er : roS f (fun _ => p) S c = f c := by unfold roS; rw [y]; rfl
      rw [bi_n (show ¬ (if false = true then (1 : Int32) else 0) = 1 by decide), if_pos rfl, m_g27 hm, Option.bind_some, m_aI hm (a := 78) (n := 12) (c := c) (by decide) rfl rfl (by omega) (by decide), Option.bind_some, h78 c hcn, f_X11_bends_42, m_sI hm (a := 76) (n := 12) (c := c) (by decide) rfl rfl (by omega) (by decide), Option.bind_some, ← er, ← e1, e_isOf, Option.bind_some, bt, y, bi_n (show ¬ (if false = true then (1 : Int32) else 0) = 1 by decide), if_pos rfl, f_X11_bends_71, Int32.add_zero, nI_1, f1]
      congr 3
      show _ = acc + ((if S.testBit c then prc m f p c else 0) + sg (fun c => if S.testBit c then prc m f p c else 0) (c + 1) d)
      rw [y]
      simp
    · obtain ⟨τ', f1, f2, f3⟩ := ih (c + 1) fu s1 (acc + prc m f p c) (by omega) (by omega) m1 hs1 h781 hj1
      refine ⟨τ', ?_, r1.tr f2, f3⟩
      have er : roS f (fun _ => p) S c = p := by unfold roS; rw [y]; rfl
      rw [er] at e1
      rw [bi_y (show (if true = true then (1 : Int32) else 0) = 1 from rfl), if_neg z1, f_X11_bends_42, m_sI hm (a := 76) (n := 12) (c := c) (by decide) rfl rfl (by omega) (by decide), Option.bind_some, ← e1, e_isOf, Option.bind_some, bt, y, bi_y (show (if true = true then (1 : Int32) else 0) = 1 from rfl), if_neg z1, m_g27 m1, Option.bind_some, m_aI m1 (a := 78) (n := 12) (c := c) (by decide) rfl rfl (by omega) (by decide), Option.bind_some, h781 c hcn, m_ob m1, Option.bind_some, e_bendCost m1 hs1 (by omega) (hf c hcn) hp, Option.bind_some, f_X11_bends_71, nI_add, nI_1]
      rw [show acc + offM (f c) p * (m (6 + 7 * c) + 1) = acc + prc m f p c from rfl, f1]
      congr 3
      show _ = acc + ((if S.testBit c then prc m f p c else 0) + sg (fun c => if S.testBit c then prc m f p c else 0) (c + 1) d)
      rw [y, if_pos rfl]
      omega
theorem e_bends (hN : 20 ≤ N) {m f : Nat → Nat} {p S : Nat} {τ : Mm} (hws : WS m) (hp : p < 8) (hS : S < 4096) (hf : ∀ c, c < m 0 → f c < 8) (hm : WFm τ) (hs : ∀ i, i < 156 → iv τ 75 i = nI (m i)) (h78 : ∀ j, j < m 0 → iv τ 78 j = nI (f j)) : ∃ τ', f_X11_bends N 63 (nI S) (nI p) τ = some (nI (coS (prc m f p) (m 0) S), τ') ∧ RO 76 τ τ' ∧ Rw τ' (m 0) (roS f (fun _ => p) S) := by
  have h12 := hws.1
  obtain ⟨τ', f1, f2⟩ := bnd5 (N := N) hws hp hS hf (m 0) 0 N τ 0 (by omega) (by omega) hm hs h78 (fun j hj => absurd hj (Nat.not_lt_zero _))
  rw [Nat.zero_add] at f1
  exact ⟨τ', f1, f2⟩
theorem and0 {S F n : Nat} (hS : S < 2 ^ n) : S &&& F = 0 ↔ ∀ c, c < n → S.testBit c = true → (!F.testBit c) = true := by
  constructor
  · intro h c hc q
    have := congrArg (fun x => x.testBit c) h
    simp only [Nat.testBit_and, q, Nat.zero_testBit, Bool.true_and] at this
    rw [this]; rfl
  · intro h
    apply Nat.eq_of_testBit_eq
    intro j
    rw [Nat.testBit_and, Nat.zero_testBit]
    by_cases q : j < n
    · cases y : S.testBit j
      · rfl
      · have := h j q y
        simpa using this
    · rw [tb_out hS (by omega)]; rfl
def MS (τ : Mm) (l4 : Int32) (co : Nat → Nat) (o : Option Nat) : Prop := match o with
  | none => l4 = -1
  | some b => l4 = nI b ∧ iv τ 63 28 = nI (co b)
theorem roS_lt {f t : Nat → Nat} {n : Nat} (hf : ∀ c, c < n → f c < 8) (ht : ∀ c, c < n → t c < 8) (S : Nat) : ∀ c, c < n → roS f t S c < 8 := by
  intro c hc
  unfold roS
  by_cases q : S.testBit c = true
  · rw [if_pos q]; exact ht c hc
  · rw [if_neg q]; exact hf c hc
theorem coS_lt {P : Nat → Nat} {n : Nat} (h12 : n ≤ 12) (hP : ∀ c, c < n → P c ≤ 100) (S : Nat) : coS P n S < 2 ^ 20 := by
  have := sg_bd (f := fun c => if S.testBit c then P c else 0) (B := 100) n 0 (fun j _ hj => by
    show (if S.testBit j then P j else 0) ≤ 100
    by_cases q : S.testBit j = true
    · rw [if_pos q]; exact hP j (by omega)
    · rw [if_neg q]; omega)
  show sg (fun c => if S.testBit c then P c else 0) 0 n < 2 ^ 20
  omega
abbrev chL : List Nat := [76, 77, 78]
theorem chp {m f : Nat → Nat} {way p F : Nat} (hN : 100 ≤ N) (hws : WS m) (h0 : 0 < m 0) (hf : ∀ c, c < m 0 → f c < 8) (hp : p < 8) (hway : way < 4) (hF : F < 4096) :
    ∀ d S fu τ l4, S + d = 2 ^ m 0 → d < fu → WFm τ → (∀ i, i < 156 → iv τ 75 i = nI (m i)) → (∀ j, j < m 0 → iv τ 78 j = nI (f j)) → MS τ l4 (coS (prc m f p) (m 0)) (bst (okS (fun c => !F.testBit c) (fun r => voteV way (m 0) r (ages m)) f (fun _ => p) (m 0) p) (coS (prc m f p) (m 0)) pc S) → ∃ l' τ', f_X11_cheapestSet_6 N fu 63 (nI way) (nI p) (nI F) l4 (nI S) τ = some (l', τ') ∧ FS [76, 77] τ τ' ∧ MS τ' l' (coS (prc m f p) (m 0)) (bst (okS (fun c => !F.testBit c) (fun r => voteV way (m 0) r (ages m)) f (fun _ => p) (m 0) p) (coS (prc m f p) (m 0)) pc (2 ^ m 0)) := by
  have h12 := hws.1
  have hK : 2 ^ m 0 ≤ 4096 := (Nat.pow_le_pow_right (by decide) (by omega) : 2 ^ m 0 ≤ 2 ^ 12)
  obtain ⟨ok, hok⟩ : ∃ ok, ok = okS (fun c => !F.testBit c) (fun r => voteV way (m 0) r (ages m)) f (fun _ => p) (m 0) p := ⟨_, rfl⟩
  obtain ⟨co, hco⟩ : ∃ co, co = coS (prc m f p) (m 0) := ⟨_, rfl⟩
  rw [← hok, ← hco]
  have cob : ∀ S, co S < 2 ^ 20 := fun S => by rw [hco]; exact coS_lt h12 (prc_le hws hp hf) S
  have hb4 : ∀ ch, ch ≤ 2 ^ m 0 → ∀ b, bst ok co pc ch = some b → b < 4096 := by
    intro ch hch b hb
    rcases bst_spec ok co pc ch with ⟨e, _⟩ | ⟨b', e, g1, _⟩
    · rw [e] at hb; cases hb
    · rw [e] at hb; cases hb; omega
  intro d
  induction d with
  | zero =>
    intro S fu τ l4 h1 h2 hm hs h78 hb
    obtain ⟨fu, rfl⟩ : ∃ q, fu = q + 1 := ⟨fu - 1, by omega⟩
    refine ⟨l4, τ, ?_, FS.rf _ _, by rw [← show S = 2 ^ m 0 by omega]; exact hb⟩
    rw [f_X11_cheapestSet_6, m_g24 hm, Option.bind_some, m_aI hm (a := 75) (n := 156) (i := 0) (c := 0) (by decide) rfl rfl (by decide) (by decide), Option.bind_some, hs 0 (by decide), shl1 (by omega), if_pos (nI_le (by omega) (by omega))]
  | succ d ih =>
    intro S fu τ l4 h1 h2 hm hs h78 hb
    obtain ⟨fu, rfl⟩ : ∃ q, fu = q + 1 := ⟨fu - 1, by omega⟩
    have hSn : S < 2 ^ m 0 := by omega
    rw [f_X11_cheapestSet_6, m_g24 hm, Option.bind_some, m_aI hm (a := 75) (n := 156) (i := 0) (c := 0) (by decide) rfl rfl (by decide) (by decide), Option.bind_some, hs 0 (by decide), shl1 (by omega), if_neg (nI_ge (by omega) (by omega)), nI_and _ _ (by omega) (by omega)]
    have hand : S &&& F < 2 ^ 31 := Nat.lt_of_le_of_lt Nat.and_le_left (by omega)
    by_cases q : S &&& F = 0
    · have hal := (and0 (F := F) hSn).1 q
      obtain ⟨s1, b1, b2, b3⟩ := e_bends (N := N) (by omega) (S := S) (τ := τ) hws hp (by omega) hf hm hs h78
      have m1 := b2.wm hm
      have hs1 : ∀ i, i < 156 → iv s1 75 i = nI (m i) := fun i hi => by rw [b2.2.2 75 (by decide)]; exact hs i hi
      have h781 : ∀ j, j < m 0 → iv s1 78 j = nI (f j) := fun j hj => by rw [b2.2.2 78 (by decide)]; exact h78 j hj
      have fs1 : FS [76, 77] τ s1 := b2.fs (by decide) (by decide)
      have i28 : iv s1 63 28 = iv τ 63 28 := by rw [b2.2.2 63 (by decide)]
      have hb1 : MS s1 l4 co (bst ok co pc S) := by
        unfold MS at hb ⊢
        rw [i28]; exact hb
      have H96 : ∀ s l, FS [76, 77] τ s → iv s 78 = iv τ 78 → MS s l co (bst ok co pc (S + 1)) → ∃ l' τ', f_X11_cheapestSet_96 N (f_X11_cheapestSet_6 N fu) 63 (nI way) (nI p) (nI F) l (nI S) s = some (l', τ') ∧ FS [76, 77] τ τ' ∧ MS τ' l' co (bst ok co pc (2 ^ m 0)) := by
        intro s l fs e78 hms
        obtain ⟨l', τ', g1, g2, g3⟩ := ih (S + 1) fu s l (by omega) (by omega) (fs.wm hm) (fs.said (by decide) hs) (by rw [e78]; exact h78) hms
        exact ⟨l', τ', by rw [f_X11_cheapestSet_96, nI_1]; exact g1, fs.tr g2, g3⟩
      have HB : (bst ok co pc S = none ∨ ∃ b, bst ok co pc S = some b ∧ (co S < co b ∨ (co S = co b ∧ pc S < pc b))) → ∃ l' τ', f_X11_cheapestSet_74 N (f_X11_cheapestSet_6 N fu) 63 (nI way) (nI p) (nI F) l4 (nI S) (nI (co S)) s1 = some (l', τ') ∧ FS [76, 77] τ τ' ∧ MS τ' l' co (bst ok co pc (2 ^ m 0)) := by
        intro hbet
        obtain ⟨s2, v1, v2, v3⟩ := e_votes (N := N) (a := ages m) (by omega) hws h0 m1 hs1 b3 (roS_lt hf (fun _ _ => hp) S) (fun _ => rfl) hway
        have fs2 : FS [76, 77] τ s2 := fs1.tr (v2.fs (by decide) (by decide))
        rw [f_X11_cheapestSet_74, m_ob m1, Option.bind_some, v1, Option.bind_some]
        by_cases z : voteV way (m 0) (roS f (fun _ => p) S) (ages m) = p
        · have hoks : ok S = true := by
            rw [hok]; unfold okS
            rw [Bool.and_eq_true, decide_eq_true_eq, decide_eq_true_eq]
            exact ⟨hal, z⟩
          have hbn : bst ok co pc (S + 1) = some S := by
            rcases hbet with e | ⟨b, e, w⟩
            · exact bst_fst hoks e
            · exact bst_yes hoks e w
          rw [if_pos (by rw [z]), m_pI (v2.wm m1), Option.bind_some]
          exact H96 _ _ (fs2.tr (FS.p28 _ _ _)) (by rw [iv_row _ _ _ (by decide), v2.2.2 78 (by decide), b2.2.2 78 (by decide)]) (by
            rw [hbn]
            exact ⟨rfl, by rw [iv_si, if_pos ⟨rfl, rfl⟩]⟩)
        · have hoks : ok S = false := by
            rw [hok]; unfold okS
            rw [decide_eq_false z, Bool.and_false]
          rw [if_neg (show ¬ nI (voteV way (m 0) (roS f (fun _ => p) S) (ages m)) = nI p from nIk (by omega) (by omega) z)]
          exact H96 _ _ fs2 (by rw [v2.2.2 78 (by decide), b2.2.2 78 (by decide)]) (by
            rw [bst_no hoks]
            unfold MS at hb1 ⊢
            rw [v2.2.2 63 (by decide)]
            exact hb1)
      have HN : (∃ b, bst ok co pc S = some b ∧ ¬ (co S < co b ∨ (co S = co b ∧ pc S < pc b))) → ∃ l' τ', f_X11_cheapestSet_96 N (f_X11_cheapestSet_6 N fu) 63 (nI way) (nI p) (nI F) l4 (nI S) s1 = some (l', τ') ∧ FS [76, 77] τ τ' ∧ MS τ' l' co (bst ok co pc (2 ^ m 0)) := by
        rintro ⟨b, e, w⟩
        exact H96 _ _ fs1 (by rw [b2.2.2 78 (by decide)]) (by rw [bst_old e w, ← e]; exact hb1)
      rw [q, if_pos (show nI 0 = 0 from rfl), m_ob hm, Option.bind_some, b1, Option.bind_some]
      rw [show coS (prc m f p) (m 0) S = co S by rw [hco]]
      cases e : bst ok co pc S with
      | none =>
        rw [e] at hb1
        rw [if_pos (by rw [show l4 = -1 from hb1]; decide)]
        exact HB (Or.inl e)
      | some b =>
        rw [e] at hb1
        obtain ⟨hb1, hb2⟩ := hb1
        have hbl := hb4 S (by omega) b e
        have c1 := cob S
        have c2 := cob b
        rw [if_neg (by rw [hb1]; exact nI_pos (by omega)), m_gI m1, Option.bind_some, hb2]
        by_cases q1 : co b < co S
        · rw [if_pos (nI_lt q1 (by omega))]
          exact HN ⟨b, e, by omega⟩
        · rw [if_neg (by rw [nI_ltI (by omega) (by omega)]; exact q1), Option.bind_some]
          by_cases q2 : co S = co b
          · rw [if_pos (by rw [q2]), e_bits (by omega) (by omega), Option.bind_some]
            have p1 := pc_le S
            have p2 := pc_le b
            simp only [hb1]
            rw [e_bits hbl (by omega), Option.bind_some]
            by_cases q3 : pc b ≤ pc S
            · rw [if_pos (nI_le q3 (by omega)), ← hb1]
              exact HN ⟨b, e, by omega⟩
            · rw [if_neg (nI_ge (by omega) (by omega)), ← hb1]
              exact HB (Or.inr ⟨b, e, Or.inr ⟨q2, by omega⟩⟩)
          · rw [if_neg (show ¬ nI (co S) = nI (co b) from nIk (by omega) (by omega) q2)]
            exact HB (Or.inr ⟨b, e, Or.inl (by omega)⟩)
    · have hoks : ok S = false := by
        rw [hok]; unfold okS
        rw [decide_eq_false (fun h => q ((and0 hSn).2 h)), Bool.false_and]
      rw [if_neg (show ¬ nI (S &&& F) = 0 from nIk hand (by decide) q), f_X11_cheapestSet_96, nI_1]
      exact ih (S + 1) fu τ l4 (by omega) (by omega) hm hs h78 (by rw [bst_no hoks]; exact hb)
theorem e_chp (hN : 5000 ≤ N) {m f : Nat → Nat} {way p F : Nat} {τ : Mm} (hws : WS m) (h0 : 0 < m 0) (hf : ∀ c, c < m 0 → f c < 8) (hp : p < 8) (hway : way < 4) (hF : F < 4096) (hm : WFm τ) (hs : ∀ i, i < 156 → iv τ 75 i = nI (m i)) (h78 : ∀ j, j < m 0 → iv τ 78 j = nI (f j)) : ∃ l' τ', f_X11_cheapestSet N 63 (nI way) (nI p) (nI F) τ = some (l', τ') ∧ FS [76, 77] τ τ' ∧ MS τ' l' (coS (prc m f p) (m 0)) (bst (okS (fun c => !F.testBit c) (fun r => voteV way (m 0) r (ages m)) f (fun _ => p) (m 0) p) (coS (prc m f p) (m 0)) pc (2 ^ m 0)) := by
  have hK : 2 ^ m 0 ≤ 4096 := (Nat.pow_le_pow_right (by decide) hws.1 : 2 ^ m 0 ≤ 2 ^ 12)
  exact chp (by omega) hws h0 hf hp hway hF (2 ^ m 0) 0 N τ (-1) (by omega) (by omega) hm hs h78 rfl
end CH
