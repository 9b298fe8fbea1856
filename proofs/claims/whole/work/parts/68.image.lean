section BE
variable {N : Nat} {σ : Mm}
theorem w_i {v : Nat} (h : VW σ v) (s : Mm) (j : Nat) (h1 : nn s = nn σ) (h2 : rv s = rv σ) : gI 7 j s v = some (iv s v j) := v_i (h.rvc h1 (fun o => by rw [h2])) j
theorem w_p {v : Nat} (h : VW σ v) (s : Mm) (j : Nat) (x : Int32) (h1 : nn s = nn σ) (h2 : rv s = rv σ) : pI 7 j s v x = some (si s v j x) := v_p (h.rvc h1 (fun o => by rw [h2])) j x
theorem w_g {v j i : Nat} (h : VW σ v) (hp : (j, i) ∈ vrefs) (s : Mm) (h1 : nn s = nn σ) (h2 : rv s = rv σ) : gN 7 j s v = some (v + i) := v_gN (h.rvc h1 (fun o => by rw [h2])) hp
theorem w_cp {a b k : Nat} (ha : VW σ a) (hb : VW σ b) (q1 : 1 ≤ k) (q2 : k ≤ 9) (s : Mm) (h1 : nn s = nn σ) (h2 : rv s = rv σ) : cpA 13 s (a + k) 0 (b + k) 0 12 = some (cpy s (a + k) 0 (b + k) 0 12) := v_cp (ha.rvc h1 (fun o => by rw [h2])) (hb.rvc h1 (fun o => by rw [h2])) q1 q2
theorem w_cp10 {a b : Nat} (ha : VW σ a) (hb : VW σ b) (s : Mm) (h1 : nn s = nn σ) (h2 : rv s = rv σ) : cpA 13 s (a + 10) 0 (b + 10) 0 32 = some (cpy s (a + 10) 0 (b + 10) 0 32) := v_cp10 (ha.rvc h1 (fun o => by rw [h2])) (hb.rvc h1 (fun o => by rw [h2]))
theorem e_become {v w : Nat} (hv : VW σ v) (hw : VW σ w) (hd : v + 10 < w ∨ w + 10 < v) : ∃ σ', f_X7_become N v w σ = some σ' ∧ nn σ' = nn σ ∧ (∀ o, rv σ' o = rv σ o) ∧ (∀ o, ¬ (v ≤ o ∧ o ≤ v + 10) → iv σ' o = iv σ o) ∧ ∀ m, WS m → RelV σ w m → RelV σ' v m := by
  obtain ⟨s1, h1⟩ : ∃ s, s = si σ v 0 (iv σ w 0) := ⟨_, rfl⟩
  obtain ⟨s2, h2⟩ : ∃ s, s = cpy s1 (w + 1) 0 (v + 1) 0 12 := ⟨_, rfl⟩
  obtain ⟨s3, h3⟩ : ∃ s, s = cpy s2 (w + 2) 0 (v + 2) 0 12 := ⟨_, rfl⟩
  obtain ⟨s4, h4⟩ : ∃ s, s = cpy s3 (w + 3) 0 (v + 3) 0 12 := ⟨_, rfl⟩
  obtain ⟨s5, h5⟩ : ∃ s, s = cpy s4 (w + 4) 0 (v + 4) 0 12 := ⟨_, rfl⟩
  obtain ⟨s6, h6⟩ : ∃ s, s = cpy s5 (w + 5) 0 (v + 5) 0 12 := ⟨_, rfl⟩
  obtain ⟨s7, h7⟩ : ∃ s, s = cpy s6 (w + 6) 0 (v + 6) 0 12 := ⟨_, rfl⟩
  obtain ⟨s8, h8⟩ : ∃ s, s = cpy s7 (w + 7) 0 (v + 7) 0 12 := ⟨_, rfl⟩
  obtain ⟨s9, h9⟩ : ∃ s, s = si s8 v 8 (iv s8 w 8) := ⟨_, rfl⟩
  obtain ⟨s10, h10⟩ : ∃ s, s = cpy s9 (w + 8) 0 (v + 8) 0 12 := ⟨_, rfl⟩
  obtain ⟨s11, h11⟩ : ∃ s, s = cpy s10 (w + 9) 0 (v + 9) 0 12 := ⟨_, rfl⟩
  obtain ⟨s12, h12⟩ : ∃ s, s = si s11 v 11 (iv s11 w 11) := ⟨_, rfl⟩
  obtain ⟨s13, h13⟩ : ∃ s, s = cpy s12 (w + 10) 0 (v + 10) 0 32 := ⟨_, rfl⟩
  obtain ⟨s14, h14⟩ : ∃ s, s = si s13 v 13 (iv s13 w 13) := ⟨_, rfl⟩
  have n1 : nn s1 = nn σ := by rw [h1]; rfl
  have r1' : rv s1 = rv σ := by rw [h1]; rfl
  have n2 : nn s2 = nn σ := by rw [h2]; exact n1
  have r2' : rv s2 = rv σ := by rw [h2]; exact r1'
  have n3 : nn s3 = nn σ := by rw [h3]; exact n2
  have r3' : rv s3 = rv σ := by rw [h3]; exact r2'
  have n4 : nn s4 = nn σ := by rw [h4]; exact n3
  have r4' : rv s4 = rv σ := by rw [h4]; exact r3'
  have n5 : nn s5 = nn σ := by rw [h5]; exact n4
  have r5' : rv s5 = rv σ := by rw [h5]; exact r4'
  have n6 : nn s6 = nn σ := by rw [h6]; exact n5
  have r6' : rv s6 = rv σ := by rw [h6]; exact r5'
  have n7 : nn s7 = nn σ := by rw [h7]; exact n6
  have r7' : rv s7 = rv σ := by rw [h7]; exact r6'
  have n8 : nn s8 = nn σ := by rw [h8]; exact n7
  have r8' : rv s8 = rv σ := by rw [h8]; exact r7'
  have n9 : nn s9 = nn σ := by rw [h9]; exact n8
  have r9' : rv s9 = rv σ := by rw [h9]; exact r8'
  have n10 : nn s10 = nn σ := by rw [h10]; exact n9
  have r10' : rv s10 = rv σ := by rw [h10]; exact r9'
  have n11 : nn s11 = nn σ := by rw [h11]; exact n10
  have r11' : rv s11 = rv σ := by rw [h11]; exact r10'
  have n12 : nn s12 = nn σ := by rw [h12]; exact n11
  have r12' : rv s12 = rv σ := by rw [h12]; exact r11'
  have n13 : nn s13 = nn σ := by rw [h13]; exact n12
  have r13' : rv s13 = rv σ := by rw [h13]; exact r12'
  have n14 : nn s14 = nn σ := by rw [h14]; exact n13
  have r14' : rv s14 = rv σ := by rw [h14]; exact r13'
  have key : f_X7_become N v w σ = some s14 := by
    unfold f_X7_become
    rw [w_i hw σ 0 rfl rfl, Option.bind_some, w_p hv σ 0 _ rfl rfl, Option.bind_some, ← h1, w_g (j := 1) (i := 1) hw (by decide) s1 n1 r1', Option.bind_some, w_g (j := 1) (i := 1) hv (by decide) s1 n1 r1', Option.bind_some, w_cp (k := 1) hw hv (by decide) (by decide) s1 n1 r1', Option.bind_some, ← h2, w_g (j := 2) (i := 2) hw (by decide) s2 n2 r2', Option.bind_some, w_g (j := 2) (i := 2) hv (by decide) s2 n2 r2', Option.bind_some, w_cp (k := 2) hw hv (by decide) (by decide) s2 n2 r2', Option.bind_some, ← h3, w_g (j := 3) (i := 3) hw (by decide) s3 n3 r3', Option.bind_some, w_g (j := 3) (i := 3) hv (by decide) s3 n3 r3', Option.bind_some, w_cp (k := 3) hw hv (by decide) (by decide) s3 n3 r3', Option.bind_some, ← h4, w_g (j := 4) (i := 4) hw (by decide) s4 n4 r4', Option.bind_some, w_g (j := 4) (i := 4) hv (by decide) s4 n4 r4', Option.bind_some, w_cp (k := 4) hw hv (by decide) (by decide) s4 n4 r4', Option.bind_some, ← h5, w_g (j := 5) (i := 5) hw (by decide) s5 n5 r5', Option.bind_some, w_g (j := 5) (i := 5) hv (by decide) s5 n5 r5', Option.bind_some, w_cp (k := 5) hw hv (by decide) (by decide) s5 n5 r5', Option.bind_some, ← h6, w_g (j := 6) (i := 6) hw (by decide) s6 n6 r6', Option.bind_some, w_g (j := 6) (i := 6) hv (by decide) s6 n6 r6', Option.bind_some, w_cp (k := 6) hw hv (by decide) (by decide) s6 n6 r6', Option.bind_some, ← h7, w_g (j := 7) (i := 7) hw (by decide) s7 n7 r7', Option.bind_some, w_g (j := 7) (i := 7) hv (by decide) s7 n7 r7', Option.bind_some, w_cp (k := 7) hw hv (by decide) (by decide) s7 n7 r7', Option.bind_some, ← h8, w_i hw s8 8 n8 r8', Option.bind_some, w_p hv s8 8 _ n8 r8', Option.bind_some, ← h9, w_g (j := 9) (i := 8) hw (by decide) s9 n9 r9', Option.bind_some, w_g (j := 9) (i := 8) hv (by decide) s9 n9 r9', Option.bind_some, w_cp (k := 8) hw hv (by decide) (by decide) s9 n9 r9', Option.bind_some, ← h10, w_g (j := 10) (i := 9) hw (by decide) s10 n10 r10', Option.bind_some, w_g (j := 10) (i := 9) hv (by decide) s10 n10 r10', Option.bind_some, w_cp (k := 9) hw hv (by decide) (by decide) s10 n10 r10', Option.bind_some, ← h11, w_i hw s11 11 n11 r11', Option.bind_some, w_p hv s11 11 _ n11 r11', Option.bind_some, ← h12, w_g (j := 12) (i := 10) hw (by decide) s12 n12 r12', Option.bind_some, w_g (j := 12) (i := 10) hv (by decide) s12 n12 r12', Option.bind_some, w_cp10 hw hv s12 n12 r12', Option.bind_some, ← h13, w_i hw s13 13 n13 r13', Option.bind_some, w_p hv s13 13 _ n13 r13', Option.bind_some, ← h14]
  have ne : ∀ i j, i ≤ 10 → j ≤ 10 → (w + i = v + j) = False := fun i j h1 h2 => by rw [eq_iff_iff, iff_false]; omega
  have ne0 : ∀ j, j ≤ 10 → (w = v + j) = False := fun j h2 => by rw [eq_iff_iff, iff_false]; omega
  have ne1 : ∀ i, i ≤ 10 → (w + i = v) = False := fun j h2 => by rw [eq_iff_iff, iff_false]; omega
  have ne2 : (w = v) = False := by rw [eq_iff_iff, iff_false]; omega
  refine ⟨s14, key, n14, fun o => by rw [r14'], ?_, ?_⟩
  · subst h14 h13 h12 h11 h10 h9 h8 h7 h6 h5 h4 h3 h2 h1
    intro o ho
    have q : ∀ j, j ≤ 10 → (o = v + j) = False := fun j h2 => by rw [eq_iff_iff, iff_false]; omega
    have q0 : (o = v) = False := by rw [eq_iff_iff, iff_false]; omega
    funext k
    simp only [iv_si, iv_cpy, q 1 (by decide), q 2 (by decide), q 3 (by decide), q 4 (by decide), q 5 (by decide), q 6 (by decide), q 7 (by decide), q 8 (by decide), q 9 (by decide), q 10 (by decide), q0, false_and, if_false]
  · intro m hm ⟨r1, r2, r3, r4, r5, r6, r7⟩
    have b0 := hm.1
    have b1 := hm.2.1
    subst h14 h13 h12 h11 h10 h9 h8 h7 h6 h5 h4 h3 h2 h1
    refine ⟨?_, ?_, ?_, ?_, ?_, ?_, ?_⟩
    · rw [← r1]; simp [iv_si, iv_cpy]
    · rw [← r2]; simp [iv_si, iv_cpy, ne0, ne2]
    · rw [← r3]; simp [iv_si, iv_cpy, ne0, ne2]
    · rw [← r4]; simp [iv_si, iv_cpy, ne0, ne2]
    · intro c hc k hk
      rw [← r5 c hc k hk]
      have h : c < 12 := by omega
      match k, hk with
      | 0, _ => simp [iv_si, iv_cpy, ne, ne1, h]
      | 1, _ => simp [iv_si, iv_cpy, ne, ne1, h, Nat.add_assoc]
      | 2, _ => simp [iv_si, iv_cpy, ne, ne1, h, Nat.add_assoc]
      | 3, _ => simp [iv_si, iv_cpy, ne, ne1, h, Nat.add_assoc]
      | 4, _ => simp [iv_si, iv_cpy, ne, ne1, h, Nat.add_assoc]
      | 5, _ => simp [iv_si, iv_cpy, ne, ne1, h, Nat.add_assoc]
      | 6, _ => simp [iv_si, iv_cpy, ne, ne1, h, Nat.add_assoc]
      | k + 7, hk => omega
    · intro t ht
      rw [← (r6 t ht).1, ← (r6 t ht).2]
      have h : t < 12 := by omega
      constructor <;> simp [iv_si, iv_cpy, ne, ne1, h]
    · intro k hk
      rw [← r7 k hk]
      simp [iv_si, iv_cpy, ne, ne1, hk]
end BE
