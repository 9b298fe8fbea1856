theorem inv_0 {F G : Mm} (hf : iv F 1 1 = 0 ∧ iv F 0 8 = 0 ∧ iv F 9 0 = 0 ∧ iv F 9 8 = 0 ∧ iv F 9 13 = 0 ∧ iv F 9 11 = 0 ∧ ∀ k, k < 32 → iv F 19 k = 0) (hg : iv G 63 1 = 0 ∧ iv G 63 2 = 0 ∧ (∀ k, k < 4 → iv G 82 k = 0) ∧ ∀ i, i < 156 → iv G 75 i = 0) (hr : ∀ p ∈ crefs, rv F p.1 p.2.1 = some p.2.2) (hv : ∀ p ∈ vrefs, rv F 9 p.1 = some (9 + p.2) ∧ rv F 20 p.1 = some (20 + p.2)) (him : ∀ k, k < 4 → rv F 31 k = none) (hm : WFm G) (hn : nn G = 85) : Inv (setn F 85) G := by
  obtain ⟨f1, f2, f3, f4, f5, f6, f7⟩ := hf
  obtain ⟨g1, g2, g3, g4⟩ := hg
  have n83 : nn (setn F 85) = 85 := rfl
  have ri : ∀ o, iv (setn F 85) o = iv F o := fun _ => rfl
  have rr : ∀ o, rv (setn F 85) o = rv F o := fun _ => rfl
  refine ⟨⟨by rw [n83]; exact Nat.le_refl _, fun p hp => by rw [rr]; exact hr p hp, ⟨Or.inl rfl, by rw [n83]; decide, fun p hp => by rw [rr]; exact (hv p hp).1⟩, ⟨Or.inr (Or.inl rfl), by rw [n83]; decide, fun p hp => by rw [rr]; exact (hv p hp).2⟩⟩, hm, by rw [n83, hn], InvT.nil (by rw [ri]; exact f1) g1, ⟨0, by decide, by rw [ri]; exact f2, g2, fun w hw => absurd hw (Nat.not_lt_zero _)⟩, ⟨fun _ => 0, ⟨Nat.zero_le _, Nat.zero_le _, by decide, rfl, fun c _ => ⟨Nat.zero_le _, Nat.zero_le _, Nat.zero_le _, Nat.zero_le _, Nat.zero_le _, Nat.zero_le _, Nat.zero_le _⟩, fun u _ => ⟨Nat.zero_le _, Nat.zero_le _, Nat.zero_le _⟩, fun k _ => Nat.zero_le _⟩, ⟨by rw [ri]; exact f3, by rw [ri]; exact f4, by rw [ri]; exact f5, by rw [ri]; exact f6, fun c hc => absurd hc (Nat.not_lt_zero _), fun u hu => absurd hu (Nat.not_lt_zero _), fun k hk => by rw [ri]; exact f7 k hk⟩, fun i hi => g4 i hi⟩, ⟨0, by rw [n83]⟩, fun k hk => Or.inl ⟨by rw [rr]; exact him k hk, g3 k hk⟩, fun k l u hk hl a _ => ?_⟩
  rw [rr, him k hk] at a
  cases a
theorem inv_1 : Inv (setn F1 85) G1 := inv_0 F1_iv G1_iv F1_rf F1_v9 F1_im G1_wm G1_nn
theorem good_1 : Good 5000 Inv := by
  intro a1 a2 a3 a4 a5 a6
  have h : 5000 ≤ 5000 := Nat.le_refl _
  exact ⟨st_feed (by omega) a1 a2 a3 a4 a5, st_end a1, st_valley (by omega), st_law (by omega), st_cock a1 a2, st_tree a1 a2, st_worth a1 a2, st_lee (by omega) a1 a2, st_blow (by omega) a1 a2 a3, st_bend a1 a2, st_oil a1, st_rusts a1 a2, st_fell a1 a2, st_morning (by omega), st_vote (by omega) a1, st_says (by omega) a1, st_cheapest (by omega) a1 a2 a3 a4, st_answer (by omega) a1 a2 a3 a4 a5 a6, st_bought (by omega) a1 a2, st_swings (by omega) a1 a2 a3 a4, st_explained (by omega) a1 a2 a3, st_trueWind (by omega) a1 a2 a3, st_after (by omega) a1 a2 a3 a4 a5, st_felled (by omega) a1 a2 a3 a4, st_oiled (by omega) a1 a2 a3 a4 a5, st_bestPoint (by omega) a1 a2 a3 a4, st_seed a1, st_lot, st_years (by omega) a1 a2 a3 a4 a5 a6, st_count (by omega) a1, st_image (by omega) a1, st_back (by omega) a1⟩
theorem pure_all : ∃ (N : Nat) (Inv : Mm → Mm → Prop) (σ1 τ1 : Mm), Good N Inv ∧ (∀ σ τ, Inv σ τ → 65 < nn σ) ∧ f_X10_init N 0 (nw mm0) = some σ1 ∧ nn σ1 = 65 ∧ f_X11_init N 63 (nw (setn mm0 65)) = some τ1 ∧ nn τ1 = 85 ∧ Inv (setn σ1 85) τ1 :=
  ⟨5000, Inv, F1, G1, good_1, fun _ _ h => inv_nn h, F1_eq, F1_nn, G1_eq, G1_nn, inv_1⟩
