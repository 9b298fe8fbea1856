/-! the law: both memories, the script -/
def setn (σ : Mm) (N : Nat) : Mm := (σ.1, σ.2.1, σ.2.2.1, N)
theorem nn_setn (σ : Mm) (N : Nat) : nn (setn σ N) = N := rfl
theorem iv_setn (σ : Mm) (N : Nat) : iv (setn σ N) = iv σ := rfl
theorem jv_setn (σ : Mm) (N : Nat) : jv (setn σ N) = jv σ := rfl
theorem rv_setn (σ : Mm) (N : Nat) : rv (setn σ N) = rv σ := rfl
theorem setn_self (σ : Mm) : setn σ (nn σ) = σ := rfl
theorem bkc2 (k : Nat) : bkc k = 0 ∨ bkc k = 100 := by
  unfold bkc
  by_cases h : k = 11 ∨ 100 ≤ k
  · rw [if_pos h]; exact Or.inr rfl
  · rw [if_neg h]; exact Or.inl rfl
theorem wld_swap {B : Nat} {cy : Nat → ClassId} {σ τ : Mm} {N M : Nat} : wld B cy σ τ 0 N = wld B cy (setn τ M) σ 100 N := by
  unfold wld
  apply List.map_congr_left
  intro o _
  rcases bkc2 (SH (pq o)).1 with h | h
  · simp only [h, if_true]
    rfl
  · simp only [h]
    rw [if_neg (by decide), if_pos trivial, cel_cong (σ := τ) (σ' := setn τ M) rfl rfl rfl]
theorem wp_swap {Γ : Cn} {σ τ : Mm} {H : Heap} (h : Wp Γ 0 τ σ H) : Wp Γ 100 σ (setn τ (nn σ)) H := by
  refine ⟨h.1, ?_⟩
  rw [nn_setn, ← wld_swap]
  exact h.2
theorem wp_swap' {Γ : Cn} {σ τ : Mm} {H : Heap} (h : Wp Γ 100 σ τ H) (hn : nn τ = nn σ) : Wp Γ 0 τ σ H := by
  refine ⟨by rw [← hn]; exact h.1, ?_⟩
  rw [wld_swap (M := nn τ), setn_self, ← hn]
  exact h.2
def LGc (Γ : Cn) (b0 L : Nat) (xs : Nat → Int32) (p : Program) (s : State) (m : MethodId) (meth : Method) (c : Code) : Prop := lw_At p s m meth c b0 L xs ∧ va_K Γ.D vwCl (tyl Γ.cy) s ∧ Sx Γ s s.heap ∧ Γ.B = s.heap.size
def LG (Γ : Cn) (b0 L : Nat) (xs : Nat → Int32) (k n pc : Nat) (lv : List (Nat × Value)) (st : List Value) (σ τ : Mm) : Prop :=
  ∀ (p : Program) (e : Env) (s : State) (m : MethodId) (below : List Frame) (meth : Method) (c : Code) (H : Heap) (locs : List Loc) (ls : Array Slot),
    LGc Γ b0 L xs p s m meth c → lv_has ls 4 lv → Wp Γ 0 τ σ H → va_S Γ.A s.heap H locs → W p Γ.1 e room_1 s m #[Value.ref b0] below meth c H locs k n (lw_Z below #[Value.ref b0] s) (F0 m pc ls st)
section LGR
variable {Γ : Cn} {b0 L : Nat} {xs : Nat → Int32} {k n pc : Nat} {lv lv' : List (Nat × Value)} {st : List Value} {σ τ : Mm}
theorem lg_iconst {i : Int} {v : Int32} (hd : decode cL_law pc = .ok (.iconst i, 1)) (hv : Int32.ofInt i = v) (h : LG Γ b0 L xs k n (pc + 1) lv (.int v :: st) σ τ) : LG Γ b0 L xs k n pc lv st σ τ :=
  fun p e s m below meth c H locs ls g hlv hw hS => lv_iconst g.1.1 g.1.2.1 hd hv (h p e s m below meth c H locs ls g hlv hw hS)
theorem lg_bipush {i : Int} {v : Int32} (hd : decode cL_law pc = .ok (.bipush i, 2)) (hv : (Int8.ofInt i).toInt32 = v) (h : LG Γ b0 L xs k n (pc + 2) lv (.int v :: st) σ τ) : LG Γ b0 L xs k n pc lv st σ τ :=
  fun p e s m below meth c H locs ls g hlv hw hS => lv_bipush g.1.1 g.1.2.1 hd hv (h p e s m below meth c H locs ls g hlv hw hS)
theorem lg_iload_n {j : Fin 4} {i : Nat} {x : Int32} (q : Nat) (hd : decode cL_law pc = .ok (.iload_n j, 1)) (hi : (j : Nat) = i) (hq : lv[q]? = some (i, .int x)) (h : LG Γ b0 L xs k n (pc + 1) lv (.int x :: st) σ τ) : LG Γ b0 L xs k n pc lv st σ τ :=
  fun p e s m below meth c H locs ls g hlv hw hS => lv_iload_n g.1.1 g.1.2.1 hd hi (lv_at hlv q hq) (h p e s m below meth c H locs ls g hlv hw hS)
theorem lg_aload_n {j : Fin 4} {i x : Nat} (q : Nat) (hd : decode cL_law pc = .ok (.aload_n j, 1)) (hi : (j : Nat) = i) (hq : lv[q]? = some (i, .ref x)) (h : LG Γ b0 L xs k n (pc + 1) lv (.ref x :: st) σ τ) : LG Γ b0 L xs k n pc lv st σ τ :=
  fun p e s m below meth c H locs ls g hlv hw hS => lv_aload_n g.1.1 g.1.2.1 hd hi (lv_at hlv q hq) (h p e s m below meth c H locs ls g hlv hw hS)
theorem lg_iinc {i : Nat} {j : Int} {x v : Int32} (q : Nat) (hd : decode cL_law pc = .ok (.iinc i j, 3)) (hq : lv[q]? = some (i, .int x)) (hv : x + Int32.ofInt j = v) (hn : i < 4) (hl : (i, Value.int v) :: lv.filter (fun q => !(q.1 == i) && !(q.1 + 1 == i && q.2.category == 2)) = lv') (h : LG Γ b0 L xs k n (pc + 3) lv' st σ τ) : LG Γ b0 L xs k n pc lv st σ τ :=
  fun p e s m below meth c H locs _ g hlv hw hS => lv_iinc g.1.1 g.1.2.1 hd hlv hq hv hn hl (fun ls hlv => h p e s m below meth c H locs ls g hlv hw hS)
theorem lg_sub (ks : List Nat) (hl : lv_pick lv ks = lv') (h : LG Γ b0 L xs k n pc lv' st σ τ) : LG Γ b0 L xs k n pc lv st σ τ :=
  fun p e s m below meth c H locs ls g hlv hw hS => h p e s m below meth c H locs ls g (lv_sub hlv ks hl) hw hS
theorem lg_iadd {x y : Int32} (hd : decode cL_law pc = .ok (.iadd, 1)) (h : LG Γ b0 L xs k n (pc + 1) lv (.int (x + y) :: st) σ τ) : LG Γ b0 L xs k n pc lv (.int y :: .int x :: st) σ τ :=
  fun p e s m below meth c H locs ls g hlv hw hS => lv_iadd g.1.1 g.1.2.1 hd (h p e s m below meth c H locs ls g hlv hw hS)
theorem lg_isub {x y : Int32} (hd : decode cL_law pc = .ok (.isub, 1)) (h : LG Γ b0 L xs k n (pc + 1) lv (.int (x - y) :: st) σ τ) : LG Γ b0 L xs k n pc lv (.int y :: .int x :: st) σ τ :=
  fun p e s m below meth c H locs ls g hlv hw hS => lv_isub g.1.1 g.1.2.1 hd (h p e s m below meth c H locs ls g hlv hw hS)
theorem lg_iand {x y : Int32} (hd : decode cL_law pc = .ok (.iand, 1)) (h : LG Γ b0 L xs k n (pc + 1) lv (.int (x &&& y) :: st) σ τ) : LG Γ b0 L xs k n pc lv (.int y :: .int x :: st) σ τ :=
  fun p e s m below meth c H locs ls g hlv hw hS => lv_iand g.1.1 g.1.2.1 hd (h p e s m below meth c H locs ls g hlv hw hS)
theorem lg_goto {off : Int} (tgt : Nat) (hd : decode cL_law pc = .ok (.goto off, 3)) (ht : (pc : Int) + off = (tgt : Int)) (h : LG Γ b0 L xs k n tgt lv st σ τ) : LG Γ b0 L xs k n pc lv st σ τ :=
  fun p e s m below meth c H locs ls g hlv hw hS => lv_goto g.1.1 g.1.2.1 hd ht (h p e s m below meth c H locs ls g hlv hw hS)
theorem lg_if_eq {x : Int32} {off : Int} (tgt : Nat) (hd : decode cL_law pc = .ok (.ifCond .eq off, 3)) (ht : (pc : Int) + off = (tgt : Int)) (h1 : x = 0 → LG Γ b0 L xs k n tgt lv st σ τ) (h2 : ¬ x = 0 → LG Γ b0 L xs k n (pc + 3) lv st σ τ) : LG Γ b0 L xs k n pc lv (.int x :: st) σ τ :=
  fun p e s m below meth c H locs ls g hlv hw hS => lv_if_eq g.1.1 g.1.2.1 hd ht (fun q => h1 q p e s m below meth c H locs ls g hlv hw hS) (fun q => h2 q p e s m below meth c H locs ls g hlv hw hS)
theorem lg_icmp_eq {x y : Int32} {off : Int} (tgt : Nat) (hd : decode cL_law pc = .ok (.if_icmp .eq off, 3)) (ht : (pc : Int) + off = (tgt : Int)) (h1 : x = y → LG Γ b0 L xs k n tgt lv st σ τ) (h2 : ¬ x = y → LG Γ b0 L xs k n (pc + 3) lv st σ τ) : LG Γ b0 L xs k n pc lv (.int y :: .int x :: st) σ τ :=
  fun p e s m below meth c H locs ls g hlv hw hS => lv_icmp_eq g.1.1 g.1.2.1 hd ht (fun q => h1 q p e s m below meth c H locs ls g hlv hw hS) (fun q => h2 q p e s m below meth c H locs ls g hlv hw hS)
theorem lg_icmp_gt {x y : Int32} {off : Int} (tgt : Nat) (hd : decode cL_law pc = .ok (.if_icmp .gt off, 3)) (ht : (pc : Int) + off = (tgt : Int)) (h1 : y < x → LG Γ b0 L xs k n tgt lv st σ τ) (h2 : ¬ y < x → LG Γ b0 L xs k n (pc + 3) lv st σ τ) : LG Γ b0 L xs k n pc lv (.int y :: .int x :: st) σ τ :=
  fun p e s m below meth c H locs ls g hlv hw hS => lv_icmp_gt g.1.1 g.1.2.1 hd ht (fun q => h1 q p e s m below meth c H locs ls g hlv hw hS) (fun q => h2 q p e s m below meth c H locs ls g hlv hw hS)
theorem lg_tIn {dflt lo hi : Int} {offs : Array Int} {len : Nat} {x : Int32} {off : Int} (tgt : Nat) (hd : decode cL_law pc = .ok (.tableswitch dflt lo hi offs, len)) (h1 : ¬ x.toInt < lo) (h2 : ¬ hi < x.toInt) (ho : offs[(x.toInt - lo).toNat]? = some off) (ht : (pc : Int) + off = (tgt : Int)) (h : LG Γ b0 L xs k n tgt lv st σ τ) : LG Γ b0 L xs k n pc lv (.int x :: st) σ τ :=
  fun p e s m below meth c H locs ls g hlv hw hS => lv_tableIn g.1.1 g.1.2.1 hd h1 h2 ho ht (h p e s m below meth c H locs ls g hlv hw hS)
theorem lgA {p : Program} {s : State} {m : MethodId} {meth : Method} {c : Code} (g : LGc Γ b0 L xs p s m meth c) : ¬ Γ.A b0 := by
  have h1 : b0 < s.heap.size := g.1.2.2.2.2.2.2.2.1
  have h2 : Γ.B = s.heap.size := g.2.2.2
  show ¬ Γ.B ≤ b0
  omega
theorem lg_slen (hd : decode cL_law pc = .ok (.arraylength, 1)) (h : LG Γ b0 L xs k n (pc + 1) lv (.int (Int32.ofNat L) :: st) σ τ) : LG Γ b0 L xs k n pc lv (.ref b0 :: st) σ τ :=
  fun p e s m below meth c H locs ls g hlv hw hS => va_slen g.1.1 g.1.2.1 g.1.2.2.2.2.2.2.1 g.1.2.2.2.2.2.2.2.1 (lgA g) hS hd (h p e s m below meth c H locs ls g hlv hw hS)
theorem lg_sld {i : Int32} {j : Nat} (hd : decode cL_law pc = .ok (.iaload, 1)) (h0 : ¬ i < 0) (hj : i.toNatClampNeg = j) (hl : j < L) (h : LG Γ b0 L xs k n (pc + 1) lv (.int (xs j) :: st) σ τ) : LG Γ b0 L xs k n pc lv (.int i :: .ref b0 :: st) σ τ := by
  intro p e s m below meth c H locs ls g hlv hw hS
  subst hj
  exact va_sld g.1.1 g.1.2.1 g.1.2.2.2.2.2.2.1 g.1.2.2.2.2.2.2.2.1 (lgA g) hS (vp_ok h0 hl) hd (h p e s m below meth c H locs ls g hlv hw hS)
theorem lg_ret (hd : decode cL_law pc = .ok (.ireturn, 1)) (hk : k ≤ 600000) (hn : n ≤ 7302250) : LG Γ b0 L xs k n pc lv [.int 1] σ τ := by
  intro p e s m below meth c H locs ls g hlv hw hS
  refine va_forget (fun q hq => ?_) ?_
  · have h1 : Γ.B ≤ q.base := hS.2.2 q hq
    have h2 : Γ.B = s.heap.size := g.2.2.2
    omega
  · refine W.widen hk hn ?_
    exact lw_ret g.1.1 g.1.2.1 g.1.2.2.1 g.1.2.2.2.2.2.2.2.2.1 hd
/-- the law's own words -/
theorem lgF {p : Program} {s : State} {m : MethodId} {meth : Method} {c : Code} (g : LGc Γ b0 L xs p s m meth c) : CallFix p m c cL_law 4 s #[Value.ref b0] tbl RL :=
  ⟨g.1.1, g.1.2.1, g.1.2.2.2.1, g.1.2.2.2.2.1, fun w hw => g.1.2.2.2.2.2.1 w (List.mem_filter.mp hw).1⟩
theorem lg_after {p : Program} {e : Env} {s : State} {m : MethodId} {a : Array Value} {below : List Frame} {meth : Method} {c : Code} {H : Heap} {locs : List Loc} {ls : Array Slot} {mc ms b : Nat} {st0 : List Value} {σ1 τ1 : Mm} {r : Int32 × Mm}
    (hr : va_Run p Γ.1 e room_1 s m #[Value.ref b0] below meth c H locs k n mc ms (F0 m pc ls st0) st (QQ Γ b τ1 (PI r) a) Γ.A) (g : LGc Γ b0 L xs p s m meth c) (hlv : lv_has ls 4 lv) (hS : va_S Γ.A s.heap H locs)
    (hW : ∀ H1 : Heap, Wp Γ b τ1 r.2 H1 → Wp Γ 0 τ σ1 H1) (h : LG Γ b0 L xs (k + mc) (n + ms) (pc + 3) lv (.int r.1 :: st) σ1 τ) :
    W p Γ.1 e room_1 s m #[Value.ref b0] below meth c H locs k n (lw_Z below #[Value.ref b0] s) (F0 m pc ls st0) := by
  intro T hT X
  obtain ⟨v, st₀, t, T', Ll, h0, X', hL, e1, e2, ⟨⟨v', σ2, hv, hp, hw1⟩, hz1, hk1⟩, stp⟩ := hr T hT X
  cases hv
  obtain ⟨rfl, rfl⟩ := hp
  rw [h0] at hz1 hk1
  obtain ⟨t2, a1, b1⟩ := h p e s m below meth c t.heap (locs ++ Ll) ls g hlv (hW _ hw1) ⟨Nat.le_trans hS.1 hz1, fun q h1 h2 => by rw [hk1 q (Nat.lt_of_lt_of_le h1 hS.1) h2]; exact hS.2.1 q h1 h2, fun q hq => by
      rcases List.mem_append.mp hq with h | h
      · exact hS.2.2 q h
      · exact hL q h⟩ T' e1 X'
  exact ⟨t2, stp t2 a1, b1⟩
theorem lg_cX {M' : Ms} {y : MethodName} {na index : Nat} {As : List Value} {r : Int32 × Mm} (hd : decode cL_law pc = .ok (.invokevirtual index, 3)) (hC : Ct Γ M' y 0 τ (.ref (Γ.B + pp 0) :: As) σ (PI r)) (hok : MOV y M' na 10 0) (hl : Cond.methodLink RL index y ∈ tbl) (ho : 0 < nn σ) (hna : As.length = na) (hR : M'.d + 1 ≤ 2048 ∧ 8 + (M'.nL + 11) + 64 * M'.d ≤ 84000) (hst : (st.map fun v => v.category).sum ≤ 8) (hk : k + M'.mc ≤ 600000 ∧ n + M'.ms ≤ 7302250)
    (h : LG Γ b0 L xs (k + M'.mc) (n + M'.ms) (pc + 3) lv (.int r.1 :: st) r.2 τ) : LG Γ b0 L xs k n pc lv (As.reverse ++ .ref (Γ.B + pp 0) :: st) σ τ := by
  intro p e s m below meth c H locs ls g hlv hw hS
  have S := lgF g
  obtain ⟨⟨k1, k2, k3, k4⟩, hi, hsel, k5, ⟨q, k6, k7⟩, k8⟩ := hok
  have hts := S.2.2.2.2
  refine lg_after (va_runV (C := y.cls) (b := Γ.B + pp 0) (As := As) (rest := st) (n := na) (ret := M'.ret) S hC ⟨callB_of na hts (tbl_in k2) rfl rfl rfl (hts _ k1) (hts _ hl) ⟨k3.1, k3.2, k4⟩ hR, hts _ hi, hts _ hsel⟩ ⟨ct_blind (y := y) (M' := M'), ?_, ct_pre g.2.1 g.2.2.1 (Nat.le_of_eq g.2.2.2) hw hS⟩ rfl hna hlv.1 rfl (lv_room hst) hd hk) g hlv hS (fun _ h => h) h
  rw [← k7]
  exact va_recv g.2.1 hw.2 k6 ((wld_at (o := 0) ho rfl).trans (by rw [cel_o (c := 10) rfl (by decide)]))
theorem lg_cM {M' : Ms} {y : MethodName} {na index : Nat} {As : List Value} {r : Int32 × Mm} (hd : decode cL_law pc = .ok (.invokevirtual index, 3)) (hC : Ct Γ M' y 100 σ (.ref (Γ.B + pp 63) :: As) (setn τ (nn σ)) (PI r)) (hok : MOV y M' na 11 100) (hl : Cond.methodLink RL index y ∈ tbl) (ho : 65 < nn σ) (hnn : nn r.2 = nn σ) (hna : As.length = na) (hR : M'.d + 1 ≤ 2048 ∧ 8 + (M'.nL + 11) + 64 * M'.d ≤ 84000) (hst : (st.map fun v => v.category).sum ≤ 8) (hk : k + M'.mc ≤ 600000 ∧ n + M'.ms ≤ 7302250)
    (h : LG Γ b0 L xs (k + M'.mc) (n + M'.ms) (pc + 3) lv (.int r.1 :: st) σ r.2) : LG Γ b0 L xs k n pc lv (As.reverse ++ .ref (Γ.B + pp 63) :: st) σ τ := by
  intro p e s m below meth c H locs ls g hlv hw hS
  have S := lgF g
  obtain ⟨⟨k1, k2, k3, k4⟩, hi, hsel, k5, ⟨q, k6, k7⟩, k8⟩ := hok
  have hts := S.2.2.2.2
  have hw2 := wp_swap hw
  refine lg_after (va_runV (C := y.cls) (b := Γ.B + pp 63) (As := As) (rest := st) (n := na) (ret := M'.ret) S hC ⟨callB_of na hts (tbl_in k2) rfl rfl rfl (hts _ k1) (hts _ hl) ⟨k3.1, k3.2, k4⟩ hR, hts _ hi, hts _ hsel⟩ ⟨ct_blind (y := y) (M' := M'), ?_, ct_pre g.2.1 g.2.2.1 (Nat.le_of_eq g.2.2.2) hw2 hS⟩ rfl hna hlv.1 rfl (lv_room hst) hd hk) g hlv hS (fun _ h => wp_swap' h hnn) h
  rw [← k7]
  exact va_recv g.2.1 hw2.2 k6 ((wld_at (o := 63) (by rw [nn_setn]; exact ho) rfl).trans (by rw [cel_o (c := 11) rfl (by decide)]))
end LGR
