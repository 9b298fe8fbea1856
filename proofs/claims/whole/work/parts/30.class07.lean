abbrev M_X10_trueWind : Ms := (cX10_trueWind, RX10, 10, (some .int), false, 0, 0, 5)
def f_X10_trueWind_18 (N : Nat) (σ : Mm) : Option (Int32 × Mm) :=
  some ((-1 : Int32), σ)
def f_X10_trueWind_83 (N : Nat) (r_32 : Nat → Int32 → Int32 → Int32 → Int32 → Int32 → Int32 → Int32 → Mm → Option (Int32 × Mm)) (l0 : Nat) (l1 : Int32) (l2 : Int32) (l3 : Int32) (l4 : Int32) (l5 : Int32) (l6 : Int32) (l7 : Int32) (σ : Mm) : Option (Int32 × Mm) :=
  r_32 l0 l1 l2 l3 l4 l5 l6 (l7 + (1 : Int32)) σ
def f_X10_trueWind_110 (N : Nat) (t0 : Int32) (σ : Mm) : Option (Int32 × Mm) :=
  some (t0, σ)
def f_X10_trueWind_32 (N : Nat) : Nat → Nat → Int32 → Int32 → Int32 → Int32 → Int32 → Int32 → Int32 → Mm → Option (Int32 × Mm)
  | 0, _, _, _, _, _, _, _, _, _ => none
  | n + 1, l0, l1, l2, l3, l4, l5, l6, l7, σ =>
      if (8 : Int32) ≤ l7 then (
        if l3 = 0 then (
          f_X10_trueWind_110 N l4 σ) else (
          if l3 = (1 : Int32) then (
            f_X10_trueWind_110 N l5 σ) else (
            f_X10_trueWind_110 N l6 σ))) else (
        (ob 10 σ l0).bind fun _ =>
        (f_X10_unexplainedBy N l0 l1 l2 l7 σ).bind fun q4 =>
        (gN 10 4 q4.2 l0).bind fun a5 =>
        (gI 7 0 q4.2 a5).bind fun x6 =>
        (f_J6_bitCount_0f7a4 N q4.1 q4.2).bind fun q7 =>
        if (x6 - q7.1) ≤ l5 then (
          f_X10_trueWind_83 N (f_X10_trueWind_32 N n) l0 l1 l2 l3 l4 l5 l6 l7 q7.2) else (
          f_X10_trueWind_83 N (f_X10_trueWind_32 N n) l0 l1 l2 l3 l7 (x6 - q7.1) q4.1 l7 q7.2))
def f_X10_trueWind (N : Nat) (l0 : Nat) (l1 : Int32) (l2 : Int32) (l3 : Int32) (σ : Mm) : Option (Int32 × Mm) :=
  (ob 10 σ l0).bind fun _ =>
  (f_X10_canBlow N l0 l1 (0 : Int32) l2 σ).bind fun q1 =>
  if q1.1 = 0 then (
    f_X10_trueWind_18 N q1.2) else (
    (f_X10_isBelow N l3 (3 : Int32) q1.2).bind fun q3 =>
    if q3.1 = 0 then (
      f_X10_trueWind_18 N q3.2) else (
      f_X10_trueWind_32 N N l0 l1 l2 l3 (0 : Int32) (-1 : Int32) (0 : Int32) (0 : Int32) q3.2))
theorem mov_X10_trueWind : MOV yX10_trueWind M_X10_trueWind 3 10 0 := ⟨⟨tw_96, tw_942, ⟨by decide, by decide⟩, by decide +kernel⟩, tw_940, tw_941, by decide, ⟨_, rfl, rfl⟩, rfl⟩
set_option maxRecDepth 4000 in
theorem s_X10_trueWind_18 {Γ : Cn} {τ : Mm} {N : Nat} {σ : Mm} {o : Int32 × Mm} (h : f_X10_trueWind_18 N σ = some o) : Gx Γ M_X10_trueWind 0 τ (PI o) 0 0 18 [] [] σ := by
  unfold f_X10_trueWind_18 at h
  refine gx_iconst (v := (-1 : Int32)) dX10_trueWind_18 ic_m1 ?_
  have h := Option.some.inj h
  subst h
  exact gx_iret dX10_trueWind_19 rfl (Nat.le_of_ble_eq_true rfl) (Nat.le_of_ble_eq_true rfl) ⟨rfl, rfl⟩
set_option maxRecDepth 4000 in
theorem s_X10_trueWind_83 {Γ : Cn} {τ : Mm} {N : Nat} {r_32 : Nat → Int32 → Int32 → Int32 → Int32 → Int32 → Int32 → Int32 → Mm → Option (Int32 × Mm)} (hr_32 : ∀ (l0 : Nat) (l1 : Int32) (l2 : Int32) (l3 : Int32) (l4 : Int32) (l5 : Int32) (l6 : Int32) (l7 : Int32) (σ : Mm) (o : Int32 × Mm), r_32 l0 l1 l2 l3 l4 l5 l6 l7 σ = some o → Gx Γ M_X10_trueWind 0 τ (PI o) 0 0 32 [(0, .ref (Γ.B + pp l0)), (1, .int l1), (2, .int l2), (3, .int l3), (4, .int l4), (5, .int l5), (6, .int l6), (7, .int l7)] [] σ) {l0 : Nat} {l1 : Int32} {l2 : Int32} {l3 : Int32} {l4 : Int32} {l5 : Int32} {l6 : Int32} {l7 : Int32} {σ : Mm} {o : Int32 × Mm} (h : f_X10_trueWind_83 N r_32 l0 l1 l2 l3 l4 l5 l6 l7 σ = some o) : Gx Γ M_X10_trueWind 0 τ (PI o) 0 0 83 [(0, .ref (Γ.B + pp l0)), (1, .int l1), (2, .int l2), (3, .int l3), (4, .int l4), (5, .int l5), (6, .int l6), (7, .int l7)] [] σ := by
  unfold f_X10_trueWind_83 at h
  refine gx_iinc (v := (l7 + (1 : Int32))) (lv' := [(7, .int (l7 + (1 : Int32))), (0, .ref (Γ.B + pp l0)), (1, .int l1), (2, .int l2), (3, .int l3), (4, .int l4), (5, .int l5), (6, .int l6)]) 7 dX10_trueWind_83 rfl (by rw [ic_1]) (Nat.le_of_ble_eq_true rfl) rfl ?_
  refine gx_goto 32 dX10_trueWind_86 (by decide) ?_
  exact gx_sub [1, 2, 3, 4, 5, 6, 7, 0] rfl (hr_32 _ _ _ _ _ _ _ _ _ _ h)
set_option maxRecDepth 4000 in
theorem s_X10_trueWind_110 {Γ : Cn} {τ : Mm} {N : Nat} {t0 : Int32} {σ : Mm} {o : Int32 × Mm} (h : f_X10_trueWind_110 N t0 σ = some o) : Gx Γ M_X10_trueWind 0 τ (PI o) 0 0 110 [] [.int t0] σ := by
  unfold f_X10_trueWind_110 at h
  have h := Option.some.inj h
  subst h
  exact gx_iret dX10_trueWind_110 rfl (Nat.le_of_ble_eq_true rfl) (Nat.le_of_ble_eq_true rfl) ⟨rfl, rfl⟩
set_option maxRecDepth 4000 in
theorem s_X10_trueWind_32 {Γ : Cn} {τ : Mm} {N : Nat} : ∀ (n : Nat) (l0 : Nat) (l1 : Int32) (l2 : Int32) (l3 : Int32) (l4 : Int32) (l5 : Int32) (l6 : Int32) (l7 : Int32) (σ : Mm) (o : Int32 × Mm), f_X10_trueWind_32 N n l0 l1 l2 l3 l4 l5 l6 l7 σ = some o → Gx Γ M_X10_trueWind 0 τ (PI o) 0 0 32 [(0, .ref (Γ.B + pp l0)), (1, .int l1), (2, .int l2), (3, .int l3), (4, .int l4), (5, .int l5), (6, .int l6), (7, .int l7)] [] σ := by
  intro n
  induction n with
  | zero =>
    intro l0 l1 l2 l3 l4 l5 l6 l7 σ o h
    exact absurd h (by rw [f_X10_trueWind_32]; exact fun q => nomatch q)
  | succ n ih =>
    intro l0 l1 l2 l3 l4 l5 l6 l7 σ o h
    rw [f_X10_trueWind_32] at h
    refine gx_iload 7 dX10_trueWind_32 rfl ?_
    refine gx_bipush (v := (8 : Int32)) dX10_trueWind_34 ib_8 ?_
    refine gx_icmp_ge 89 dX10_trueWind_36 (by decide) (fun c0 => ?_) (fun c0 => ?_)
    · rw [if_pos c0] at h
      refine gx_iload_n 3 dX10_trueWind_89 rfl rfl ?_
      refine gx_if_ne 98 dX10_trueWind_90 (by decide) (fun c1 => ?_) (fun c1 => ?_)
      · rw [if_neg c1] at h
        refine gx_iload_n 3 dX10_trueWind_98 rfl rfl ?_
        refine gx_iconst (v := (1 : Int32)) dX10_trueWind_99 ic_1 ?_
        refine gx_icmp_ne 108 dX10_trueWind_100 (by decide) (fun c2 => ?_) (fun c2 => ?_)
        · rw [if_neg c2] at h
          refine gx_iload 6 dX10_trueWind_108 rfl ?_
          exact gx_sub [] rfl (s_X10_trueWind_110  h)
        · rw [if_pos c2] at h
          refine gx_iload 5 dX10_trueWind_103 rfl ?_
          refine gx_goto 110 dX10_trueWind_105 (by decide) ?_
          exact gx_sub [] rfl (s_X10_trueWind_110  h)
      · rw [if_pos c1] at h
        refine gx_iload 4 dX10_trueWind_93 rfl ?_
        refine gx_goto 110 dX10_trueWind_95 (by decide) ?_
        exact gx_sub [] rfl (s_X10_trueWind_110  h)
    · rw [if_neg c0] at h
      refine gx_aload_n 0 dX10_trueWind_39 rfl rfl ?_
      refine gx_iload_n 1 dX10_trueWind_40 rfl rfl ?_
      refine gx_iload_n 2 dX10_trueWind_41 rfl rfl ?_
      refine gx_iload 7 dX10_trueWind_42 rfl ?_
      obtain ⟨_, hobq4, h⟩ := bnd h
      obtain ⟨q4, hq4, h⟩ := bnd h
      refine gx_cVI (As := [.int l1, .int l2, .int l7]) (st := []) (o := l0) dX10_trueWind_44 (c_X10_unexplainedBy hq4) mov_X10_unexplainedBy tw_943 hobq4 rfl ⟨Nat.le_of_ble_eq_true rfl, Nat.le_of_ble_eq_true rfl⟩ (Nat.le_of_ble_eq_true rfl) ?_
      refine gx_istore (lv' := [(8, .int q4.1), (0, .ref (Γ.B + pp l0)), (1, .int l1), (2, .int l2), (3, .int l3), (4, .int l4), (5, .int l5), (6, .int l6), (7, .int l7)]) dX10_trueWind_47 (Nat.le_of_ble_eq_true rfl) rfl ?_
      refine gx_aload_n 1 dX10_trueWind_49 rfl rfl ?_
      obtain ⟨a5, ha5, h⟩ := bnd h
      refine gx_getN dX10_trueWind_50 ha5 fl_X10_42 rfl ?_
      obtain ⟨x6, hx6, h⟩ := bnd h
      refine gx_getI dX10_trueWind_53 hx6 fl_X10_128 rfl ?_
      refine gx_iload 0 dX10_trueWind_56 rfl ?_
      obtain ⟨q7, hq7, h⟩ := bnd h
      refine gx_cSI (As := [.int q4.1]) (st := [.int x6]) dX10_trueWind_58 (c_J6_bitCount_0f7a4 hq7) mos_J6_bitCount_0f7a4 tw_947 rfl ⟨Nat.le_of_ble_eq_true rfl, Nat.le_of_ble_eq_true rfl⟩ (Nat.le_of_ble_eq_true rfl) ?_
      refine gx_isub dX10_trueWind_61 ?_
      refine gx_istore (lv' := [(9, .int (x6 - q7.1)), (8, .int q4.1), (0, .ref (Γ.B + pp l0)), (1, .int l1), (2, .int l2), (3, .int l3), (4, .int l4), (5, .int l5), (6, .int l6), (7, .int l7)]) dX10_trueWind_62 (Nat.le_of_ble_eq_true rfl) rfl ?_
      refine gx_iload 0 dX10_trueWind_64 rfl ?_
      refine gx_iload 7 dX10_trueWind_66 rfl ?_
      refine gx_icmp_le 83 dX10_trueWind_68 (by decide) (fun c7 => ?_) (fun c7 => ?_)
      · rw [if_pos c7] at h
        exact gx_sub [2, 3, 4, 5, 6, 7, 8, 9] rfl (s_X10_trueWind_83 ih h)
      · rw [if_neg c7] at h
        refine gx_iload 9 dX10_trueWind_71 rfl ?_
        refine gx_istore (lv' := [(4, .int l7), (9, .int (x6 - q7.1)), (8, .int q4.1), (0, .ref (Γ.B + pp l0)), (1, .int l1), (2, .int l2), (3, .int l3), (5, .int l5), (6, .int l6), (7, .int l7)]) dX10_trueWind_73 (Nat.le_of_ble_eq_true rfl) rfl ?_
        refine gx_iload 1 dX10_trueWind_75 rfl ?_
        refine gx_istore (lv' := [(5, .int (x6 - q7.1)), (4, .int l7), (9, .int (x6 - q7.1)), (8, .int q4.1), (0, .ref (Γ.B + pp l0)), (1, .int l1), (2, .int l2), (3, .int l3), (6, .int l6), (7, .int l7)]) dX10_trueWind_77 (Nat.le_of_ble_eq_true rfl) rfl ?_
        refine gx_iload 3 dX10_trueWind_79 rfl ?_
        refine gx_istore (lv' := [(6, .int q4.1), (5, .int (x6 - q7.1)), (4, .int l7), (9, .int (x6 - q7.1)), (8, .int q4.1), (0, .ref (Γ.B + pp l0)), (1, .int l1), (2, .int l2), (3, .int l3), (7, .int l7)]) dX10_trueWind_81 (Nat.le_of_ble_eq_true rfl) rfl ?_
        exact gx_sub [5, 6, 7, 8, 2, 1, 0, 9] rfl (s_X10_trueWind_83 ih h)
set_option maxRecDepth 4000 in
theorem s_X10_trueWind_0 {Γ : Cn} {τ : Mm} {N : Nat} {l0 : Nat} {l1 : Int32} {l2 : Int32} {l3 : Int32} {σ : Mm} {o : Int32 × Mm} (h : f_X10_trueWind N l0 l1 l2 l3 σ = some o) : Gx Γ M_X10_trueWind 0 τ (PI o) 0 0 0 [(0, .ref (Γ.B + pp l0)), (1, .int l1), (2, .int l2), (3, .int l3)] [] σ := by
  unfold f_X10_trueWind at h
  refine gx_aload_n 0 dX10_trueWind_0 rfl rfl ?_
  refine gx_iload_n 1 dX10_trueWind_1 rfl rfl ?_
  refine gx_iconst (v := (0 : Int32)) dX10_trueWind_2 ic_0 ?_
  refine gx_iload_n 2 dX10_trueWind_3 rfl rfl ?_
  obtain ⟨_, hobq1, h⟩ := bnd h
  obtain ⟨q1, hq1, h⟩ := bnd h
  refine gx_cVI (As := [.int l1, .int (0 : Int32), .int l2]) (st := []) (o := l0) dX10_trueWind_4 (c_X10_canBlow hq1) mov_X10_canBlow tw_731 hobq1 rfl ⟨Nat.le_of_ble_eq_true rfl, Nat.le_of_ble_eq_true rfl⟩ (Nat.le_of_ble_eq_true rfl) ?_
  refine gx_if_eq 18 dX10_trueWind_7 (by decide) (fun c1 => ?_) (fun c1 => ?_)
  · rw [if_pos c1] at h
    exact gx_sub [] rfl (s_X10_trueWind_18  h)
  · rw [if_neg c1] at h
    refine gx_iload_n 3 dX10_trueWind_10 rfl rfl ?_
    refine gx_iconst (v := (3 : Int32)) dX10_trueWind_11 ic_3 ?_
    obtain ⟨q3, hq3, h⟩ := bnd h
    refine gx_cSI (As := [.int l3, .int (3 : Int32)]) (st := []) dX10_trueWind_12 (c_X10_isBelow hq3) mos_X10_isBelow tw_706 rfl ⟨Nat.le_of_ble_eq_true rfl, Nat.le_of_ble_eq_true rfl⟩ (Nat.le_of_ble_eq_true rfl) ?_
    refine gx_if_ne 20 dX10_trueWind_15 (by decide) (fun c3 => ?_) (fun c3 => ?_)
    · rw [if_neg c3] at h
      refine gx_iconst (v := (0 : Int32)) dX10_trueWind_20 ic_0 ?_
      refine gx_istore (lv' := [(4, .int (0 : Int32)), (0, .ref (Γ.B + pp l0)), (1, .int l1), (2, .int l2), (3, .int l3)]) dX10_trueWind_21 (Nat.le_of_ble_eq_true rfl) rfl ?_
      refine gx_iconst (v := (-1 : Int32)) dX10_trueWind_23 ic_m1 ?_
      refine gx_istore (lv' := [(5, .int (-1 : Int32)), (4, .int (0 : Int32)), (0, .ref (Γ.B + pp l0)), (1, .int l1), (2, .int l2), (3, .int l3)]) dX10_trueWind_24 (Nat.le_of_ble_eq_true rfl) rfl ?_
      refine gx_iconst (v := (0 : Int32)) dX10_trueWind_26 ic_0 ?_
      refine gx_istore (lv' := [(6, .int (0 : Int32)), (5, .int (-1 : Int32)), (4, .int (0 : Int32)), (0, .ref (Γ.B + pp l0)), (1, .int l1), (2, .int l2), (3, .int l3)]) dX10_trueWind_27 (Nat.le_of_ble_eq_true rfl) rfl ?_
      refine gx_iconst (v := (0 : Int32)) dX10_trueWind_29 ic_0 ?_
      refine gx_istore (lv' := [(7, .int (0 : Int32)), (6, .int (0 : Int32)), (5, .int (-1 : Int32)), (4, .int (0 : Int32)), (0, .ref (Γ.B + pp l0)), (1, .int l1), (2, .int l2), (3, .int l3)]) dX10_trueWind_30 (Nat.le_of_ble_eq_true rfl) rfl ?_
      exact gx_sub [4, 5, 6, 7, 3, 2, 1, 0] rfl (s_X10_trueWind_32  N _ _ _ _ _ _ _ _ _ _ h)
    · rw [if_pos c3] at h
      exact gx_sub [] rfl (s_X10_trueWind_18  h)
theorem c_X10_trueWind {Γ : Cn} {τ : Mm} {N : Nat} {l0 : Nat} {l1 : Int32} {l2 : Int32} {l3 : Int32} {σ : Mm} {o : Int32 × Mm} (h : f_X10_trueWind N l0 l1 l2 l3 σ = some o) : Ct Γ M_X10_trueWind yX10_trueWind 0 τ [.ref (Γ.B + pp l0), .int l1, .int l2, .int l3] σ (PI o) := ct_of (by decide) rfl (fun _ => by first | rfl | contradiction) (Nat.le_of_ble_eq_true rfl) (s_X10_trueWind_0  h)
abbrev M_X10_voteAfter : Ms := (cX10_voteAfter, RX10, 6, (some .int), false, 0, 0, 5)
def f_X10_voteAfter (N : Nat) (l0 : Nat) (l1 : Int32) (l2 : Int32) (l3 : Int32) (l4 : Int32) (l5 : Int32) (σ : Mm) : Option (Int32 × Mm) :=
  (gN 10 9 σ l0).bind fun a1 =>
  (gN 10 7 σ l0).bind fun a2 =>
  (aN 16 σ a2 l1).bind fun a3 =>
  (gN 10 4 σ l0).bind fun a4 =>
  (gN 10 13 σ l0).bind fun a5 =>
  (ob 9 σ a1).bind fun _ =>
  (f_X9_turnAll N a1 a3 a4 l2 l3 l5 a5 σ).bind fun q6 =>
  (gN 10 13 q6 l0).bind fun a7 =>
  (ob 10 q6 l0).bind fun _ =>
  (f_X10_voteOf N l0 a7 l4 q6).bind fun q8 =>
  some (q8.1, q8.2)
theorem mov_X10_voteAfter : MOV yX10_voteAfter M_X10_voteAfter 5 10 0 := ⟨⟨tw_96, tw_955, ⟨by decide, by decide⟩, by decide +kernel⟩, tw_954, tw_34, by decide, ⟨_, rfl, rfl⟩, rfl⟩
set_option maxRecDepth 4000 in
theorem s_X10_voteAfter_0 {Γ : Cn} {τ : Mm} {N : Nat} {l0 : Nat} {l1 : Int32} {l2 : Int32} {l3 : Int32} {l4 : Int32} {l5 : Int32} {σ : Mm} {o : Int32 × Mm} (h : f_X10_voteAfter N l0 l1 l2 l3 l4 l5 σ = some o) : Gx Γ M_X10_voteAfter 0 τ (PI o) 0 0 0 [(0, .ref (Γ.B + pp l0)), (1, .int l1), (2, .int l2), (3, .int l3), (4, .int l4), (5, .int l5)] [] σ := by
  unfold f_X10_voteAfter at h
  refine gx_aload_n 0 dX10_voteAfter_0 rfl rfl ?_
  obtain ⟨a1, ha1, h⟩ := bnd h
  refine gx_getN dX10_voteAfter_1 ha1 fl_X10_66 rfl ?_
  refine gx_aload_n 0 dX10_voteAfter_4 rfl rfl ?_
  obtain ⟨a2, ha2, h⟩ := bnd h
  refine gx_getN dX10_voteAfter_5 ha2 fl_X10_55 rfl ?_
  refine gx_iload_n 1 dX10_voteAfter_8 rfl rfl ?_
  obtain ⟨a3, ha3, h⟩ := bnd h
  refine gx_aaldN (t0 := 4) (C := "MostCocks$Law") dX10_voteAfter_9 ha3 rfl (by decide) rfl rfl ?_
  refine gx_aload_n 0 dX10_voteAfter_10 rfl rfl ?_
  obtain ⟨a4, ha4, h⟩ := bnd h
  refine gx_getN dX10_voteAfter_11 ha4 fl_X10_42 rfl ?_
  refine gx_iload_n 2 dX10_voteAfter_14 rfl rfl ?_
  refine gx_iload_n 3 dX10_voteAfter_15 rfl rfl ?_
  refine gx_iload 5 dX10_voteAfter_16 rfl ?_
  refine gx_aload_n 0 dX10_voteAfter_18 rfl rfl ?_
  obtain ⟨a5, ha5, h⟩ := bnd h
  refine gx_getN dX10_voteAfter_19 ha5 fl_X10_95 rfl ?_
  obtain ⟨_, hobq6, h⟩ := bnd h
  obtain ⟨q6, hq6, h⟩ := bnd h
  refine gx_cVV (As := [.ref (Γ.B + pp a3), .ref (Γ.B + pp a4), .int l2, .int l3, .int l5, .ref (Γ.B + pp a5)]) (st := []) (o := a1) dX10_voteAfter_22 (c_X9_turnAll hq6) mov_X9_turnAll tw_735 hobq6 rfl ⟨Nat.le_of_ble_eq_true rfl, Nat.le_of_ble_eq_true rfl⟩ (Nat.le_of_ble_eq_true rfl) ?_
  refine gx_aload_n 0 dX10_voteAfter_25 rfl rfl ?_
  refine gx_aload_n 0 dX10_voteAfter_26 rfl rfl ?_
  obtain ⟨a7, ha7, h⟩ := bnd h
  refine gx_getN dX10_voteAfter_27 ha7 fl_X10_95 rfl ?_
  refine gx_iload 4 dX10_voteAfter_30 rfl ?_
  obtain ⟨_, hobq8, h⟩ := bnd h
  obtain ⟨q8, hq8, h⟩ := bnd h
  refine gx_cVI (As := [.ref (Γ.B + pp a7), .int l4]) (st := []) (o := l0) dX10_voteAfter_32 (c_X10_voteOf hq8) mov_X10_voteOf tw_803 hobq8 rfl ⟨Nat.le_of_ble_eq_true rfl, Nat.le_of_ble_eq_true rfl⟩ (Nat.le_of_ble_eq_true rfl) ?_
  have h := Option.some.inj h
  subst h
  exact gx_iret dX10_voteAfter_35 rfl (Nat.le_of_ble_eq_true rfl) (Nat.le_of_ble_eq_true rfl) ⟨rfl, rfl⟩
theorem c_X10_voteAfter {Γ : Cn} {τ : Mm} {N : Nat} {l0 : Nat} {l1 : Int32} {l2 : Int32} {l3 : Int32} {l4 : Int32} {l5 : Int32} {σ : Mm} {o : Int32 × Mm} (h : f_X10_voteAfter N l0 l1 l2 l3 l4 l5 σ = some o) : Ct Γ M_X10_voteAfter yX10_voteAfter 0 τ [.ref (Γ.B + pp l0), .int l1, .int l2, .int l3, .int l4, .int l5] σ (PI o) := ct_of (by decide) rfl (fun _ => by first | rfl | contradiction) (Nat.le_of_ble_eq_true rfl) (s_X10_voteAfter_0  h)
abbrev M_X10_after : Ms := (cX10_after, RX10, 7, (some .int), false, 0, 0, 6)
def f_X10_after_28 (N : Nat) (σ : Mm) : Option (Int32 × Mm) :=
  some ((-1 : Int32), σ)
def f_X10_after_64 (N : Nat) (t0 : Int32) (σ : Mm) : Option (Int32 × Mm) :=
  some (t0, σ)
def f_X10_after (N : Nat) (l0 : Nat) (l1 : Int32) (l2 : Int32) (l3 : Int32) (l4 : Int32) (l5 : Int32) (σ : Mm) : Option (Int32 × Mm) :=
  (ob 10 σ l0).bind fun _ =>
  (f_X10_canBlow N l0 l1 l2 l3 σ).bind fun q1 =>
  if q1.1 = 0 then (
    f_X10_after_28 N q1.2) else (
    (f_X10_isBelow N l4 (4 : Int32) q1.2).bind fun q3 =>
    if q3.1 = 0 then (
      f_X10_after_28 N q3.2) else (
      (f_X10_isBelow N l5 (2 : Int32) q3.2).bind fun q5 =>
      if q5.1 = 0 then (
        f_X10_after_28 N q5.2) else (
        (gN 10 4 q5.2 l0).bind fun a7 =>
        (gI 7 11 q5.2 a7).bind fun x8 =>
        (ob 10 q5.2 l0).bind fun _ =>
        (f_X10_voteAfter N l0 l1 l2 l3 l4 x8 q5.2).bind fun q9 =>
        if l5 = 0 then (
          f_X10_after_64 N q9.1 q9.2) else (
          (f_X10_offBetween N q9.1 l2 q9.2).bind fun q11 =>
          f_X10_after_64 N q11.1 q11.2))))
theorem mov_X10_after : MOV yX10_after M_X10_after 5 10 0 := ⟨⟨tw_96, tw_951, ⟨by decide, by decide⟩, by decide +kernel⟩, tw_949, tw_950, by decide, ⟨_, rfl, rfl⟩, rfl⟩
set_option maxRecDepth 4000 in
theorem s_X10_after_28 {Γ : Cn} {τ : Mm} {N : Nat} {σ : Mm} {o : Int32 × Mm} (h : f_X10_after_28 N σ = some o) : Gx Γ M_X10_after 0 τ (PI o) 0 0 28 [] [] σ := by
  unfold f_X10_after_28 at h
  refine gx_iconst (v := (-1 : Int32)) dX10_after_28 ic_m1 ?_
  have h := Option.some.inj h
  subst h
  exact gx_iret dX10_after_29 rfl (Nat.le_of_ble_eq_true rfl) (Nat.le_of_ble_eq_true rfl) ⟨rfl, rfl⟩
set_option maxRecDepth 4000 in
theorem s_X10_after_64 {Γ : Cn} {τ : Mm} {N : Nat} {t0 : Int32} {σ : Mm} {o : Int32 × Mm} (h : f_X10_after_64 N t0 σ = some o) : Gx Γ M_X10_after 0 τ (PI o) 0 0 64 [] [.int t0] σ := by
  unfold f_X10_after_64 at h
  have h := Option.some.inj h
  subst h
  exact gx_iret dX10_after_64 rfl (Nat.le_of_ble_eq_true rfl) (Nat.le_of_ble_eq_true rfl) ⟨rfl, rfl⟩
set_option maxRecDepth 4000 in
theorem s_X10_after_0 {Γ : Cn} {τ : Mm} {N : Nat} {l0 : Nat} {l1 : Int32} {l2 : Int32} {l3 : Int32} {l4 : Int32} {l5 : Int32} {σ : Mm} {o : Int32 × Mm} (h : f_X10_after N l0 l1 l2 l3 l4 l5 σ = some o) : Gx Γ M_X10_after 0 τ (PI o) 0 0 0 [(0, .ref (Γ.B + pp l0)), (1, .int l1), (2, .int l2), (3, .int l3), (4, .int l4), (5, .int l5)] [] σ := by
  unfold f_X10_after at h
  refine gx_aload_n 0 dX10_after_0 rfl rfl ?_
  refine gx_iload_n 1 dX10_after_1 rfl rfl ?_
  refine gx_iload_n 2 dX10_after_2 rfl rfl ?_
  refine gx_iload_n 3 dX10_after_3 rfl rfl ?_
  obtain ⟨_, hobq1, h⟩ := bnd h
  obtain ⟨q1, hq1, h⟩ := bnd h
  refine gx_cVI (As := [.int l1, .int l2, .int l3]) (st := []) (o := l0) dX10_after_4 (c_X10_canBlow hq1) mov_X10_canBlow tw_731 hobq1 rfl ⟨Nat.le_of_ble_eq_true rfl, Nat.le_of_ble_eq_true rfl⟩ (Nat.le_of_ble_eq_true rfl) ?_
  refine gx_if_eq 28 dX10_after_7 (by decide) (fun c1 => ?_) (fun c1 => ?_)
  · rw [if_pos c1] at h
    exact gx_sub [] rfl (s_X10_after_28  h)
  · rw [if_neg c1] at h
    refine gx_iload 4 dX10_after_10 rfl ?_
    refine gx_iconst (v := (4 : Int32)) dX10_after_12 ic_4 ?_
    obtain ⟨q3, hq3, h⟩ := bnd h
    refine gx_cSI (As := [.int l4, .int (4 : Int32)]) (st := []) dX10_after_13 (c_X10_isBelow hq3) mos_X10_isBelow tw_706 rfl ⟨Nat.le_of_ble_eq_true rfl, Nat.le_of_ble_eq_true rfl⟩ (Nat.le_of_ble_eq_true rfl) ?_
    refine gx_if_eq 28 dX10_after_16 (by decide) (fun c3 => ?_) (fun c3 => ?_)
    · rw [if_pos c3] at h
      exact gx_sub [] rfl (s_X10_after_28  h)
    · rw [if_neg c3] at h
      refine gx_iload 5 dX10_after_19 rfl ?_
      refine gx_iconst (v := (2 : Int32)) dX10_after_21 ic_2 ?_
      obtain ⟨q5, hq5, h⟩ := bnd h
      refine gx_cSI (As := [.int l5, .int (2 : Int32)]) (st := []) dX10_after_22 (c_X10_isBelow hq5) mos_X10_isBelow tw_706 rfl ⟨Nat.le_of_ble_eq_true rfl, Nat.le_of_ble_eq_true rfl⟩ (Nat.le_of_ble_eq_true rfl) ?_
      refine gx_if_ne 30 dX10_after_25 (by decide) (fun c5 => ?_) (fun c5 => ?_)
      · rw [if_neg c5] at h
        refine gx_aload_n 0 dX10_after_30 rfl rfl ?_
        refine gx_iload_n 1 dX10_after_31 rfl rfl ?_
        refine gx_iload_n 2 dX10_after_32 rfl rfl ?_
        refine gx_iload_n 3 dX10_after_33 rfl rfl ?_
        refine gx_iload 4 dX10_after_34 rfl ?_
        refine gx_aload_n 0 dX10_after_36 rfl rfl ?_
        obtain ⟨a7, ha7, h⟩ := bnd h
        refine gx_getN dX10_after_37 ha7 fl_X10_42 rfl ?_
        obtain ⟨x8, hx8, h⟩ := bnd h
        refine gx_getI dX10_after_40 hx8 fl_X10_168 rfl ?_
        obtain ⟨_, hobq9, h⟩ := bnd h
        obtain ⟨q9, hq9, h⟩ := bnd h
        refine gx_cVI (As := [.int l1, .int l2, .int l3, .int l4, .int x8]) (st := []) (o := l0) dX10_after_43 (c_X10_voteAfter hq9) mov_X10_voteAfter tw_952 hobq9 rfl ⟨Nat.le_of_ble_eq_true rfl, Nat.le_of_ble_eq_true rfl⟩ (Nat.le_of_ble_eq_true rfl) ?_
        refine gx_istore (lv' := [(6, .int q9.1), (0, .ref (Γ.B + pp l0)), (1, .int l1), (2, .int l2), (3, .int l3), (4, .int l4), (5, .int l5)]) dX10_after_46 (Nat.le_of_ble_eq_true rfl) rfl ?_
        refine gx_iload 6 dX10_after_48 rfl ?_
        refine gx_if_ne 58 dX10_after_50 (by decide) (fun c9 => ?_) (fun c9 => ?_)
        · rw [if_neg c9] at h
          refine gx_iload 0 dX10_after_58 rfl ?_
          refine gx_iload_n 3 dX10_after_60 rfl rfl ?_
          obtain ⟨q11, hq11, h⟩ := bnd h
          refine gx_cSI (As := [.int q9.1, .int l2]) (st := []) dX10_after_61 (c_X10_offBetween hq11) mos_X10_offBetween tw_781 rfl ⟨Nat.le_of_ble_eq_true rfl, Nat.le_of_ble_eq_true rfl⟩ (Nat.le_of_ble_eq_true rfl) ?_
          exact gx_sub [] rfl (s_X10_after_64  h)
        · rw [if_pos c9] at h
          refine gx_iload 0 dX10_after_53 rfl ?_
          refine gx_goto 64 dX10_after_55 (by decide) ?_
          exact gx_sub [] rfl (s_X10_after_64  h)
      · rw [if_pos c5] at h
        exact gx_sub [] rfl (s_X10_after_28  h)
theorem c_X10_after {Γ : Cn} {τ : Mm} {N : Nat} {l0 : Nat} {l1 : Int32} {l2 : Int32} {l3 : Int32} {l4 : Int32} {l5 : Int32} {σ : Mm} {o : Int32 × Mm} (h : f_X10_after N l0 l1 l2 l3 l4 l5 σ = some o) : Ct Γ M_X10_after yX10_after 0 τ [.ref (Γ.B + pp l0), .int l1, .int l2, .int l3, .int l4, .int l5] σ (PI o) := ct_of (by decide) rfl (fun _ => by first | rfl | contradiction) (Nat.le_of_ble_eq_true rfl) (s_X10_after_0  h)
abbrev M_X10_felled : Ms := (cX10_felled, RX10, 6, (some .int), false, 0, 0, 6)
def f_X10_felled_19 (N : Nat) (σ : Mm) : Option (Int32 × Mm) :=
  some ((-1 : Int32), σ)
def f_X10_felled_100 (N : Nat) (σ : Mm) : Option (Int32 × Mm) :=
  some ((-2 : Int32), σ)
def f_X10_felled_47 (N : Nat) : Nat → Nat → Int32 → Int32 → Int32 → Int32 → Int32 → Mm → Option (Int32 × Mm)
  | 0, _, _, _, _, _, _, _ => none
  | n + 1, l0, l1, l2, l3, l4, l5, σ =>
      (gN 10 4 σ l0).bind fun a1 =>
      (gI 7 8 σ a1).bind fun x2 =>
      if x2 ≤ l5 then (
        f_X10_felled_100 N σ) else (
        if (12 : Int32) ≤ l5 then (
          f_X10_felled_100 N σ) else (
          (gN 10 4 σ l0).bind fun a5 =>
          (gI 7 11 σ a5).bind fun x6 =>
          (ob 10 σ l0).bind fun _ =>
          (f_X10_voteAfter N l0 l1 l2 l3 l4 (x6 ||| ((1 : Int32) <<< (l5 &&& 31))) σ).bind fun q7 =>
          if q7.1 = l2 then (
            some (l5, q7.2)) else (
            f_X10_felled_47 N n l0 l1 l2 l3 l4 (l5 + (1 : Int32)) q7.2)))
def f_X10_felled (N : Nat) (l0 : Nat) (l1 : Int32) (l2 : Int32) (l3 : Int32) (l4 : Int32) (σ : Mm) : Option (Int32 × Mm) :=
  (ob 10 σ l0).bind fun _ =>
  (f_X10_canBlow N l0 l1 l2 l3 σ).bind fun q1 =>
  if q1.1 = 0 then (
    f_X10_felled_19 N q1.2) else (
    (f_X10_isBelow N l4 (4 : Int32) q1.2).bind fun q3 =>
    if q3.1 = 0 then (
      f_X10_felled_19 N q3.2) else (
      (gN 10 4 q3.2 l0).bind fun a5 =>
      (gI 7 11 q3.2 a5).bind fun x6 =>
      (ob 10 q3.2 l0).bind fun _ =>
      (f_X10_voteAfter N l0 l1 l2 l3 l4 x6 q3.2).bind fun q7 =>
      if q7.1 = l2 then (
        some ((-3 : Int32), q7.2)) else (
        f_X10_felled_47 N N l0 l1 l2 l3 l4 (0 : Int32) q7.2)))
theorem mov_X10_felled : MOV yX10_felled M_X10_felled 4 10 0 := ⟨⟨tw_96, tw_959, ⟨by decide, by decide⟩, by decide +kernel⟩, tw_957, tw_958, by decide, ⟨_, rfl, rfl⟩, rfl⟩
set_option maxRecDepth 4000 in
theorem s_X10_felled_19 {Γ : Cn} {τ : Mm} {N : Nat} {σ : Mm} {o : Int32 × Mm} (h : f_X10_felled_19 N σ = some o) : Gx Γ M_X10_felled 0 τ (PI o) 0 0 19 [] [] σ := by
  unfold f_X10_felled_19 at h
  refine gx_iconst (v := (-1 : Int32)) dX10_felled_19 ic_m1 ?_
  have h := Option.some.inj h
  subst h
  exact gx_iret dX10_felled_20 rfl (Nat.le_of_ble_eq_true rfl) (Nat.le_of_ble_eq_true rfl) ⟨rfl, rfl⟩
set_option maxRecDepth 4000 in
theorem s_X10_felled_100 {Γ : Cn} {τ : Mm} {N : Nat} {σ : Mm} {o : Int32 × Mm} (h : f_X10_felled_100 N σ = some o) : Gx Γ M_X10_felled 0 τ (PI o) 0 0 100 [] [] σ := by
  unfold f_X10_felled_100 at h
  refine gx_bipush (v := (-2 : Int32)) dX10_felled_100 ib_m2 ?_
  have h := Option.some.inj h
  subst h
  exact gx_iret dX10_felled_102 rfl (Nat.le_of_ble_eq_true rfl) (Nat.le_of_ble_eq_true rfl) ⟨rfl, rfl⟩
set_option maxRecDepth 4000 in
theorem s_X10_felled_47 {Γ : Cn} {τ : Mm} {N : Nat} : ∀ (n : Nat) (l0 : Nat) (l1 : Int32) (l2 : Int32) (l3 : Int32) (l4 : Int32) (l5 : Int32) (σ : Mm) (o : Int32 × Mm), f_X10_felled_47 N n l0 l1 l2 l3 l4 l5 σ = some o → Gx Γ M_X10_felled 0 τ (PI o) 0 0 47 [(0, .ref (Γ.B + pp l0)), (1, .int l1), (2, .int l2), (3, .int l3), (4, .int l4), (5, .int l5)] [] σ := by
  intro n
  induction n with
  | zero =>
    intro l0 l1 l2 l3 l4 l5 σ o h
    exact absurd h (by rw [f_X10_felled_47]; exact fun q => nomatch q)
  | succ n ih =>
    intro l0 l1 l2 l3 l4 l5 σ o h
    rw [f_X10_felled_47] at h
    refine gx_iload 5 dX10_felled_47 rfl ?_
    refine gx_aload_n 0 dX10_felled_49 rfl rfl ?_
    obtain ⟨a1, ha1, h⟩ := bnd h
    refine gx_getN dX10_felled_50 ha1 fl_X10_42 rfl ?_
    obtain ⟨x2, hx2, h⟩ := bnd h
    refine gx_getI dX10_felled_53 hx2 fl_X10_262 rfl ?_
    refine gx_icmp_ge 100 dX10_felled_56 (by decide) (fun c2 => ?_) (fun c2 => ?_)
    · rw [if_pos c2] at h
      exact gx_sub [] rfl (s_X10_felled_100  h)
    · rw [if_neg c2] at h
      refine gx_iload 5 dX10_felled_59 rfl ?_
      refine gx_bipush (v := (12 : Int32)) dX10_felled_61 ib_12 ?_
      refine gx_icmp_ge 100 dX10_felled_63 (by decide) (fun c3 => ?_) (fun c3 => ?_)
      · rw [if_pos c3] at h
        exact gx_sub [] rfl (s_X10_felled_100  h)
      · rw [if_neg c3] at h
        refine gx_aload_n 0 dX10_felled_66 rfl rfl ?_
        refine gx_iload_n 1 dX10_felled_67 rfl rfl ?_
        refine gx_iload_n 2 dX10_felled_68 rfl rfl ?_
        refine gx_iload_n 3 dX10_felled_69 rfl rfl ?_
        refine gx_iload 4 dX10_felled_70 rfl ?_
        refine gx_aload_n 0 dX10_felled_72 rfl rfl ?_
        obtain ⟨a5, ha5, h⟩ := bnd h
        refine gx_getN dX10_felled_73 ha5 fl_X10_42 rfl ?_
        obtain ⟨x6, hx6, h⟩ := bnd h
        refine gx_getI dX10_felled_76 hx6 fl_X10_168 rfl ?_
        refine gx_iconst (v := (1 : Int32)) dX10_felled_79 ic_1 ?_
        refine gx_iload 5 dX10_felled_80 rfl ?_
        refine gx_ishl dX10_felled_82 ?_
        refine gx_ior dX10_felled_83 ?_
        obtain ⟨_, hobq7, h⟩ := bnd h
        obtain ⟨q7, hq7, h⟩ := bnd h
        refine gx_cVI (As := [.int l1, .int l2, .int l3, .int l4, .int (x6 ||| ((1 : Int32) <<< (l5 &&& 31)))]) (st := []) (o := l0) dX10_felled_84 (c_X10_voteAfter hq7) mov_X10_voteAfter tw_952 hobq7 rfl ⟨Nat.le_of_ble_eq_true rfl, Nat.le_of_ble_eq_true rfl⟩ (Nat.le_of_ble_eq_true rfl) ?_
        refine gx_iload_n 2 dX10_felled_87 rfl rfl ?_
        refine gx_icmp_ne 94 dX10_felled_88 (by decide) (fun c7 => ?_) (fun c7 => ?_)
        · rw [if_neg c7] at h
          refine gx_iinc (v := (l5 + (1 : Int32))) (lv' := [(5, .int (l5 + (1 : Int32))), (0, .ref (Γ.B + pp l0)), (1, .int l1), (2, .int l2), (3, .int l3), (4, .int l4)]) 5 dX10_felled_94 rfl (by rw [ic_1]) (Nat.le_of_ble_eq_true rfl) rfl ?_
          refine gx_goto 47 dX10_felled_97 (by decide) ?_
          exact gx_sub [1, 2, 3, 4, 5, 0] rfl (ih _ _ _ _ _ _ _ _ h)
        · rw [if_pos c7] at h
          refine gx_iload 5 dX10_felled_91 rfl ?_
          have h := Option.some.inj h
          subst h
          exact gx_iret dX10_felled_93 rfl (Nat.le_of_ble_eq_true rfl) (Nat.le_of_ble_eq_true rfl) ⟨rfl, rfl⟩
set_option maxRecDepth 4000 in
theorem s_X10_felled_0 {Γ : Cn} {τ : Mm} {N : Nat} {l0 : Nat} {l1 : Int32} {l2 : Int32} {l3 : Int32} {l4 : Int32} {σ : Mm} {o : Int32 × Mm} (h : f_X10_felled N l0 l1 l2 l3 l4 σ = some o) : Gx Γ M_X10_felled 0 τ (PI o) 0 0 0 [(0, .ref (Γ.B + pp l0)), (1, .int l1), (2, .int l2), (3, .int l3), (4, .int l4)] [] σ := by
  unfold f_X10_felled at h
  refine gx_aload_n 0 dX10_felled_0 rfl rfl ?_
  refine gx_iload_n 1 dX10_felled_1 rfl rfl ?_
  refine gx_iload_n 2 dX10_felled_2 rfl rfl ?_
  refine gx_iload_n 3 dX10_felled_3 rfl rfl ?_
  obtain ⟨_, hobq1, h⟩ := bnd h
  obtain ⟨q1, hq1, h⟩ := bnd h
  refine gx_cVI (As := [.int l1, .int l2, .int l3]) (st := []) (o := l0) dX10_felled_4 (c_X10_canBlow hq1) mov_X10_canBlow tw_731 hobq1 rfl ⟨Nat.le_of_ble_eq_true rfl, Nat.le_of_ble_eq_true rfl⟩ (Nat.le_of_ble_eq_true rfl) ?_
  refine gx_if_eq 19 dX10_felled_7 (by decide) (fun c1 => ?_) (fun c1 => ?_)
  · rw [if_pos c1] at h
    exact gx_sub [] rfl (s_X10_felled_19  h)
  · rw [if_neg c1] at h
    refine gx_iload 4 dX10_felled_10 rfl ?_
    refine gx_iconst (v := (4 : Int32)) dX10_felled_12 ic_4 ?_
    obtain ⟨q3, hq3, h⟩ := bnd h
    refine gx_cSI (As := [.int l4, .int (4 : Int32)]) (st := []) dX10_felled_13 (c_X10_isBelow hq3) mos_X10_isBelow tw_706 rfl ⟨Nat.le_of_ble_eq_true rfl, Nat.le_of_ble_eq_true rfl⟩ (Nat.le_of_ble_eq_true rfl) ?_
    refine gx_if_ne 21 dX10_felled_16 (by decide) (fun c3 => ?_) (fun c3 => ?_)
    · rw [if_neg c3] at h
      refine gx_aload_n 0 dX10_felled_21 rfl rfl ?_
      refine gx_iload_n 1 dX10_felled_22 rfl rfl ?_
      refine gx_iload_n 2 dX10_felled_23 rfl rfl ?_
      refine gx_iload_n 3 dX10_felled_24 rfl rfl ?_
      refine gx_iload 4 dX10_felled_25 rfl ?_
      refine gx_aload_n 0 dX10_felled_27 rfl rfl ?_
      obtain ⟨a5, ha5, h⟩ := bnd h
      refine gx_getN dX10_felled_28 ha5 fl_X10_42 rfl ?_
      obtain ⟨x6, hx6, h⟩ := bnd h
      refine gx_getI dX10_felled_31 hx6 fl_X10_168 rfl ?_
      obtain ⟨_, hobq7, h⟩ := bnd h
      obtain ⟨q7, hq7, h⟩ := bnd h
      refine gx_cVI (As := [.int l1, .int l2, .int l3, .int l4, .int x6]) (st := []) (o := l0) dX10_felled_34 (c_X10_voteAfter hq7) mov_X10_voteAfter tw_952 hobq7 rfl ⟨Nat.le_of_ble_eq_true rfl, Nat.le_of_ble_eq_true rfl⟩ (Nat.le_of_ble_eq_true rfl) ?_
      refine gx_iload_n 2 dX10_felled_37 rfl rfl ?_
      refine gx_icmp_ne 44 dX10_felled_38 (by decide) (fun c7 => ?_) (fun c7 => ?_)
      · rw [if_neg c7] at h
        refine gx_iconst (v := (0 : Int32)) dX10_felled_44 ic_0 ?_
        refine gx_istore (lv' := [(5, .int (0 : Int32)), (0, .ref (Γ.B + pp l0)), (1, .int l1), (2, .int l2), (3, .int l3), (4, .int l4)]) dX10_felled_45 (Nat.le_of_ble_eq_true rfl) rfl ?_
        exact gx_sub [1, 2, 3, 4, 5, 0] rfl (s_X10_felled_47  N _ _ _ _ _ _ _ _ h)
      · rw [if_pos c7] at h
        refine gx_bipush (v := (-3 : Int32)) dX10_felled_41 ib_m3 ?_
        have h := Option.some.inj h
        subst h
        exact gx_iret dX10_felled_43 rfl (Nat.le_of_ble_eq_true rfl) (Nat.le_of_ble_eq_true rfl) ⟨rfl, rfl⟩
    · rw [if_pos c3] at h
      exact gx_sub [] rfl (s_X10_felled_19  h)
theorem c_X10_felled {Γ : Cn} {τ : Mm} {N : Nat} {l0 : Nat} {l1 : Int32} {l2 : Int32} {l3 : Int32} {l4 : Int32} {σ : Mm} {o : Int32 × Mm} (h : f_X10_felled N l0 l1 l2 l3 l4 σ = some o) : Ct Γ M_X10_felled yX10_felled 0 τ [.ref (Γ.B + pp l0), .int l1, .int l2, .int l3, .int l4] σ (PI o) := ct_of (by decide) rfl (fun _ => by first | rfl | contradiction) (Nat.le_of_ble_eq_true rfl) (s_X10_felled_0  h)
abbrev M_X10_oiled : Ms := (cX10_oiled, RX10, 7, (some .int), false, 0, 0, 5)
def f_X10_oiled_28 (N : Nat) (σ : Mm) : Option (Int32 × Mm) :=
  some ((-1 : Int32), σ)
def f_X10_oiled_176 (N : Nat) (l0 : Nat) (l2 : Int32) (l4 : Int32) (l5 : Int32) (σ : Mm) : Option (Int32 × Mm) :=
  (gN 10 11 σ l0).bind fun a1 =>
  (gN 10 4 σ l0).bind fun a2 =>
  (ob 4 σ a1).bind fun _ =>
  (f_X4_run N a1 a2 l4 l2 (-1 : Int32) σ).bind fun q3 =>
  (gN 10 11 q3 l0).bind fun a4 =>
  (ob 4 q3 a4).bind fun _ =>
  (f_X4_told N a4 l5 q3).bind fun q5 =>
  some (q5.1, q5.2)
def f_X10_oiled_66 (N : Nat) : Nat → Nat → Int32 → Int32 → Int32 → Int32 → Int32 → Int32 → Mm → Option (Int32 × Mm)
  | 0, _, _, _, _, _, _, _, _ => none
  | n + 1, l0, l1, l2, l3, l4, l5, l6, σ =>
      (gN 10 4 σ l0).bind fun a1 =>
      (gI 7 0 σ a1).bind fun x2 =>
      if x2 ≤ l6 then (
        f_X10_oiled_176 N l0 l2 l4 l5 σ) else (
        if (12 : Int32) ≤ l6 then (
          f_X10_oiled_176 N l0 l2 l4 l5 σ) else (
          (gN 10 9 σ l0).bind fun a5 =>
          (gN 10 4 σ l0).bind fun a6 =>
          (gN 10 4 σ l0).bind fun a7 =>
          (gI 7 11 σ a7).bind fun x8 =>
          (ob 9 σ a5).bind fun _ =>
          (f_X9_stand N a5 a6 l6 l2 x8 σ).bind fun q9 =>
          (gN 10 9 q9 l0).bind fun a10 =>
          (gN 9 0 q9 a10).bind fun a11 =>
          (sI 13 q9 a11 (1 : Int32) (0 : Int32)).bind fun s12 =>
          (gN 10 11 s12 l0).bind fun a13 =>
          (gN 4 2 s12 a13).bind fun a14 =>
          (gN 10 9 s12 l0).bind fun a15 =>
          (gN 10 7 s12 l0).bind fun a16 =>
          (aN 16 s12 a16 l1).bind fun a17 =>
          (gN 10 4 s12 l0).bind fun a18 =>
          (gN 7 6 s12 a18).bind fun a19 =>
          (aI 13 s12 a19 l6).bind fun x20 =>
          (ob 9 s12 a15).bind fun _ =>
          (f_X9_turned N a15 a17 x20 l3 s12).bind fun q21 =>
          (sI 13 q21.2 a14 l6 q21.1).bind fun s22 =>
          (gN 10 11 s22 l0).bind fun a23 =>
          (gN 4 3 s22 a23).bind fun a24 =>
          (gN 10 4 s22 l0).bind fun a25 =>
          (gN 7 3 s22 a25).bind fun a26 =>
          (aI 13 s22 a26 l6).bind fun x27 =>
          (sI 13 s22 a24 l6 x27).bind fun s28 =>
          f_X10_oiled_66 N n l0 l1 l2 l3 l4 l5 (l6 + (1 : Int32)) s28))
def f_X10_oiled (N : Nat) (l0 : Nat) (l1 : Int32) (l2 : Int32) (l3 : Int32) (l4 : Int32) (l5 : Int32) (σ : Mm) : Option (Int32 × Mm) :=
  (ob 10 σ l0).bind fun _ =>
  (f_X10_canBlow N l0 l1 l2 l3 σ).bind fun q1 =>
  if q1.1 = 0 then (
    f_X10_oiled_28 N q1.2) else (
    (f_X10_isBelow N l4 (4 : Int32) q1.2).bind fun q3 =>
    if q3.1 = 0 then (
      f_X10_oiled_28 N q3.2) else (
      (f_X10_isBelow N l5 (2 : Int32) q3.2).bind fun q5 =>
      if q5.1 = 0 then (
        f_X10_oiled_28 N q5.2) else (
        (gN 10 9 q5.2 l0).bind fun a7 =>
        (gN 10 7 q5.2 l0).bind fun a8 =>
        (aN 16 q5.2 a8 l1).bind fun a9 =>
        (gN 10 4 q5.2 l0).bind fun a10 =>
        (gN 10 4 q5.2 l0).bind fun a11 =>
        (gI 7 11 q5.2 a11).bind fun x12 =>
        (gN 10 11 q5.2 l0).bind fun a13 =>
        (gN 4 1 q5.2 a13).bind fun a14 =>
        (ob 9 q5.2 a7).bind fun _ =>
        (f_X9_turnAll N a7 a9 a10 l2 l3 x12 a14 q5.2).bind fun q15 =>
        f_X10_oiled_66 N N l0 l1 l2 l3 l4 l5 (0 : Int32) q15)))
theorem mov_X10_oiled : MOV yX10_oiled M_X10_oiled 5 10 0 := ⟨⟨tw_96, tw_963, ⟨by decide, by decide⟩, by decide +kernel⟩, tw_961, tw_962, by decide, ⟨_, rfl, rfl⟩, rfl⟩
set_option maxRecDepth 4000 in
theorem s_X10_oiled_28 {Γ : Cn} {τ : Mm} {N : Nat} {σ : Mm} {o : Int32 × Mm} (h : f_X10_oiled_28 N σ = some o) : Gx Γ M_X10_oiled 0 τ (PI o) 0 0 28 [] [] σ := by
  unfold f_X10_oiled_28 at h
  refine gx_iconst (v := (-1 : Int32)) dX10_oiled_28 ic_m1 ?_
  have h := Option.some.inj h
  subst h
  exact gx_iret dX10_oiled_29 rfl (Nat.le_of_ble_eq_true rfl) (Nat.le_of_ble_eq_true rfl) ⟨rfl, rfl⟩
set_option maxRecDepth 4000 in
theorem s_X10_oiled_176 {Γ : Cn} {τ : Mm} {N : Nat} {l0 : Nat} {l2 : Int32} {l4 : Int32} {l5 : Int32} {σ : Mm} {o : Int32 × Mm} (h : f_X10_oiled_176 N l0 l2 l4 l5 σ = some o) : Gx Γ M_X10_oiled 0 τ (PI o) 0 0 176 [(0, .ref (Γ.B + pp l0)), (2, .int l2), (4, .int l4), (5, .int l5)] [] σ := by
  unfold f_X10_oiled_176 at h
  refine gx_aload_n 0 dX10_oiled_176 rfl rfl ?_
  obtain ⟨a1, ha1, h⟩ := bnd h
  refine gx_getN dX10_oiled_177 ha1 fl_X10_82 rfl ?_
  refine gx_aload_n 0 dX10_oiled_180 rfl rfl ?_
  obtain ⟨a2, ha2, h⟩ := bnd h
  refine gx_getN dX10_oiled_181 ha2 fl_X10_42 rfl ?_
  refine gx_iload 2 dX10_oiled_184 rfl ?_
  refine gx_iload_n 1 dX10_oiled_186 rfl rfl ?_
  refine gx_iconst (v := (-1 : Int32)) dX10_oiled_187 ic_m1 ?_
  obtain ⟨_, hobq3, h⟩ := bnd h
  obtain ⟨q3, hq3, h⟩ := bnd h
  refine gx_cVV (As := [.ref (Γ.B + pp a2), .int l4, .int l2, .int (-1 : Int32)]) (st := []) (o := a1) dX10_oiled_188 (c_X4_run hq3) mov_X4_run tw_868 hobq3 rfl ⟨Nat.le_of_ble_eq_true rfl, Nat.le_of_ble_eq_true rfl⟩ (Nat.le_of_ble_eq_true rfl) ?_
  refine gx_aload_n 0 dX10_oiled_191 rfl rfl ?_
  obtain ⟨a4, ha4, h⟩ := bnd h
  refine gx_getN dX10_oiled_192 ha4 fl_X10_82 rfl ?_
  refine gx_iload 3 dX10_oiled_195 rfl ?_
  obtain ⟨_, hobq5, h⟩ := bnd h
  obtain ⟨q5, hq5, h⟩ := bnd h
  refine gx_cVI (As := [.int l5]) (st := []) (o := a4) dX10_oiled_197 (c_X4_told hq5) mov_X4_told tw_901 hobq5 rfl ⟨Nat.le_of_ble_eq_true rfl, Nat.le_of_ble_eq_true rfl⟩ (Nat.le_of_ble_eq_true rfl) ?_
  have h := Option.some.inj h
  subst h
  exact gx_iret dX10_oiled_200 rfl (Nat.le_of_ble_eq_true rfl) (Nat.le_of_ble_eq_true rfl) ⟨rfl, rfl⟩
set_option maxRecDepth 4000 in
theorem s_X10_oiled_66 {Γ : Cn} {τ : Mm} {N : Nat} : ∀ (n : Nat) (l0 : Nat) (l1 : Int32) (l2 : Int32) (l3 : Int32) (l4 : Int32) (l5 : Int32) (l6 : Int32) (σ : Mm) (o : Int32 × Mm), f_X10_oiled_66 N n l0 l1 l2 l3 l4 l5 l6 σ = some o → Gx Γ M_X10_oiled 0 τ (PI o) 0 0 66 [(0, .ref (Γ.B + pp l0)), (1, .int l1), (2, .int l2), (3, .int l3), (4, .int l4), (5, .int l5), (6, .int l6)] [] σ := by
  intro n
  induction n with
  | zero =>
    intro l0 l1 l2 l3 l4 l5 l6 σ o h
    exact absurd h (by rw [f_X10_oiled_66]; exact fun q => nomatch q)
  | succ n ih =>
    intro l0 l1 l2 l3 l4 l5 l6 σ o h
    rw [f_X10_oiled_66] at h
    refine gx_iload 6 dX10_oiled_66 rfl ?_
    refine gx_aload_n 0 dX10_oiled_68 rfl rfl ?_
    obtain ⟨a1, ha1, h⟩ := bnd h
    refine gx_getN dX10_oiled_69 ha1 fl_X10_42 rfl ?_
    obtain ⟨x2, hx2, h⟩ := bnd h
    refine gx_getI dX10_oiled_72 hx2 fl_X10_128 rfl ?_
    refine gx_icmp_ge 176 dX10_oiled_75 (by decide) (fun c2 => ?_) (fun c2 => ?_)
    · rw [if_pos c2] at h
      exact gx_sub [0, 2, 4, 5] rfl (s_X10_oiled_176  h)
    · rw [if_neg c2] at h
      refine gx_iload 6 dX10_oiled_78 rfl ?_
      refine gx_bipush (v := (12 : Int32)) dX10_oiled_80 ib_12 ?_
      refine gx_icmp_ge 176 dX10_oiled_82 (by decide) (fun c3 => ?_) (fun c3 => ?_)
      · rw [if_pos c3] at h
        exact gx_sub [0, 2, 4, 5] rfl (s_X10_oiled_176  h)
      · rw [if_neg c3] at h
        refine gx_aload_n 0 dX10_oiled_85 rfl rfl ?_
        obtain ⟨a5, ha5, h⟩ := bnd h
        refine gx_getN dX10_oiled_86 ha5 fl_X10_66 rfl ?_
        refine gx_aload_n 0 dX10_oiled_89 rfl rfl ?_
        obtain ⟨a6, ha6, h⟩ := bnd h
        refine gx_getN dX10_oiled_90 ha6 fl_X10_42 rfl ?_
        refine gx_iload 6 dX10_oiled_93 rfl ?_
        refine gx_iload_n 2 dX10_oiled_95 rfl rfl ?_
        refine gx_aload_n 0 dX10_oiled_96 rfl rfl ?_
        obtain ⟨a7, ha7, h⟩ := bnd h
        refine gx_getN dX10_oiled_97 ha7 fl_X10_42 rfl ?_
        obtain ⟨x8, hx8, h⟩ := bnd h
        refine gx_getI dX10_oiled_100 hx8 fl_X10_168 rfl ?_
        obtain ⟨_, hobq9, h⟩ := bnd h
        obtain ⟨q9, hq9, h⟩ := bnd h
        refine gx_cVV (As := [.ref (Γ.B + pp a6), .int l6, .int l2, .int x8]) (st := []) (o := a5) dX10_oiled_103 (c_X9_stand hq9) mov_X9_stand tw_937 hobq9 rfl ⟨Nat.le_of_ble_eq_true rfl, Nat.le_of_ble_eq_true rfl⟩ (Nat.le_of_ble_eq_true rfl) ?_
        refine gx_aload_n 0 dX10_oiled_106 rfl rfl ?_
        obtain ⟨a10, ha10, h⟩ := bnd h
        refine gx_getN dX10_oiled_107 ha10 fl_X10_66 rfl ?_
        obtain ⟨a11, ha11, h⟩ := bnd h
        refine gx_getN dX10_oiled_110 ha11 fl_X10_271 rfl ?_
        refine gx_iconst (v := (1 : Int32)) dX10_oiled_113 ic_1 ?_
        refine gx_iconst (v := (0 : Int32)) dX10_oiled_114 ic_0 ?_
        obtain ⟨s12, hs12, h⟩ := bnd h
        refine gx_iast (kd := 13) dX10_oiled_115 hs12 rfl rfl ?_
        refine gx_aload_n 0 dX10_oiled_116 rfl rfl ?_
        obtain ⟨a13, ha13, h⟩ := bnd h
        refine gx_getN dX10_oiled_117 ha13 fl_X10_82 rfl ?_
        obtain ⟨a14, ha14, h⟩ := bnd h
        refine gx_getN dX10_oiled_120 ha14 fl_X10_274 rfl ?_
        refine gx_iload 6 dX10_oiled_123 rfl ?_
        refine gx_aload_n 0 dX10_oiled_125 rfl rfl ?_
        obtain ⟨a15, ha15, h⟩ := bnd h
        refine gx_getN dX10_oiled_126 ha15 fl_X10_66 rfl ?_
        refine gx_aload_n 0 dX10_oiled_129 rfl rfl ?_
        obtain ⟨a16, ha16, h⟩ := bnd h
        refine gx_getN dX10_oiled_130 ha16 fl_X10_55 rfl ?_
        refine gx_iload_n 1 dX10_oiled_133 rfl rfl ?_
        obtain ⟨a17, ha17, h⟩ := bnd h
        refine gx_aaldN (t0 := 4) (C := "MostCocks$Law") dX10_oiled_134 ha17 rfl (by decide) rfl rfl ?_
        refine gx_aload_n 0 dX10_oiled_135 rfl rfl ?_
        obtain ⟨a18, ha18, h⟩ := bnd h
        refine gx_getN dX10_oiled_136 ha18 fl_X10_42 rfl ?_
        obtain ⟨a19, ha19, h⟩ := bnd h
        refine gx_getN dX10_oiled_139 ha19 fl_X10_153 rfl ?_
        refine gx_iload 6 dX10_oiled_142 rfl ?_
        obtain ⟨x20, hx20, h⟩ := bnd h
        refine gx_iald (kd := 13) dX10_oiled_144 hx20 rfl rfl ?_
        refine gx_iload_n 3 dX10_oiled_145 rfl rfl ?_
        obtain ⟨_, hobq21, h⟩ := bnd h
        obtain ⟨q21, hq21, h⟩ := bnd h
        refine gx_cVI (As := [.ref (Γ.B + pp a17), .int x20, .int l3]) (st := [.int l6, .ref (Γ.B + pp a14)]) (o := a15) dX10_oiled_146 (c_X9_turned hq21) mov_X9_turned tw_938 hobq21 rfl ⟨Nat.le_of_ble_eq_true rfl, Nat.le_of_ble_eq_true rfl⟩ (Nat.le_of_ble_eq_true rfl) ?_
        obtain ⟨s22, hs22, h⟩ := bnd h
        refine gx_iast (kd := 13) dX10_oiled_149 hs22 rfl rfl ?_
        refine gx_aload_n 0 dX10_oiled_150 rfl rfl ?_
        obtain ⟨a23, ha23, h⟩ := bnd h
        refine gx_getN dX10_oiled_151 ha23 fl_X10_82 rfl ?_
        obtain ⟨a24, ha24, h⟩ := bnd h
        refine gx_getN dX10_oiled_154 ha24 fl_X10_281 rfl ?_
        refine gx_iload 6 dX10_oiled_157 rfl ?_
        refine gx_aload_n 0 dX10_oiled_159 rfl rfl ?_
        obtain ⟨a25, ha25, h⟩ := bnd h
        refine gx_getN dX10_oiled_160 ha25 fl_X10_42 rfl ?_
        obtain ⟨a26, ha26, h⟩ := bnd h
        refine gx_getN dX10_oiled_163 ha26 fl_X10_144 rfl ?_
        refine gx_iload 6 dX10_oiled_166 rfl ?_
        obtain ⟨x27, hx27, h⟩ := bnd h
        refine gx_iald (kd := 13) dX10_oiled_168 hx27 rfl rfl ?_
        obtain ⟨s28, hs28, h⟩ := bnd h
        refine gx_iast (kd := 13) dX10_oiled_169 hs28 rfl rfl ?_
        refine gx_iinc (v := (l6 + (1 : Int32))) (lv' := [(6, .int (l6 + (1 : Int32))), (0, .ref (Γ.B + pp l0)), (1, .int l1), (2, .int l2), (3, .int l3), (4, .int l4), (5, .int l5)]) 6 dX10_oiled_170 rfl (by rw [ic_1]) (Nat.le_of_ble_eq_true rfl) rfl ?_
        refine gx_goto 66 dX10_oiled_173 (by decide) ?_
        exact gx_sub [1, 2, 3, 4, 5, 6, 0] rfl (ih _ _ _ _ _ _ _ _ _ h)
set_option maxRecDepth 4000 in
theorem s_X10_oiled_0 {Γ : Cn} {τ : Mm} {N : Nat} {l0 : Nat} {l1 : Int32} {l2 : Int32} {l3 : Int32} {l4 : Int32} {l5 : Int32} {σ : Mm} {o : Int32 × Mm} (h : f_X10_oiled N l0 l1 l2 l3 l4 l5 σ = some o) : Gx Γ M_X10_oiled 0 τ (PI o) 0 0 0 [(0, .ref (Γ.B + pp l0)), (1, .int l1), (2, .int l2), (3, .int l3), (4, .int l4), (5, .int l5)] [] σ := by
  unfold f_X10_oiled at h
  refine gx_aload_n 0 dX10_oiled_0 rfl rfl ?_
  refine gx_iload_n 1 dX10_oiled_1 rfl rfl ?_
  refine gx_iload_n 2 dX10_oiled_2 rfl rfl ?_
  refine gx_iload_n 3 dX10_oiled_3 rfl rfl ?_
  obtain ⟨_, hobq1, h⟩ := bnd h
  obtain ⟨q1, hq1, h⟩ := bnd h
  refine gx_cVI (As := [.int l1, .int l2, .int l3]) (st := []) (o := l0) dX10_oiled_4 (c_X10_canBlow hq1) mov_X10_canBlow tw_731 hobq1 rfl ⟨Nat.le_of_ble_eq_true rfl, Nat.le_of_ble_eq_true rfl⟩ (Nat.le_of_ble_eq_true rfl) ?_
  refine gx_if_eq 28 dX10_oiled_7 (by decide) (fun c1 => ?_) (fun c1 => ?_)
  · rw [if_pos c1] at h
    exact gx_sub [] rfl (s_X10_oiled_28  h)
  · rw [if_neg c1] at h
    refine gx_iload 4 dX10_oiled_10 rfl ?_
    refine gx_iconst (v := (4 : Int32)) dX10_oiled_12 ic_4 ?_
    obtain ⟨q3, hq3, h⟩ := bnd h
    refine gx_cSI (As := [.int l4, .int (4 : Int32)]) (st := []) dX10_oiled_13 (c_X10_isBelow hq3) mos_X10_isBelow tw_706 rfl ⟨Nat.le_of_ble_eq_true rfl, Nat.le_of_ble_eq_true rfl⟩ (Nat.le_of_ble_eq_true rfl) ?_
    refine gx_if_eq 28 dX10_oiled_16 (by decide) (fun c3 => ?_) (fun c3 => ?_)
    · rw [if_pos c3] at h
      exact gx_sub [] rfl (s_X10_oiled_28  h)
    · rw [if_neg c3] at h
      refine gx_iload 5 dX10_oiled_19 rfl ?_
      refine gx_iconst (v := (2 : Int32)) dX10_oiled_21 ic_2 ?_
      obtain ⟨q5, hq5, h⟩ := bnd h
      refine gx_cSI (As := [.int l5, .int (2 : Int32)]) (st := []) dX10_oiled_22 (c_X10_isBelow hq5) mos_X10_isBelow tw_706 rfl ⟨Nat.le_of_ble_eq_true rfl, Nat.le_of_ble_eq_true rfl⟩ (Nat.le_of_ble_eq_true rfl) ?_
      refine gx_if_ne 30 dX10_oiled_25 (by decide) (fun c5 => ?_) (fun c5 => ?_)
      · rw [if_neg c5] at h
        refine gx_aload_n 0 dX10_oiled_30 rfl rfl ?_
        obtain ⟨a7, ha7, h⟩ := bnd h
        refine gx_getN dX10_oiled_31 ha7 fl_X10_66 rfl ?_
        refine gx_aload_n 0 dX10_oiled_34 rfl rfl ?_
        obtain ⟨a8, ha8, h⟩ := bnd h
        refine gx_getN dX10_oiled_35 ha8 fl_X10_55 rfl ?_
        refine gx_iload_n 1 dX10_oiled_38 rfl rfl ?_
        obtain ⟨a9, ha9, h⟩ := bnd h
        refine gx_aaldN (t0 := 4) (C := "MostCocks$Law") dX10_oiled_39 ha9 rfl (by decide) rfl rfl ?_
        refine gx_aload_n 0 dX10_oiled_40 rfl rfl ?_
        obtain ⟨a10, ha10, h⟩ := bnd h
        refine gx_getN dX10_oiled_41 ha10 fl_X10_42 rfl ?_
        refine gx_iload_n 2 dX10_oiled_44 rfl rfl ?_
        refine gx_iload_n 3 dX10_oiled_45 rfl rfl ?_
        refine gx_aload_n 0 dX10_oiled_46 rfl rfl ?_
        obtain ⟨a11, ha11, h⟩ := bnd h
        refine gx_getN dX10_oiled_47 ha11 fl_X10_42 rfl ?_
        obtain ⟨x12, hx12, h⟩ := bnd h
        refine gx_getI dX10_oiled_50 hx12 fl_X10_168 rfl ?_
        refine gx_aload_n 0 dX10_oiled_53 rfl rfl ?_
        obtain ⟨a13, ha13, h⟩ := bnd h
        refine gx_getN dX10_oiled_54 ha13 fl_X10_82 rfl ?_
        obtain ⟨a14, ha14, h⟩ := bnd h
        refine gx_getN dX10_oiled_57 ha14 fl_X10_265 rfl ?_
        obtain ⟨_, hobq15, h⟩ := bnd h
        obtain ⟨q15, hq15, h⟩ := bnd h
        refine gx_cVV (As := [.ref (Γ.B + pp a9), .ref (Γ.B + pp a10), .int l2, .int l3, .int x12, .ref (Γ.B + pp a14)]) (st := []) (o := a7) dX10_oiled_60 (c_X9_turnAll hq15) mov_X9_turnAll tw_735 hobq15 rfl ⟨Nat.le_of_ble_eq_true rfl, Nat.le_of_ble_eq_true rfl⟩ (Nat.le_of_ble_eq_true rfl) ?_
        refine gx_iconst (v := (0 : Int32)) dX10_oiled_63 ic_0 ?_
        refine gx_istore (lv' := [(6, .int (0 : Int32)), (0, .ref (Γ.B + pp l0)), (1, .int l1), (2, .int l2), (3, .int l3), (4, .int l4), (5, .int l5)]) dX10_oiled_64 (Nat.le_of_ble_eq_true rfl) rfl ?_
        exact gx_sub [1, 2, 3, 4, 5, 6, 0] rfl (s_X10_oiled_66  N _ _ _ _ _ _ _ _ _ h)
      · rw [if_pos c5] at h
        exact gx_sub [] rfl (s_X10_oiled_28  h)
theorem c_X10_oiled {Γ : Cn} {τ : Mm} {N : Nat} {l0 : Nat} {l1 : Int32} {l2 : Int32} {l3 : Int32} {l4 : Int32} {l5 : Int32} {σ : Mm} {o : Int32 × Mm} (h : f_X10_oiled N l0 l1 l2 l3 l4 l5 σ = some o) : Ct Γ M_X10_oiled yX10_oiled 0 τ [.ref (Γ.B + pp l0), .int l1, .int l2, .int l3, .int l4, .int l5] σ (PI o) := ct_of (by decide) rfl (fun _ => by first | rfl | contradiction) (Nat.le_of_ble_eq_true rfl) (s_X10_oiled_0  h)
abbrev M_X10_bestPoint : Ms := (cX10_bestPoint, RX10, 9, (some .int), false, 0, 0, 5)
def f_X10_bestPoint_37 (N : Nat) (σ : Mm) : Option (Int32 × Mm) :=
  some ((-1 : Int32), σ)
def f_X10_bestPoint_173 (N : Nat) (r_69 : Nat → Int32 → Int32 → Int32 → Int32 → Int32 → Int32 → Int32 → Int32 → Mm → Option (Int32 × Mm)) (l0 : Nat) (l1 : Int32) (l2 : Int32) (l3 : Int32) (l4 : Int32) (l5 : Int32) (l6 : Int32) (l7 : Int32) (l8 : Int32) (σ : Mm) : Option (Int32 × Mm) :=
  r_69 l0 l1 l2 l3 l4 l5 l6 l7 (l8 + (1 : Int32)) σ
def f_X10_bestPoint_191 (N : Nat) (t0 : Int32) (σ : Mm) : Option (Int32 × Mm) :=
  some (t0, σ)
def f_X10_bestPoint_69 (N : Nat) : Nat → Nat → Int32 → Int32 → Int32 → Int32 → Int32 → Int32 → Int32 → Int32 → Mm → Option (Int32 × Mm)
  | 0, _, _, _, _, _, _, _, _, _, _ => none
  | n + 1, l0, l1, l2, l3, l4, l5, l6, l7, l8, σ =>
      if (8 : Int32) ≤ l8 then (
        if l4 = 0 then (
          f_X10_bestPoint_191 N l5 σ) else (
          f_X10_bestPoint_191 N l6 σ)) else (
        (gN 10 11 σ l0).bind fun a3 =>
        (gN 10 4 σ l0).bind fun a4 =>
        (ob 4 σ a3).bind fun _ =>
        (f_X4_bendTo N a3 a4 l8 σ).bind fun q5 =>
        (gN 10 11 q5 l0).bind fun a6 =>
        (gN 10 4 q5 l0).bind fun a7 =>
        (ob 4 q5 a6).bind fun _ =>
        (f_X4_run N a6 a7 l1 l8 l7 q5).bind fun q8 =>
        (gN 10 11 q8 l0).bind fun a9 =>
        (gI 4 6 q8 a9).bind fun x10 =>
        if x10 = 0 then (
          f_X10_bestPoint_173 N (f_X10_bestPoint_69 N n) l0 l1 l2 l3 l4 l5 l6 l7 l8 q8) else (
          (gN 10 11 q8 l0).bind fun a12 =>
          (gI 4 7 q8 a12).bind fun x13 =>
          if l3 < x13 then (
            f_X10_bestPoint_173 N (f_X10_bestPoint_69 N n) l0 l1 l2 l3 l4 l5 l6 l7 l8 q8) else (
            (gN 10 4 q8 l0).bind fun a15 =>
            (ob 7 q8 a15).bind fun _ =>
            (f_X7_gain N a15 l2 l8 q8).bind fun q16 =>
            (gN 10 11 q16.2 l0).bind fun a17 =>
            (gI 4 7 q16.2 a17).bind fun x18 =>
            if (q16.1 - x18) ≤ l6 then (
              f_X10_bestPoint_173 N (f_X10_bestPoint_69 N n) l0 l1 l2 l3 l4 l5 l6 l7 l8 q16.2) else (
              (gN 10 4 q16.2 l0).bind fun a20 =>
              (ob 7 q16.2 a20).bind fun _ =>
              (f_X7_gain N a20 l2 l8 q16.2).bind fun q21 =>
              (gN 10 11 q21.2 l0).bind fun a22 =>
              (gI 4 7 q21.2 a22).bind fun x23 =>
              f_X10_bestPoint_173 N (f_X10_bestPoint_69 N n) l0 l1 l2 l3 l4 l8 (q21.1 - x23) l7 l8 q21.2))))
def f_X10_bestPoint (N : Nat) (l0 : Nat) (l1 : Int32) (l2 : Int32) (l3 : Int32) (l4 : Int32) (σ : Mm) : Option (Int32 × Mm) :=
  (ob 10 σ l0).bind fun _ =>
  (f_X10_canBuy N l0 l1 (0 : Int32) σ).bind fun q1 =>
  if q1.1 = 0 then (
    f_X10_bestPoint_37 N q1.2) else (
    (f_X10_isBelow N l2 (4 : Int32) q1.2).bind fun q3 =>
    if q3.1 = 0 then (
      f_X10_bestPoint_37 N q3.2) else (
      if l3 < 0 then (
        f_X10_bestPoint_37 N q3.2) else (
        if (9999 : Int32) < l3 then (
          f_X10_bestPoint_37 N q3.2) else (
          (f_X10_isBelow N l4 (2 : Int32) q3.2).bind fun q7 =>
          if q7.1 = 0 then (
            f_X10_bestPoint_37 N q7.2) else (
            (gN 10 4 q7.2 l0).bind fun a9 =>
            (ob 7 q7.2 a9).bind fun _ =>
            (f_X7_cocksOf N a9 l2 q7.2).bind fun q10 =>
            (gN 10 11 q10.2 l0).bind fun a11 =>
            (gN 10 4 q10.2 l0).bind fun a12 =>
            (ob 4 q10.2 a11).bind fun _ =>
            (f_X4_startFrom N a11 a12 q10.2).bind fun q13 =>
            f_X10_bestPoint_69 N N l0 l1 l2 l3 l4 (0 : Int32) (-1 : Int32) q10.1 (0 : Int32) q13)))))
theorem mov_X10_bestPoint : MOV yX10_bestPoint M_X10_bestPoint 4 10 0 := ⟨⟨tw_96, tw_967, ⟨by decide, by decide⟩, by decide +kernel⟩, tw_965, tw_966, by decide, ⟨_, rfl, rfl⟩, rfl⟩
set_option maxRecDepth 4000 in
theorem s_X10_bestPoint_37 {Γ : Cn} {τ : Mm} {N : Nat} {σ : Mm} {o : Int32 × Mm} (h : f_X10_bestPoint_37 N σ = some o) : Gx Γ M_X10_bestPoint 0 τ (PI o) 0 0 37 [] [] σ := by
  unfold f_X10_bestPoint_37 at h
  refine gx_iconst (v := (-1 : Int32)) dX10_bestPoint_37 ic_m1 ?_
  have h := Option.some.inj h
  subst h
  exact gx_iret dX10_bestPoint_38 rfl (Nat.le_of_ble_eq_true rfl) (Nat.le_of_ble_eq_true rfl) ⟨rfl, rfl⟩
set_option maxRecDepth 4000 in
theorem s_X10_bestPoint_173 {Γ : Cn} {τ : Mm} {N : Nat} {r_69 : Nat → Int32 → Int32 → Int32 → Int32 → Int32 → Int32 → Int32 → Int32 → Mm → Option (Int32 × Mm)} (hr_69 : ∀ (l0 : Nat) (l1 : Int32) (l2 : Int32) (l3 : Int32) (l4 : Int32) (l5 : Int32) (l6 : Int32) (l7 : Int32) (l8 : Int32) (σ : Mm) (o : Int32 × Mm), r_69 l0 l1 l2 l3 l4 l5 l6 l7 l8 σ = some o → Gx Γ M_X10_bestPoint 0 τ (PI o) 0 0 69 [(0, .ref (Γ.B + pp l0)), (1, .int l1), (2, .int l2), (3, .int l3), (4, .int l4), (5, .int l5), (6, .int l6), (7, .int l7), (8, .int l8)] [] σ) {l0 : Nat} {l1 : Int32} {l2 : Int32} {l3 : Int32} {l4 : Int32} {l5 : Int32} {l6 : Int32} {l7 : Int32} {l8 : Int32} {σ : Mm} {o : Int32 × Mm} (h : f_X10_bestPoint_173 N r_69 l0 l1 l2 l3 l4 l5 l6 l7 l8 σ = some o) : Gx Γ M_X10_bestPoint 0 τ (PI o) 0 0 173 [(0, .ref (Γ.B + pp l0)), (1, .int l1), (2, .int l2), (3, .int l3), (4, .int l4), (5, .int l5), (6, .int l6), (7, .int l7), (8, .int l8)] [] σ := by
  unfold f_X10_bestPoint_173 at h
  refine gx_iinc (v := (l8 + (1 : Int32))) (lv' := [(8, .int (l8 + (1 : Int32))), (0, .ref (Γ.B + pp l0)), (1, .int l1), (2, .int l2), (3, .int l3), (4, .int l4), (5, .int l5), (6, .int l6), (7, .int l7)]) 8 dX10_bestPoint_173 rfl (by rw [ic_1]) (Nat.le_of_ble_eq_true rfl) rfl ?_
  refine gx_goto 69 dX10_bestPoint_176 (by decide) ?_
  exact gx_sub [1, 2, 3, 4, 5, 6, 7, 8, 0] rfl (hr_69 _ _ _ _ _ _ _ _ _ _ _ h)
set_option maxRecDepth 4000 in
theorem s_X10_bestPoint_191 {Γ : Cn} {τ : Mm} {N : Nat} {t0 : Int32} {σ : Mm} {o : Int32 × Mm} (h : f_X10_bestPoint_191 N t0 σ = some o) : Gx Γ M_X10_bestPoint 0 τ (PI o) 0 0 191 [] [.int t0] σ := by
  unfold f_X10_bestPoint_191 at h
  have h := Option.some.inj h
  subst h
  exact gx_iret dX10_bestPoint_191 rfl (Nat.le_of_ble_eq_true rfl) (Nat.le_of_ble_eq_true rfl) ⟨rfl, rfl⟩
set_option maxRecDepth 4000 in
theorem s_X10_bestPoint_69 {Γ : Cn} {τ : Mm} {N : Nat} : ∀ (n : Nat) (l0 : Nat) (l1 : Int32) (l2 : Int32) (l3 : Int32) (l4 : Int32) (l5 : Int32) (l6 : Int32) (l7 : Int32) (l8 : Int32) (σ : Mm) (o : Int32 × Mm), f_X10_bestPoint_69 N n l0 l1 l2 l3 l4 l5 l6 l7 l8 σ = some o → Gx Γ M_X10_bestPoint 0 τ (PI o) 0 0 69 [(0, .ref (Γ.B + pp l0)), (1, .int l1), (2, .int l2), (3, .int l3), (4, .int l4), (5, .int l5), (6, .int l6), (7, .int l7), (8, .int l8)] [] σ := by
  intro n
  induction n with
  | zero =>
    intro l0 l1 l2 l3 l4 l5 l6 l7 l8 σ o h
    exact absurd h (by rw [f_X10_bestPoint_69]; exact fun q => nomatch q)
  | succ n ih =>
    intro l0 l1 l2 l3 l4 l5 l6 l7 l8 σ o h
    rw [f_X10_bestPoint_69] at h
    refine gx_iload 8 dX10_bestPoint_69 rfl ?_
    refine gx_bipush (v := (8 : Int32)) dX10_bestPoint_71 ib_8 ?_
    refine gx_icmp_ge 179 dX10_bestPoint_73 (by decide) (fun c0 => ?_) (fun c0 => ?_)
    · rw [if_pos c0] at h
      refine gx_iload 4 dX10_bestPoint_179 rfl ?_
      refine gx_if_ne 189 dX10_bestPoint_181 (by decide) (fun c1 => ?_) (fun c1 => ?_)
      · rw [if_neg c1] at h
        refine gx_iload 6 dX10_bestPoint_189 rfl ?_
        exact gx_sub [] rfl (s_X10_bestPoint_191  h)
      · rw [if_pos c1] at h
        refine gx_iload 5 dX10_bestPoint_184 rfl ?_
        refine gx_goto 191 dX10_bestPoint_186 (by decide) ?_
        exact gx_sub [] rfl (s_X10_bestPoint_191  h)
    · rw [if_neg c0] at h
      refine gx_aload_n 0 dX10_bestPoint_76 rfl rfl ?_
      obtain ⟨a3, ha3, h⟩ := bnd h
      refine gx_getN dX10_bestPoint_77 ha3 fl_X10_82 rfl ?_
      refine gx_aload_n 0 dX10_bestPoint_80 rfl rfl ?_
      obtain ⟨a4, ha4, h⟩ := bnd h
      refine gx_getN dX10_bestPoint_81 ha4 fl_X10_42 rfl ?_
      refine gx_iload 8 dX10_bestPoint_84 rfl ?_
      obtain ⟨_, hobq5, h⟩ := bnd h
      obtain ⟨q5, hq5, h⟩ := bnd h
      refine gx_cVV (As := [.ref (Γ.B + pp a4), .int l8]) (st := []) (o := a3) dX10_bestPoint_86 (c_X4_bendTo hq5) mov_X4_bendTo tw_863 hobq5 rfl ⟨Nat.le_of_ble_eq_true rfl, Nat.le_of_ble_eq_true rfl⟩ (Nat.le_of_ble_eq_true rfl) ?_
      refine gx_aload_n 0 dX10_bestPoint_89 rfl rfl ?_
      obtain ⟨a6, ha6, h⟩ := bnd h
      refine gx_getN dX10_bestPoint_90 ha6 fl_X10_82 rfl ?_
      refine gx_aload_n 0 dX10_bestPoint_93 rfl rfl ?_
      obtain ⟨a7, ha7, h⟩ := bnd h
      refine gx_getN dX10_bestPoint_94 ha7 fl_X10_42 rfl ?_
      refine gx_iload_n 1 dX10_bestPoint_97 rfl rfl ?_
      refine gx_iload 8 dX10_bestPoint_98 rfl ?_
      refine gx_iload 7 dX10_bestPoint_100 rfl ?_
      obtain ⟨_, hobq8, h⟩ := bnd h
      obtain ⟨q8, hq8, h⟩ := bnd h
      refine gx_cVV (As := [.ref (Γ.B + pp a7), .int l1, .int l8, .int l7]) (st := []) (o := a6) dX10_bestPoint_102 (c_X4_run hq8) mov_X4_run tw_868 hobq8 rfl ⟨Nat.le_of_ble_eq_true rfl, Nat.le_of_ble_eq_true rfl⟩ (Nat.le_of_ble_eq_true rfl) ?_
      refine gx_aload_n 0 dX10_bestPoint_105 rfl rfl ?_
      obtain ⟨a9, ha9, h⟩ := bnd h
      refine gx_getN dX10_bestPoint_106 ha9 fl_X10_82 rfl ?_
      obtain ⟨x10, hx10, h⟩ := bnd h
      refine gx_getI dX10_bestPoint_109 hx10 fl_X10_226 rfl ?_
      refine gx_if_eq 173 dX10_bestPoint_112 (by decide) (fun c10 => ?_) (fun c10 => ?_)
      · rw [if_pos c10] at h
        exact s_X10_bestPoint_173 ih h
      · rw [if_neg c10] at h
        refine gx_aload_n 0 dX10_bestPoint_115 rfl rfl ?_
        obtain ⟨a12, ha12, h⟩ := bnd h
        refine gx_getN dX10_bestPoint_116 ha12 fl_X10_82 rfl ?_
        obtain ⟨x13, hx13, h⟩ := bnd h
        refine gx_getI dX10_bestPoint_119 hx13 fl_X10_236 rfl ?_
        refine gx_iload_n 3 dX10_bestPoint_122 rfl rfl ?_
        refine gx_icmp_gt 173 dX10_bestPoint_123 (by decide) (fun c13 => ?_) (fun c13 => ?_)
        · rw [if_pos c13] at h
          exact s_X10_bestPoint_173 ih h
        · rw [if_neg c13] at h
          refine gx_aload_n 0 dX10_bestPoint_126 rfl rfl ?_
          obtain ⟨a15, ha15, h⟩ := bnd h
          refine gx_getN dX10_bestPoint_127 ha15 fl_X10_42 rfl ?_
          refine gx_iload_n 2 dX10_bestPoint_130 rfl rfl ?_
          refine gx_iload 8 dX10_bestPoint_131 rfl ?_
          obtain ⟨_, hobq16, h⟩ := bnd h
          obtain ⟨q16, hq16, h⟩ := bnd h
          refine gx_cVI (As := [.int l2, .int l8]) (st := []) (o := a15) dX10_bestPoint_133 (c_X7_gain hq16) mov_X7_gain tw_707 hobq16 rfl ⟨Nat.le_of_ble_eq_true rfl, Nat.le_of_ble_eq_true rfl⟩ (Nat.le_of_ble_eq_true rfl) ?_
          refine gx_aload_n 0 dX10_bestPoint_136 rfl rfl ?_
          obtain ⟨a17, ha17, h⟩ := bnd h
          refine gx_getN dX10_bestPoint_137 ha17 fl_X10_82 rfl ?_
          obtain ⟨x18, hx18, h⟩ := bnd h
          refine gx_getI dX10_bestPoint_140 hx18 fl_X10_236 rfl ?_
          refine gx_isub dX10_bestPoint_143 ?_
          refine gx_iload 6 dX10_bestPoint_144 rfl ?_
          refine gx_icmp_le 173 dX10_bestPoint_146 (by decide) (fun c18 => ?_) (fun c18 => ?_)
          · rw [if_pos c18] at h
            exact s_X10_bestPoint_173 ih h
          · rw [if_neg c18] at h
            refine gx_iload 8 dX10_bestPoint_149 rfl ?_
            refine gx_istore (lv' := [(5, .int l8), (0, .ref (Γ.B + pp l0)), (1, .int l1), (2, .int l2), (3, .int l3), (4, .int l4), (6, .int l6), (7, .int l7), (8, .int l8)]) dX10_bestPoint_151 (Nat.le_of_ble_eq_true rfl) rfl ?_
            refine gx_aload_n 1 dX10_bestPoint_153 rfl rfl ?_
            obtain ⟨a20, ha20, h⟩ := bnd h
            refine gx_getN dX10_bestPoint_154 ha20 fl_X10_42 rfl ?_
            refine gx_iload_n 3 dX10_bestPoint_157 rfl rfl ?_
            refine gx_iload 8 dX10_bestPoint_158 rfl ?_
            obtain ⟨_, hobq21, h⟩ := bnd h
            obtain ⟨q21, hq21, h⟩ := bnd h
            refine gx_cVI (As := [.int l2, .int l8]) (st := []) (o := a20) dX10_bestPoint_160 (c_X7_gain hq21) mov_X7_gain tw_707 hobq21 rfl ⟨Nat.le_of_ble_eq_true rfl, Nat.le_of_ble_eq_true rfl⟩ (Nat.le_of_ble_eq_true rfl) ?_
            refine gx_aload_n 1 dX10_bestPoint_163 rfl rfl ?_
            obtain ⟨a22, ha22, h⟩ := bnd h
            refine gx_getN dX10_bestPoint_164 ha22 fl_X10_82 rfl ?_
            obtain ⟨x23, hx23, h⟩ := bnd h
            refine gx_getI dX10_bestPoint_167 hx23 fl_X10_236 rfl ?_
            refine gx_isub dX10_bestPoint_170 ?_
            refine gx_istore (lv' := [(6, .int (q21.1 - x23)), (5, .int l8), (0, .ref (Γ.B + pp l0)), (1, .int l1), (2, .int l2), (3, .int l3), (4, .int l4), (7, .int l7), (8, .int l8)]) dX10_bestPoint_171 (Nat.le_of_ble_eq_true rfl) rfl ?_
            exact gx_sub [2, 3, 4, 5, 6, 1, 0, 7, 8] rfl (s_X10_bestPoint_173 ih h)
set_option maxRecDepth 4000 in
theorem s_X10_bestPoint_0 {Γ : Cn} {τ : Mm} {N : Nat} {l0 : Nat} {l1 : Int32} {l2 : Int32} {l3 : Int32} {l4 : Int32} {σ : Mm} {o : Int32 × Mm} (h : f_X10_bestPoint N l0 l1 l2 l3 l4 σ = some o) : Gx Γ M_X10_bestPoint 0 τ (PI o) 0 0 0 [(0, .ref (Γ.B + pp l0)), (1, .int l1), (2, .int l2), (3, .int l3), (4, .int l4)] [] σ := by
  unfold f_X10_bestPoint at h
  refine gx_aload_n 0 dX10_bestPoint_0 rfl rfl ?_
  refine gx_iload_n 1 dX10_bestPoint_1 rfl rfl ?_
  refine gx_iconst (v := (0 : Int32)) dX10_bestPoint_2 ic_0 ?_
  obtain ⟨_, hobq1, h⟩ := bnd h
  obtain ⟨q1, hq1, h⟩ := bnd h
  refine gx_cVI (As := [.int l1, .int (0 : Int32)]) (st := []) (o := l0) dX10_bestPoint_3 (c_X10_canBuy hq1) mov_X10_canBuy tw_850 hobq1 rfl ⟨Nat.le_of_ble_eq_true rfl, Nat.le_of_ble_eq_true rfl⟩ (Nat.le_of_ble_eq_true rfl) ?_
  refine gx_if_eq 37 dX10_bestPoint_6 (by decide) (fun c1 => ?_) (fun c1 => ?_)
  · rw [if_pos c1] at h
    exact gx_sub [] rfl (s_X10_bestPoint_37  h)
  · rw [if_neg c1] at h
    refine gx_iload_n 2 dX10_bestPoint_9 rfl rfl ?_
    refine gx_iconst (v := (4 : Int32)) dX10_bestPoint_10 ic_4 ?_
    obtain ⟨q3, hq3, h⟩ := bnd h
    refine gx_cSI (As := [.int l2, .int (4 : Int32)]) (st := []) dX10_bestPoint_11 (c_X10_isBelow hq3) mos_X10_isBelow tw_706 rfl ⟨Nat.le_of_ble_eq_true rfl, Nat.le_of_ble_eq_true rfl⟩ (Nat.le_of_ble_eq_true rfl) ?_
    refine gx_if_eq 37 dX10_bestPoint_14 (by decide) (fun c3 => ?_) (fun c3 => ?_)
    · rw [if_pos c3] at h
      exact gx_sub [] rfl (s_X10_bestPoint_37  h)
    · rw [if_neg c3] at h
      refine gx_iload_n 3 dX10_bestPoint_17 rfl rfl ?_
      refine gx_if_lt 37 dX10_bestPoint_18 (by decide) (fun c4 => ?_) (fun c4 => ?_)
      · rw [if_pos c4] at h
        exact gx_sub [] rfl (s_X10_bestPoint_37  h)
      · rw [if_neg c4] at h
        refine gx_iload_n 3 dX10_bestPoint_21 rfl rfl ?_
        refine gx_sipush (v := (9999 : Int32)) dX10_bestPoint_22 is_9999 ?_
        refine gx_icmp_gt 37 dX10_bestPoint_25 (by decide) (fun c5 => ?_) (fun c5 => ?_)
        · rw [if_pos c5] at h
          exact gx_sub [] rfl (s_X10_bestPoint_37  h)
        · rw [if_neg c5] at h
          refine gx_iload 4 dX10_bestPoint_28 rfl ?_
          refine gx_iconst (v := (2 : Int32)) dX10_bestPoint_30 ic_2 ?_
          obtain ⟨q7, hq7, h⟩ := bnd h
          refine gx_cSI (As := [.int l4, .int (2 : Int32)]) (st := []) dX10_bestPoint_31 (c_X10_isBelow hq7) mos_X10_isBelow tw_706 rfl ⟨Nat.le_of_ble_eq_true rfl, Nat.le_of_ble_eq_true rfl⟩ (Nat.le_of_ble_eq_true rfl) ?_
          refine gx_if_ne 39 dX10_bestPoint_34 (by decide) (fun c7 => ?_) (fun c7 => ?_)
          · rw [if_neg c7] at h
            refine gx_iconst (v := (0 : Int32)) dX10_bestPoint_39 ic_0 ?_
            refine gx_istore (lv' := [(5, .int (0 : Int32)), (0, .ref (Γ.B + pp l0)), (1, .int l1), (2, .int l2), (3, .int l3), (4, .int l4)]) dX10_bestPoint_40 (Nat.le_of_ble_eq_true rfl) rfl ?_
            refine gx_iconst (v := (-1 : Int32)) dX10_bestPoint_42 ic_m1 ?_
            refine gx_istore (lv' := [(6, .int (-1 : Int32)), (5, .int (0 : Int32)), (0, .ref (Γ.B + pp l0)), (1, .int l1), (2, .int l2), (3, .int l3), (4, .int l4)]) dX10_bestPoint_43 (Nat.le_of_ble_eq_true rfl) rfl ?_
            refine gx_aload_n 2 dX10_bestPoint_45 rfl rfl ?_
            obtain ⟨a9, ha9, h⟩ := bnd h
            refine gx_getN dX10_bestPoint_46 ha9 fl_X10_42 rfl ?_
            refine gx_iload_n 4 dX10_bestPoint_49 rfl rfl ?_
            obtain ⟨_, hobq10, h⟩ := bnd h
            obtain ⟨q10, hq10, h⟩ := bnd h
            refine gx_cVI (As := [.int l2]) (st := []) (o := a9) dX10_bestPoint_50 (c_X7_cocksOf hq10) mov_X7_cocksOf tw_968 hobq10 rfl ⟨Nat.le_of_ble_eq_true rfl, Nat.le_of_ble_eq_true rfl⟩ (Nat.le_of_ble_eq_true rfl) ?_
            refine gx_istore (lv' := [(7, .int q10.1), (6, .int (-1 : Int32)), (5, .int (0 : Int32)), (0, .ref (Γ.B + pp l0)), (1, .int l1), (2, .int l2), (3, .int l3), (4, .int l4)]) dX10_bestPoint_53 (Nat.le_of_ble_eq_true rfl) rfl ?_
            refine gx_aload_n 3 dX10_bestPoint_55 rfl rfl ?_
            obtain ⟨a11, ha11, h⟩ := bnd h
            refine gx_getN dX10_bestPoint_56 ha11 fl_X10_82 rfl ?_
            refine gx_aload_n 3 dX10_bestPoint_59 rfl rfl ?_
            obtain ⟨a12, ha12, h⟩ := bnd h
            refine gx_getN dX10_bestPoint_60 ha12 fl_X10_42 rfl ?_
            obtain ⟨_, hobq13, h⟩ := bnd h
            obtain ⟨q13, hq13, h⟩ := bnd h
            refine gx_cVV (As := [.ref (Γ.B + pp a12)]) (st := []) (o := a11) dX10_bestPoint_63 (c_X4_startFrom hq13) mov_X4_startFrom tw_858 hobq13 rfl ⟨Nat.le_of_ble_eq_true rfl, Nat.le_of_ble_eq_true rfl⟩ (Nat.le_of_ble_eq_true rfl) ?_
            refine gx_iconst (v := (0 : Int32)) dX10_bestPoint_66 ic_0 ?_
            refine gx_istore (lv' := [(8, .int (0 : Int32)), (7, .int q10.1), (6, .int (-1 : Int32)), (5, .int (0 : Int32)), (0, .ref (Γ.B + pp l0)), (1, .int l1), (2, .int l2), (3, .int l3), (4, .int l4)]) dX10_bestPoint_67 (Nat.le_of_ble_eq_true rfl) rfl ?_
            exact gx_sub [4, 5, 6, 7, 8, 3, 2, 1, 0] rfl (s_X10_bestPoint_69  N _ _ _ _ _ _ _ _ _ _ _ h)
          · rw [if_pos c7] at h
            exact gx_sub [] rfl (s_X10_bestPoint_37  h)
theorem c_X10_bestPoint {Γ : Cn} {τ : Mm} {N : Nat} {l0 : Nat} {l1 : Int32} {l2 : Int32} {l3 : Int32} {l4 : Int32} {σ : Mm} {o : Int32 × Mm} (h : f_X10_bestPoint N l0 l1 l2 l3 l4 σ = some o) : Ct Γ M_X10_bestPoint yX10_bestPoint 0 τ [.ref (Γ.B + pp l0), .int l1, .int l2, .int l3, .int l4] σ (PI o) := ct_of (by decide) rfl (fun _ => by first | rfl | contradiction) (Nat.le_of_ble_eq_true rfl) (s_X10_bestPoint_0  h)
abbrev M_X10_seed : Ms := (cX10_seed, RX10, 3, (some .int), false, 0, 0, 0)
def f_X10_seed (N : Nat) (l0 : Nat) (l1 : Int32) (σ : Mm) : Option (Int32 × Mm) :=
  if 0 ≤ l1 then (
    (gN 10 4 σ l0).bind fun a2 =>
    (gI 7 13 σ a2).bind fun x3 =>
    (gN 10 4 σ l0).bind fun a4 =>
    (pI 7 13 σ a4 l1).bind fun s5 =>
    some (x3, s5)) else (
    some ((-1 : Int32), σ))
theorem mov_X10_seed : MOV yX10_seed M_X10_seed 1 10 0 := ⟨⟨tw_96, tw_975, ⟨by decide, by decide⟩, by decide +kernel⟩, tw_973, tw_974, by decide, ⟨_, rfl, rfl⟩, rfl⟩
set_option maxRecDepth 4000 in
theorem s_X10_seed_0 {Γ : Cn} {τ : Mm} {N : Nat} {l0 : Nat} {l1 : Int32} {σ : Mm} {o : Int32 × Mm} (h : f_X10_seed N l0 l1 σ = some o) : Gx Γ M_X10_seed 0 τ (PI o) 0 0 0 [(0, .ref (Γ.B + pp l0)), (1, .int l1)] [] σ := by
  unfold f_X10_seed at h
  refine gx_iload_n 1 dX10_seed_0 rfl rfl ?_
  refine gx_if_ge 6 dX10_seed_1 (by decide) (fun c0 => ?_) (fun c0 => ?_)
  · rw [if_pos c0] at h
    refine gx_aload_n 0 dX10_seed_6 rfl rfl ?_
    obtain ⟨a2, ha2, h⟩ := bnd h
    refine gx_getN dX10_seed_7 ha2 fl_X10_42 rfl ?_
    obtain ⟨x3, hx3, h⟩ := bnd h
    refine gx_getI dX10_seed_10 hx3 fl_X10_121 rfl ?_
    refine gx_istore_n (lv' := [(2, .int x3), (0, .ref (Γ.B + pp l0)), (1, .int l1)]) dX10_seed_13 rfl (Nat.le_of_ble_eq_true rfl) rfl ?_
    refine gx_aload_n 1 dX10_seed_14 rfl rfl ?_
    obtain ⟨a4, ha4, h⟩ := bnd h
    refine gx_getN dX10_seed_15 ha4 fl_X10_42 rfl ?_
    refine gx_iload_n 2 dX10_seed_18 rfl rfl ?_
    obtain ⟨s5, hs5, h⟩ := bnd h
    refine gx_putI dX10_seed_19 hs5 fl_X10_121 fp_X10_7_13 rfl ?_
    refine gx_iload_n 0 dX10_seed_22 rfl rfl ?_
    have h := Option.some.inj h
    subst h
    exact gx_iret dX10_seed_23 rfl (Nat.le_of_ble_eq_true rfl) (Nat.le_of_ble_eq_true rfl) ⟨rfl, rfl⟩
  · rw [if_neg c0] at h
    refine gx_iconst (v := (-1 : Int32)) dX10_seed_4 ic_m1 ?_
    have h := Option.some.inj h
    subst h
    exact gx_iret dX10_seed_5 rfl (Nat.le_of_ble_eq_true rfl) (Nat.le_of_ble_eq_true rfl) ⟨rfl, rfl⟩
theorem c_X10_seed {Γ : Cn} {τ : Mm} {N : Nat} {l0 : Nat} {l1 : Int32} {σ : Mm} {o : Int32 × Mm} (h : f_X10_seed N l0 l1 σ = some o) : Ct Γ M_X10_seed yX10_seed 0 τ [.ref (Γ.B + pp l0), .int l1] σ (PI o) := ct_of (by decide) rfl (fun _ => by first | rfl | contradiction) (Nat.le_of_ble_eq_true rfl) (s_X10_seed_0  h)
abbrev M_X10_lot : Ms := (cX10_lot, RX10, 2, (some .int), false, 0, 0, 1)
def f_X10_lot_70 (N : Nat) (t0 : Int32) (σ : Mm) : Option (Int32 × Mm) :=
  some (t0, σ)
def f_X10_lot (N : Nat) (l0 : Nat) (σ : Mm) : Option (Int32 × Mm) :=
  (ob 10 σ l0).bind fun _ =>
  (f_X10_isThere N l0 σ).bind fun q1 =>
  if q1.1 = 0 then (
    some ((-1 : Int32), q1.2)) else (
    (gN 10 4 q1.2 l0).bind fun a3 =>
    (gN 10 4 q1.2 l0).bind fun a4 =>
    (gI 7 13 q1.2 a4).bind fun x5 =>
    (f_X10_nextDrawn N x5 q1.2).bind fun q6 =>
    (pI 7 13 q6.2 a3 q6.1).bind fun s7 =>
    (gN 10 4 s7 l0).bind fun a8 =>
    (gI 7 13 s7 a8).bind fun x9 =>
    if (65536 : Int32) = 0 then none else
    (gN 10 4 s7 l0).bind fun a11 =>
    (gI 7 0 s7 a11).bind fun x12 =>
    if x12 = 0 then none else
    (gN 10 4 s7 l0).bind fun a14 =>
    (ob 7 s7 a14).bind fun _ =>
    (f_X7_hasCock N a14 ((x9 / (65536 : Int32)) - (x9 / (65536 : Int32)) / x12 * x12) s7).bind fun q15 =>
    if q15.1 = 0 then (
      f_X10_lot_70 N (-1 : Int32) q15.2) else (
      (gN 10 4 q15.2 l0).bind fun a17 =>
      (gN 7 6 q15.2 a17).bind fun a18 =>
      (aI 13 q15.2 a18 ((x9 / (65536 : Int32)) - (x9 / (65536 : Int32)) / x12 * x12)).bind fun x19 =>
      f_X10_lot_70 N x19 q15.2))
theorem mov_X10_lot : MOV yX10_lot M_X10_lot 0 10 0 := ⟨⟨tw_96, tw_979, ⟨by decide, by decide⟩, by decide +kernel⟩, tw_977, tw_978, by decide, ⟨_, rfl, rfl⟩, rfl⟩
set_option maxRecDepth 4000 in
theorem s_X10_lot_70 {Γ : Cn} {τ : Mm} {N : Nat} {t0 : Int32} {σ : Mm} {o : Int32 × Mm} (h : f_X10_lot_70 N t0 σ = some o) : Gx Γ M_X10_lot 0 τ (PI o) 0 0 70 [] [.int t0] σ := by
  unfold f_X10_lot_70 at h
  have h := Option.some.inj h
  subst h
  exact gx_iret dX10_lot_70 rfl (Nat.le_of_ble_eq_true rfl) (Nat.le_of_ble_eq_true rfl) ⟨rfl, rfl⟩
set_option maxRecDepth 4000 in
theorem s_X10_lot_0 {Γ : Cn} {τ : Mm} {N : Nat} {l0 : Nat} {σ : Mm} {o : Int32 × Mm} (h : f_X10_lot N l0 σ = some o) : Gx Γ M_X10_lot 0 τ (PI o) 0 0 0 [(0, .ref (Γ.B + pp l0))] [] σ := by
  unfold f_X10_lot at h
  refine gx_aload_n 0 dX10_lot_0 rfl rfl ?_
  obtain ⟨_, hobq1, h⟩ := bnd h
  obtain ⟨q1, hq1, h⟩ := bnd h
  refine gx_cVI (As := []) (st := []) (o := l0) dX10_lot_1 (c_X10_isThere hq1) mov_X10_isThere tw_702 hobq1 rfl ⟨Nat.le_of_ble_eq_true rfl, Nat.le_of_ble_eq_true rfl⟩ (Nat.le_of_ble_eq_true rfl) ?_
  refine gx_if_ne 9 dX10_lot_4 (by decide) (fun c1 => ?_) (fun c1 => ?_)
  · rw [if_neg c1] at h
    refine gx_aload_n 0 dX10_lot_9 rfl rfl ?_
    obtain ⟨a3, ha3, h⟩ := bnd h
    refine gx_getN dX10_lot_10 ha3 fl_X10_42 rfl ?_
    refine gx_aload_n 0 dX10_lot_13 rfl rfl ?_
    obtain ⟨a4, ha4, h⟩ := bnd h
    refine gx_getN dX10_lot_14 ha4 fl_X10_42 rfl ?_
    obtain ⟨x5, hx5, h⟩ := bnd h
    refine gx_getI dX10_lot_17 hx5 fl_X10_121 rfl ?_
    obtain ⟨q6, hq6, h⟩ := bnd h
    refine gx_cSI (As := [.int x5]) (st := [.ref (Γ.B + pp a3)]) dX10_lot_20 (c_X10_nextDrawn hq6) mos_X10_nextDrawn tw_980 rfl ⟨Nat.le_of_ble_eq_true rfl, Nat.le_of_ble_eq_true rfl⟩ (Nat.le_of_ble_eq_true rfl) ?_
    obtain ⟨s7, hs7, h⟩ := bnd h
    refine gx_putI dX10_lot_23 hs7 fl_X10_121 fp_X10_7_13 rfl ?_
    refine gx_aload_n 0 dX10_lot_26 rfl rfl ?_
    obtain ⟨a8, ha8, h⟩ := bnd h
    refine gx_getN dX10_lot_27 ha8 fl_X10_42 rfl ?_
    obtain ⟨x9, hx9, h⟩ := bnd h
    refine gx_getI dX10_lot_30 hx9 fl_X10_121 rfl ?_
    refine gx_ldcw (v := (65536 : Int32)) dX10_lot_33 tw_986 ?_
    obtain ⟨c9, h⟩ := of_ifn h
    refine gx_idiv dX10_lot_36 c9 ?_
    refine gx_aload_n 0 dX10_lot_37 rfl rfl ?_
    obtain ⟨a11, ha11, h⟩ := bnd h
    refine gx_getN dX10_lot_38 ha11 fl_X10_42 rfl ?_
    obtain ⟨x12, hx12, h⟩ := bnd h
    refine gx_getI dX10_lot_41 hx12 fl_X10_128 rfl ?_
    obtain ⟨c12, h⟩ := of_ifn h
    refine gx_irem dX10_lot_44 c12 ?_
    refine gx_istore_n (lv' := [(1, .int ((x9 / (65536 : Int32)) - (x9 / (65536 : Int32)) / x12 * x12)), (0, .ref (Γ.B + pp l0))]) dX10_lot_45 rfl (Nat.le_of_ble_eq_true rfl) rfl ?_
    refine gx_aload_n 1 dX10_lot_46 rfl rfl ?_
    obtain ⟨a14, ha14, h⟩ := bnd h
    refine gx_getN dX10_lot_47 ha14 fl_X10_42 rfl ?_
    refine gx_iload_n 0 dX10_lot_50 rfl rfl ?_
    obtain ⟨_, hobq15, h⟩ := bnd h
    obtain ⟨q15, hq15, h⟩ := bnd h
    refine gx_cVI (As := [.int ((x9 / (65536 : Int32)) - (x9 / (65536 : Int32)) / x12 * x12)]) (st := []) (o := a14) dX10_lot_51 (c_X7_hasCock hq15) mov_X7_hasCock tw_686 hobq15 rfl ⟨Nat.le_of_ble_eq_true rfl, Nat.le_of_ble_eq_true rfl⟩ (Nat.le_of_ble_eq_true rfl) ?_
    refine gx_if_eq 69 dX10_lot_54 (by decide) (fun c15 => ?_) (fun c15 => ?_)
    · rw [if_pos c15] at h
      refine gx_iconst (v := (-1 : Int32)) dX10_lot_69 ic_m1 ?_
      exact gx_sub [] rfl (s_X10_lot_70  h)
    · rw [if_neg c15] at h
      refine gx_aload_n 1 dX10_lot_57 rfl rfl ?_
      obtain ⟨a17, ha17, h⟩ := bnd h
      refine gx_getN dX10_lot_58 ha17 fl_X10_42 rfl ?_
      obtain ⟨a18, ha18, h⟩ := bnd h
      refine gx_getN dX10_lot_61 ha18 fl_X10_153 rfl ?_
      refine gx_iload_n 0 dX10_lot_64 rfl rfl ?_
      obtain ⟨x19, hx19, h⟩ := bnd h
      refine gx_iald (kd := 13) dX10_lot_65 hx19 rfl rfl ?_
      refine gx_goto 70 dX10_lot_66 (by decide) ?_
      exact gx_sub [] rfl (s_X10_lot_70  h)
  · rw [if_pos c1] at h
    refine gx_iconst (v := (-1 : Int32)) dX10_lot_7 ic_m1 ?_
    have h := Option.some.inj h
    subst h
    exact gx_iret dX10_lot_8 rfl (Nat.le_of_ble_eq_true rfl) (Nat.le_of_ble_eq_true rfl) ⟨rfl, rfl⟩
theorem c_X10_lot {Γ : Cn} {τ : Mm} {N : Nat} {l0 : Nat} {σ : Mm} {o : Int32 × Mm} (h : f_X10_lot N l0 σ = some o) : Ct Γ M_X10_lot yX10_lot 0 τ [.ref (Γ.B + pp l0)] σ (PI o) := ct_of (by decide) rfl (fun _ => by first | rfl | contradiction) (Nat.le_of_ble_eq_true rfl) (s_X10_lot_0  h)
abbrev M_X10_years : Ms := (cX10_years, RX10, 10, (some .int), false, 0, 0, 5)
def f_X10_years_45 (N : Nat) (σ : Mm) : Option (Int32 × Mm) :=
  some ((-1 : Int32), σ)
def f_X10_years_156 (N : Nat) (r_89 : Nat → Int32 → Int32 → Int32 → Int32 → Int32 → Int32 → Mm → Option (Int32 × Mm)) (l0 : Nat) (l2 : Int32) (l4 : Int32) (l5 : Int32) (l6 : Int32) (l7 : Int32) (l8 : Int32) (σ : Mm) : Option (Int32 × Mm) :=
  r_89 l0 l2 l4 l5 l6 l7 (l8 + (1 : Int32)) σ
def f_X10_years_150 (N : Nat) (r_89 : Nat → Int32 → Int32 → Int32 → Int32 → Int32 → Int32 → Mm → Option (Int32 × Mm)) (l0 : Nat) (l2 : Int32) (l4 : Int32) (l5 : Int32) (l6 : Int32) (l7 : Int32) (l8 : Int32) (t0 : Int32) (t1 : Int32) (σ : Mm) : Option (Int32 × Mm) :=
  if t0 = t1 then (
    f_X10_years_156 N r_89 l0 l2 l4 l5 l6 (l7 + (1 : Int32)) l8 σ) else (
    f_X10_years_156 N r_89 l0 l2 l4 l5 l6 l7 l8 σ)
def f_X10_years_89 (N : Nat) : Nat → Nat → Int32 → Int32 → Int32 → Int32 → Int32 → Int32 → Mm → Option (Int32 × Mm)
  | 0, _, _, _, _, _, _, _, _ => none
  | n + 1, l0, l2, l4, l5, l6, l7, l8, σ =>
      if l2 ≤ l8 then (
        some (l7, σ)) else (
        (gN 10 12 σ l0).bind fun a2 =>
        (ob 0 σ a2).bind fun _ =>
        (f_X0_voteOfNextDay N a2 l4 σ).bind fun q3 =>
        if l6 = (2 : Int32) then (
          (gN 10 4 q3.2 l0).bind fun a8 =>
          (ob 7 q3.2 a8).bind fun _ =>
          (f_X7_gain N a8 l5 q3.1 q3.2).bind fun q9 =>
          f_X10_years_156 N (f_X10_years_89 N n) l0 l2 l4 l5 l6 (l7 + q9.1) l8 q9.2) else (
          if l6 = 0 then (
            f_X10_years_150 N (f_X10_years_89 N n) l0 l2 l4 l5 l6 l7 l8 q3.1 l5 q3.2) else (
            (gN 10 12 q3.2 l0).bind fun a6 =>
            (gI 0 8 q3.2 a6).bind fun x7 =>
            f_X10_years_150 N (f_X10_years_89 N n) l0 l2 l4 l5 l6 l7 l8 q3.1 x7 q3.2)))
def f_X10_years_61 (N : Nat) (l0 : Nat) (l1 : Int32) (l2 : Int32) (l3 : Int32) (l4 : Int32) (l5 : Int32) (l6 : Int32) (t0 : Int32) (t1 : Int32) (σ : Mm) : Option (Int32 × Mm) :=
  (f_X10_isBelow N t0 t1 σ).bind fun q1 =>
  if q1.1 = 0 then (
    some ((-1 : Int32), q1.2)) else (
    (gN 10 12 q1.2 l0).bind fun a3 =>
    (gN 10 7 q1.2 l0).bind fun a4 =>
    (aN 16 q1.2 a4 l1).bind fun a5 =>
    (ob 0 q1.2 a3).bind fun _ =>
    (f_X0_open N a3 a5 l3 q1.2).bind fun q6 =>
    f_X10_years_89 N N l0 l2 l4 l5 l6 (0 : Int32) (0 : Int32) q6)
def f_X10_years (N : Nat) (l0 : Nat) (l1 : Int32) (l2 : Int32) (l3 : Int32) (l4 : Int32) (l5 : Int32) (l6 : Int32) (σ : Mm) : Option (Int32 × Mm) :=
  (ob 10 σ l0).bind fun _ =>
  (f_X10_canBlow N l0 l1 (0 : Int32) l3 σ).bind fun q1 =>
  if q1.1 = 0 then (
    f_X10_years_45 N q1.2) else (
    if l3 < (1 : Int32) then (
      f_X10_years_45 N q1.2) else (
      if l2 < (1 : Int32) then (
        f_X10_years_45 N q1.2) else (
        if (366 : Int32) < l2 then (
          f_X10_years_45 N q1.2) else (
          (f_X10_isBelow N l4 (4 : Int32) q1.2).bind fun q6 =>
          if q6.1 = 0 then (
            f_X10_years_45 N q6.2) else (
            (f_X10_isBelow N l6 (3 : Int32) q6.2).bind fun q8 =>
            if q8.1 = 0 then (
              f_X10_years_45 N q8.2) else (
              if l6 = (2 : Int32) then (
                f_X10_years_61 N l0 l1 l2 l3 l4 l5 l6 l5 (4 : Int32) q8.2) else (
                f_X10_years_61 N l0 l1 l2 l3 l4 l5 l6 l5 (8 : Int32) q8.2)))))))
theorem mov_X10_years : MOV yX10_years M_X10_years 6 10 0 := ⟨⟨tw_96, tw_990, ⟨by decide, by decide⟩, by decide +kernel⟩, tw_988, tw_989, by decide, ⟨_, rfl, rfl⟩, rfl⟩
set_option maxRecDepth 4000 in
theorem s_X10_years_45 {Γ : Cn} {τ : Mm} {N : Nat} {σ : Mm} {o : Int32 × Mm} (h : f_X10_years_45 N σ = some o) : Gx Γ M_X10_years 0 τ (PI o) 0 0 45 [] [] σ := by
  unfold f_X10_years_45 at h
  refine gx_iconst (v := (-1 : Int32)) dX10_years_45 ic_m1 ?_
  have h := Option.some.inj h
  subst h
  exact gx_iret dX10_years_46 rfl (Nat.le_of_ble_eq_true rfl) (Nat.le_of_ble_eq_true rfl) ⟨rfl, rfl⟩
set_option maxRecDepth 4000 in
theorem s_X10_years_156 {Γ : Cn} {τ : Mm} {N : Nat} {r_89 : Nat → Int32 → Int32 → Int32 → Int32 → Int32 → Int32 → Mm → Option (Int32 × Mm)} (hr_89 : ∀ (l0 : Nat) (l2 : Int32) (l4 : Int32) (l5 : Int32) (l6 : Int32) (l7 : Int32) (l8 : Int32) (σ : Mm) (o : Int32 × Mm), r_89 l0 l2 l4 l5 l6 l7 l8 σ = some o → Gx Γ M_X10_years 0 τ (PI o) 0 0 89 [(0, .ref (Γ.B + pp l0)), (2, .int l2), (4, .int l4), (5, .int l5), (6, .int l6), (7, .int l7), (8, .int l8)] [] σ) {l0 : Nat} {l2 : Int32} {l4 : Int32} {l5 : Int32} {l6 : Int32} {l7 : Int32} {l8 : Int32} {σ : Mm} {o : Int32 × Mm} (h : f_X10_years_156 N r_89 l0 l2 l4 l5 l6 l7 l8 σ = some o) : Gx Γ M_X10_years 0 τ (PI o) 0 0 156 [(0, .ref (Γ.B + pp l0)), (2, .int l2), (4, .int l4), (5, .int l5), (6, .int l6), (7, .int l7), (8, .int l8)] [] σ := by
  unfold f_X10_years_156 at h
  refine gx_iinc (v := (l8 + (1 : Int32))) (lv' := [(8, .int (l8 + (1 : Int32))), (0, .ref (Γ.B + pp l0)), (2, .int l2), (4, .int l4), (5, .int l5), (6, .int l6), (7, .int l7)]) 6 dX10_years_156 rfl (by rw [ic_1]) (Nat.le_of_ble_eq_true rfl) rfl ?_
  refine gx_goto 89 dX10_years_159 (by decide) ?_
  exact gx_sub [1, 2, 3, 4, 5, 6, 0] rfl (hr_89 _ _ _ _ _ _ _ _ _ h)
set_option maxRecDepth 4000 in
theorem s_X10_years_150 {Γ : Cn} {τ : Mm} {N : Nat} {r_89 : Nat → Int32 → Int32 → Int32 → Int32 → Int32 → Int32 → Mm → Option (Int32 × Mm)} (hr_89 : ∀ (l0 : Nat) (l2 : Int32) (l4 : Int32) (l5 : Int32) (l6 : Int32) (l7 : Int32) (l8 : Int32) (σ : Mm) (o : Int32 × Mm), r_89 l0 l2 l4 l5 l6 l7 l8 σ = some o → Gx Γ M_X10_years 0 τ (PI o) 0 0 89 [(0, .ref (Γ.B + pp l0)), (2, .int l2), (4, .int l4), (5, .int l5), (6, .int l6), (7, .int l7), (8, .int l8)] [] σ) {l0 : Nat} {l2 : Int32} {l4 : Int32} {l5 : Int32} {l6 : Int32} {l7 : Int32} {l8 : Int32} {t0 : Int32} {t1 : Int32} {σ : Mm} {o : Int32 × Mm} (h : f_X10_years_150 N r_89 l0 l2 l4 l5 l6 l7 l8 t0 t1 σ = some o) : Gx Γ M_X10_years 0 τ (PI o) 0 0 150 [(0, .ref (Γ.B + pp l0)), (2, .int l2), (4, .int l4), (5, .int l5), (6, .int l6), (7, .int l7), (8, .int l8)] [.int t1, .int t0] σ := by
  unfold f_X10_years_150 at h
  refine gx_icmp_ne 156 dX10_years_150 (by decide) (fun c0 => ?_) (fun c0 => ?_)
  · rw [if_neg c0] at h
    exact s_X10_years_156 hr_89 h
  · rw [if_pos c0] at h
    refine gx_iinc (v := (l7 + (1 : Int32))) (lv' := [(7, .int (l7 + (1 : Int32))), (0, .ref (Γ.B + pp l0)), (2, .int l2), (4, .int l4), (5, .int l5), (6, .int l6), (8, .int l8)]) 5 dX10_years_153 rfl (by rw [ic_1]) (Nat.le_of_ble_eq_true rfl) rfl ?_
    exact gx_sub [1, 2, 3, 4, 5, 0, 6] rfl (s_X10_years_156 hr_89 h)
set_option maxRecDepth 4000 in
theorem s_X10_years_89 {Γ : Cn} {τ : Mm} {N : Nat} : ∀ (n : Nat) (l0 : Nat) (l2 : Int32) (l4 : Int32) (l5 : Int32) (l6 : Int32) (l7 : Int32) (l8 : Int32) (σ : Mm) (o : Int32 × Mm), f_X10_years_89 N n l0 l2 l4 l5 l6 l7 l8 σ = some o → Gx Γ M_X10_years 0 τ (PI o) 0 0 89 [(0, .ref (Γ.B + pp l0)), (2, .int l2), (4, .int l4), (5, .int l5), (6, .int l6), (7, .int l7), (8, .int l8)] [] σ := by
  intro n
  induction n with
  | zero =>
    intro l0 l2 l4 l5 l6 l7 l8 σ o h
    exact absurd h (by rw [f_X10_years_89]; exact fun q => nomatch q)
  | succ n ih =>
    intro l0 l2 l4 l5 l6 l7 l8 σ o h
    rw [f_X10_years_89] at h
    refine gx_iload 6 dX10_years_89 rfl ?_
    refine gx_iload_n 1 dX10_years_91 rfl rfl ?_
    refine gx_icmp_ge 162 dX10_years_92 (by decide) (fun c0 => ?_) (fun c0 => ?_)
    · rw [if_pos c0] at h
      refine gx_iload 5 dX10_years_162 rfl ?_
      have h := Option.some.inj h
      subst h
      exact gx_iret dX10_years_164 rfl (Nat.le_of_ble_eq_true rfl) (Nat.le_of_ble_eq_true rfl) ⟨rfl, rfl⟩
    · rw [if_neg c0] at h
      refine gx_aload_n 0 dX10_years_95 rfl rfl ?_
      obtain ⟨a2, ha2, h⟩ := bnd h
      refine gx_getN dX10_years_96 ha2 fl_X10_91 rfl ?_
      refine gx_iload 2 dX10_years_99 rfl ?_
      obtain ⟨_, hobq3, h⟩ := bnd h
      obtain ⟨q3, hq3, h⟩ := bnd h
      refine gx_cVI (As := [.int l4]) (st := []) (o := a2) dX10_years_101 (c_X0_voteOfNextDay hq3) mov_X0_voteOfNextDay tw_996 hobq3 rfl ⟨Nat.le_of_ble_eq_true rfl, Nat.le_of_ble_eq_true rfl⟩ (Nat.le_of_ble_eq_true rfl) ?_
      refine gx_istore (lv' := [(9, .int q3.1), (0, .ref (Γ.B + pp l0)), (2, .int l2), (4, .int l4), (5, .int l5), (6, .int l6), (7, .int l7), (8, .int l8)]) dX10_years_104 (Nat.le_of_ble_eq_true rfl) rfl ?_
      refine gx_iload 5 dX10_years_106 rfl ?_
      refine gx_iconst (v := (2 : Int32)) dX10_years_108 ic_2 ?_
      refine gx_icmp_ne 131 dX10_years_109 (by decide) (fun c3 => ?_) (fun c3 => ?_)
      · rw [if_neg c3] at h
        refine gx_iload 0 dX10_years_131 rfl ?_
        refine gx_iload 5 dX10_years_133 rfl ?_
        refine gx_if_ne 143 dX10_years_135 (by decide) (fun c4 => ?_) (fun c4 => ?_)
        · rw [if_neg c4] at h
          refine gx_aload_n 1 dX10_years_143 rfl rfl ?_
          obtain ⟨a6, ha6, h⟩ := bnd h
          refine gx_getN dX10_years_144 ha6 fl_X10_91 rfl ?_
          obtain ⟨x7, hx7, h⟩ := bnd h
          refine gx_getI dX10_years_147 hx7 fl_X10_298 rfl ?_
          exact gx_sub [1, 2, 3, 4, 5, 6, 7] rfl (s_X10_years_150 ih h)
        · rw [if_pos c4] at h
          refine gx_iload 4 dX10_years_138 rfl ?_
          refine gx_goto 150 dX10_years_140 (by decide) ?_
          exact gx_sub [1, 2, 3, 4, 5, 6, 7] rfl (s_X10_years_150 ih h)
      · rw [if_pos c3] at h
        refine gx_iload 6 dX10_years_112 rfl ?_
        refine gx_aload_n 1 dX10_years_114 rfl rfl ?_
        obtain ⟨a8, ha8, h⟩ := bnd h
        refine gx_getN dX10_years_115 ha8 fl_X10_42 rfl ?_
        refine gx_iload 4 dX10_years_118 rfl ?_
        refine gx_iload 0 dX10_years_120 rfl ?_
        obtain ⟨_, hobq9, h⟩ := bnd h
        obtain ⟨q9, hq9, h⟩ := bnd h
        refine gx_cVI (As := [.int l5, .int q3.1]) (st := [.int l7]) (o := a8) dX10_years_122 (c_X7_gain hq9) mov_X7_gain tw_707 hobq9 rfl ⟨Nat.le_of_ble_eq_true rfl, Nat.le_of_ble_eq_true rfl⟩ (Nat.le_of_ble_eq_true rfl) ?_
        refine gx_iadd dX10_years_125 ?_
        refine gx_istore (lv' := [(7, .int (l7 + q9.1)), (9, .int q3.1), (0, .ref (Γ.B + pp l0)), (2, .int l2), (4, .int l4), (5, .int l5), (6, .int l6), (8, .int l8)]) dX10_years_126 (Nat.le_of_ble_eq_true rfl) rfl ?_
        refine gx_goto 156 dX10_years_128 (by decide) ?_
        exact gx_sub [2, 3, 4, 5, 6, 0, 7] rfl (s_X10_years_156 ih h)
set_option maxRecDepth 4000 in
theorem s_X10_years_61 {Γ : Cn} {τ : Mm} {N : Nat} {l0 : Nat} {l1 : Int32} {l2 : Int32} {l3 : Int32} {l4 : Int32} {l5 : Int32} {l6 : Int32} {t0 : Int32} {t1 : Int32} {σ : Mm} {o : Int32 × Mm} (h : f_X10_years_61 N l0 l1 l2 l3 l4 l5 l6 t0 t1 σ = some o) : Gx Γ M_X10_years 0 τ (PI o) 0 0 61 [(0, .ref (Γ.B + pp l0)), (1, .int l1), (2, .int l2), (3, .int l3), (4, .int l4), (5, .int l5), (6, .int l6)] [.int t1, .int t0] σ := by
  unfold f_X10_years_61 at h
  obtain ⟨q1, hq1, h⟩ := bnd h
  refine gx_cSI (As := [.int t0, .int t1]) (st := []) dX10_years_61 (c_X10_isBelow hq1) mos_X10_isBelow tw_706 rfl ⟨Nat.le_of_ble_eq_true rfl, Nat.le_of_ble_eq_true rfl⟩ (Nat.le_of_ble_eq_true rfl) ?_
  refine gx_if_ne 69 dX10_years_64 (by decide) (fun c1 => ?_) (fun c1 => ?_)
  · rw [if_neg c1] at h
    refine gx_aload_n 0 dX10_years_69 rfl rfl ?_
    obtain ⟨a3, ha3, h⟩ := bnd h
    refine gx_getN dX10_years_70 ha3 fl_X10_91 rfl ?_
    refine gx_aload_n 0 dX10_years_73 rfl rfl ?_
    obtain ⟨a4, ha4, h⟩ := bnd h
    refine gx_getN dX10_years_74 ha4 fl_X10_55 rfl ?_
    refine gx_iload_n 1 dX10_years_77 rfl rfl ?_
    obtain ⟨a5, ha5, h⟩ := bnd h
    refine gx_aaldN (t0 := 4) (C := "MostCocks$Law") dX10_years_78 ha5 rfl (by decide) rfl rfl ?_
    refine gx_iload_n 3 dX10_years_79 rfl rfl ?_
    obtain ⟨_, hobq6, h⟩ := bnd h
    obtain ⟨q6, hq6, h⟩ := bnd h
    refine gx_cVV (As := [.ref (Γ.B + pp a5), .int l3]) (st := []) (o := a3) dX10_years_80 (c_X0_open hq6) mov_X0_open tw_991 hobq6 rfl ⟨Nat.le_of_ble_eq_true rfl, Nat.le_of_ble_eq_true rfl⟩ (Nat.le_of_ble_eq_true rfl) ?_
    refine gx_iconst (v := (0 : Int32)) dX10_years_83 ic_0 ?_
    refine gx_istore (lv' := [(7, .int (0 : Int32)), (0, .ref (Γ.B + pp l0)), (1, .int l1), (2, .int l2), (3, .int l3), (4, .int l4), (5, .int l5), (6, .int l6)]) dX10_years_84 (Nat.le_of_ble_eq_true rfl) rfl ?_
    refine gx_iconst (v := (0 : Int32)) dX10_years_86 ic_0 ?_
    refine gx_istore (lv' := [(8, .int (0 : Int32)), (7, .int (0 : Int32)), (0, .ref (Γ.B + pp l0)), (1, .int l1), (2, .int l2), (3, .int l3), (4, .int l4), (5, .int l5), (6, .int l6)]) dX10_years_87 (Nat.le_of_ble_eq_true rfl) rfl ?_
    exact gx_sub [2, 4, 6, 7, 8, 1, 0] rfl (s_X10_years_89  N _ _ _ _ _ _ _ _ _ h)
  · rw [if_pos c1] at h
    refine gx_iconst (v := (-1 : Int32)) dX10_years_67 ic_m1 ?_
    have h := Option.some.inj h
    subst h
    exact gx_iret dX10_years_68 rfl (Nat.le_of_ble_eq_true rfl) (Nat.le_of_ble_eq_true rfl) ⟨rfl, rfl⟩
set_option maxRecDepth 4000 in
theorem s_X10_years_0 {Γ : Cn} {τ : Mm} {N : Nat} {l0 : Nat} {l1 : Int32} {l2 : Int32} {l3 : Int32} {l4 : Int32} {l5 : Int32} {l6 : Int32} {σ : Mm} {o : Int32 × Mm} (h : f_X10_years N l0 l1 l2 l3 l4 l5 l6 σ = some o) : Gx Γ M_X10_years 0 τ (PI o) 0 0 0 [(0, .ref (Γ.B + pp l0)), (1, .int l1), (2, .int l2), (3, .int l3), (4, .int l4), (5, .int l5), (6, .int l6)] [] σ := by
  unfold f_X10_years at h
  refine gx_aload_n 0 dX10_years_0 rfl rfl ?_
  refine gx_iload_n 1 dX10_years_1 rfl rfl ?_
  refine gx_iconst (v := (0 : Int32)) dX10_years_2 ic_0 ?_
  refine gx_iload_n 3 dX10_years_3 rfl rfl ?_
  obtain ⟨_, hobq1, h⟩ := bnd h
  obtain ⟨q1, hq1, h⟩ := bnd h
  refine gx_cVI (As := [.int l1, .int (0 : Int32), .int l3]) (st := []) (o := l0) dX10_years_4 (c_X10_canBlow hq1) mov_X10_canBlow tw_731 hobq1 rfl ⟨Nat.le_of_ble_eq_true rfl, Nat.le_of_ble_eq_true rfl⟩ (Nat.le_of_ble_eq_true rfl) ?_
  refine gx_if_eq 45 dX10_years_7 (by decide) (fun c1 => ?_) (fun c1 => ?_)
  · rw [if_pos c1] at h
    exact gx_sub [] rfl (s_X10_years_45  h)
  · rw [if_neg c1] at h
    refine gx_iload_n 3 dX10_years_10 rfl rfl ?_
    refine gx_iconst (v := (1 : Int32)) dX10_years_11 ic_1 ?_
    refine gx_icmp_lt 45 dX10_years_12 (by decide) (fun c2 => ?_) (fun c2 => ?_)
    · rw [if_pos c2] at h
      exact gx_sub [] rfl (s_X10_years_45  h)
    · rw [if_neg c2] at h
      refine gx_iload_n 2 dX10_years_15 rfl rfl ?_
      refine gx_iconst (v := (1 : Int32)) dX10_years_16 ic_1 ?_
      refine gx_icmp_lt 45 dX10_years_17 (by decide) (fun c3 => ?_) (fun c3 => ?_)
      · rw [if_pos c3] at h
        exact gx_sub [] rfl (s_X10_years_45  h)
      · rw [if_neg c3] at h
        refine gx_iload_n 2 dX10_years_20 rfl rfl ?_
        refine gx_sipush (v := (366 : Int32)) dX10_years_21 is_366 ?_
        refine gx_icmp_gt 45 dX10_years_24 (by decide) (fun c4 => ?_) (fun c4 => ?_)
        · rw [if_pos c4] at h
          exact gx_sub [] rfl (s_X10_years_45  h)
        · rw [if_neg c4] at h
          refine gx_iload 4 dX10_years_27 rfl ?_
          refine gx_iconst (v := (4 : Int32)) dX10_years_29 ic_4 ?_
          obtain ⟨q6, hq6, h⟩ := bnd h
          refine gx_cSI (As := [.int l4, .int (4 : Int32)]) (st := []) dX10_years_30 (c_X10_isBelow hq6) mos_X10_isBelow tw_706 rfl ⟨Nat.le_of_ble_eq_true rfl, Nat.le_of_ble_eq_true rfl⟩ (Nat.le_of_ble_eq_true rfl) ?_
          refine gx_if_eq 45 dX10_years_33 (by decide) (fun c6 => ?_) (fun c6 => ?_)
          · rw [if_pos c6] at h
            exact gx_sub [] rfl (s_X10_years_45  h)
          · rw [if_neg c6] at h
            refine gx_iload 6 dX10_years_36 rfl ?_
            refine gx_iconst (v := (3 : Int32)) dX10_years_38 ic_3 ?_
            obtain ⟨q8, hq8, h⟩ := bnd h
            refine gx_cSI (As := [.int l6, .int (3 : Int32)]) (st := []) dX10_years_39 (c_X10_isBelow hq8) mos_X10_isBelow tw_706 rfl ⟨Nat.le_of_ble_eq_true rfl, Nat.le_of_ble_eq_true rfl⟩ (Nat.le_of_ble_eq_true rfl) ?_
            refine gx_if_ne 47 dX10_years_42 (by decide) (fun c8 => ?_) (fun c8 => ?_)
            · rw [if_neg c8] at h
              refine gx_iload 5 dX10_years_47 rfl ?_
              refine gx_iload 6 dX10_years_49 rfl ?_
              refine gx_iconst (v := (2 : Int32)) dX10_years_51 ic_2 ?_
              refine gx_icmp_ne 59 dX10_years_52 (by decide) (fun c9 => ?_) (fun c9 => ?_)
              · rw [if_neg c9] at h
                refine gx_bipush (v := (8 : Int32)) dX10_years_59 ib_8 ?_
                exact s_X10_years_61  h
              · rw [if_pos c9] at h
                refine gx_iconst (v := (4 : Int32)) dX10_years_55 ic_4 ?_
                refine gx_goto 61 dX10_years_56 (by decide) ?_
                exact s_X10_years_61  h
            · rw [if_pos c8] at h
              exact gx_sub [] rfl (s_X10_years_45  h)
theorem c_X10_years {Γ : Cn} {τ : Mm} {N : Nat} {l0 : Nat} {l1 : Int32} {l2 : Int32} {l3 : Int32} {l4 : Int32} {l5 : Int32} {l6 : Int32} {σ : Mm} {o : Int32 × Mm} (h : f_X10_years N l0 l1 l2 l3 l4 l5 l6 σ = some o) : Ct Γ M_X10_years yX10_years 0 τ [.ref (Γ.B + pp l0), .int l1, .int l2, .int l3, .int l4, .int l5, .int l6] σ (PI o) := ct_of (by decide) rfl (fun _ => by first | rfl | contradiction) (Nat.le_of_ble_eq_true rfl) (s_X10_years_0  h)
abbrev M_X10_count : Ms := (cX10_count, RX10, 2, (some .int), false, 0, 0, 1)
def f_X10_count (N : Nat) (l0 : Nat) (l1 : Int32) (σ : Mm) : Option (Int32 × Mm) :=
  if l1 = (0 : Int32) then (
    (gN 10 4 σ l0).bind fun a3 =>
    (gI 7 0 σ a3).bind fun x4 =>
    some (x4, σ)) else
  if l1 = (1 : Int32) then (
    (gN 10 4 σ l0).bind fun a6 =>
    (gI 7 8 σ a6).bind fun x7 =>
    some (x7, σ)) else
  if l1 = (2 : Int32) then (
    (gI 10 8 σ l0).bind fun x9 =>
    some (x9, σ)) else
  if l1 = (3 : Int32) then (
    (gN 10 4 σ l0).bind fun a11 =>
    (gI 7 11 σ a11).bind fun x12 =>
    (f_J6_bitCount_0f7a4 N x12 σ).bind fun q13 =>
    some (q13.1, q13.2)) else
  if l1 = (4 : Int32) then (
    (gN 10 4 σ l0).bind fun a15 =>
    (gI 7 13 σ a15).bind fun x16 =>
    some (x16, σ)) else
  if l1 = (5 : Int32) then (
    (gN 10 0 σ l0).bind fun a18 =>
    (gI 5 1 σ a18).bind fun x19 =>
    some (x19, σ)) else
  if l1 = (6 : Int32) then (
    (gN 10 4 σ l0).bind fun a21 =>
    (ob 7 σ a21).bind fun _ =>
    (f_X7_ageOfAll N a21 σ).bind fun q22 =>
    some (q22.1, q22.2)) else
  some ((-1 : Int32), σ)
theorem mov_X10_count : MOV yX10_count M_X10_count 1 10 0 := ⟨⟨tw_96, tw_1013, ⟨by decide, by decide⟩, by decide +kernel⟩, tw_1011, tw_1012, by decide, ⟨_, rfl, rfl⟩, rfl⟩
set_option maxRecDepth 4000 in
theorem s_X10_count_0 {Γ : Cn} {τ : Mm} {N : Nat} {l0 : Nat} {l1 : Int32} {σ : Mm} {o : Int32 × Mm} (h : f_X10_count N l0 l1 σ = some o) : Gx Γ M_X10_count 0 τ (PI o) 0 0 0 [(0, .ref (Γ.B + pp l0)), (1, .int l1)] [] σ := by
  unfold f_X10_count at h
  refine gx_iload_n 1 dX10_count_0 rfl rfl ?_
  by_cases c1 : l1 = (0 : Int32)
  · rw [if_pos c1] at h
    refine gx_tIn 44 dX10_count_1 (by rw [c1]; decide) (by rw [c1]; decide) (by rw [c1]; rfl) (by decide) ?_
    refine gx_aload_n 0 dX10_count_44 rfl rfl ?_
    obtain ⟨a3, ha3, h⟩ := bnd h
    refine gx_getN dX10_count_45 ha3 fl_X10_42 rfl ?_
    obtain ⟨x4, hx4, h⟩ := bnd h
    refine gx_getI dX10_count_48 hx4 fl_X10_128 rfl ?_
    have h := Option.some.inj h
    subst h
    exact gx_iret dX10_count_51 rfl (Nat.le_of_ble_eq_true rfl) (Nat.le_of_ble_eq_true rfl) ⟨rfl, rfl⟩
  rw [if_neg c1] at h
  by_cases c4 : l1 = (1 : Int32)
  · rw [if_pos c4] at h
    refine gx_tIn 52 dX10_count_1 (by rw [c4]; decide) (by rw [c4]; decide) (by rw [c4]; rfl) (by decide) ?_
    refine gx_aload_n 0 dX10_count_52 rfl rfl ?_
    obtain ⟨a6, ha6, h⟩ := bnd h
    refine gx_getN dX10_count_53 ha6 fl_X10_42 rfl ?_
    obtain ⟨x7, hx7, h⟩ := bnd h
    refine gx_getI dX10_count_56 hx7 fl_X10_262 rfl ?_
    have h := Option.some.inj h
    subst h
    exact gx_iret dX10_count_59 rfl (Nat.le_of_ble_eq_true rfl) (Nat.le_of_ble_eq_true rfl) ⟨rfl, rfl⟩
  rw [if_neg c4] at h
  by_cases c7 : l1 = (2 : Int32)
  · rw [if_pos c7] at h
    refine gx_tIn 60 dX10_count_1 (by rw [c7]; decide) (by rw [c7]; decide) (by rw [c7]; rfl) (by decide) ?_
    refine gx_aload_n 0 dX10_count_60 rfl rfl ?_
    obtain ⟨x9, hx9, h⟩ := bnd h
    refine gx_getI dX10_count_61 hx9 fl_X10_59 rfl ?_
    have h := Option.some.inj h
    subst h
    exact gx_iret dX10_count_64 rfl (Nat.le_of_ble_eq_true rfl) (Nat.le_of_ble_eq_true rfl) ⟨rfl, rfl⟩
  rw [if_neg c7] at h
  by_cases c9 : l1 = (3 : Int32)
  · rw [if_pos c9] at h
    refine gx_tIn 65 dX10_count_1 (by rw [c9]; decide) (by rw [c9]; decide) (by rw [c9]; rfl) (by decide) ?_
    refine gx_aload_n 0 dX10_count_65 rfl rfl ?_
    obtain ⟨a11, ha11, h⟩ := bnd h
    refine gx_getN dX10_count_66 ha11 fl_X10_42 rfl ?_
    obtain ⟨x12, hx12, h⟩ := bnd h
    refine gx_getI dX10_count_69 hx12 fl_X10_168 rfl ?_
    obtain ⟨q13, hq13, h⟩ := bnd h
    refine gx_cSI (As := [.int x12]) (st := []) dX10_count_72 (c_J6_bitCount_0f7a4 hq13) mos_J6_bitCount_0f7a4 tw_947 rfl ⟨Nat.le_of_ble_eq_true rfl, Nat.le_of_ble_eq_true rfl⟩ (Nat.le_of_ble_eq_true rfl) ?_
    have h := Option.some.inj h
    subst h
    exact gx_iret dX10_count_75 rfl (Nat.le_of_ble_eq_true rfl) (Nat.le_of_ble_eq_true rfl) ⟨rfl, rfl⟩
  rw [if_neg c9] at h
  by_cases c13 : l1 = (4 : Int32)
  · rw [if_pos c13] at h
    refine gx_tIn 76 dX10_count_1 (by rw [c13]; decide) (by rw [c13]; decide) (by rw [c13]; rfl) (by decide) ?_
    refine gx_aload_n 0 dX10_count_76 rfl rfl ?_
    obtain ⟨a15, ha15, h⟩ := bnd h
    refine gx_getN dX10_count_77 ha15 fl_X10_42 rfl ?_
    obtain ⟨x16, hx16, h⟩ := bnd h
    refine gx_getI dX10_count_80 hx16 fl_X10_121 rfl ?_
    have h := Option.some.inj h
    subst h
    exact gx_iret dX10_count_83 rfl (Nat.le_of_ble_eq_true rfl) (Nat.le_of_ble_eq_true rfl) ⟨rfl, rfl⟩
  rw [if_neg c13] at h
  by_cases c16 : l1 = (5 : Int32)
  · rw [if_pos c16] at h
    refine gx_tIn 84 dX10_count_1 (by rw [c16]; decide) (by rw [c16]; decide) (by rw [c16]; rfl) (by decide) ?_
    refine gx_aload_n 0 dX10_count_84 rfl rfl ?_
    obtain ⟨a18, ha18, h⟩ := bnd h
    refine gx_getN dX10_count_85 ha18 fl_X10_10 rfl ?_
    obtain ⟨x19, hx19, h⟩ := bnd h
    refine gx_getI dX10_count_88 hx19 fl_X10_100 rfl ?_
    have h := Option.some.inj h
    subst h
    exact gx_iret dX10_count_91 rfl (Nat.le_of_ble_eq_true rfl) (Nat.le_of_ble_eq_true rfl) ⟨rfl, rfl⟩
  rw [if_neg c16] at h
  by_cases c19 : l1 = (6 : Int32)
  · rw [if_pos c19] at h
    refine gx_tIn 92 dX10_count_1 (by rw [c19]; decide) (by rw [c19]; decide) (by rw [c19]; rfl) (by decide) ?_
    refine gx_aload_n 0 dX10_count_92 rfl rfl ?_
    obtain ⟨a21, ha21, h⟩ := bnd h
    refine gx_getN dX10_count_93 ha21 fl_X10_42 rfl ?_
    obtain ⟨_, hobq22, h⟩ := bnd h
    obtain ⟨q22, hq22, h⟩ := bnd h
    refine gx_cVI (As := []) (st := []) (o := a21) dX10_count_96 (c_X7_ageOfAll hq22) mov_X7_ageOfAll tw_1014 hobq22 rfl ⟨Nat.le_of_ble_eq_true rfl, Nat.le_of_ble_eq_true rfl⟩ (Nat.le_of_ble_eq_true rfl) ?_
    have h := Option.some.inj h
    subst h
    exact gx_iret dX10_count_99 rfl (Nat.le_of_ble_eq_true rfl) (Nat.le_of_ble_eq_true rfl) ⟨rfl, rfl⟩
  rw [if_neg c19] at h
  have K23 : Gx Γ M_X10_count 0 τ (PI o) 0 0 100 [(0, .ref (Γ.B + pp l0)), (1, .int l1)] [] σ := by
    refine gx_iconst (v := (-1 : Int32)) dX10_count_100 ic_m1 ?_
    have h := Option.some.inj h
    subst h
    exact gx_iret dX10_count_101 rfl (Nat.le_of_ble_eq_true rfl) (Nat.le_of_ble_eq_true rfl) ⟨rfl, rfl⟩
  by_cases hr : l1.toInt < (0) ∨ (6) < l1.toInt
  · exact gx_tOut 100 dX10_count_1 hr (by decide) K23
  · obtain ⟨j, hj, hx⟩ := sw_in hr
    match j, hj, hx with
    | 0, _, hx => exact absurd hx c1
    | 1, _, hx => exact absurd hx c4
    | 2, _, hx => exact absurd hx c7
    | 3, _, hx => exact absurd hx c9
    | 4, _, hx => exact absurd hx c13
    | 5, _, hx => exact absurd hx c16
    | 6, _, hx => exact absurd hx c19
    | j + 7, hj, _ => exact absurd hj (by omega)
theorem c_X10_count {Γ : Cn} {τ : Mm} {N : Nat} {l0 : Nat} {l1 : Int32} {σ : Mm} {o : Int32 × Mm} (h : f_X10_count N l0 l1 σ = some o) : Ct Γ M_X10_count yX10_count 0 τ [.ref (Γ.B + pp l0), .int l1] σ (PI o) := ct_of (by decide) rfl (fun _ => by first | rfl | contradiction) (Nat.le_of_ble_eq_true rfl) (s_X10_count_0  h)
abbrev M_X10_image : Ms := (cX10_image, RX10, 3, (some .int), false, 11, 154, 2)
def f_X10_image (N : Nat) (l0 : Nat) (l1 : Int32) (σ : Mm) : Option (Int32 × Mm) :=
  (f_X10_isBelow N l1 (4 : Int32) σ).bind fun q1 =>
  if q1.1 = 0 then (
    some ((-1 : Int32), q1.2)) else (
    (gN 10 6 q1.2 l0).bind fun a3 =>
    (aQ 17 q1.2 a3 l1).bind fun r4 =>
    if r4 = none then (
      (nO 7 q1.2).bind fun s13 =>
      (f_X7_init N (pq (nn q1.2)) s13).bind fun q14 =>
      if nn q14 = nn s13 + 10 then
      (gN 10 4 q14 l0).bind fun a16 =>
      (ob 7 q14 (pq (nn q1.2))).bind fun _ =>
      (f_X7_become N (pq (nn q1.2)) a16 q14).bind fun q17 =>
      (gN 10 6 q17 l0).bind fun a18 =>
      (sN 17 7 q17 a18 l1 (pq (nn q1.2))).bind fun s19 =>
      (gN 10 4 s19 l0).bind fun a20 =>
      (gI 7 0 s19 a20).bind fun x21 =>
      some (x21, s19) else none) else (
      (gN 10 6 q1.2 l0).bind fun a5 =>
      (aN 17 q1.2 a5 l1).bind fun a6 =>
      (gN 10 4 q1.2 l0).bind fun a7 =>
      (ob 7 q1.2 a6).bind fun _ =>
      (f_X7_become N a6 a7 q1.2).bind fun q8 =>
      (gN 10 6 q8 l0).bind fun a9 =>
      (sN 17 7 q8 a9 l1 a6).bind fun s10 =>
      (gN 10 4 s10 l0).bind fun a11 =>
      (gI 7 0 s10 a11).bind fun x12 =>
      some (x12, s10)))
theorem mov_X10_image : MOV yX10_image M_X10_image 1 10 0 := ⟨⟨tw_96, tw_1021, ⟨by decide, by decide⟩, by decide +kernel⟩, tw_1019, tw_1020, by decide, ⟨_, rfl, rfl⟩, rfl⟩
set_option maxRecDepth 4000 in
theorem s_X10_image_0 {Γ : Cn} {τ : Mm} {N : Nat} {l0 : Nat} {l1 : Int32} {σ : Mm} {o : Int32 × Mm} (h : f_X10_image N l0 l1 σ = some o) : Gx Γ M_X10_image 0 τ (PI o) 0 0 0 [(0, .ref (Γ.B + pp l0)), (1, .int l1)] [] σ := by
  unfold f_X10_image at h
  refine gx_iload_n 1 dX10_image_0 rfl rfl ?_
  refine gx_iconst (v := (4 : Int32)) dX10_image_1 ic_4 ?_
  obtain ⟨q1, hq1, h⟩ := bnd h
  refine gx_cSI (As := [.int l1, .int (4 : Int32)]) (st := []) dX10_image_2 (c_X10_isBelow hq1) mos_X10_isBelow tw_706 rfl ⟨Nat.le_of_ble_eq_true rfl, Nat.le_of_ble_eq_true rfl⟩ (Nat.le_of_ble_eq_true rfl) ?_
  refine gx_if_ne 10 dX10_image_5 (by decide) (fun c1 => ?_) (fun c1 => ?_)
  · rw [if_neg c1] at h
    refine gx_aload_n 0 dX10_image_10 rfl rfl ?_
    obtain ⟨a3, ha3, h⟩ := bnd h
    refine gx_getN dX10_image_11 ha3 fl_X10_49 rfl ?_
    refine gx_iload_n 1 dX10_image_14 rfl rfl ?_
    obtain ⟨r4, hr4, h⟩ := bnd h
    refine gx_aald (t0 := 5) (C := "MostCocks$Valley") dX10_image_15 hr4 rfl (by decide) rfl rfl ?_
    by_cases c21 : r4 = none
    · rw [if_pos c21] at h
      subst c21
      refine gx_nonnullN dX10_image_16 ?_
      obtain ⟨s13, hs13, h⟩ := bnd h
      refine gx_new dX10_image_19 hs13 nw_X10_39 rfl (Nat.le_of_ble_eq_true rfl) (Nat.le_of_ble_eq_true rfl) ?_
      refine gx_dup dX10_image_22 rfl ?_
      obtain ⟨q14, hq14, h⟩ := bnd h
      obtain ⟨g14, h⟩ := of_if h
      refine gx_cINV (As := []) (st := [.ref (Γ.B + pp (pq (nn q1.2)))]) (o := (pq (nn q1.2))) (k' := 11) (n' := 154) dX10_image_23 (c_X7_init hq14) moi_X7_init (by decide) rfl ⟨Nat.le_of_ble_eq_true rfl, Nat.le_of_ble_eq_true rfl⟩ (Nat.le_of_ble_eq_true rfl) rfl rfl (Nat.le_of_ble_eq_true rfl) (Nat.le_of_ble_eq_true rfl) g14 ?_
      refine gx_goto 35 dX10_image_26 (by decide) ?_
      refine gx_astore_n (lv' := [(2, .ref (Γ.B + pp (pq (nn q1.2)))), (0, .ref (Γ.B + pp l0)), (1, .int l1)]) dX10_image_35 rfl (Nat.le_of_ble_eq_true rfl) rfl ?_
      refine gx_aload_n 0 dX10_image_36 rfl rfl ?_
      refine gx_aload_n 1 dX10_image_37 rfl rfl ?_
      obtain ⟨a16, ha16, h⟩ := bnd h
      refine gx_getN dX10_image_38 ha16 fl_X10_42 rfl ?_
      obtain ⟨_, hobq17, h⟩ := bnd h
      obtain ⟨q17, hq17, h⟩ := bnd h
      refine gx_cVV (As := [.ref (Γ.B + pp a16)]) (st := []) (o := (pq (nn q1.2))) dX10_image_41 (c_X7_become hq17) mov_X7_become tw_624 hobq17 rfl ⟨Nat.le_of_ble_eq_true rfl, Nat.le_of_ble_eq_true rfl⟩ (Nat.le_of_ble_eq_true rfl) ?_
      refine gx_aload_n 1 dX10_image_44 rfl rfl ?_
      obtain ⟨a18, ha18, h⟩ := bnd h
      refine gx_getN dX10_image_45 ha18 fl_X10_49 rfl ?_
      refine gx_iload_n 2 dX10_image_48 rfl rfl ?_
      refine gx_aload_n 0 dX10_image_49 rfl rfl ?_
      obtain ⟨s19, hs19, h⟩ := bnd h
      refine gx_aast (t0 := 5) (c := 7) dX10_image_50 hs19 rfl (by decide) rfl rfl (by decide) rfl rfl ?_
      refine gx_aload_n 1 dX10_image_51 rfl rfl ?_
      obtain ⟨a20, ha20, h⟩ := bnd h
      refine gx_getN dX10_image_52 ha20 fl_X10_42 rfl ?_
      obtain ⟨x21, hx21, h⟩ := bnd h
      refine gx_getI dX10_image_55 hx21 fl_X10_128 rfl ?_
      have h := Option.some.inj h
      subst h
      exact gx_iret dX10_image_58 rfl (Nat.le_of_ble_eq_true rfl) (Nat.le_of_ble_eq_true rfl) ⟨rfl, rfl⟩
    · rw [if_neg c21] at h
      obtain ⟨zc21, rfl⟩ := Option.ne_none_iff_exists'.mp c21
      refine gx_nonnull 29 dX10_image_16 (by decide) ?_
      refine gx_aload_n 0 dX10_image_29 rfl rfl ?_
      obtain ⟨a5, ha5, h⟩ := bnd h
      refine gx_getN dX10_image_30 ha5 fl_X10_49 rfl ?_
      refine gx_iload_n 1 dX10_image_33 rfl rfl ?_
      obtain ⟨a6, ha6, h⟩ := bnd h
      refine gx_aaldN (t0 := 5) (C := "MostCocks$Valley") dX10_image_34 ha6 rfl (by decide) rfl rfl ?_
      refine gx_astore_n (lv' := [(2, .ref (Γ.B + pp a6)), (0, .ref (Γ.B + pp l0)), (1, .int l1)]) dX10_image_35 rfl (Nat.le_of_ble_eq_true rfl) rfl ?_
      refine gx_aload_n 0 dX10_image_36 rfl rfl ?_
      refine gx_aload_n 1 dX10_image_37 rfl rfl ?_
      obtain ⟨a7, ha7, h⟩ := bnd h
      refine gx_getN dX10_image_38 ha7 fl_X10_42 rfl ?_
      obtain ⟨_, hobq8, h⟩ := bnd h
      obtain ⟨q8, hq8, h⟩ := bnd h
      refine gx_cVV (As := [.ref (Γ.B + pp a7)]) (st := []) (o := a6) dX10_image_41 (c_X7_become hq8) mov_X7_become tw_624 hobq8 rfl ⟨Nat.le_of_ble_eq_true rfl, Nat.le_of_ble_eq_true rfl⟩ (Nat.le_of_ble_eq_true rfl) ?_
      refine gx_aload_n 1 dX10_image_44 rfl rfl ?_
      obtain ⟨a9, ha9, h⟩ := bnd h
      refine gx_getN dX10_image_45 ha9 fl_X10_49 rfl ?_
      refine gx_iload_n 2 dX10_image_48 rfl rfl ?_
      refine gx_aload_n 0 dX10_image_49 rfl rfl ?_
      obtain ⟨s10, hs10, h⟩ := bnd h
      refine gx_aast (t0 := 5) (c := 7) dX10_image_50 hs10 rfl (by decide) rfl rfl (by decide) rfl rfl ?_
      refine gx_aload_n 1 dX10_image_51 rfl rfl ?_
      obtain ⟨a11, ha11, h⟩ := bnd h
      refine gx_getN dX10_image_52 ha11 fl_X10_42 rfl ?_
      obtain ⟨x12, hx12, h⟩ := bnd h
      refine gx_getI dX10_image_55 hx12 fl_X10_128 rfl ?_
      have h := Option.some.inj h
      subst h
      exact gx_iret dX10_image_58 rfl (Nat.le_of_ble_eq_true rfl) (Nat.le_of_ble_eq_true rfl) ⟨rfl, rfl⟩
  · rw [if_pos c1] at h
    refine gx_iconst (v := (-1 : Int32)) dX10_image_8 ic_m1 ?_
    have h := Option.some.inj h
    subst h
    exact gx_iret dX10_image_9 rfl (Nat.le_of_ble_eq_true rfl) (Nat.le_of_ble_eq_true rfl) ⟨rfl, rfl⟩
theorem c_X10_image {Γ : Cn} {τ : Mm} {N : Nat} {l0 : Nat} {l1 : Int32} {σ : Mm} {o : Int32 × Mm} (h : f_X10_image N l0 l1 σ = some o) : Ct Γ M_X10_image yX10_image 0 τ [.ref (Γ.B + pp l0), .int l1] σ (PI o) := ct_of (by decide) rfl (fun _ => by first | rfl | contradiction) (Nat.le_of_ble_eq_true rfl) (s_X10_image_0  h)
abbrev M_X10_back : Ms := (cX10_back, RX10, 2, (some .int), false, 0, 0, 2)
def f_X10_back_17 (N : Nat) (σ : Mm) : Option (Int32 × Mm) :=
  some ((-1 : Int32), σ)
def f_X10_back (N : Nat) (l0 : Nat) (l1 : Int32) (σ : Mm) : Option (Int32 × Mm) :=
  (f_X10_isBelow N l1 (4 : Int32) σ).bind fun q1 =>
  if q1.1 = 0 then (
    f_X10_back_17 N q1.2) else (
    (gN 10 6 q1.2 l0).bind fun a3 =>
    (aQ 17 q1.2 a3 l1).bind fun r4 =>
    if r4 = none then (
      f_X10_back_17 N q1.2) else (
      (gN 10 4 q1.2 l0).bind fun a5 =>
      (gN 10 6 q1.2 l0).bind fun a6 =>
      (aN 17 q1.2 a6 l1).bind fun a7 =>
      (ob 7 q1.2 a5).bind fun _ =>
      (f_X7_become N a5 a7 q1.2).bind fun q8 =>
      (gN 10 4 q8 l0).bind fun a9 =>
      (gI 7 0 q8 a9).bind fun x10 =>
      some (x10, q8)))
theorem mov_X10_back : MOV yX10_back M_X10_back 1 10 0 := ⟨⟨tw_96, tw_1025, ⟨by decide, by decide⟩, by decide +kernel⟩, tw_1023, tw_1024, by decide, ⟨_, rfl, rfl⟩, rfl⟩
set_option maxRecDepth 4000 in
theorem s_X10_back_17 {Γ : Cn} {τ : Mm} {N : Nat} {σ : Mm} {o : Int32 × Mm} (h : f_X10_back_17 N σ = some o) : Gx Γ M_X10_back 0 τ (PI o) 0 0 17 [] [] σ := by
  unfold f_X10_back_17 at h
  refine gx_iconst (v := (-1 : Int32)) dX10_back_17 ic_m1 ?_
  have h := Option.some.inj h
  subst h
  exact gx_iret dX10_back_18 rfl (Nat.le_of_ble_eq_true rfl) (Nat.le_of_ble_eq_true rfl) ⟨rfl, rfl⟩
set_option maxRecDepth 4000 in
theorem s_X10_back_0 {Γ : Cn} {τ : Mm} {N : Nat} {l0 : Nat} {l1 : Int32} {σ : Mm} {o : Int32 × Mm} (h : f_X10_back N l0 l1 σ = some o) : Gx Γ M_X10_back 0 τ (PI o) 0 0 0 [(0, .ref (Γ.B + pp l0)), (1, .int l1)] [] σ := by
  unfold f_X10_back at h
  refine gx_iload_n 1 dX10_back_0 rfl rfl ?_
  refine gx_iconst (v := (4 : Int32)) dX10_back_1 ic_4 ?_
  obtain ⟨q1, hq1, h⟩ := bnd h
  refine gx_cSI (As := [.int l1, .int (4 : Int32)]) (st := []) dX10_back_2 (c_X10_isBelow hq1) mos_X10_isBelow tw_706 rfl ⟨Nat.le_of_ble_eq_true rfl, Nat.le_of_ble_eq_true rfl⟩ (Nat.le_of_ble_eq_true rfl) ?_
  refine gx_if_eq 17 dX10_back_5 (by decide) (fun c1 => ?_) (fun c1 => ?_)
  · rw [if_pos c1] at h
    exact gx_sub [] rfl (s_X10_back_17  h)
  · rw [if_neg c1] at h
    refine gx_aload_n 0 dX10_back_8 rfl rfl ?_
    obtain ⟨a3, ha3, h⟩ := bnd h
    refine gx_getN dX10_back_9 ha3 fl_X10_49 rfl ?_
    refine gx_iload_n 1 dX10_back_12 rfl rfl ?_
    obtain ⟨r4, hr4, h⟩ := bnd h
    refine gx_aald (t0 := 5) (C := "MostCocks$Valley") dX10_back_13 hr4 rfl (by decide) rfl rfl ?_
    by_cases c10 : r4 = none
    · rw [if_pos c10] at h
      subst c10
      refine gx_nonnullN dX10_back_14 ?_
      exact gx_sub [] rfl (s_X10_back_17  h)
    · rw [if_neg c10] at h
      obtain ⟨zc10, rfl⟩ := Option.ne_none_iff_exists'.mp c10
      refine gx_nonnull 19 dX10_back_14 (by decide) ?_
      refine gx_aload_n 0 dX10_back_19 rfl rfl ?_
      obtain ⟨a5, ha5, h⟩ := bnd h
      refine gx_getN dX10_back_20 ha5 fl_X10_42 rfl ?_
      refine gx_aload_n 0 dX10_back_23 rfl rfl ?_
      obtain ⟨a6, ha6, h⟩ := bnd h
      refine gx_getN dX10_back_24 ha6 fl_X10_49 rfl ?_
      refine gx_iload_n 1 dX10_back_27 rfl rfl ?_
      obtain ⟨a7, ha7, h⟩ := bnd h
      refine gx_aaldN (t0 := 5) (C := "MostCocks$Valley") dX10_back_28 ha7 rfl (by decide) rfl rfl ?_
      obtain ⟨_, hobq8, h⟩ := bnd h
      obtain ⟨q8, hq8, h⟩ := bnd h
      refine gx_cVV (As := [.ref (Γ.B + pp a7)]) (st := []) (o := a5) dX10_back_29 (c_X7_become hq8) mov_X7_become tw_624 hobq8 rfl ⟨Nat.le_of_ble_eq_true rfl, Nat.le_of_ble_eq_true rfl⟩ (Nat.le_of_ble_eq_true rfl) ?_
      refine gx_aload_n 0 dX10_back_32 rfl rfl ?_
      obtain ⟨a9, ha9, h⟩ := bnd h
      refine gx_getN dX10_back_33 ha9 fl_X10_42 rfl ?_
      obtain ⟨x10, hx10, h⟩ := bnd h
      refine gx_getI dX10_back_36 hx10 fl_X10_128 rfl ?_
      have h := Option.some.inj h
      subst h
      exact gx_iret dX10_back_39 rfl (Nat.le_of_ble_eq_true rfl) (Nat.le_of_ble_eq_true rfl) ⟨rfl, rfl⟩
theorem c_X10_back {Γ : Cn} {τ : Mm} {N : Nat} {l0 : Nat} {l1 : Int32} {σ : Mm} {o : Int32 × Mm} (h : f_X10_back N l0 l1 σ = some o) : Ct Γ M_X10_back yX10_back 0 τ [.ref (Γ.B + pp l0), .int l1] σ (PI o) := ct_of (by decide) rfl (fun _ => by first | rfl | contradiction) (Nat.le_of_ble_eq_true rfl) (s_X10_back_0  h)
