abbrev M_X10_blow : Ms := (cX10_blow, RX10, 6, (some .int), false, 0, 0, 4)
def f_X10_blow_15 (N : Nat) (σ : Mm) : Option (Int32 × Mm) :=
  some ((-1 : Int32), σ)
def f_X10_blow_95 (N : Nat) (r_53 : Nat → Int32 → Int32 → Mm → Option (Int32 × Mm)) (l0 : Nat) (l4 : Int32) (l5 : Int32) (σ : Mm) : Option (Int32 × Mm) :=
  (gN 10 4 σ l0).bind fun a1 =>
  (gN 7 6 σ a1).bind fun a2 =>
  (gN 10 13 σ l0).bind fun a3 =>
  (aI 13 σ a3 l5).bind fun x4 =>
  (sI 13 σ a2 l5 x4).bind fun s5 =>
  r_53 l0 l4 (l5 + (1 : Int32)) s5
def f_X10_blow_118 (N : Nat) (l4 : Int32) (σ : Mm) : Option (Int32 × Mm) :=
  some (l4, σ)
def f_X10_blow_53 (N : Nat) : Nat → Nat → Int32 → Int32 → Mm → Option (Int32 × Mm)
  | 0, _, _, _, _ => none
  | n + 1, l0, l4, l5, σ =>
      (gN 10 4 σ l0).bind fun a1 =>
      (gI 7 0 σ a1).bind fun x2 =>
      if x2 ≤ l5 then (
        f_X10_blow_118 N l4 σ) else (
        if (12 : Int32) ≤ l5 then (
          f_X10_blow_118 N l4 σ) else (
          (gN 10 13 σ l0).bind fun a5 =>
          (aI 13 σ a5 l5).bind fun x6 =>
          (gN 10 4 σ l0).bind fun a7 =>
          (gN 7 6 σ a7).bind fun a8 =>
          (aI 13 σ a8 l5).bind fun x9 =>
          if x6 = x9 then (
            f_X10_blow_95 N (f_X10_blow_53 N n) l0 l4 l5 σ) else (
            f_X10_blow_95 N (f_X10_blow_53 N n) l0 (l4 + (1 : Int32)) l5 σ)))
def f_X10_blow (N : Nat) (l0 : Nat) (l1 : Int32) (l2 : Int32) (l3 : Int32) (σ : Mm) : Option (Int32 × Mm) :=
  (ob 10 σ l0).bind fun _ =>
  (f_X10_canBlow N l0 l1 l2 l3 σ).bind fun q1 =>
  if q1.1 = 0 then (
    f_X10_blow_15 N q1.2) else (
    if (1 : Int32) ≤ l3 then (
      (gN 10 9 q1.2 l0).bind fun a4 =>
      (gN 10 7 q1.2 l0).bind fun a5 =>
      (aN 16 q1.2 a5 l1).bind fun a6 =>
      (gN 10 4 q1.2 l0).bind fun a7 =>
      (gN 10 4 q1.2 l0).bind fun a8 =>
      (gI 7 11 q1.2 a8).bind fun x9 =>
      (gN 10 13 q1.2 l0).bind fun a10 =>
      (ob 9 q1.2 a4).bind fun _ =>
      (f_X9_turnAll N a4 a6 a7 l2 l3 x9 a10 q1.2).bind fun q11 =>
      f_X10_blow_53 N N l0 (0 : Int32) (0 : Int32) q11) else (
      f_X10_blow_15 N q1.2))
theorem mov_X10_blow : MOV yX10_blow M_X10_blow 3 10 0 := ⟨⟨tw_96, tw_730, ⟨by decide, by decide⟩, by decide +kernel⟩, tw_728, tw_729, by decide, ⟨_, rfl, rfl⟩, rfl⟩
set_option maxRecDepth 4000 in
theorem s_X10_blow_15 {Γ : Cn} {τ : Mm} {N : Nat} {σ : Mm} {o : Int32 × Mm} (h : f_X10_blow_15 N σ = some o) : Gx Γ M_X10_blow 0 τ (PI o) 0 0 15 [] [] σ := by
  unfold f_X10_blow_15 at h
  refine gx_iconst (v := (-1 : Int32)) dX10_blow_15 ic_m1 ?_
  have h := Option.some.inj h
  subst h
  exact gx_iret dX10_blow_16 rfl (Nat.le_of_ble_eq_true rfl) (Nat.le_of_ble_eq_true rfl) ⟨rfl, rfl⟩
set_option maxRecDepth 4000 in
theorem s_X10_blow_95 {Γ : Cn} {τ : Mm} {N : Nat} {r_53 : Nat → Int32 → Int32 → Mm → Option (Int32 × Mm)} (hr_53 : ∀ (l0 : Nat) (l4 : Int32) (l5 : Int32) (σ : Mm) (o : Int32 × Mm), r_53 l0 l4 l5 σ = some o → Gx Γ M_X10_blow 0 τ (PI o) 0 0 53 [(0, .ref (Γ.B + pp l0)), (4, .int l4), (5, .int l5)] [] σ) {l0 : Nat} {l4 : Int32} {l5 : Int32} {σ : Mm} {o : Int32 × Mm} (h : f_X10_blow_95 N r_53 l0 l4 l5 σ = some o) : Gx Γ M_X10_blow 0 τ (PI o) 0 0 95 [(0, .ref (Γ.B + pp l0)), (4, .int l4), (5, .int l5)] [] σ := by
  unfold f_X10_blow_95 at h
  refine gx_aload_n 0 dX10_blow_95 rfl rfl ?_
  obtain ⟨a1, ha1, h⟩ := bnd h
  refine gx_getN dX10_blow_96 ha1 fl_X10_42 rfl ?_
  obtain ⟨a2, ha2, h⟩ := bnd h
  refine gx_getN dX10_blow_99 ha2 fl_X10_153 rfl ?_
  refine gx_iload 2 dX10_blow_102 rfl ?_
  refine gx_aload_n 0 dX10_blow_104 rfl rfl ?_
  obtain ⟨a3, ha3, h⟩ := bnd h
  refine gx_getN dX10_blow_105 ha3 fl_X10_95 rfl ?_
  refine gx_iload 2 dX10_blow_108 rfl ?_
  obtain ⟨x4, hx4, h⟩ := bnd h
  refine gx_iald (kd := 13) dX10_blow_110 hx4 rfl rfl ?_
  obtain ⟨s5, hs5, h⟩ := bnd h
  refine gx_iast (kd := 13) dX10_blow_111 hs5 rfl rfl ?_
  refine gx_iinc (v := (l5 + (1 : Int32))) (lv' := [(5, .int (l5 + (1 : Int32))), (0, .ref (Γ.B + pp l0)), (4, .int l4)]) 2 dX10_blow_112 rfl (by rw [ic_1]) (Nat.le_of_ble_eq_true rfl) rfl ?_
  refine gx_goto 53 dX10_blow_115 (by decide) ?_
  exact gx_sub [1, 2, 0] rfl (hr_53 _ _ _ _ _ h)
set_option maxRecDepth 4000 in
theorem s_X10_blow_118 {Γ : Cn} {τ : Mm} {N : Nat} {l4 : Int32} {σ : Mm} {o : Int32 × Mm} (h : f_X10_blow_118 N l4 σ = some o) : Gx Γ M_X10_blow 0 τ (PI o) 0 0 118 [(4, .int l4)] [] σ := by
  unfold f_X10_blow_118 at h
  refine gx_iload 0 dX10_blow_118 rfl ?_
  have h := Option.some.inj h
  subst h
  exact gx_iret dX10_blow_120 rfl (Nat.le_of_ble_eq_true rfl) (Nat.le_of_ble_eq_true rfl) ⟨rfl, rfl⟩
set_option maxRecDepth 4000 in
theorem s_X10_blow_53 {Γ : Cn} {τ : Mm} {N : Nat} : ∀ (n : Nat) (l0 : Nat) (l4 : Int32) (l5 : Int32) (σ : Mm) (o : Int32 × Mm), f_X10_blow_53 N n l0 l4 l5 σ = some o → Gx Γ M_X10_blow 0 τ (PI o) 0 0 53 [(0, .ref (Γ.B + pp l0)), (4, .int l4), (5, .int l5)] [] σ := by
  intro n
  induction n with
  | zero =>
    intro l0 l4 l5 σ o h
    exact absurd h (by rw [f_X10_blow_53]; exact fun q => nomatch q)
  | succ n ih =>
    intro l0 l4 l5 σ o h
    rw [f_X10_blow_53] at h
    refine gx_iload 2 dX10_blow_53 rfl ?_
    refine gx_aload_n 0 dX10_blow_55 rfl rfl ?_
    obtain ⟨a1, ha1, h⟩ := bnd h
    refine gx_getN dX10_blow_56 ha1 fl_X10_42 rfl ?_
    obtain ⟨x2, hx2, h⟩ := bnd h
    refine gx_getI dX10_blow_59 hx2 fl_X10_128 rfl ?_
    refine gx_icmp_ge 118 dX10_blow_62 (by decide) (fun c2 => ?_) (fun c2 => ?_)
    · rw [if_pos c2] at h
      exact gx_sub [1] rfl (s_X10_blow_118  h)
    · rw [if_neg c2] at h
      refine gx_iload 2 dX10_blow_65 rfl ?_
      refine gx_bipush (v := (12 : Int32)) dX10_blow_67 ib_12 ?_
      refine gx_icmp_ge 118 dX10_blow_69 (by decide) (fun c3 => ?_) (fun c3 => ?_)
      · rw [if_pos c3] at h
        exact gx_sub [1] rfl (s_X10_blow_118  h)
      · rw [if_neg c3] at h
        refine gx_aload_n 0 dX10_blow_72 rfl rfl ?_
        obtain ⟨a5, ha5, h⟩ := bnd h
        refine gx_getN dX10_blow_73 ha5 fl_X10_95 rfl ?_
        refine gx_iload 2 dX10_blow_76 rfl ?_
        obtain ⟨x6, hx6, h⟩ := bnd h
        refine gx_iald (kd := 13) dX10_blow_78 hx6 rfl rfl ?_
        refine gx_aload_n 0 dX10_blow_79 rfl rfl ?_
        obtain ⟨a7, ha7, h⟩ := bnd h
        refine gx_getN dX10_blow_80 ha7 fl_X10_42 rfl ?_
        obtain ⟨a8, ha8, h⟩ := bnd h
        refine gx_getN dX10_blow_83 ha8 fl_X10_153 rfl ?_
        refine gx_iload 2 dX10_blow_86 rfl ?_
        obtain ⟨x9, hx9, h⟩ := bnd h
        refine gx_iald (kd := 13) dX10_blow_88 hx9 rfl rfl ?_
        refine gx_icmp_eq 95 dX10_blow_89 (by decide) (fun c9 => ?_) (fun c9 => ?_)
        · rw [if_pos c9] at h
          exact s_X10_blow_95 ih h
        · rw [if_neg c9] at h
          refine gx_iinc (v := (l4 + (1 : Int32))) (lv' := [(4, .int (l4 + (1 : Int32))), (0, .ref (Γ.B + pp l0)), (5, .int l5)]) 1 dX10_blow_92 rfl (by rw [ic_1]) (Nat.le_of_ble_eq_true rfl) rfl ?_
          exact gx_sub [1, 0, 2] rfl (s_X10_blow_95 ih h)
set_option maxRecDepth 4000 in
theorem s_X10_blow_0 {Γ : Cn} {τ : Mm} {N : Nat} {l0 : Nat} {l1 : Int32} {l2 : Int32} {l3 : Int32} {σ : Mm} {o : Int32 × Mm} (h : f_X10_blow N l0 l1 l2 l3 σ = some o) : Gx Γ M_X10_blow 0 τ (PI o) 0 0 0 [(0, .ref (Γ.B + pp l0)), (1, .int l1), (2, .int l2), (3, .int l3)] [] σ := by
  unfold f_X10_blow at h
  refine gx_aload_n 0 dX10_blow_0 rfl rfl ?_
  refine gx_iload_n 1 dX10_blow_1 rfl rfl ?_
  refine gx_iload_n 2 dX10_blow_2 rfl rfl ?_
  refine gx_iload_n 3 dX10_blow_3 rfl rfl ?_
  obtain ⟨_, hobq1, h⟩ := bnd h
  obtain ⟨q1, hq1, h⟩ := bnd h
  refine gx_cVI (As := [.int l1, .int l2, .int l3]) (st := []) (o := l0) dX10_blow_4 (c_X10_canBlow hq1) mov_X10_canBlow tw_731 hobq1 rfl ⟨Nat.le_of_ble_eq_true rfl, Nat.le_of_ble_eq_true rfl⟩ (Nat.le_of_ble_eq_true rfl) ?_
  refine gx_if_eq 15 dX10_blow_7 (by decide) (fun c1 => ?_) (fun c1 => ?_)
  · rw [if_pos c1] at h
    exact gx_sub [] rfl (s_X10_blow_15  h)
  · rw [if_neg c1] at h
    refine gx_iload_n 3 dX10_blow_10 rfl rfl ?_
    refine gx_iconst (v := (1 : Int32)) dX10_blow_11 ic_1 ?_
    refine gx_icmp_ge 17 dX10_blow_12 (by decide) (fun c2 => ?_) (fun c2 => ?_)
    · rw [if_pos c2] at h
      refine gx_aload_n 0 dX10_blow_17 rfl rfl ?_
      obtain ⟨a4, ha4, h⟩ := bnd h
      refine gx_getN dX10_blow_18 ha4 fl_X10_66 rfl ?_
      refine gx_aload_n 0 dX10_blow_21 rfl rfl ?_
      obtain ⟨a5, ha5, h⟩ := bnd h
      refine gx_getN dX10_blow_22 ha5 fl_X10_55 rfl ?_
      refine gx_iload_n 1 dX10_blow_25 rfl rfl ?_
      obtain ⟨a6, ha6, h⟩ := bnd h
      refine gx_aaldN (t0 := 4) (C := "MostCocks$Law") dX10_blow_26 ha6 rfl (by decide) rfl rfl ?_
      refine gx_aload_n 0 dX10_blow_27 rfl rfl ?_
      obtain ⟨a7, ha7, h⟩ := bnd h
      refine gx_getN dX10_blow_28 ha7 fl_X10_42 rfl ?_
      refine gx_iload_n 2 dX10_blow_31 rfl rfl ?_
      refine gx_iload_n 3 dX10_blow_32 rfl rfl ?_
      refine gx_aload_n 0 dX10_blow_33 rfl rfl ?_
      obtain ⟨a8, ha8, h⟩ := bnd h
      refine gx_getN dX10_blow_34 ha8 fl_X10_42 rfl ?_
      obtain ⟨x9, hx9, h⟩ := bnd h
      refine gx_getI dX10_blow_37 hx9 fl_X10_168 rfl ?_
      refine gx_aload_n 0 dX10_blow_40 rfl rfl ?_
      obtain ⟨a10, ha10, h⟩ := bnd h
      refine gx_getN dX10_blow_41 ha10 fl_X10_95 rfl ?_
      obtain ⟨_, hobq11, h⟩ := bnd h
      obtain ⟨q11, hq11, h⟩ := bnd h
      refine gx_cVV (As := [.ref (Γ.B + pp a6), .ref (Γ.B + pp a7), .int l2, .int l3, .int x9, .ref (Γ.B + pp a10)]) (st := []) (o := a4) dX10_blow_44 (c_X9_turnAll hq11) mov_X9_turnAll tw_735 hobq11 rfl ⟨Nat.le_of_ble_eq_true rfl, Nat.le_of_ble_eq_true rfl⟩ (Nat.le_of_ble_eq_true rfl) ?_
      refine gx_iconst (v := (0 : Int32)) dX10_blow_47 ic_0 ?_
      refine gx_istore (lv' := [(4, .int (0 : Int32)), (0, .ref (Γ.B + pp l0)), (1, .int l1), (2, .int l2), (3, .int l3)]) dX10_blow_48 (Nat.le_of_ble_eq_true rfl) rfl ?_
      refine gx_iconst (v := (0 : Int32)) dX10_blow_50 ic_0 ?_
      refine gx_istore (lv' := [(5, .int (0 : Int32)), (4, .int (0 : Int32)), (0, .ref (Γ.B + pp l0)), (1, .int l1), (2, .int l2), (3, .int l3)]) dX10_blow_51 (Nat.le_of_ble_eq_true rfl) rfl ?_
      exact gx_sub [2, 1, 0] rfl (s_X10_blow_53  N _ _ _ _ _ h)
    · rw [if_neg c2] at h
      exact gx_sub [] rfl (s_X10_blow_15  h)
theorem c_X10_blow {Γ : Cn} {τ : Mm} {N : Nat} {l0 : Nat} {l1 : Int32} {l2 : Int32} {l3 : Int32} {σ : Mm} {o : Int32 × Mm} (h : f_X10_blow N l0 l1 l2 l3 σ = some o) : Ct Γ M_X10_blow yX10_blow 0 τ [.ref (Γ.B + pp l0), .int l1, .int l2, .int l3] σ (PI o) := ct_of (by decide) rfl (fun _ => by first | rfl | contradiction) (Nat.le_of_ble_eq_true rfl) (s_X10_blow_0  h)
abbrev M_X10_bend : Ms := (cX10_bend, RX10, 4, (some .int), false, 0, 0, 3)
def f_X10_bend_20 (N : Nat) (σ : Mm) : Option (Int32 × Mm) :=
  some ((-1 : Int32), σ)
def f_X10_bend (N : Nat) (l0 : Nat) (l1 : Int32) (l2 : Int32) (σ : Mm) : Option (Int32 × Mm) :=
  (gN 10 4 σ l0).bind fun a1 =>
  (ob 7 σ a1).bind fun _ =>
  (f_X7_hasCock N a1 l1 σ).bind fun q2 =>
  if q2.1 = 0 then (
    f_X10_bend_20 N q2.2) else (
    (f_X10_isBelow N l2 (8 : Int32) q2.2).bind fun q4 =>
    if q4.1 = 0 then (
      f_X10_bend_20 N q4.2) else (
      (gN 10 4 q4.2 l0).bind fun a6 =>
      (gN 7 3 q4.2 a6).bind fun a7 =>
      (aI 13 q4.2 a7 l1).bind fun x8 =>
      (gN 10 4 q4.2 l0).bind fun a9 =>
      (gN 7 6 q4.2 a9).bind fun a10 =>
      (aI 13 q4.2 a10 l1).bind fun x11 =>
      (f_X10_bendingCost N x8 x11 l2 q4.2).bind fun q12 =>
      (gN 10 4 q12.2 l0).bind fun a13 =>
      (gN 7 6 q12.2 a13).bind fun a14 =>
      (sI 13 q12.2 a14 l1 l2).bind fun s15 =>
      some (q12.1, s15)))
theorem mov_X10_bend : MOV yX10_bend M_X10_bend 2 10 0 := ⟨⟨tw_96, tw_777, ⟨by decide, by decide⟩, by decide +kernel⟩, tw_775, tw_776, by decide, ⟨_, rfl, rfl⟩, rfl⟩
set_option maxRecDepth 4000 in
theorem s_X10_bend_20 {Γ : Cn} {τ : Mm} {N : Nat} {σ : Mm} {o : Int32 × Mm} (h : f_X10_bend_20 N σ = some o) : Gx Γ M_X10_bend 0 τ (PI o) 0 0 20 [] [] σ := by
  unfold f_X10_bend_20 at h
  refine gx_iconst (v := (-1 : Int32)) dX10_bend_20 ic_m1 ?_
  have h := Option.some.inj h
  subst h
  exact gx_iret dX10_bend_21 rfl (Nat.le_of_ble_eq_true rfl) (Nat.le_of_ble_eq_true rfl) ⟨rfl, rfl⟩
set_option maxRecDepth 4000 in
theorem s_X10_bend_0 {Γ : Cn} {τ : Mm} {N : Nat} {l0 : Nat} {l1 : Int32} {l2 : Int32} {σ : Mm} {o : Int32 × Mm} (h : f_X10_bend N l0 l1 l2 σ = some o) : Gx Γ M_X10_bend 0 τ (PI o) 0 0 0 [(0, .ref (Γ.B + pp l0)), (1, .int l1), (2, .int l2)] [] σ := by
  unfold f_X10_bend at h
  refine gx_aload_n 0 dX10_bend_0 rfl rfl ?_
  obtain ⟨a1, ha1, h⟩ := bnd h
  refine gx_getN dX10_bend_1 ha1 fl_X10_42 rfl ?_
  refine gx_iload_n 1 dX10_bend_4 rfl rfl ?_
  obtain ⟨_, hobq2, h⟩ := bnd h
  obtain ⟨q2, hq2, h⟩ := bnd h
  refine gx_cVI (As := [.int l1]) (st := []) (o := a1) dX10_bend_5 (c_X7_hasCock hq2) mov_X7_hasCock tw_686 hobq2 rfl ⟨Nat.le_of_ble_eq_true rfl, Nat.le_of_ble_eq_true rfl⟩ (Nat.le_of_ble_eq_true rfl) ?_
  refine gx_if_eq 20 dX10_bend_8 (by decide) (fun c2 => ?_) (fun c2 => ?_)
  · rw [if_pos c2] at h
    exact gx_sub [] rfl (s_X10_bend_20  h)
  · rw [if_neg c2] at h
    refine gx_iload_n 2 dX10_bend_11 rfl rfl ?_
    refine gx_bipush (v := (8 : Int32)) dX10_bend_12 ib_8 ?_
    obtain ⟨q4, hq4, h⟩ := bnd h
    refine gx_cSI (As := [.int l2, .int (8 : Int32)]) (st := []) dX10_bend_14 (c_X10_isBelow hq4) mos_X10_isBelow tw_706 rfl ⟨Nat.le_of_ble_eq_true rfl, Nat.le_of_ble_eq_true rfl⟩ (Nat.le_of_ble_eq_true rfl) ?_
    refine gx_if_ne 22 dX10_bend_17 (by decide) (fun c4 => ?_) (fun c4 => ?_)
    · rw [if_neg c4] at h
      refine gx_aload_n 0 dX10_bend_22 rfl rfl ?_
      obtain ⟨a6, ha6, h⟩ := bnd h
      refine gx_getN dX10_bend_23 ha6 fl_X10_42 rfl ?_
      obtain ⟨a7, ha7, h⟩ := bnd h
      refine gx_getN dX10_bend_26 ha7 fl_X10_144 rfl ?_
      refine gx_iload_n 1 dX10_bend_29 rfl rfl ?_
      obtain ⟨x8, hx8, h⟩ := bnd h
      refine gx_iald (kd := 13) dX10_bend_30 hx8 rfl rfl ?_
      refine gx_aload_n 0 dX10_bend_31 rfl rfl ?_
      obtain ⟨a9, ha9, h⟩ := bnd h
      refine gx_getN dX10_bend_32 ha9 fl_X10_42 rfl ?_
      obtain ⟨a10, ha10, h⟩ := bnd h
      refine gx_getN dX10_bend_35 ha10 fl_X10_153 rfl ?_
      refine gx_iload_n 1 dX10_bend_38 rfl rfl ?_
      obtain ⟨x11, hx11, h⟩ := bnd h
      refine gx_iald (kd := 13) dX10_bend_39 hx11 rfl rfl ?_
      refine gx_iload_n 2 dX10_bend_40 rfl rfl ?_
      obtain ⟨q12, hq12, h⟩ := bnd h
      refine gx_cSI (As := [.int x8, .int x11, .int l2]) (st := []) dX10_bend_41 (c_X10_bendingCost hq12) mos_X10_bendingCost tw_778 rfl ⟨Nat.le_of_ble_eq_true rfl, Nat.le_of_ble_eq_true rfl⟩ (Nat.le_of_ble_eq_true rfl) ?_
      refine gx_istore_n (lv' := [(3, .int q12.1), (0, .ref (Γ.B + pp l0)), (1, .int l1), (2, .int l2)]) dX10_bend_44 rfl (Nat.le_of_ble_eq_true rfl) rfl ?_
      refine gx_aload_n 1 dX10_bend_45 rfl rfl ?_
      obtain ⟨a13, ha13, h⟩ := bnd h
      refine gx_getN dX10_bend_46 ha13 fl_X10_42 rfl ?_
      obtain ⟨a14, ha14, h⟩ := bnd h
      refine gx_getN dX10_bend_49 ha14 fl_X10_153 rfl ?_
      refine gx_iload_n 2 dX10_bend_52 rfl rfl ?_
      refine gx_iload_n 3 dX10_bend_53 rfl rfl ?_
      obtain ⟨s15, hs15, h⟩ := bnd h
      refine gx_iast (kd := 13) dX10_bend_54 hs15 rfl rfl ?_
      refine gx_iload_n 0 dX10_bend_55 rfl rfl ?_
      have h := Option.some.inj h
      subst h
      exact gx_iret dX10_bend_56 rfl (Nat.le_of_ble_eq_true rfl) (Nat.le_of_ble_eq_true rfl) ⟨rfl, rfl⟩
    · rw [if_pos c4] at h
      exact gx_sub [] rfl (s_X10_bend_20  h)
theorem c_X10_bend {Γ : Cn} {τ : Mm} {N : Nat} {l0 : Nat} {l1 : Int32} {l2 : Int32} {σ : Mm} {o : Int32 × Mm} (h : f_X10_bend N l0 l1 l2 σ = some o) : Ct Γ M_X10_bend yX10_bend 0 τ [.ref (Γ.B + pp l0), .int l1, .int l2] σ (PI o) := ct_of (by decide) rfl (fun _ => by first | rfl | contradiction) (Nat.le_of_ble_eq_true rfl) (s_X10_bend_0  h)
abbrev M_X10_rusts : Ms := (cX10_rusts, RX10, 4, (some .int), false, 0, 0, 1)
def f_X10_rusts_20 (N : Nat) (σ : Mm) : Option (Int32 × Mm) :=
  some ((-1 : Int32), σ)
def f_X10_rusts (N : Nat) (l0 : Nat) (l1 : Int32) (l2 : Int32) (σ : Mm) : Option (Int32 × Mm) :=
  (gN 10 4 σ l0).bind fun a1 =>
  (ob 7 σ a1).bind fun _ =>
  (f_X7_hasCock N a1 l1 σ).bind fun q2 =>
  if q2.1 = 0 then (
    f_X10_rusts_20 N q2.2) else (
    (f_X10_isBelow N l2 (10 : Int32) q2.2).bind fun q4 =>
    if q4.1 = 0 then (
      f_X10_rusts_20 N q4.2) else (
      (gN 10 4 q4.2 l0).bind fun a6 =>
      (gN 7 3 q4.2 a6).bind fun a7 =>
      (aI 13 q4.2 a7 l1).bind fun x8 =>
      (gN 10 4 q4.2 l0).bind fun a9 =>
      (gN 7 3 q4.2 a9).bind fun a10 =>
      (sI 13 q4.2 a10 l1 l2).bind fun s11 =>
      some (x8, s11)))
theorem mov_X10_rusts : MOV yX10_rusts M_X10_rusts 2 10 0 := ⟨⟨tw_96, tw_789, ⟨by decide, by decide⟩, by decide +kernel⟩, tw_787, tw_788, by decide, ⟨_, rfl, rfl⟩, rfl⟩
set_option maxRecDepth 4000 in
theorem s_X10_rusts_20 {Γ : Cn} {τ : Mm} {N : Nat} {σ : Mm} {o : Int32 × Mm} (h : f_X10_rusts_20 N σ = some o) : Gx Γ M_X10_rusts 0 τ (PI o) 0 0 20 [] [] σ := by
  unfold f_X10_rusts_20 at h
  refine gx_iconst (v := (-1 : Int32)) dX10_rusts_20 ic_m1 ?_
  have h := Option.some.inj h
  subst h
  exact gx_iret dX10_rusts_21 rfl (Nat.le_of_ble_eq_true rfl) (Nat.le_of_ble_eq_true rfl) ⟨rfl, rfl⟩
set_option maxRecDepth 4000 in
theorem s_X10_rusts_0 {Γ : Cn} {τ : Mm} {N : Nat} {l0 : Nat} {l1 : Int32} {l2 : Int32} {σ : Mm} {o : Int32 × Mm} (h : f_X10_rusts N l0 l1 l2 σ = some o) : Gx Γ M_X10_rusts 0 τ (PI o) 0 0 0 [(0, .ref (Γ.B + pp l0)), (1, .int l1), (2, .int l2)] [] σ := by
  unfold f_X10_rusts at h
  refine gx_aload_n 0 dX10_rusts_0 rfl rfl ?_
  obtain ⟨a1, ha1, h⟩ := bnd h
  refine gx_getN dX10_rusts_1 ha1 fl_X10_42 rfl ?_
  refine gx_iload_n 1 dX10_rusts_4 rfl rfl ?_
  obtain ⟨_, hobq2, h⟩ := bnd h
  obtain ⟨q2, hq2, h⟩ := bnd h
  refine gx_cVI (As := [.int l1]) (st := []) (o := a1) dX10_rusts_5 (c_X7_hasCock hq2) mov_X7_hasCock tw_686 hobq2 rfl ⟨Nat.le_of_ble_eq_true rfl, Nat.le_of_ble_eq_true rfl⟩ (Nat.le_of_ble_eq_true rfl) ?_
  refine gx_if_eq 20 dX10_rusts_8 (by decide) (fun c2 => ?_) (fun c2 => ?_)
  · rw [if_pos c2] at h
    exact gx_sub [] rfl (s_X10_rusts_20  h)
  · rw [if_neg c2] at h
    refine gx_iload_n 2 dX10_rusts_11 rfl rfl ?_
    refine gx_bipush (v := (10 : Int32)) dX10_rusts_12 ib_10 ?_
    obtain ⟨q4, hq4, h⟩ := bnd h
    refine gx_cSI (As := [.int l2, .int (10 : Int32)]) (st := []) dX10_rusts_14 (c_X10_isBelow hq4) mos_X10_isBelow tw_706 rfl ⟨Nat.le_of_ble_eq_true rfl, Nat.le_of_ble_eq_true rfl⟩ (Nat.le_of_ble_eq_true rfl) ?_
    refine gx_if_ne 22 dX10_rusts_17 (by decide) (fun c4 => ?_) (fun c4 => ?_)
    · rw [if_neg c4] at h
      refine gx_aload_n 0 dX10_rusts_22 rfl rfl ?_
      obtain ⟨a6, ha6, h⟩ := bnd h
      refine gx_getN dX10_rusts_23 ha6 fl_X10_42 rfl ?_
      obtain ⟨a7, ha7, h⟩ := bnd h
      refine gx_getN dX10_rusts_26 ha7 fl_X10_144 rfl ?_
      refine gx_iload_n 1 dX10_rusts_29 rfl rfl ?_
      obtain ⟨x8, hx8, h⟩ := bnd h
      refine gx_iald (kd := 13) dX10_rusts_30 hx8 rfl rfl ?_
      refine gx_istore_n (lv' := [(3, .int x8), (0, .ref (Γ.B + pp l0)), (1, .int l1), (2, .int l2)]) dX10_rusts_31 rfl (Nat.le_of_ble_eq_true rfl) rfl ?_
      refine gx_aload_n 1 dX10_rusts_32 rfl rfl ?_
      obtain ⟨a9, ha9, h⟩ := bnd h
      refine gx_getN dX10_rusts_33 ha9 fl_X10_42 rfl ?_
      obtain ⟨a10, ha10, h⟩ := bnd h
      refine gx_getN dX10_rusts_36 ha10 fl_X10_144 rfl ?_
      refine gx_iload_n 2 dX10_rusts_39 rfl rfl ?_
      refine gx_iload_n 3 dX10_rusts_40 rfl rfl ?_
      obtain ⟨s11, hs11, h⟩ := bnd h
      refine gx_iast (kd := 13) dX10_rusts_41 hs11 rfl rfl ?_
      refine gx_iload_n 0 dX10_rusts_42 rfl rfl ?_
      have h := Option.some.inj h
      subst h
      exact gx_iret dX10_rusts_43 rfl (Nat.le_of_ble_eq_true rfl) (Nat.le_of_ble_eq_true rfl) ⟨rfl, rfl⟩
    · rw [if_pos c4] at h
      exact gx_sub [] rfl (s_X10_rusts_20  h)
theorem c_X10_rusts {Γ : Cn} {τ : Mm} {N : Nat} {l0 : Nat} {l1 : Int32} {l2 : Int32} {σ : Mm} {o : Int32 × Mm} (h : f_X10_rusts N l0 l1 l2 σ = some o) : Ct Γ M_X10_rusts yX10_rusts 0 τ [.ref (Γ.B + pp l0), .int l1, .int l2] σ (PI o) := ct_of (by decide) rfl (fun _ => by first | rfl | contradiction) (Nat.le_of_ble_eq_true rfl) (s_X10_rusts_0  h)
abbrev M_X10_oil : Ms := (cX10_oil, RX10, 2, (some .int), false, 0, 0, 2)
def f_X10_oil (N : Nat) (l0 : Nat) (l1 : Int32) (σ : Mm) : Option (Int32 × Mm) :=
  (ob 10 σ l0).bind fun _ =>
  (f_X10_rusts N l0 l1 (0 : Int32) σ).bind fun q1 =>
  some (q1.1, q1.2)
theorem mov_X10_oil : MOV yX10_oil M_X10_oil 1 10 0 := ⟨⟨tw_96, tw_785, ⟨by decide, by decide⟩, by decide +kernel⟩, tw_783, tw_784, by decide, ⟨_, rfl, rfl⟩, rfl⟩
set_option maxRecDepth 4000 in
theorem s_X10_oil_0 {Γ : Cn} {τ : Mm} {N : Nat} {l0 : Nat} {l1 : Int32} {σ : Mm} {o : Int32 × Mm} (h : f_X10_oil N l0 l1 σ = some o) : Gx Γ M_X10_oil 0 τ (PI o) 0 0 0 [(0, .ref (Γ.B + pp l0)), (1, .int l1)] [] σ := by
  unfold f_X10_oil at h
  refine gx_aload_n 0 dX10_oil_0 rfl rfl ?_
  refine gx_iload_n 1 dX10_oil_1 rfl rfl ?_
  refine gx_iconst (v := (0 : Int32)) dX10_oil_2 ic_0 ?_
  obtain ⟨_, hobq1, h⟩ := bnd h
  obtain ⟨q1, hq1, h⟩ := bnd h
  refine gx_cVI (As := [.int l1, .int (0 : Int32)]) (st := []) (o := l0) dX10_oil_3 (c_X10_rusts hq1) mov_X10_rusts tw_786 hobq1 rfl ⟨Nat.le_of_ble_eq_true rfl, Nat.le_of_ble_eq_true rfl⟩ (Nat.le_of_ble_eq_true rfl) ?_
  have h := Option.some.inj h
  subst h
  exact gx_iret dX10_oil_6 rfl (Nat.le_of_ble_eq_true rfl) (Nat.le_of_ble_eq_true rfl) ⟨rfl, rfl⟩
theorem c_X10_oil {Γ : Cn} {τ : Mm} {N : Nat} {l0 : Nat} {l1 : Int32} {σ : Mm} {o : Int32 × Mm} (h : f_X10_oil N l0 l1 σ = some o) : Ct Γ M_X10_oil yX10_oil 0 τ [.ref (Γ.B + pp l0), .int l1] σ (PI o) := ct_of (by decide) rfl (fun _ => by first | rfl | contradiction) (Nat.le_of_ble_eq_true rfl) (s_X10_oil_0  h)
abbrev M_X10_fell : Ms := (cX10_fell, RX10, 3, (some .boolean), false, 0, 0, 1)
def f_X10_fell_34 (N : Nat) (σ : Mm) : Option (Int32 × Mm) :=
  some ((0 : Int32), σ)
def f_X10_fell_31 (N : Nat) (l0 : Nat) (l1 : Int32) (t0 : Int32) (t1 : Int32) (σ : Mm) : Option (Int32 × Mm) :=
  if t0 = t1 then (
    f_X10_fell_34 N σ) else (
    (gN 10 4 σ l0).bind fun a2 =>
    (gI 7 11 σ a2).bind fun x3 =>
    (pI 7 11 σ a2 (x3 ^^^ ((1 : Int32) <<< (l1 &&& 31)))).bind fun s4 =>
    some ((1 : Int32), s4))
def f_X10_fell (N : Nat) (l0 : Nat) (l1 : Int32) (l2 : Int32) (σ : Mm) : Option (Int32 × Mm) :=
  (gN 10 4 σ l0).bind fun a1 =>
  (ob 7 σ a1).bind fun _ =>
  (f_X7_hasTree N a1 l1 σ).bind fun q2 =>
  if q2.1 = 0 then (
    f_X10_fell_34 N q2.2) else (
    (gN 10 4 q2.2 l0).bind fun a4 =>
    (gI 7 11 q2.2 a4).bind fun x5 =>
    if l2 = 0 then (
      f_X10_fell_31 N l0 l1 ((x5 >>> (l1 &&& 31)) &&& (1 : Int32)) (0 : Int32) q2.2) else (
      f_X10_fell_31 N l0 l1 ((x5 >>> (l1 &&& 31)) &&& (1 : Int32)) (1 : Int32) q2.2))
theorem mov_X10_fell : MOV yX10_fell M_X10_fell 2 10 0 := ⟨⟨tw_96, tw_794, ⟨by decide, by decide⟩, by decide +kernel⟩, tw_792, tw_793, by decide, ⟨_, rfl, rfl⟩, rfl⟩
set_option maxRecDepth 4000 in
theorem s_X10_fell_34 {Γ : Cn} {τ : Mm} {N : Nat} {σ : Mm} {o : Int32 × Mm} (h : f_X10_fell_34 N σ = some o) : Gx Γ M_X10_fell 0 τ (PI o) 0 0 34 [] [] σ := by
  unfold f_X10_fell_34 at h
  refine gx_iconst (v := (0 : Int32)) dX10_fell_34 ic_0 ?_
  have h := Option.some.inj h
  subst h
  exact gx_zret dX10_fell_35 rfl rfl (Nat.le_of_ble_eq_true rfl) (Nat.le_of_ble_eq_true rfl) ⟨rfl, rfl⟩
set_option maxRecDepth 4000 in
theorem s_X10_fell_31 {Γ : Cn} {τ : Mm} {N : Nat} {l0 : Nat} {l1 : Int32} {t0 : Int32} {t1 : Int32} {σ : Mm} {o : Int32 × Mm} (h : f_X10_fell_31 N l0 l1 t0 t1 σ = some o) : Gx Γ M_X10_fell 0 τ (PI o) 0 0 31 [(0, .ref (Γ.B + pp l0)), (1, .int l1)] [.int t1, .int t0] σ := by
  unfold f_X10_fell_31 at h
  refine gx_icmp_ne 36 dX10_fell_31 (by decide) (fun c0 => ?_) (fun c0 => ?_)
  · rw [if_neg c0] at h
    refine gx_aload_n 0 dX10_fell_36 rfl rfl ?_
    obtain ⟨a2, ha2, h⟩ := bnd h
    refine gx_getN dX10_fell_37 ha2 fl_X10_42 rfl ?_
    refine gx_dup dX10_fell_40 rfl ?_
    obtain ⟨x3, hx3, h⟩ := bnd h
    refine gx_getI dX10_fell_41 hx3 fl_X10_168 rfl ?_
    refine gx_iconst (v := (1 : Int32)) dX10_fell_44 ic_1 ?_
    refine gx_iload_n 1 dX10_fell_45 rfl rfl ?_
    refine gx_ishl dX10_fell_46 ?_
    refine gx_ixor dX10_fell_47 ?_
    obtain ⟨s4, hs4, h⟩ := bnd h
    refine gx_putI dX10_fell_48 hs4 fl_X10_168 fp_X10_7_11 rfl ?_
    refine gx_iconst (v := (1 : Int32)) dX10_fell_51 ic_1 ?_
    have h := Option.some.inj h
    subst h
    exact gx_zret dX10_fell_52 rfl rfl (Nat.le_of_ble_eq_true rfl) (Nat.le_of_ble_eq_true rfl) ⟨rfl, rfl⟩
  · rw [if_pos c0] at h
    exact gx_sub [] rfl (s_X10_fell_34  h)
set_option maxRecDepth 4000 in
theorem s_X10_fell_0 {Γ : Cn} {τ : Mm} {N : Nat} {l0 : Nat} {l1 : Int32} {l2 : Int32} {σ : Mm} {o : Int32 × Mm} (h : f_X10_fell N l0 l1 l2 σ = some o) : Gx Γ M_X10_fell 0 τ (PI o) 0 0 0 [(0, .ref (Γ.B + pp l0)), (1, .int l1), (2, .int l2)] [] σ := by
  unfold f_X10_fell at h
  refine gx_aload_n 0 dX10_fell_0 rfl rfl ?_
  obtain ⟨a1, ha1, h⟩ := bnd h
  refine gx_getN dX10_fell_1 ha1 fl_X10_42 rfl ?_
  refine gx_iload_n 1 dX10_fell_4 rfl rfl ?_
  obtain ⟨_, hobq2, h⟩ := bnd h
  obtain ⟨q2, hq2, h⟩ := bnd h
  refine gx_cVI (As := [.int l1]) (st := []) (o := a1) dX10_fell_5 (c_X7_hasTree hq2) mov_X7_hasTree tw_694 hobq2 rfl ⟨Nat.le_of_ble_eq_true rfl, Nat.le_of_ble_eq_true rfl⟩ (Nat.le_of_ble_eq_true rfl) ?_
  refine gx_if_eq 34 dX10_fell_8 (by decide) (fun c2 => ?_) (fun c2 => ?_)
  · rw [if_pos c2] at h
    exact gx_sub [] rfl (s_X10_fell_34  h)
  · rw [if_neg c2] at h
    refine gx_aload_n 0 dX10_fell_11 rfl rfl ?_
    obtain ⟨a4, ha4, h⟩ := bnd h
    refine gx_getN dX10_fell_12 ha4 fl_X10_42 rfl ?_
    obtain ⟨x5, hx5, h⟩ := bnd h
    refine gx_getI dX10_fell_15 hx5 fl_X10_168 rfl ?_
    refine gx_iload_n 1 dX10_fell_18 rfl rfl ?_
    refine gx_ishr dX10_fell_19 ?_
    refine gx_iconst (v := (1 : Int32)) dX10_fell_20 ic_1 ?_
    refine gx_iand dX10_fell_21 ?_
    refine gx_iload_n 2 dX10_fell_22 rfl rfl ?_
    refine gx_if_eq 30 dX10_fell_23 (by decide) (fun c5 => ?_) (fun c5 => ?_)
    · rw [if_pos c5] at h
      refine gx_iconst (v := (0 : Int32)) dX10_fell_30 ic_0 ?_
      exact gx_sub [0, 1] rfl (s_X10_fell_31  h)
    · rw [if_neg c5] at h
      refine gx_iconst (v := (1 : Int32)) dX10_fell_26 ic_1 ?_
      refine gx_goto 31 dX10_fell_27 (by decide) ?_
      exact gx_sub [0, 1] rfl (s_X10_fell_31  h)
theorem c_X10_fell {Γ : Cn} {τ : Mm} {N : Nat} {l0 : Nat} {l1 : Int32} {l2 : Int32} {σ : Mm} {o : Int32 × Mm} (h : f_X10_fell N l0 l1 l2 σ = some o) : Ct Γ M_X10_fell yX10_fell 0 τ [.ref (Γ.B + pp l0), .int l1, .int l2] σ (PI o) := ct_of (by decide) rfl (fun _ => by first | rfl | contradiction) (Nat.le_of_ble_eq_true rfl) (s_X10_fell_0  h)
abbrev M_X10_morning : Ms := (cX10_morning, RX10, 3, (some .int), false, 0, 0, 2)
def f_X10_morning_45 (N : Nat) (r_4 : Nat → Int32 → Int32 → Mm → Option (Int32 × Mm)) (l0 : Nat) (l1 : Int32) (l2 : Int32) (σ : Mm) : Option (Int32 × Mm) :=
  r_4 l0 l1 (l2 + (1 : Int32)) σ
def f_X10_morning_51 (N : Nat) (l0 : Nat) (l1 : Int32) (σ : Mm) : Option (Int32 × Mm) :=
  (gN 10 4 σ l0).bind fun a1 =>
  (ob 7 σ a1).bind fun _ =>
  (f_X7_keepMorning N a1 σ).bind fun q2 =>
  some (l1, q2)
def f_X10_morning_4 (N : Nat) : Nat → Nat → Int32 → Int32 → Mm → Option (Int32 × Mm)
  | 0, _, _, _, _ => none
  | n + 1, l0, l1, l2, σ =>
      (gN 10 4 σ l0).bind fun a1 =>
      (gI 7 0 σ a1).bind fun x2 =>
      if x2 ≤ l2 then (
        f_X10_morning_51 N l0 l1 σ) else (
        if (12 : Int32) ≤ l2 then (
          f_X10_morning_51 N l0 l1 σ) else (
          (gN 10 4 σ l0).bind fun a5 =>
          (gN 7 6 σ a5).bind fun a6 =>
          (aI 13 σ a6 l2).bind fun x7 =>
          (gN 10 4 σ l0).bind fun a8 =>
          (gN 7 7 σ a8).bind fun a9 =>
          (aI 13 σ a9 l2).bind fun x10 =>
          if x7 = x10 then (
            f_X10_morning_45 N (f_X10_morning_4 N n) l0 l1 l2 σ) else (
            f_X10_morning_45 N (f_X10_morning_4 N n) l0 (l1 + (1 : Int32)) l2 σ)))
def f_X10_morning (N : Nat) (l0 : Nat) (σ : Mm) : Option (Int32 × Mm) :=
  f_X10_morning_4 N N l0 (0 : Int32) (0 : Int32) σ
theorem mov_X10_morning : MOV yX10_morning M_X10_morning 0 10 0 := ⟨⟨tw_96, tw_798, ⟨by decide, by decide⟩, by decide +kernel⟩, tw_796, tw_797, by decide, ⟨_, rfl, rfl⟩, rfl⟩
set_option maxRecDepth 4000 in
theorem s_X10_morning_45 {Γ : Cn} {τ : Mm} {N : Nat} {r_4 : Nat → Int32 → Int32 → Mm → Option (Int32 × Mm)} (hr_4 : ∀ (l0 : Nat) (l1 : Int32) (l2 : Int32) (σ : Mm) (o : Int32 × Mm), r_4 l0 l1 l2 σ = some o → Gx Γ M_X10_morning 0 τ (PI o) 0 0 4 [(0, .ref (Γ.B + pp l0)), (1, .int l1), (2, .int l2)] [] σ) {l0 : Nat} {l1 : Int32} {l2 : Int32} {σ : Mm} {o : Int32 × Mm} (h : f_X10_morning_45 N r_4 l0 l1 l2 σ = some o) : Gx Γ M_X10_morning 0 τ (PI o) 0 0 45 [(0, .ref (Γ.B + pp l0)), (1, .int l1), (2, .int l2)] [] σ := by
  unfold f_X10_morning_45 at h
  refine gx_iinc (v := (l2 + (1 : Int32))) (lv' := [(2, .int (l2 + (1 : Int32))), (0, .ref (Γ.B + pp l0)), (1, .int l1)]) 2 dX10_morning_45 rfl (by rw [ic_1]) (Nat.le_of_ble_eq_true rfl) rfl ?_
  refine gx_goto 4 dX10_morning_48 (by decide) ?_
  exact gx_sub [1, 2, 0] rfl (hr_4 _ _ _ _ _ h)
set_option maxRecDepth 4000 in
theorem s_X10_morning_51 {Γ : Cn} {τ : Mm} {N : Nat} {l0 : Nat} {l1 : Int32} {σ : Mm} {o : Int32 × Mm} (h : f_X10_morning_51 N l0 l1 σ = some o) : Gx Γ M_X10_morning 0 τ (PI o) 0 0 51 [(0, .ref (Γ.B + pp l0)), (1, .int l1)] [] σ := by
  unfold f_X10_morning_51 at h
  refine gx_aload_n 0 dX10_morning_51 rfl rfl ?_
  obtain ⟨a1, ha1, h⟩ := bnd h
  refine gx_getN dX10_morning_52 ha1 fl_X10_42 rfl ?_
  obtain ⟨_, hobq2, h⟩ := bnd h
  obtain ⟨q2, hq2, h⟩ := bnd h
  refine gx_cVV (As := []) (st := []) (o := a1) dX10_morning_55 (c_X7_keepMorning hq2) mov_X7_keepMorning tw_617 hobq2 rfl ⟨Nat.le_of_ble_eq_true rfl, Nat.le_of_ble_eq_true rfl⟩ (Nat.le_of_ble_eq_true rfl) ?_
  refine gx_iload_n 1 dX10_morning_58 rfl rfl ?_
  have h := Option.some.inj h
  subst h
  exact gx_iret dX10_morning_59 rfl (Nat.le_of_ble_eq_true rfl) (Nat.le_of_ble_eq_true rfl) ⟨rfl, rfl⟩
set_option maxRecDepth 4000 in
theorem s_X10_morning_4 {Γ : Cn} {τ : Mm} {N : Nat} : ∀ (n : Nat) (l0 : Nat) (l1 : Int32) (l2 : Int32) (σ : Mm) (o : Int32 × Mm), f_X10_morning_4 N n l0 l1 l2 σ = some o → Gx Γ M_X10_morning 0 τ (PI o) 0 0 4 [(0, .ref (Γ.B + pp l0)), (1, .int l1), (2, .int l2)] [] σ := by
  intro n
  induction n with
  | zero =>
    intro l0 l1 l2 σ o h
    exact absurd h (by rw [f_X10_morning_4]; exact fun q => nomatch q)
  | succ n ih =>
    intro l0 l1 l2 σ o h
    rw [f_X10_morning_4] at h
    refine gx_iload_n 2 dX10_morning_4 rfl rfl ?_
    refine gx_aload_n 0 dX10_morning_5 rfl rfl ?_
    obtain ⟨a1, ha1, h⟩ := bnd h
    refine gx_getN dX10_morning_6 ha1 fl_X10_42 rfl ?_
    obtain ⟨x2, hx2, h⟩ := bnd h
    refine gx_getI dX10_morning_9 hx2 fl_X10_128 rfl ?_
    refine gx_icmp_ge 51 dX10_morning_12 (by decide) (fun c2 => ?_) (fun c2 => ?_)
    · rw [if_pos c2] at h
      exact gx_sub [0, 1] rfl (s_X10_morning_51  h)
    · rw [if_neg c2] at h
      refine gx_iload_n 2 dX10_morning_15 rfl rfl ?_
      refine gx_bipush (v := (12 : Int32)) dX10_morning_16 ib_12 ?_
      refine gx_icmp_ge 51 dX10_morning_18 (by decide) (fun c3 => ?_) (fun c3 => ?_)
      · rw [if_pos c3] at h
        exact gx_sub [0, 1] rfl (s_X10_morning_51  h)
      · rw [if_neg c3] at h
        refine gx_aload_n 0 dX10_morning_21 rfl rfl ?_
        obtain ⟨a5, ha5, h⟩ := bnd h
        refine gx_getN dX10_morning_22 ha5 fl_X10_42 rfl ?_
        obtain ⟨a6, ha6, h⟩ := bnd h
        refine gx_getN dX10_morning_25 ha6 fl_X10_153 rfl ?_
        refine gx_iload_n 2 dX10_morning_28 rfl rfl ?_
        obtain ⟨x7, hx7, h⟩ := bnd h
        refine gx_iald (kd := 13) dX10_morning_29 hx7 rfl rfl ?_
        refine gx_aload_n 0 dX10_morning_30 rfl rfl ?_
        obtain ⟨a8, ha8, h⟩ := bnd h
        refine gx_getN dX10_morning_31 ha8 fl_X10_42 rfl ?_
        obtain ⟨a9, ha9, h⟩ := bnd h
        refine gx_getN dX10_morning_34 ha9 fl_X10_156 rfl ?_
        refine gx_iload_n 2 dX10_morning_37 rfl rfl ?_
        obtain ⟨x10, hx10, h⟩ := bnd h
        refine gx_iald (kd := 13) dX10_morning_38 hx10 rfl rfl ?_
        refine gx_icmp_eq 45 dX10_morning_39 (by decide) (fun c10 => ?_) (fun c10 => ?_)
        · rw [if_pos c10] at h
          exact s_X10_morning_45 ih h
        · rw [if_neg c10] at h
          refine gx_iinc (v := (l1 + (1 : Int32))) (lv' := [(1, .int (l1 + (1 : Int32))), (0, .ref (Γ.B + pp l0)), (2, .int l2)]) 1 dX10_morning_42 rfl (by rw [ic_1]) (Nat.le_of_ble_eq_true rfl) rfl ?_
          exact gx_sub [1, 0, 2] rfl (s_X10_morning_45 ih h)
set_option maxRecDepth 4000 in
theorem s_X10_morning_0 {Γ : Cn} {τ : Mm} {N : Nat} {l0 : Nat} {σ : Mm} {o : Int32 × Mm} (h : f_X10_morning N l0 σ = some o) : Gx Γ M_X10_morning 0 τ (PI o) 0 0 0 [(0, .ref (Γ.B + pp l0))] [] σ := by
  unfold f_X10_morning at h
  refine gx_iconst (v := (0 : Int32)) dX10_morning_0 ic_0 ?_
  refine gx_istore_n (lv' := [(1, .int (0 : Int32)), (0, .ref (Γ.B + pp l0))]) dX10_morning_1 rfl (Nat.le_of_ble_eq_true rfl) rfl ?_
  refine gx_iconst (v := (0 : Int32)) dX10_morning_2 ic_0 ?_
  refine gx_istore_n (lv' := [(2, .int (0 : Int32)), (1, .int (0 : Int32)), (0, .ref (Γ.B + pp l0))]) dX10_morning_3 rfl (Nat.le_of_ble_eq_true rfl) rfl ?_
  exact gx_sub [2, 1, 0] rfl (s_X10_morning_4  N _ _ _ _ _ h)
theorem c_X10_morning {Γ : Cn} {τ : Mm} {N : Nat} {l0 : Nat} {σ : Mm} {o : Int32 × Mm} (h : f_X10_morning N l0 σ = some o) : Ct Γ M_X10_morning yX10_morning 0 τ [.ref (Γ.B + pp l0)] σ (PI o) := ct_of (by decide) rfl (fun _ => by first | rfl | contradiction) (Nat.le_of_ble_eq_true rfl) (s_X10_morning_0  h)
abbrev M_X10_voteOf : Ms := (cX10_voteOf, RX10, 3, (some .int), false, 0, 0, 4)
def f_X10_voteOf (N : Nat) (l0 : Nat) (l1 : Nat) (l2 : Int32) (σ : Mm) : Option (Int32 × Mm) :=
  (gN 10 10 σ l0).bind fun a1 =>
  (gN 10 4 σ l0).bind fun a2 =>
  (ob 1 σ a1).bind fun _ =>
  (f_X1_open N a1 a2 l1 σ).bind fun q3 =>
  (gN 10 10 q3 l0).bind fun a4 =>
  (ob 1 q3 a4).bind fun _ =>
  (f_X1_winner N a4 l2 q3).bind fun q5 =>
  some (q5.1, q5.2)
theorem mov_X10_voteOf : MOV yX10_voteOf M_X10_voteOf 2 10 0 := ⟨⟨tw_96, tw_806, ⟨by decide, by decide⟩, by decide +kernel⟩, tw_805, tw_20, by decide, ⟨_, rfl, rfl⟩, rfl⟩
set_option maxRecDepth 4000 in
theorem s_X10_voteOf_0 {Γ : Cn} {τ : Mm} {N : Nat} {l0 : Nat} {l1 : Nat} {l2 : Int32} {σ : Mm} {o : Int32 × Mm} (h : f_X10_voteOf N l0 l1 l2 σ = some o) : Gx Γ M_X10_voteOf 0 τ (PI o) 0 0 0 [(0, .ref (Γ.B + pp l0)), (1, .ref (Γ.B + pp l1)), (2, .int l2)] [] σ := by
  unfold f_X10_voteOf at h
  refine gx_aload_n 0 dX10_voteOf_0 rfl rfl ?_
  obtain ⟨a1, ha1, h⟩ := bnd h
  refine gx_getN dX10_voteOf_1 ha1 fl_X10_73 rfl ?_
  refine gx_aload_n 0 dX10_voteOf_4 rfl rfl ?_
  obtain ⟨a2, ha2, h⟩ := bnd h
  refine gx_getN dX10_voteOf_5 ha2 fl_X10_42 rfl ?_
  refine gx_aload_n 1 dX10_voteOf_8 rfl rfl ?_
  obtain ⟨_, hobq3, h⟩ := bnd h
  obtain ⟨q3, hq3, h⟩ := bnd h
  refine gx_cVV (As := [.ref (Γ.B + pp a2), .ref (Γ.B + pp l1)]) (st := []) (o := a1) dX10_voteOf_9 (c_X1_open hq3) mov_X1_open tw_807 hobq3 rfl ⟨Nat.le_of_ble_eq_true rfl, Nat.le_of_ble_eq_true rfl⟩ (Nat.le_of_ble_eq_true rfl) ?_
  refine gx_aload_n 0 dX10_voteOf_12 rfl rfl ?_
  obtain ⟨a4, ha4, h⟩ := bnd h
  refine gx_getN dX10_voteOf_13 ha4 fl_X10_73 rfl ?_
  refine gx_iload_n 2 dX10_voteOf_16 rfl rfl ?_
  obtain ⟨_, hobq5, h⟩ := bnd h
  obtain ⟨q5, hq5, h⟩ := bnd h
  refine gx_cVI (As := [.int l2]) (st := []) (o := a4) dX10_voteOf_17 (c_X1_winner hq5) mov_X1_winner tw_816 hobq5 rfl ⟨Nat.le_of_ble_eq_true rfl, Nat.le_of_ble_eq_true rfl⟩ (Nat.le_of_ble_eq_true rfl) ?_
  have h := Option.some.inj h
  subst h
  exact gx_iret dX10_voteOf_20 rfl (Nat.le_of_ble_eq_true rfl) (Nat.le_of_ble_eq_true rfl) ⟨rfl, rfl⟩
theorem c_X10_voteOf {Γ : Cn} {τ : Mm} {N : Nat} {l0 : Nat} {l1 : Nat} {l2 : Int32} {σ : Mm} {o : Int32 × Mm} (h : f_X10_voteOf N l0 l1 l2 σ = some o) : Ct Γ M_X10_voteOf yX10_voteOf 0 τ [.ref (Γ.B + pp l0), .ref (Γ.B + pp l1), .int l2] σ (PI o) := ct_of (by decide) rfl (fun _ => by first | rfl | contradiction) (Nat.le_of_ble_eq_true rfl) (s_X10_voteOf_0  h)
abbrev M_X10_vote : Ms := (cX10_vote, RX10, 2, (some .int), false, 0, 0, 5)
def f_X10_vote_15 (N : Nat) (σ : Mm) : Option (Int32 × Mm) :=
  some ((-1 : Int32), σ)
def f_X10_vote (N : Nat) (l0 : Nat) (l1 : Int32) (σ : Mm) : Option (Int32 × Mm) :=
  (ob 10 σ l0).bind fun _ =>
  (f_X10_isThere N l0 σ).bind fun q1 =>
  if q1.1 = 0 then (
    f_X10_vote_15 N q1.2) else (
    (f_X10_isBelow N l1 (4 : Int32) q1.2).bind fun q3 =>
    if q3.1 = 0 then (
      f_X10_vote_15 N q3.2) else (
      (gN 10 4 q3.2 l0).bind fun a5 =>
      (gN 7 6 q3.2 a5).bind fun a6 =>
      (ob 10 q3.2 l0).bind fun _ =>
      (f_X10_voteOf N l0 a6 l1 q3.2).bind fun q7 =>
      some (q7.1, q7.2)))
theorem mov_X10_vote : MOV yX10_vote M_X10_vote 1 10 0 := ⟨⟨tw_96, tw_802, ⟨by decide, by decide⟩, by decide +kernel⟩, tw_800, tw_801, by decide, ⟨_, rfl, rfl⟩, rfl⟩
set_option maxRecDepth 4000 in
theorem s_X10_vote_15 {Γ : Cn} {τ : Mm} {N : Nat} {σ : Mm} {o : Int32 × Mm} (h : f_X10_vote_15 N σ = some o) : Gx Γ M_X10_vote 0 τ (PI o) 0 0 15 [] [] σ := by
  unfold f_X10_vote_15 at h
  refine gx_iconst (v := (-1 : Int32)) dX10_vote_15 ic_m1 ?_
  have h := Option.some.inj h
  subst h
  exact gx_iret dX10_vote_16 rfl (Nat.le_of_ble_eq_true rfl) (Nat.le_of_ble_eq_true rfl) ⟨rfl, rfl⟩
set_option maxRecDepth 4000 in
theorem s_X10_vote_0 {Γ : Cn} {τ : Mm} {N : Nat} {l0 : Nat} {l1 : Int32} {σ : Mm} {o : Int32 × Mm} (h : f_X10_vote N l0 l1 σ = some o) : Gx Γ M_X10_vote 0 τ (PI o) 0 0 0 [(0, .ref (Γ.B + pp l0)), (1, .int l1)] [] σ := by
  unfold f_X10_vote at h
  refine gx_aload_n 0 dX10_vote_0 rfl rfl ?_
  obtain ⟨_, hobq1, h⟩ := bnd h
  obtain ⟨q1, hq1, h⟩ := bnd h
  refine gx_cVI (As := []) (st := []) (o := l0) dX10_vote_1 (c_X10_isThere hq1) mov_X10_isThere tw_702 hobq1 rfl ⟨Nat.le_of_ble_eq_true rfl, Nat.le_of_ble_eq_true rfl⟩ (Nat.le_of_ble_eq_true rfl) ?_
  refine gx_if_eq 15 dX10_vote_4 (by decide) (fun c1 => ?_) (fun c1 => ?_)
  · rw [if_pos c1] at h
    exact gx_sub [] rfl (s_X10_vote_15  h)
  · rw [if_neg c1] at h
    refine gx_iload_n 1 dX10_vote_7 rfl rfl ?_
    refine gx_iconst (v := (4 : Int32)) dX10_vote_8 ic_4 ?_
    obtain ⟨q3, hq3, h⟩ := bnd h
    refine gx_cSI (As := [.int l1, .int (4 : Int32)]) (st := []) dX10_vote_9 (c_X10_isBelow hq3) mos_X10_isBelow tw_706 rfl ⟨Nat.le_of_ble_eq_true rfl, Nat.le_of_ble_eq_true rfl⟩ (Nat.le_of_ble_eq_true rfl) ?_
    refine gx_if_ne 17 dX10_vote_12 (by decide) (fun c3 => ?_) (fun c3 => ?_)
    · rw [if_neg c3] at h
      refine gx_aload_n 0 dX10_vote_17 rfl rfl ?_
      refine gx_aload_n 0 dX10_vote_18 rfl rfl ?_
      obtain ⟨a5, ha5, h⟩ := bnd h
      refine gx_getN dX10_vote_19 ha5 fl_X10_42 rfl ?_
      obtain ⟨a6, ha6, h⟩ := bnd h
      refine gx_getN dX10_vote_22 ha6 fl_X10_153 rfl ?_
      refine gx_iload_n 1 dX10_vote_25 rfl rfl ?_
      obtain ⟨_, hobq7, h⟩ := bnd h
      obtain ⟨q7, hq7, h⟩ := bnd h
      refine gx_cVI (As := [.ref (Γ.B + pp a6), .int l1]) (st := []) (o := l0) dX10_vote_26 (c_X10_voteOf hq7) mov_X10_voteOf tw_803 hobq7 rfl ⟨Nat.le_of_ble_eq_true rfl, Nat.le_of_ble_eq_true rfl⟩ (Nat.le_of_ble_eq_true rfl) ?_
      have h := Option.some.inj h
      subst h
      exact gx_iret dX10_vote_29 rfl (Nat.le_of_ble_eq_true rfl) (Nat.le_of_ble_eq_true rfl) ⟨rfl, rfl⟩
    · rw [if_pos c3] at h
      exact gx_sub [] rfl (s_X10_vote_15  h)
theorem c_X10_vote {Γ : Cn} {τ : Mm} {N : Nat} {l0 : Nat} {l1 : Int32} {σ : Mm} {o : Int32 × Mm} (h : f_X10_vote N l0 l1 σ = some o) : Ct Γ M_X10_vote yX10_vote 0 τ [.ref (Γ.B + pp l0), .int l1] σ (PI o) := ct_of (by decide) rfl (fun _ => by first | rfl | contradiction) (Nat.le_of_ble_eq_true rfl) (s_X10_vote_0  h)
abbrev M_X10_says : Ms := (cX10_says, RX10, 4, (some .int), false, 0, 0, 1)
def f_X10_says_16 (N : Nat) (σ : Mm) : Option (Int32 × Mm) :=
  some ((-1 : Int32), σ)
def f_X10_says_55 (N : Nat) (r_22 : Nat → Int32 → Int32 → Int32 → Mm → Option (Int32 × Mm)) (l0 : Nat) (l1 : Int32) (l2 : Int32) (l3 : Int32) (σ : Mm) : Option (Int32 × Mm) :=
  r_22 l0 l1 l2 (l3 + (1 : Int32)) σ
def f_X10_says_61 (N : Nat) (l2 : Int32) (σ : Mm) : Option (Int32 × Mm) :=
  some (l2, σ)
def f_X10_says_22 (N : Nat) : Nat → Nat → Int32 → Int32 → Int32 → Mm → Option (Int32 × Mm)
  | 0, _, _, _, _, _ => none
  | n + 1, l0, l1, l2, l3, σ =>
      (gN 10 4 σ l0).bind fun a1 =>
      (gI 7 0 σ a1).bind fun x2 =>
      if x2 ≤ l3 then (
        f_X10_says_61 N l2 σ) else (
        if (12 : Int32) ≤ l3 then (
          f_X10_says_61 N l2 σ) else (
          (gN 10 4 σ l0).bind fun a5 =>
          (gN 7 6 σ a5).bind fun a6 =>
          (aI 13 σ a6 l3).bind fun x7 =>
          if x7 = l1 then (
            f_X10_says_55 N (f_X10_says_22 N n) l0 l1 (l2 + (1 : Int32)) l3 σ) else (
            f_X10_says_55 N (f_X10_says_22 N n) l0 l1 l2 l3 σ)))
def f_X10_says (N : Nat) (l0 : Nat) (l1 : Int32) (σ : Mm) : Option (Int32 × Mm) :=
  (ob 10 σ l0).bind fun _ =>
  (f_X10_isThere N l0 σ).bind fun q1 =>
  if q1.1 = 0 then (
    f_X10_says_16 N q1.2) else (
    (f_X10_isBelow N l1 (8 : Int32) q1.2).bind fun q3 =>
    if q3.1 = 0 then (
      f_X10_says_16 N q3.2) else (
      f_X10_says_22 N N l0 l1 (0 : Int32) (0 : Int32) q3.2))
theorem mov_X10_says : MOV yX10_says M_X10_says 1 10 0 := ⟨⟨tw_96, tw_845, ⟨by decide, by decide⟩, by decide +kernel⟩, tw_843, tw_844, by decide, ⟨_, rfl, rfl⟩, rfl⟩
set_option maxRecDepth 4000 in
theorem s_X10_says_16 {Γ : Cn} {τ : Mm} {N : Nat} {σ : Mm} {o : Int32 × Mm} (h : f_X10_says_16 N σ = some o) : Gx Γ M_X10_says 0 τ (PI o) 0 0 16 [] [] σ := by
  unfold f_X10_says_16 at h
  refine gx_iconst (v := (-1 : Int32)) dX10_says_16 ic_m1 ?_
  have h := Option.some.inj h
  subst h
  exact gx_iret dX10_says_17 rfl (Nat.le_of_ble_eq_true rfl) (Nat.le_of_ble_eq_true rfl) ⟨rfl, rfl⟩
set_option maxRecDepth 4000 in
theorem s_X10_says_55 {Γ : Cn} {τ : Mm} {N : Nat} {r_22 : Nat → Int32 → Int32 → Int32 → Mm → Option (Int32 × Mm)} (hr_22 : ∀ (l0 : Nat) (l1 : Int32) (l2 : Int32) (l3 : Int32) (σ : Mm) (o : Int32 × Mm), r_22 l0 l1 l2 l3 σ = some o → Gx Γ M_X10_says 0 τ (PI o) 0 0 22 [(0, .ref (Γ.B + pp l0)), (1, .int l1), (2, .int l2), (3, .int l3)] [] σ) {l0 : Nat} {l1 : Int32} {l2 : Int32} {l3 : Int32} {σ : Mm} {o : Int32 × Mm} (h : f_X10_says_55 N r_22 l0 l1 l2 l3 σ = some o) : Gx Γ M_X10_says 0 τ (PI o) 0 0 55 [(0, .ref (Γ.B + pp l0)), (1, .int l1), (2, .int l2), (3, .int l3)] [] σ := by
  unfold f_X10_says_55 at h
  refine gx_iinc (v := (l3 + (1 : Int32))) (lv' := [(3, .int (l3 + (1 : Int32))), (0, .ref (Γ.B + pp l0)), (1, .int l1), (2, .int l2)]) 3 dX10_says_55 rfl (by rw [ic_1]) (Nat.le_of_ble_eq_true rfl) rfl ?_
  refine gx_goto 22 dX10_says_58 (by decide) ?_
  exact gx_sub [1, 2, 3, 0] rfl (hr_22 _ _ _ _ _ _ h)
set_option maxRecDepth 4000 in
theorem s_X10_says_61 {Γ : Cn} {τ : Mm} {N : Nat} {l2 : Int32} {σ : Mm} {o : Int32 × Mm} (h : f_X10_says_61 N l2 σ = some o) : Gx Γ M_X10_says 0 τ (PI o) 0 0 61 [(2, .int l2)] [] σ := by
  unfold f_X10_says_61 at h
  refine gx_iload_n 0 dX10_says_61 rfl rfl ?_
  have h := Option.some.inj h
  subst h
  exact gx_iret dX10_says_62 rfl (Nat.le_of_ble_eq_true rfl) (Nat.le_of_ble_eq_true rfl) ⟨rfl, rfl⟩
set_option maxRecDepth 4000 in
theorem s_X10_says_22 {Γ : Cn} {τ : Mm} {N : Nat} : ∀ (n : Nat) (l0 : Nat) (l1 : Int32) (l2 : Int32) (l3 : Int32) (σ : Mm) (o : Int32 × Mm), f_X10_says_22 N n l0 l1 l2 l3 σ = some o → Gx Γ M_X10_says 0 τ (PI o) 0 0 22 [(0, .ref (Γ.B + pp l0)), (1, .int l1), (2, .int l2), (3, .int l3)] [] σ := by
  intro n
  induction n with
  | zero =>
    intro l0 l1 l2 l3 σ o h
    exact absurd h (by rw [f_X10_says_22]; exact fun q => nomatch q)
  | succ n ih =>
    intro l0 l1 l2 l3 σ o h
    rw [f_X10_says_22] at h
    refine gx_iload_n 3 dX10_says_22 rfl rfl ?_
    refine gx_aload_n 0 dX10_says_23 rfl rfl ?_
    obtain ⟨a1, ha1, h⟩ := bnd h
    refine gx_getN dX10_says_24 ha1 fl_X10_42 rfl ?_
    obtain ⟨x2, hx2, h⟩ := bnd h
    refine gx_getI dX10_says_27 hx2 fl_X10_128 rfl ?_
    refine gx_icmp_ge 61 dX10_says_30 (by decide) (fun c2 => ?_) (fun c2 => ?_)
    · rw [if_pos c2] at h
      exact gx_sub [2] rfl (s_X10_says_61  h)
    · rw [if_neg c2] at h
      refine gx_iload_n 3 dX10_says_33 rfl rfl ?_
      refine gx_bipush (v := (12 : Int32)) dX10_says_34 ib_12 ?_
      refine gx_icmp_ge 61 dX10_says_36 (by decide) (fun c3 => ?_) (fun c3 => ?_)
      · rw [if_pos c3] at h
        exact gx_sub [2] rfl (s_X10_says_61  h)
      · rw [if_neg c3] at h
        refine gx_aload_n 0 dX10_says_39 rfl rfl ?_
        obtain ⟨a5, ha5, h⟩ := bnd h
        refine gx_getN dX10_says_40 ha5 fl_X10_42 rfl ?_
        obtain ⟨a6, ha6, h⟩ := bnd h
        refine gx_getN dX10_says_43 ha6 fl_X10_153 rfl ?_
        refine gx_iload_n 3 dX10_says_46 rfl rfl ?_
        obtain ⟨x7, hx7, h⟩ := bnd h
        refine gx_iald (kd := 13) dX10_says_47 hx7 rfl rfl ?_
        refine gx_iload_n 1 dX10_says_48 rfl rfl ?_
        refine gx_icmp_ne 55 dX10_says_49 (by decide) (fun c7 => ?_) (fun c7 => ?_)
        · rw [if_neg c7] at h
          exact s_X10_says_55 ih h
        · rw [if_pos c7] at h
          refine gx_iinc (v := (l2 + (1 : Int32))) (lv' := [(2, .int (l2 + (1 : Int32))), (0, .ref (Γ.B + pp l0)), (1, .int l1), (3, .int l3)]) 2 dX10_says_52 rfl (by rw [ic_1]) (Nat.le_of_ble_eq_true rfl) rfl ?_
          exact gx_sub [1, 2, 0, 3] rfl (s_X10_says_55 ih h)
set_option maxRecDepth 4000 in
theorem s_X10_says_0 {Γ : Cn} {τ : Mm} {N : Nat} {l0 : Nat} {l1 : Int32} {σ : Mm} {o : Int32 × Mm} (h : f_X10_says N l0 l1 σ = some o) : Gx Γ M_X10_says 0 τ (PI o) 0 0 0 [(0, .ref (Γ.B + pp l0)), (1, .int l1)] [] σ := by
  unfold f_X10_says at h
  refine gx_aload_n 0 dX10_says_0 rfl rfl ?_
  obtain ⟨_, hobq1, h⟩ := bnd h
  obtain ⟨q1, hq1, h⟩ := bnd h
  refine gx_cVI (As := []) (st := []) (o := l0) dX10_says_1 (c_X10_isThere hq1) mov_X10_isThere tw_702 hobq1 rfl ⟨Nat.le_of_ble_eq_true rfl, Nat.le_of_ble_eq_true rfl⟩ (Nat.le_of_ble_eq_true rfl) ?_
  refine gx_if_eq 16 dX10_says_4 (by decide) (fun c1 => ?_) (fun c1 => ?_)
  · rw [if_pos c1] at h
    exact gx_sub [] rfl (s_X10_says_16  h)
  · rw [if_neg c1] at h
    refine gx_iload_n 1 dX10_says_7 rfl rfl ?_
    refine gx_bipush (v := (8 : Int32)) dX10_says_8 ib_8 ?_
    obtain ⟨q3, hq3, h⟩ := bnd h
    refine gx_cSI (As := [.int l1, .int (8 : Int32)]) (st := []) dX10_says_10 (c_X10_isBelow hq3) mos_X10_isBelow tw_706 rfl ⟨Nat.le_of_ble_eq_true rfl, Nat.le_of_ble_eq_true rfl⟩ (Nat.le_of_ble_eq_true rfl) ?_
    refine gx_if_ne 18 dX10_says_13 (by decide) (fun c3 => ?_) (fun c3 => ?_)
    · rw [if_neg c3] at h
      refine gx_iconst (v := (0 : Int32)) dX10_says_18 ic_0 ?_
      refine gx_istore_n (lv' := [(2, .int (0 : Int32)), (0, .ref (Γ.B + pp l0)), (1, .int l1)]) dX10_says_19 rfl (Nat.le_of_ble_eq_true rfl) rfl ?_
      refine gx_iconst (v := (0 : Int32)) dX10_says_20 ic_0 ?_
      refine gx_istore_n (lv' := [(3, .int (0 : Int32)), (2, .int (0 : Int32)), (0, .ref (Γ.B + pp l0)), (1, .int l1)]) dX10_says_21 rfl (Nat.le_of_ble_eq_true rfl) rfl ?_
      exact gx_sub [2, 3, 1, 0] rfl (s_X10_says_22  N _ _ _ _ _ _ h)
    · rw [if_pos c3] at h
      exact gx_sub [] rfl (s_X10_says_16  h)
theorem c_X10_says {Γ : Cn} {τ : Mm} {N : Nat} {l0 : Nat} {l1 : Int32} {σ : Mm} {o : Int32 × Mm} (h : f_X10_says N l0 l1 σ = some o) : Ct Γ M_X10_says yX10_says 0 τ [.ref (Γ.B + pp l0), .int l1] σ (PI o) := ct_of (by decide) rfl (fun _ => by first | rfl | contradiction) (Nat.le_of_ble_eq_true rfl) (s_X10_says_0  h)
abbrev M_X10_canBuy : Ms := (cX10_canBuy, RX10, 3, (some .boolean), false, 0, 0, 1)
def f_X10_canBuy_29 (N : Nat) (t0 : Int32) (σ : Mm) : Option (Int32 × Mm) :=
  if t0 = 0 ∨ t0 = 1 then some (t0, σ) else none
def f_X10_canBuy_28 (N : Nat) (σ : Mm) : Option (Int32 × Mm) :=
  f_X10_canBuy_29 N (0 : Int32) σ
def f_X10_canBuy (N : Nat) (l0 : Nat) (l1 : Int32) (l2 : Int32) (σ : Mm) : Option (Int32 × Mm) :=
  (ob 10 σ l0).bind fun _ =>
  (f_X10_isThere N l0 σ).bind fun q1 =>
  if q1.1 = 0 then (
    f_X10_canBuy_28 N q1.2) else (
    (f_X10_isBelow N l1 (4 : Int32) q1.2).bind fun q3 =>
    if q3.1 = 0 then (
      f_X10_canBuy_28 N q3.2) else (
      (f_X10_isBelow N l2 (8 : Int32) q3.2).bind fun q5 =>
      if q5.1 = 0 then (
        f_X10_canBuy_28 N q5.2) else (
        f_X10_canBuy_29 N (1 : Int32) q5.2)))
theorem mov_X10_canBuy : MOV yX10_canBuy M_X10_canBuy 2 10 0 := ⟨⟨tw_96, tw_853, ⟨by decide, by decide⟩, by decide +kernel⟩, tw_852, tw_27, by decide, ⟨_, rfl, rfl⟩, rfl⟩
set_option maxRecDepth 4000 in
theorem s_X10_canBuy_29 {Γ : Cn} {τ : Mm} {N : Nat} {t0 : Int32} {σ : Mm} {o : Int32 × Mm} (h : f_X10_canBuy_29 N t0 σ = some o) : Gx Γ M_X10_canBuy 0 τ (PI o) 0 0 29 [] [.int t0] σ := by
  unfold f_X10_canBuy_29 at h
  obtain ⟨hz, h⟩ := of_if h
  have h := Option.some.inj h
  subst h
  exact gx_zret dX10_canBuy_29 rfl (nar_z hz) (Nat.le_of_ble_eq_true rfl) (Nat.le_of_ble_eq_true rfl) ⟨rfl, rfl⟩
set_option maxRecDepth 4000 in
theorem s_X10_canBuy_28 {Γ : Cn} {τ : Mm} {N : Nat} {σ : Mm} {o : Int32 × Mm} (h : f_X10_canBuy_28 N σ = some o) : Gx Γ M_X10_canBuy 0 τ (PI o) 0 0 28 [] [] σ := by
  unfold f_X10_canBuy_28 at h
  refine gx_iconst (v := (0 : Int32)) dX10_canBuy_28 ic_0 ?_
  exact s_X10_canBuy_29  h
set_option maxRecDepth 4000 in
theorem s_X10_canBuy_0 {Γ : Cn} {τ : Mm} {N : Nat} {l0 : Nat} {l1 : Int32} {l2 : Int32} {σ : Mm} {o : Int32 × Mm} (h : f_X10_canBuy N l0 l1 l2 σ = some o) : Gx Γ M_X10_canBuy 0 τ (PI o) 0 0 0 [(0, .ref (Γ.B + pp l0)), (1, .int l1), (2, .int l2)] [] σ := by
  unfold f_X10_canBuy at h
  refine gx_aload_n 0 dX10_canBuy_0 rfl rfl ?_
  obtain ⟨_, hobq1, h⟩ := bnd h
  obtain ⟨q1, hq1, h⟩ := bnd h
  refine gx_cVI (As := []) (st := []) (o := l0) dX10_canBuy_1 (c_X10_isThere hq1) mov_X10_isThere tw_702 hobq1 rfl ⟨Nat.le_of_ble_eq_true rfl, Nat.le_of_ble_eq_true rfl⟩ (Nat.le_of_ble_eq_true rfl) ?_
  refine gx_if_eq 28 dX10_canBuy_4 (by decide) (fun c1 => ?_) (fun c1 => ?_)
  · rw [if_pos c1] at h
    exact gx_sub [] rfl (s_X10_canBuy_28  h)
  · rw [if_neg c1] at h
    refine gx_iload_n 1 dX10_canBuy_7 rfl rfl ?_
    refine gx_iconst (v := (4 : Int32)) dX10_canBuy_8 ic_4 ?_
    obtain ⟨q3, hq3, h⟩ := bnd h
    refine gx_cSI (As := [.int l1, .int (4 : Int32)]) (st := []) dX10_canBuy_9 (c_X10_isBelow hq3) mos_X10_isBelow tw_706 rfl ⟨Nat.le_of_ble_eq_true rfl, Nat.le_of_ble_eq_true rfl⟩ (Nat.le_of_ble_eq_true rfl) ?_
    refine gx_if_eq 28 dX10_canBuy_12 (by decide) (fun c3 => ?_) (fun c3 => ?_)
    · rw [if_pos c3] at h
      exact gx_sub [] rfl (s_X10_canBuy_28  h)
    · rw [if_neg c3] at h
      refine gx_iload_n 2 dX10_canBuy_15 rfl rfl ?_
      refine gx_bipush (v := (8 : Int32)) dX10_canBuy_16 ib_8 ?_
      obtain ⟨q5, hq5, h⟩ := bnd h
      refine gx_cSI (As := [.int l2, .int (8 : Int32)]) (st := []) dX10_canBuy_18 (c_X10_isBelow hq5) mos_X10_isBelow tw_706 rfl ⟨Nat.le_of_ble_eq_true rfl, Nat.le_of_ble_eq_true rfl⟩ (Nat.le_of_ble_eq_true rfl) ?_
      refine gx_if_eq 28 dX10_canBuy_21 (by decide) (fun c5 => ?_) (fun c5 => ?_)
      · rw [if_pos c5] at h
        exact gx_sub [] rfl (s_X10_canBuy_28  h)
      · rw [if_neg c5] at h
        refine gx_iconst (v := (1 : Int32)) dX10_canBuy_24 ic_1 ?_
        refine gx_goto 29 dX10_canBuy_25 (by decide) ?_
        exact gx_sub [] rfl (s_X10_canBuy_29  h)
theorem c_X10_canBuy {Γ : Cn} {τ : Mm} {N : Nat} {l0 : Nat} {l1 : Int32} {l2 : Int32} {σ : Mm} {o : Int32 × Mm} (h : f_X10_canBuy N l0 l1 l2 σ = some o) : Ct Γ M_X10_canBuy yX10_canBuy 0 τ [.ref (Γ.B + pp l0), .int l1, .int l2] σ (PI o) := ct_of (by decide) rfl (fun _ => by first | rfl | contradiction) (Nat.le_of_ble_eq_true rfl) (s_X10_canBuy_0  h)
abbrev M_X10_cheapest : Ms := (cX10_cheapest, RX10, 5, (some .int), false, 0, 0, 5)
def f_X10_cheapest_29 (N : Nat) (σ : Mm) : Option (Int32 × Mm) :=
  some ((-1 : Int32), σ)
def f_X10_cheapest (N : Nat) (l0 : Nat) (l1 : Int32) (l2 : Int32) (l3 : Int32) (l4 : Int32) (σ : Mm) : Option (Int32 × Mm) :=
  (ob 10 σ l0).bind fun _ =>
  (f_X10_canBuy N l0 l1 l2 σ).bind fun q1 =>
  if q1.1 = 0 then (
    f_X10_cheapest_29 N q1.2) else (
    (gN 10 4 q1.2 l0).bind fun a3 =>
    (ob 7 q1.2 a3).bind fun _ =>
    (f_X7_hasAllOf N a3 l3 q1.2).bind fun q4 =>
    if q4.1 = 0 then (
      f_X10_cheapest_29 N q4.2) else (
      (f_X10_isBelow N l4 (2 : Int32) q4.2).bind fun q6 =>
      if q6.1 = 0 then (
        f_X10_cheapest_29 N q6.2) else (
        (gN 10 11 q6.2 l0).bind fun a8 =>
        (gN 10 4 q6.2 l0).bind fun a9 =>
        (ob 4 q6.2 a8).bind fun _ =>
        (f_X4_startFrom N a8 a9 q6.2).bind fun q10 =>
        (gN 10 11 q10 l0).bind fun a11 =>
        (gN 10 4 q10 l0).bind fun a12 =>
        (ob 4 q10 a11).bind fun _ =>
        (f_X4_bendTo N a11 a12 l2 q10).bind fun q13 =>
        (gN 10 11 q13 l0).bind fun a14 =>
        (gN 10 4 q13 l0).bind fun a15 =>
        (ob 4 q13 a14).bind fun _ =>
        (f_X4_run N a14 a15 l1 l2 (l3 ^^^ (-1 : Int32)) q13).bind fun q16 =>
        (gN 10 11 q16 l0).bind fun a17 =>
        (ob 4 q16 a17).bind fun _ =>
        (f_X4_told N a17 l4 q16).bind fun q18 =>
        some (q18.1, q18.2))))
theorem mov_X10_cheapest : MOV yX10_cheapest M_X10_cheapest 4 10 0 := ⟨⟨tw_96, tw_849, ⟨by decide, by decide⟩, by decide +kernel⟩, tw_847, tw_848, by decide, ⟨_, rfl, rfl⟩, rfl⟩
set_option maxRecDepth 4000 in
theorem s_X10_cheapest_29 {Γ : Cn} {τ : Mm} {N : Nat} {σ : Mm} {o : Int32 × Mm} (h : f_X10_cheapest_29 N σ = some o) : Gx Γ M_X10_cheapest 0 τ (PI o) 0 0 29 [] [] σ := by
  unfold f_X10_cheapest_29 at h
  refine gx_iconst (v := (-1 : Int32)) dX10_cheapest_29 ic_m1 ?_
  have h := Option.some.inj h
  subst h
  exact gx_iret dX10_cheapest_30 rfl (Nat.le_of_ble_eq_true rfl) (Nat.le_of_ble_eq_true rfl) ⟨rfl, rfl⟩
set_option maxRecDepth 4000 in
theorem s_X10_cheapest_0 {Γ : Cn} {τ : Mm} {N : Nat} {l0 : Nat} {l1 : Int32} {l2 : Int32} {l3 : Int32} {l4 : Int32} {σ : Mm} {o : Int32 × Mm} (h : f_X10_cheapest N l0 l1 l2 l3 l4 σ = some o) : Gx Γ M_X10_cheapest 0 τ (PI o) 0 0 0 [(0, .ref (Γ.B + pp l0)), (1, .int l1), (2, .int l2), (3, .int l3), (4, .int l4)] [] σ := by
  unfold f_X10_cheapest at h
  refine gx_aload_n 0 dX10_cheapest_0 rfl rfl ?_
  refine gx_iload_n 1 dX10_cheapest_1 rfl rfl ?_
  refine gx_iload_n 2 dX10_cheapest_2 rfl rfl ?_
  obtain ⟨_, hobq1, h⟩ := bnd h
  obtain ⟨q1, hq1, h⟩ := bnd h
  refine gx_cVI (As := [.int l1, .int l2]) (st := []) (o := l0) dX10_cheapest_3 (c_X10_canBuy hq1) mov_X10_canBuy tw_850 hobq1 rfl ⟨Nat.le_of_ble_eq_true rfl, Nat.le_of_ble_eq_true rfl⟩ (Nat.le_of_ble_eq_true rfl) ?_
  refine gx_if_eq 29 dX10_cheapest_6 (by decide) (fun c1 => ?_) (fun c1 => ?_)
  · rw [if_pos c1] at h
    exact gx_sub [] rfl (s_X10_cheapest_29  h)
  · rw [if_neg c1] at h
    refine gx_aload_n 0 dX10_cheapest_9 rfl rfl ?_
    obtain ⟨a3, ha3, h⟩ := bnd h
    refine gx_getN dX10_cheapest_10 ha3 fl_X10_42 rfl ?_
    refine gx_iload_n 3 dX10_cheapest_13 rfl rfl ?_
    obtain ⟨_, hobq4, h⟩ := bnd h
    obtain ⟨q4, hq4, h⟩ := bnd h
    refine gx_cVI (As := [.int l3]) (st := []) (o := a3) dX10_cheapest_14 (c_X7_hasAllOf hq4) mov_X7_hasAllOf tw_854 hobq4 rfl ⟨Nat.le_of_ble_eq_true rfl, Nat.le_of_ble_eq_true rfl⟩ (Nat.le_of_ble_eq_true rfl) ?_
    refine gx_if_eq 29 dX10_cheapest_17 (by decide) (fun c4 => ?_) (fun c4 => ?_)
    · rw [if_pos c4] at h
      exact gx_sub [] rfl (s_X10_cheapest_29  h)
    · rw [if_neg c4] at h
      refine gx_iload 4 dX10_cheapest_20 rfl ?_
      refine gx_iconst (v := (2 : Int32)) dX10_cheapest_22 ic_2 ?_
      obtain ⟨q6, hq6, h⟩ := bnd h
      refine gx_cSI (As := [.int l4, .int (2 : Int32)]) (st := []) dX10_cheapest_23 (c_X10_isBelow hq6) mos_X10_isBelow tw_706 rfl ⟨Nat.le_of_ble_eq_true rfl, Nat.le_of_ble_eq_true rfl⟩ (Nat.le_of_ble_eq_true rfl) ?_
      refine gx_if_ne 31 dX10_cheapest_26 (by decide) (fun c6 => ?_) (fun c6 => ?_)
      · rw [if_neg c6] at h
        refine gx_aload_n 0 dX10_cheapest_31 rfl rfl ?_
        obtain ⟨a8, ha8, h⟩ := bnd h
        refine gx_getN dX10_cheapest_32 ha8 fl_X10_82 rfl ?_
        refine gx_aload_n 0 dX10_cheapest_35 rfl rfl ?_
        obtain ⟨a9, ha9, h⟩ := bnd h
        refine gx_getN dX10_cheapest_36 ha9 fl_X10_42 rfl ?_
        obtain ⟨_, hobq10, h⟩ := bnd h
        obtain ⟨q10, hq10, h⟩ := bnd h
        refine gx_cVV (As := [.ref (Γ.B + pp a9)]) (st := []) (o := a8) dX10_cheapest_39 (c_X4_startFrom hq10) mov_X4_startFrom tw_858 hobq10 rfl ⟨Nat.le_of_ble_eq_true rfl, Nat.le_of_ble_eq_true rfl⟩ (Nat.le_of_ble_eq_true rfl) ?_
        refine gx_aload_n 0 dX10_cheapest_42 rfl rfl ?_
        obtain ⟨a11, ha11, h⟩ := bnd h
        refine gx_getN dX10_cheapest_43 ha11 fl_X10_82 rfl ?_
        refine gx_aload_n 0 dX10_cheapest_46 rfl rfl ?_
        obtain ⟨a12, ha12, h⟩ := bnd h
        refine gx_getN dX10_cheapest_47 ha12 fl_X10_42 rfl ?_
        refine gx_iload_n 2 dX10_cheapest_50 rfl rfl ?_
        obtain ⟨_, hobq13, h⟩ := bnd h
        obtain ⟨q13, hq13, h⟩ := bnd h
        refine gx_cVV (As := [.ref (Γ.B + pp a12), .int l2]) (st := []) (o := a11) dX10_cheapest_51 (c_X4_bendTo hq13) mov_X4_bendTo tw_863 hobq13 rfl ⟨Nat.le_of_ble_eq_true rfl, Nat.le_of_ble_eq_true rfl⟩ (Nat.le_of_ble_eq_true rfl) ?_
        refine gx_aload_n 0 dX10_cheapest_54 rfl rfl ?_
        obtain ⟨a14, ha14, h⟩ := bnd h
        refine gx_getN dX10_cheapest_55 ha14 fl_X10_82 rfl ?_
        refine gx_aload_n 0 dX10_cheapest_58 rfl rfl ?_
        obtain ⟨a15, ha15, h⟩ := bnd h
        refine gx_getN dX10_cheapest_59 ha15 fl_X10_42 rfl ?_
        refine gx_iload_n 1 dX10_cheapest_62 rfl rfl ?_
        refine gx_iload_n 2 dX10_cheapest_63 rfl rfl ?_
        refine gx_iload_n 3 dX10_cheapest_64 rfl rfl ?_
        refine gx_iconst (v := (-1 : Int32)) dX10_cheapest_65 ic_m1 ?_
        refine gx_ixor dX10_cheapest_66 ?_
        obtain ⟨_, hobq16, h⟩ := bnd h
        obtain ⟨q16, hq16, h⟩ := bnd h
        refine gx_cVV (As := [.ref (Γ.B + pp a15), .int l1, .int l2, .int (l3 ^^^ (-1 : Int32))]) (st := []) (o := a14) dX10_cheapest_67 (c_X4_run hq16) mov_X4_run tw_868 hobq16 rfl ⟨Nat.le_of_ble_eq_true rfl, Nat.le_of_ble_eq_true rfl⟩ (Nat.le_of_ble_eq_true rfl) ?_
        refine gx_aload_n 0 dX10_cheapest_70 rfl rfl ?_
        obtain ⟨a17, ha17, h⟩ := bnd h
        refine gx_getN dX10_cheapest_71 ha17 fl_X10_82 rfl ?_
        refine gx_iload 4 dX10_cheapest_74 rfl ?_
        obtain ⟨_, hobq18, h⟩ := bnd h
        obtain ⟨q18, hq18, h⟩ := bnd h
        refine gx_cVI (As := [.int l4]) (st := []) (o := a17) dX10_cheapest_76 (c_X4_told hq18) mov_X4_told tw_901 hobq18 rfl ⟨Nat.le_of_ble_eq_true rfl, Nat.le_of_ble_eq_true rfl⟩ (Nat.le_of_ble_eq_true rfl) ?_
        have h := Option.some.inj h
        subst h
        exact gx_iret dX10_cheapest_79 rfl (Nat.le_of_ble_eq_true rfl) (Nat.le_of_ble_eq_true rfl) ⟨rfl, rfl⟩
      · rw [if_pos c6] at h
        exact gx_sub [] rfl (s_X10_cheapest_29  h)
theorem c_X10_cheapest {Γ : Cn} {τ : Mm} {N : Nat} {l0 : Nat} {l1 : Int32} {l2 : Int32} {l3 : Int32} {l4 : Int32} {σ : Mm} {o : Int32 × Mm} (h : f_X10_cheapest N l0 l1 l2 l3 l4 σ = some o) : Ct Γ M_X10_cheapest yX10_cheapest 0 τ [.ref (Γ.B + pp l0), .int l1, .int l2, .int l3, .int l4] σ (PI o) := ct_of (by decide) rfl (fun _ => by first | rfl | contradiction) (Nat.le_of_ble_eq_true rfl) (s_X10_cheapest_0  h)
abbrev M_X10_answer : Ms := (cX10_answer, RX10, 7, (some .int), false, 0, 0, 5)
def f_X10_answer_28 (N : Nat) (σ : Mm) : Option (Int32 × Mm) :=
  some ((-1 : Int32), σ)
def f_X10_answer_53 (N : Nat) (σ : Mm) : Option (Int32 × Mm) :=
  some ((-1 : Int32), σ)
def f_X10_answer (N : Nat) (l0 : Nat) (l1 : Int32) (l2 : Int32) (l3 : Int32) (l4 : Int32) (l5 : Int32) (l6 : Int32) (σ : Mm) : Option (Int32 × Mm) :=
  (ob 10 σ l0).bind fun _ =>
  (f_X10_canBuy N l0 l1 l2 σ).bind fun q1 =>
  if q1.1 = 0 then (
    f_X10_answer_28 N q1.2) else (
    (f_X10_isBelow N l4 (8 : Int32) q1.2).bind fun q3 =>
    if q3.1 = 0 then (
      f_X10_answer_28 N q3.2) else (
      (f_X10_isBelow N l6 (2 : Int32) q3.2).bind fun q5 =>
      if q5.1 = 0 then (
        f_X10_answer_28 N q5.2) else (
        (gN 10 4 q5.2 l0).bind fun a7 =>
        (ob 7 q5.2 a7).bind fun _ =>
        (f_X7_hasAllOf N a7 l3 q5.2).bind fun q8 =>
        if q8.1 = 0 then (
          f_X10_answer_53 N q8.2) else (
          (gN 10 4 q8.2 l0).bind fun a10 =>
          (ob 7 q8.2 a10).bind fun _ =>
          (f_X7_hasAllOf N a10 l5 q8.2).bind fun q11 =>
          if q11.1 = 0 then (
            f_X10_answer_53 N q11.2) else (
            (gN 10 11 q11.2 l0).bind fun a13 =>
            (gN 10 4 q11.2 l0).bind fun a14 =>
            (ob 4 q11.2 a13).bind fun _ =>
            (f_X4_startFrom N a13 a14 q11.2).bind fun q15 =>
            (gN 10 11 q15 l0).bind fun a16 =>
            (gN 10 4 q15 l0).bind fun a17 =>
            (ob 4 q15 a16).bind fun _ =>
            (f_X4_bendTo N a16 a17 l2 q15).bind fun q18 =>
            (gN 10 11 q18 l0).bind fun a19 =>
            (gN 10 4 q18 l0).bind fun a20 =>
            (ob 4 q18 a19).bind fun _ =>
            (f_X4_run N a19 a20 l1 l2 (l3 ^^^ (-1 : Int32)) q18).bind fun q21 =>
            (gN 10 11 q21 l0).bind fun a22 =>
            (gI 4 6 q21 a22).bind fun x23 =>
            if x23 = 0 then (
              some ((-2 : Int32), q21)) else (
              (gN 10 11 q21 l0).bind fun a25 =>
              (gN 10 4 q21 l0).bind fun a26 =>
              (ob 4 q21 a25).bind fun _ =>
              (f_X4_startFromFound N a25 a26 q21).bind fun q27 =>
              (gN 10 11 q27 l0).bind fun a28 =>
              (gN 10 4 q27 l0).bind fun a29 =>
              (ob 4 q27 a28).bind fun _ =>
              (f_X4_bendTo N a28 a29 l4 q27).bind fun q30 =>
              (gN 10 11 q30 l0).bind fun a31 =>
              (gN 10 4 q30 l0).bind fun a32 =>
              (ob 4 q30 a31).bind fun _ =>
              (f_X4_run N a31 a32 l1 l4 (l5 ^^^ (-1 : Int32)) q30).bind fun q33 =>
              (gN 10 11 q33 l0).bind fun a34 =>
              (ob 4 q33 a34).bind fun _ =>
              (f_X4_told N a34 l6 q33).bind fun q35 =>
              some (q35.1, q35.2)))))))
theorem mov_X10_answer : MOV yX10_answer M_X10_answer 6 10 0 := ⟨⟨tw_96, tw_908, ⟨by decide, by decide⟩, by decide +kernel⟩, tw_906, tw_907, by decide, ⟨_, rfl, rfl⟩, rfl⟩
set_option maxRecDepth 4000 in
theorem s_X10_answer_28 {Γ : Cn} {τ : Mm} {N : Nat} {σ : Mm} {o : Int32 × Mm} (h : f_X10_answer_28 N σ = some o) : Gx Γ M_X10_answer 0 τ (PI o) 0 0 28 [] [] σ := by
  unfold f_X10_answer_28 at h
  refine gx_iconst (v := (-1 : Int32)) dX10_answer_28 ic_m1 ?_
  have h := Option.some.inj h
  subst h
  exact gx_iret dX10_answer_29 rfl (Nat.le_of_ble_eq_true rfl) (Nat.le_of_ble_eq_true rfl) ⟨rfl, rfl⟩
set_option maxRecDepth 4000 in
theorem s_X10_answer_53 {Γ : Cn} {τ : Mm} {N : Nat} {σ : Mm} {o : Int32 × Mm} (h : f_X10_answer_53 N σ = some o) : Gx Γ M_X10_answer 0 τ (PI o) 0 0 53 [] [] σ := by
  unfold f_X10_answer_53 at h
  refine gx_iconst (v := (-1 : Int32)) dX10_answer_53 ic_m1 ?_
  have h := Option.some.inj h
  subst h
  exact gx_iret dX10_answer_54 rfl (Nat.le_of_ble_eq_true rfl) (Nat.le_of_ble_eq_true rfl) ⟨rfl, rfl⟩
set_option maxRecDepth 4000 in
theorem s_X10_answer_0 {Γ : Cn} {τ : Mm} {N : Nat} {l0 : Nat} {l1 : Int32} {l2 : Int32} {l3 : Int32} {l4 : Int32} {l5 : Int32} {l6 : Int32} {σ : Mm} {o : Int32 × Mm} (h : f_X10_answer N l0 l1 l2 l3 l4 l5 l6 σ = some o) : Gx Γ M_X10_answer 0 τ (PI o) 0 0 0 [(0, .ref (Γ.B + pp l0)), (1, .int l1), (2, .int l2), (3, .int l3), (4, .int l4), (5, .int l5), (6, .int l6)] [] σ := by
  unfold f_X10_answer at h
  refine gx_aload_n 0 dX10_answer_0 rfl rfl ?_
  refine gx_iload_n 1 dX10_answer_1 rfl rfl ?_
  refine gx_iload_n 2 dX10_answer_2 rfl rfl ?_
  obtain ⟨_, hobq1, h⟩ := bnd h
  obtain ⟨q1, hq1, h⟩ := bnd h
  refine gx_cVI (As := [.int l1, .int l2]) (st := []) (o := l0) dX10_answer_3 (c_X10_canBuy hq1) mov_X10_canBuy tw_850 hobq1 rfl ⟨Nat.le_of_ble_eq_true rfl, Nat.le_of_ble_eq_true rfl⟩ (Nat.le_of_ble_eq_true rfl) ?_
  refine gx_if_eq 28 dX10_answer_6 (by decide) (fun c1 => ?_) (fun c1 => ?_)
  · rw [if_pos c1] at h
    exact gx_sub [] rfl (s_X10_answer_28  h)
  · rw [if_neg c1] at h
    refine gx_iload 4 dX10_answer_9 rfl ?_
    refine gx_bipush (v := (8 : Int32)) dX10_answer_11 ib_8 ?_
    obtain ⟨q3, hq3, h⟩ := bnd h
    refine gx_cSI (As := [.int l4, .int (8 : Int32)]) (st := []) dX10_answer_13 (c_X10_isBelow hq3) mos_X10_isBelow tw_706 rfl ⟨Nat.le_of_ble_eq_true rfl, Nat.le_of_ble_eq_true rfl⟩ (Nat.le_of_ble_eq_true rfl) ?_
    refine gx_if_eq 28 dX10_answer_16 (by decide) (fun c3 => ?_) (fun c3 => ?_)
    · rw [if_pos c3] at h
      exact gx_sub [] rfl (s_X10_answer_28  h)
    · rw [if_neg c3] at h
      refine gx_iload 6 dX10_answer_19 rfl ?_
      refine gx_iconst (v := (2 : Int32)) dX10_answer_21 ic_2 ?_
      obtain ⟨q5, hq5, h⟩ := bnd h
      refine gx_cSI (As := [.int l6, .int (2 : Int32)]) (st := []) dX10_answer_22 (c_X10_isBelow hq5) mos_X10_isBelow tw_706 rfl ⟨Nat.le_of_ble_eq_true rfl, Nat.le_of_ble_eq_true rfl⟩ (Nat.le_of_ble_eq_true rfl) ?_
      refine gx_if_ne 30 dX10_answer_25 (by decide) (fun c5 => ?_) (fun c5 => ?_)
      · rw [if_neg c5] at h
        refine gx_aload_n 0 dX10_answer_30 rfl rfl ?_
        obtain ⟨a7, ha7, h⟩ := bnd h
        refine gx_getN dX10_answer_31 ha7 fl_X10_42 rfl ?_
        refine gx_iload_n 3 dX10_answer_34 rfl rfl ?_
        obtain ⟨_, hobq8, h⟩ := bnd h
        obtain ⟨q8, hq8, h⟩ := bnd h
        refine gx_cVI (As := [.int l3]) (st := []) (o := a7) dX10_answer_35 (c_X7_hasAllOf hq8) mov_X7_hasAllOf tw_854 hobq8 rfl ⟨Nat.le_of_ble_eq_true rfl, Nat.le_of_ble_eq_true rfl⟩ (Nat.le_of_ble_eq_true rfl) ?_
        refine gx_if_eq 53 dX10_answer_38 (by decide) (fun c8 => ?_) (fun c8 => ?_)
        · rw [if_pos c8] at h
          exact gx_sub [] rfl (s_X10_answer_53  h)
        · rw [if_neg c8] at h
          refine gx_aload_n 0 dX10_answer_41 rfl rfl ?_
          obtain ⟨a10, ha10, h⟩ := bnd h
          refine gx_getN dX10_answer_42 ha10 fl_X10_42 rfl ?_
          refine gx_iload 5 dX10_answer_45 rfl ?_
          obtain ⟨_, hobq11, h⟩ := bnd h
          obtain ⟨q11, hq11, h⟩ := bnd h
          refine gx_cVI (As := [.int l5]) (st := []) (o := a10) dX10_answer_47 (c_X7_hasAllOf hq11) mov_X7_hasAllOf tw_854 hobq11 rfl ⟨Nat.le_of_ble_eq_true rfl, Nat.le_of_ble_eq_true rfl⟩ (Nat.le_of_ble_eq_true rfl) ?_
          refine gx_if_ne 55 dX10_answer_50 (by decide) (fun c11 => ?_) (fun c11 => ?_)
          · rw [if_neg c11] at h
            refine gx_aload_n 0 dX10_answer_55 rfl rfl ?_
            obtain ⟨a13, ha13, h⟩ := bnd h
            refine gx_getN dX10_answer_56 ha13 fl_X10_82 rfl ?_
            refine gx_aload_n 0 dX10_answer_59 rfl rfl ?_
            obtain ⟨a14, ha14, h⟩ := bnd h
            refine gx_getN dX10_answer_60 ha14 fl_X10_42 rfl ?_
            obtain ⟨_, hobq15, h⟩ := bnd h
            obtain ⟨q15, hq15, h⟩ := bnd h
            refine gx_cVV (As := [.ref (Γ.B + pp a14)]) (st := []) (o := a13) dX10_answer_63 (c_X4_startFrom hq15) mov_X4_startFrom tw_858 hobq15 rfl ⟨Nat.le_of_ble_eq_true rfl, Nat.le_of_ble_eq_true rfl⟩ (Nat.le_of_ble_eq_true rfl) ?_
            refine gx_aload_n 0 dX10_answer_66 rfl rfl ?_
            obtain ⟨a16, ha16, h⟩ := bnd h
            refine gx_getN dX10_answer_67 ha16 fl_X10_82 rfl ?_
            refine gx_aload_n 0 dX10_answer_70 rfl rfl ?_
            obtain ⟨a17, ha17, h⟩ := bnd h
            refine gx_getN dX10_answer_71 ha17 fl_X10_42 rfl ?_
            refine gx_iload_n 2 dX10_answer_74 rfl rfl ?_
            obtain ⟨_, hobq18, h⟩ := bnd h
            obtain ⟨q18, hq18, h⟩ := bnd h
            refine gx_cVV (As := [.ref (Γ.B + pp a17), .int l2]) (st := []) (o := a16) dX10_answer_75 (c_X4_bendTo hq18) mov_X4_bendTo tw_863 hobq18 rfl ⟨Nat.le_of_ble_eq_true rfl, Nat.le_of_ble_eq_true rfl⟩ (Nat.le_of_ble_eq_true rfl) ?_
            refine gx_aload_n 0 dX10_answer_78 rfl rfl ?_
            obtain ⟨a19, ha19, h⟩ := bnd h
            refine gx_getN dX10_answer_79 ha19 fl_X10_82 rfl ?_
            refine gx_aload_n 0 dX10_answer_82 rfl rfl ?_
            obtain ⟨a20, ha20, h⟩ := bnd h
            refine gx_getN dX10_answer_83 ha20 fl_X10_42 rfl ?_
            refine gx_iload_n 1 dX10_answer_86 rfl rfl ?_
            refine gx_iload_n 2 dX10_answer_87 rfl rfl ?_
            refine gx_iload_n 3 dX10_answer_88 rfl rfl ?_
            refine gx_iconst (v := (-1 : Int32)) dX10_answer_89 ic_m1 ?_
            refine gx_ixor dX10_answer_90 ?_
            obtain ⟨_, hobq21, h⟩ := bnd h
            obtain ⟨q21, hq21, h⟩ := bnd h
            refine gx_cVV (As := [.ref (Γ.B + pp a20), .int l1, .int l2, .int (l3 ^^^ (-1 : Int32))]) (st := []) (o := a19) dX10_answer_91 (c_X4_run hq21) mov_X4_run tw_868 hobq21 rfl ⟨Nat.le_of_ble_eq_true rfl, Nat.le_of_ble_eq_true rfl⟩ (Nat.le_of_ble_eq_true rfl) ?_
            refine gx_aload_n 0 dX10_answer_94 rfl rfl ?_
            obtain ⟨a22, ha22, h⟩ := bnd h
            refine gx_getN dX10_answer_95 ha22 fl_X10_82 rfl ?_
            obtain ⟨x23, hx23, h⟩ := bnd h
            refine gx_getI dX10_answer_98 hx23 fl_X10_226 rfl ?_
            refine gx_if_ne 107 dX10_answer_101 (by decide) (fun c23 => ?_) (fun c23 => ?_)
            · rw [if_neg c23] at h
              refine gx_aload_n 0 dX10_answer_107 rfl rfl ?_
              obtain ⟨a25, ha25, h⟩ := bnd h
              refine gx_getN dX10_answer_108 ha25 fl_X10_82 rfl ?_
              refine gx_aload_n 0 dX10_answer_111 rfl rfl ?_
              obtain ⟨a26, ha26, h⟩ := bnd h
              refine gx_getN dX10_answer_112 ha26 fl_X10_42 rfl ?_
              obtain ⟨_, hobq27, h⟩ := bnd h
              obtain ⟨q27, hq27, h⟩ := bnd h
              refine gx_cVV (As := [.ref (Γ.B + pp a26)]) (st := []) (o := a25) dX10_answer_115 (c_X4_startFromFound hq27) mov_X4_startFromFound tw_909 hobq27 rfl ⟨Nat.le_of_ble_eq_true rfl, Nat.le_of_ble_eq_true rfl⟩ (Nat.le_of_ble_eq_true rfl) ?_
              refine gx_aload_n 0 dX10_answer_118 rfl rfl ?_
              obtain ⟨a28, ha28, h⟩ := bnd h
              refine gx_getN dX10_answer_119 ha28 fl_X10_82 rfl ?_
              refine gx_aload_n 0 dX10_answer_122 rfl rfl ?_
              obtain ⟨a29, ha29, h⟩ := bnd h
              refine gx_getN dX10_answer_123 ha29 fl_X10_42 rfl ?_
              refine gx_iload 4 dX10_answer_126 rfl ?_
              obtain ⟨_, hobq30, h⟩ := bnd h
              obtain ⟨q30, hq30, h⟩ := bnd h
              refine gx_cVV (As := [.ref (Γ.B + pp a29), .int l4]) (st := []) (o := a28) dX10_answer_128 (c_X4_bendTo hq30) mov_X4_bendTo tw_863 hobq30 rfl ⟨Nat.le_of_ble_eq_true rfl, Nat.le_of_ble_eq_true rfl⟩ (Nat.le_of_ble_eq_true rfl) ?_
              refine gx_aload_n 0 dX10_answer_131 rfl rfl ?_
              obtain ⟨a31, ha31, h⟩ := bnd h
              refine gx_getN dX10_answer_132 ha31 fl_X10_82 rfl ?_
              refine gx_aload_n 0 dX10_answer_135 rfl rfl ?_
              obtain ⟨a32, ha32, h⟩ := bnd h
              refine gx_getN dX10_answer_136 ha32 fl_X10_42 rfl ?_
              refine gx_iload_n 1 dX10_answer_139 rfl rfl ?_
              refine gx_iload 4 dX10_answer_140 rfl ?_
              refine gx_iload 5 dX10_answer_142 rfl ?_
              refine gx_iconst (v := (-1 : Int32)) dX10_answer_144 ic_m1 ?_
              refine gx_ixor dX10_answer_145 ?_
              obtain ⟨_, hobq33, h⟩ := bnd h
              obtain ⟨q33, hq33, h⟩ := bnd h
              refine gx_cVV (As := [.ref (Γ.B + pp a32), .int l1, .int l4, .int (l5 ^^^ (-1 : Int32))]) (st := []) (o := a31) dX10_answer_146 (c_X4_run hq33) mov_X4_run tw_868 hobq33 rfl ⟨Nat.le_of_ble_eq_true rfl, Nat.le_of_ble_eq_true rfl⟩ (Nat.le_of_ble_eq_true rfl) ?_
              refine gx_aload_n 0 dX10_answer_149 rfl rfl ?_
              obtain ⟨a34, ha34, h⟩ := bnd h
              refine gx_getN dX10_answer_150 ha34 fl_X10_82 rfl ?_
              refine gx_iload 6 dX10_answer_153 rfl ?_
              obtain ⟨_, hobq35, h⟩ := bnd h
              obtain ⟨q35, hq35, h⟩ := bnd h
              refine gx_cVI (As := [.int l6]) (st := []) (o := a34) dX10_answer_155 (c_X4_told hq35) mov_X4_told tw_901 hobq35 rfl ⟨Nat.le_of_ble_eq_true rfl, Nat.le_of_ble_eq_true rfl⟩ (Nat.le_of_ble_eq_true rfl) ?_
              have h := Option.some.inj h
              subst h
              exact gx_iret dX10_answer_158 rfl (Nat.le_of_ble_eq_true rfl) (Nat.le_of_ble_eq_true rfl) ⟨rfl, rfl⟩
            · rw [if_pos c23] at h
              refine gx_bipush (v := (-2 : Int32)) dX10_answer_104 ib_m2 ?_
              have h := Option.some.inj h
              subst h
              exact gx_iret dX10_answer_106 rfl (Nat.le_of_ble_eq_true rfl) (Nat.le_of_ble_eq_true rfl) ⟨rfl, rfl⟩
          · rw [if_pos c11] at h
            exact gx_sub [] rfl (s_X10_answer_53  h)
      · rw [if_pos c5] at h
        exact gx_sub [] rfl (s_X10_answer_28  h)
theorem c_X10_answer {Γ : Cn} {τ : Mm} {N : Nat} {l0 : Nat} {l1 : Int32} {l2 : Int32} {l3 : Int32} {l4 : Int32} {l5 : Int32} {l6 : Int32} {σ : Mm} {o : Int32 × Mm} (h : f_X10_answer N l0 l1 l2 l3 l4 l5 l6 σ = some o) : Ct Γ M_X10_answer yX10_answer 0 τ [.ref (Γ.B + pp l0), .int l1, .int l2, .int l3, .int l4, .int l5, .int l6] σ (PI o) := ct_of (by decide) rfl (fun _ => by first | rfl | contradiction) (Nat.le_of_ble_eq_true rfl) (s_X10_answer_0  h)
abbrev M_X10_bought : Ms := (cX10_bought, RX10, 5, (some .int), false, 0, 0, 5)
def f_X10_bought_25 (N : Nat) (σ : Mm) : Option (Int32 × Mm) :=
  some ((-1 : Int32), σ)
def f_X10_bought_106 (N : Nat) (r_43 : Nat → Int32 → Int32 → Int32 → Int32 → Mm → Option (Int32 × Mm)) (l0 : Nat) (l1 : Int32) (l2 : Int32) (l3 : Int32) (l4 : Int32) (σ : Mm) : Option (Int32 × Mm) :=
  r_43 l0 l1 l2 l3 (l4 + (1 : Int32)) σ
def f_X10_bought_43 (N : Nat) : Nat → Nat → Int32 → Int32 → Int32 → Int32 → Mm → Option (Int32 × Mm)
  | 0, _, _, _, _, _, _ => none
  | n + 1, l0, l1, l2, l3, l4, σ =>
      if (8 : Int32) ≤ l4 then (
        some (l3, σ)) else (
        (gN 10 11 σ l0).bind fun a2 =>
        (gN 10 4 σ l0).bind fun a3 =>
        (ob 4 σ a2).bind fun _ =>
        (f_X4_bendEachForOne N a2 a3 l4 σ).bind fun q4 =>
        (gN 10 11 q4 l0).bind fun a5 =>
        (gN 10 4 q4 l0).bind fun a6 =>
        (ob 4 q4 a5).bind fun _ =>
        (f_X4_run N a5 a6 l1 l4 (-1 : Int32) q4).bind fun q7 =>
        (gN 10 11 q7 l0).bind fun a8 =>
        (gI 4 6 q7 a8).bind fun x9 =>
        if x9 = 0 then (
          f_X10_bought_106 N (f_X10_bought_43 N n) l0 l1 l2 l3 l4 q7) else (
          (gN 10 11 q7 l0).bind fun a11 =>
          (gI 4 7 q7 a11).bind fun x12 =>
          if l2 < x12 then (
            f_X10_bought_106 N (f_X10_bought_43 N n) l0 l1 l2 l3 l4 q7) else (
            f_X10_bought_106 N (f_X10_bought_43 N n) l0 l1 l2 (l3 ||| ((1 : Int32) <<< (l4 &&& 31))) l4 q7)))
def f_X10_bought (N : Nat) (l0 : Nat) (l1 : Int32) (l2 : Int32) (σ : Mm) : Option (Int32 × Mm) :=
  (ob 10 σ l0).bind fun _ =>
  (f_X10_isThere N l0 σ).bind fun q1 =>
  if q1.1 = 0 then (
    f_X10_bought_25 N q1.2) else (
    (f_X10_isBelow N l1 (4 : Int32) q1.2).bind fun q3 =>
    if q3.1 = 0 then (
      f_X10_bought_25 N q3.2) else (
      if l2 < 0 then (
        f_X10_bought_25 N q3.2) else (
        if l2 ≤ (12 : Int32) then (
          (gN 10 11 q3.2 l0).bind fun a7 =>
          (gN 10 4 q3.2 l0).bind fun a8 =>
          (ob 4 q3.2 a7).bind fun _ =>
          (f_X4_startFrom N a7 a8 q3.2).bind fun q9 =>
          f_X10_bought_43 N N l0 l1 l2 (0 : Int32) (0 : Int32) q9) else (
          f_X10_bought_25 N q3.2))))
theorem mov_X10_bought : MOV yX10_bought M_X10_bought 2 10 0 := ⟨⟨tw_96, tw_916, ⟨by decide, by decide⟩, by decide +kernel⟩, tw_914, tw_915, by decide, ⟨_, rfl, rfl⟩, rfl⟩
set_option maxRecDepth 4000 in
theorem s_X10_bought_25 {Γ : Cn} {τ : Mm} {N : Nat} {σ : Mm} {o : Int32 × Mm} (h : f_X10_bought_25 N σ = some o) : Gx Γ M_X10_bought 0 τ (PI o) 0 0 25 [] [] σ := by
  unfold f_X10_bought_25 at h
  refine gx_iconst (v := (-1 : Int32)) dX10_bought_25 ic_m1 ?_
  have h := Option.some.inj h
  subst h
  exact gx_iret dX10_bought_26 rfl (Nat.le_of_ble_eq_true rfl) (Nat.le_of_ble_eq_true rfl) ⟨rfl, rfl⟩
set_option maxRecDepth 4000 in
theorem s_X10_bought_106 {Γ : Cn} {τ : Mm} {N : Nat} {r_43 : Nat → Int32 → Int32 → Int32 → Int32 → Mm → Option (Int32 × Mm)} (hr_43 : ∀ (l0 : Nat) (l1 : Int32) (l2 : Int32) (l3 : Int32) (l4 : Int32) (σ : Mm) (o : Int32 × Mm), r_43 l0 l1 l2 l3 l4 σ = some o → Gx Γ M_X10_bought 0 τ (PI o) 0 0 43 [(0, .ref (Γ.B + pp l0)), (1, .int l1), (2, .int l2), (3, .int l3), (4, .int l4)] [] σ) {l0 : Nat} {l1 : Int32} {l2 : Int32} {l3 : Int32} {l4 : Int32} {σ : Mm} {o : Int32 × Mm} (h : f_X10_bought_106 N r_43 l0 l1 l2 l3 l4 σ = some o) : Gx Γ M_X10_bought 0 τ (PI o) 0 0 106 [(0, .ref (Γ.B + pp l0)), (1, .int l1), (2, .int l2), (3, .int l3), (4, .int l4)] [] σ := by
  unfold f_X10_bought_106 at h
  refine gx_iinc (v := (l4 + (1 : Int32))) (lv' := [(4, .int (l4 + (1 : Int32))), (0, .ref (Γ.B + pp l0)), (1, .int l1), (2, .int l2), (3, .int l3)]) 4 dX10_bought_106 rfl (by rw [ic_1]) (Nat.le_of_ble_eq_true rfl) rfl ?_
  refine gx_goto 43 dX10_bought_109 (by decide) ?_
  exact gx_sub [1, 2, 3, 4, 0] rfl (hr_43 _ _ _ _ _ _ _ h)
set_option maxRecDepth 4000 in
theorem s_X10_bought_43 {Γ : Cn} {τ : Mm} {N : Nat} : ∀ (n : Nat) (l0 : Nat) (l1 : Int32) (l2 : Int32) (l3 : Int32) (l4 : Int32) (σ : Mm) (o : Int32 × Mm), f_X10_bought_43 N n l0 l1 l2 l3 l4 σ = some o → Gx Γ M_X10_bought 0 τ (PI o) 0 0 43 [(0, .ref (Γ.B + pp l0)), (1, .int l1), (2, .int l2), (3, .int l3), (4, .int l4)] [] σ := by
  intro n
  induction n with
  | zero =>
    intro l0 l1 l2 l3 l4 σ o h
    exact absurd h (by rw [f_X10_bought_43]; exact fun q => nomatch q)
  | succ n ih =>
    intro l0 l1 l2 l3 l4 σ o h
    rw [f_X10_bought_43] at h
    refine gx_iload 4 dX10_bought_43 rfl ?_
    refine gx_bipush (v := (8 : Int32)) dX10_bought_45 ib_8 ?_
    refine gx_icmp_ge 112 dX10_bought_47 (by decide) (fun c0 => ?_) (fun c0 => ?_)
    · rw [if_pos c0] at h
      refine gx_iload_n 3 dX10_bought_112 rfl rfl ?_
      have h := Option.some.inj h
      subst h
      exact gx_iret dX10_bought_113 rfl (Nat.le_of_ble_eq_true rfl) (Nat.le_of_ble_eq_true rfl) ⟨rfl, rfl⟩
    · rw [if_neg c0] at h
      refine gx_aload_n 0 dX10_bought_50 rfl rfl ?_
      obtain ⟨a2, ha2, h⟩ := bnd h
      refine gx_getN dX10_bought_51 ha2 fl_X10_82 rfl ?_
      refine gx_aload_n 0 dX10_bought_54 rfl rfl ?_
      obtain ⟨a3, ha3, h⟩ := bnd h
      refine gx_getN dX10_bought_55 ha3 fl_X10_42 rfl ?_
      refine gx_iload 4 dX10_bought_58 rfl ?_
      obtain ⟨_, hobq4, h⟩ := bnd h
      obtain ⟨q4, hq4, h⟩ := bnd h
      refine gx_cVV (As := [.ref (Γ.B + pp a3), .int l4]) (st := []) (o := a2) dX10_bought_60 (c_X4_bendEachForOne hq4) mov_X4_bendEachForOne tw_917 hobq4 rfl ⟨Nat.le_of_ble_eq_true rfl, Nat.le_of_ble_eq_true rfl⟩ (Nat.le_of_ble_eq_true rfl) ?_
      refine gx_aload_n 0 dX10_bought_63 rfl rfl ?_
      obtain ⟨a5, ha5, h⟩ := bnd h
      refine gx_getN dX10_bought_64 ha5 fl_X10_82 rfl ?_
      refine gx_aload_n 0 dX10_bought_67 rfl rfl ?_
      obtain ⟨a6, ha6, h⟩ := bnd h
      refine gx_getN dX10_bought_68 ha6 fl_X10_42 rfl ?_
      refine gx_iload_n 1 dX10_bought_71 rfl rfl ?_
      refine gx_iload 4 dX10_bought_72 rfl ?_
      refine gx_iconst (v := (-1 : Int32)) dX10_bought_74 ic_m1 ?_
      obtain ⟨_, hobq7, h⟩ := bnd h
      obtain ⟨q7, hq7, h⟩ := bnd h
      refine gx_cVV (As := [.ref (Γ.B + pp a6), .int l1, .int l4, .int (-1 : Int32)]) (st := []) (o := a5) dX10_bought_75 (c_X4_run hq7) mov_X4_run tw_868 hobq7 rfl ⟨Nat.le_of_ble_eq_true rfl, Nat.le_of_ble_eq_true rfl⟩ (Nat.le_of_ble_eq_true rfl) ?_
      refine gx_aload_n 0 dX10_bought_78 rfl rfl ?_
      obtain ⟨a8, ha8, h⟩ := bnd h
      refine gx_getN dX10_bought_79 ha8 fl_X10_82 rfl ?_
      obtain ⟨x9, hx9, h⟩ := bnd h
      refine gx_getI dX10_bought_82 hx9 fl_X10_226 rfl ?_
      refine gx_if_eq 106 dX10_bought_85 (by decide) (fun c9 => ?_) (fun c9 => ?_)
      · rw [if_pos c9] at h
        exact s_X10_bought_106 ih h
      · rw [if_neg c9] at h
        refine gx_aload_n 0 dX10_bought_88 rfl rfl ?_
        obtain ⟨a11, ha11, h⟩ := bnd h
        refine gx_getN dX10_bought_89 ha11 fl_X10_82 rfl ?_
        obtain ⟨x12, hx12, h⟩ := bnd h
        refine gx_getI dX10_bought_92 hx12 fl_X10_236 rfl ?_
        refine gx_iload_n 2 dX10_bought_95 rfl rfl ?_
        refine gx_icmp_gt 106 dX10_bought_96 (by decide) (fun c12 => ?_) (fun c12 => ?_)
        · rw [if_pos c12] at h
          exact s_X10_bought_106 ih h
        · rw [if_neg c12] at h
          refine gx_iload_n 3 dX10_bought_99 rfl rfl ?_
          refine gx_iconst (v := (1 : Int32)) dX10_bought_100 ic_1 ?_
          refine gx_iload 4 dX10_bought_101 rfl ?_
          refine gx_ishl dX10_bought_103 ?_
          refine gx_ior dX10_bought_104 ?_
          refine gx_istore_n (lv' := [(3, .int (l3 ||| ((1 : Int32) <<< (l4 &&& 31)))), (0, .ref (Γ.B + pp l0)), (1, .int l1), (2, .int l2), (4, .int l4)]) dX10_bought_105 rfl (Nat.le_of_ble_eq_true rfl) rfl ?_
          exact gx_sub [1, 2, 3, 0, 4] rfl (s_X10_bought_106 ih h)
set_option maxRecDepth 4000 in
theorem s_X10_bought_0 {Γ : Cn} {τ : Mm} {N : Nat} {l0 : Nat} {l1 : Int32} {l2 : Int32} {σ : Mm} {o : Int32 × Mm} (h : f_X10_bought N l0 l1 l2 σ = some o) : Gx Γ M_X10_bought 0 τ (PI o) 0 0 0 [(0, .ref (Γ.B + pp l0)), (1, .int l1), (2, .int l2)] [] σ := by
  unfold f_X10_bought at h
  refine gx_aload_n 0 dX10_bought_0 rfl rfl ?_
  obtain ⟨_, hobq1, h⟩ := bnd h
  obtain ⟨q1, hq1, h⟩ := bnd h
  refine gx_cVI (As := []) (st := []) (o := l0) dX10_bought_1 (c_X10_isThere hq1) mov_X10_isThere tw_702 hobq1 rfl ⟨Nat.le_of_ble_eq_true rfl, Nat.le_of_ble_eq_true rfl⟩ (Nat.le_of_ble_eq_true rfl) ?_
  refine gx_if_eq 25 dX10_bought_4 (by decide) (fun c1 => ?_) (fun c1 => ?_)
  · rw [if_pos c1] at h
    exact gx_sub [] rfl (s_X10_bought_25  h)
  · rw [if_neg c1] at h
    refine gx_iload_n 1 dX10_bought_7 rfl rfl ?_
    refine gx_iconst (v := (4 : Int32)) dX10_bought_8 ic_4 ?_
    obtain ⟨q3, hq3, h⟩ := bnd h
    refine gx_cSI (As := [.int l1, .int (4 : Int32)]) (st := []) dX10_bought_9 (c_X10_isBelow hq3) mos_X10_isBelow tw_706 rfl ⟨Nat.le_of_ble_eq_true rfl, Nat.le_of_ble_eq_true rfl⟩ (Nat.le_of_ble_eq_true rfl) ?_
    refine gx_if_eq 25 dX10_bought_12 (by decide) (fun c3 => ?_) (fun c3 => ?_)
    · rw [if_pos c3] at h
      exact gx_sub [] rfl (s_X10_bought_25  h)
    · rw [if_neg c3] at h
      refine gx_iload_n 2 dX10_bought_15 rfl rfl ?_
      refine gx_if_lt 25 dX10_bought_16 (by decide) (fun c4 => ?_) (fun c4 => ?_)
      · rw [if_pos c4] at h
        exact gx_sub [] rfl (s_X10_bought_25  h)
      · rw [if_neg c4] at h
        refine gx_iload_n 2 dX10_bought_19 rfl rfl ?_
        refine gx_bipush (v := (12 : Int32)) dX10_bought_20 ib_12 ?_
        refine gx_icmp_le 27 dX10_bought_22 (by decide) (fun c5 => ?_) (fun c5 => ?_)
        · rw [if_pos c5] at h
          refine gx_iconst (v := (0 : Int32)) dX10_bought_27 ic_0 ?_
          refine gx_istore_n (lv' := [(3, .int (0 : Int32)), (0, .ref (Γ.B + pp l0)), (1, .int l1), (2, .int l2)]) dX10_bought_28 rfl (Nat.le_of_ble_eq_true rfl) rfl ?_
          refine gx_aload_n 1 dX10_bought_29 rfl rfl ?_
          obtain ⟨a7, ha7, h⟩ := bnd h
          refine gx_getN dX10_bought_30 ha7 fl_X10_82 rfl ?_
          refine gx_aload_n 1 dX10_bought_33 rfl rfl ?_
          obtain ⟨a8, ha8, h⟩ := bnd h
          refine gx_getN dX10_bought_34 ha8 fl_X10_42 rfl ?_
          obtain ⟨_, hobq9, h⟩ := bnd h
          obtain ⟨q9, hq9, h⟩ := bnd h
          refine gx_cVV (As := [.ref (Γ.B + pp a8)]) (st := []) (o := a7) dX10_bought_37 (c_X4_startFrom hq9) mov_X4_startFrom tw_858 hobq9 rfl ⟨Nat.le_of_ble_eq_true rfl, Nat.le_of_ble_eq_true rfl⟩ (Nat.le_of_ble_eq_true rfl) ?_
          refine gx_iconst (v := (0 : Int32)) dX10_bought_40 ic_0 ?_
          refine gx_istore (lv' := [(4, .int (0 : Int32)), (3, .int (0 : Int32)), (0, .ref (Γ.B + pp l0)), (1, .int l1), (2, .int l2)]) dX10_bought_41 (Nat.le_of_ble_eq_true rfl) rfl ?_
          exact gx_sub [2, 3, 4, 1, 0] rfl (s_X10_bought_43  N _ _ _ _ _ _ _ h)
        · rw [if_neg c5] at h
          exact gx_sub [] rfl (s_X10_bought_25  h)
theorem c_X10_bought {Γ : Cn} {τ : Mm} {N : Nat} {l0 : Nat} {l1 : Int32} {l2 : Int32} {σ : Mm} {o : Int32 × Mm} (h : f_X10_bought N l0 l1 l2 σ = some o) : Ct Γ M_X10_bought yX10_bought 0 τ [.ref (Γ.B + pp l0), .int l1, .int l2] σ (PI o) := ct_of (by decide) rfl (fun _ => by first | rfl | contradiction) (Nat.le_of_ble_eq_true rfl) (s_X10_bought_0  h)
abbrev M_X10_swings : Ms := (cX10_swings, RX10, 5, (some .int), false, 0, 0, 5)
def f_X10_swings_36 (N : Nat) (σ : Mm) : Option (Int32 × Mm) :=
  some ((-1 : Int32), σ)
def f_X10_swings (N : Nat) (l0 : Nat) (l1 : Int32) (l2 : Int32) (l3 : Int32) (l4 : Int32) (σ : Mm) : Option (Int32 × Mm) :=
  (ob 10 σ l0).bind fun _ =>
  (f_X10_canBuy N l0 l1 l3 σ).bind fun q1 =>
  if q1.1 = 0 then (
    f_X10_swings_36 N q1.2) else (
    (gN 10 4 q1.2 l0).bind fun a3 =>
    (ob 7 q1.2 a3).bind fun _ =>
    (f_X7_hasCock N a3 l2 q1.2).bind fun q4 =>
    if q4.1 = 0 then (
      f_X10_swings_36 N q4.2) else (
      (f_X10_isBelow N l4 (8 : Int32) q4.2).bind fun q6 =>
      if q6.1 = 0 then (
        f_X10_swings_36 N q6.2) else (
        if l3 = l4 then (
          f_X10_swings_36 N q6.2) else (
          (gN 10 11 q6.2 l0).bind fun a9 =>
          (gN 10 4 q6.2 l0).bind fun a10 =>
          (ob 4 q6.2 a9).bind fun _ =>
          (f_X4_unlikeCases N a9 a10 l1 l2 l3 l4 q6.2).bind fun q11 =>
          some (q11.1, q11.2)))))
theorem mov_X10_swings : MOV yX10_swings M_X10_swings 4 10 0 := ⟨⟨tw_96, tw_924, ⟨by decide, by decide⟩, by decide +kernel⟩, tw_922, tw_923, by decide, ⟨_, rfl, rfl⟩, rfl⟩
set_option maxRecDepth 4000 in
theorem s_X10_swings_36 {Γ : Cn} {τ : Mm} {N : Nat} {σ : Mm} {o : Int32 × Mm} (h : f_X10_swings_36 N σ = some o) : Gx Γ M_X10_swings 0 τ (PI o) 0 0 36 [] [] σ := by
  unfold f_X10_swings_36 at h
  refine gx_iconst (v := (-1 : Int32)) dX10_swings_36 ic_m1 ?_
  have h := Option.some.inj h
  subst h
  exact gx_iret dX10_swings_37 rfl (Nat.le_of_ble_eq_true rfl) (Nat.le_of_ble_eq_true rfl) ⟨rfl, rfl⟩
set_option maxRecDepth 4000 in
theorem s_X10_swings_0 {Γ : Cn} {τ : Mm} {N : Nat} {l0 : Nat} {l1 : Int32} {l2 : Int32} {l3 : Int32} {l4 : Int32} {σ : Mm} {o : Int32 × Mm} (h : f_X10_swings N l0 l1 l2 l3 l4 σ = some o) : Gx Γ M_X10_swings 0 τ (PI o) 0 0 0 [(0, .ref (Γ.B + pp l0)), (1, .int l1), (2, .int l2), (3, .int l3), (4, .int l4)] [] σ := by
  unfold f_X10_swings at h
  refine gx_aload_n 0 dX10_swings_0 rfl rfl ?_
  refine gx_iload_n 1 dX10_swings_1 rfl rfl ?_
  refine gx_iload_n 3 dX10_swings_2 rfl rfl ?_
  obtain ⟨_, hobq1, h⟩ := bnd h
  obtain ⟨q1, hq1, h⟩ := bnd h
  refine gx_cVI (As := [.int l1, .int l3]) (st := []) (o := l0) dX10_swings_3 (c_X10_canBuy hq1) mov_X10_canBuy tw_850 hobq1 rfl ⟨Nat.le_of_ble_eq_true rfl, Nat.le_of_ble_eq_true rfl⟩ (Nat.le_of_ble_eq_true rfl) ?_
  refine gx_if_eq 36 dX10_swings_6 (by decide) (fun c1 => ?_) (fun c1 => ?_)
  · rw [if_pos c1] at h
    exact gx_sub [] rfl (s_X10_swings_36  h)
  · rw [if_neg c1] at h
    refine gx_aload_n 0 dX10_swings_9 rfl rfl ?_
    obtain ⟨a3, ha3, h⟩ := bnd h
    refine gx_getN dX10_swings_10 ha3 fl_X10_42 rfl ?_
    refine gx_iload_n 2 dX10_swings_13 rfl rfl ?_
    obtain ⟨_, hobq4, h⟩ := bnd h
    obtain ⟨q4, hq4, h⟩ := bnd h
    refine gx_cVI (As := [.int l2]) (st := []) (o := a3) dX10_swings_14 (c_X7_hasCock hq4) mov_X7_hasCock tw_686 hobq4 rfl ⟨Nat.le_of_ble_eq_true rfl, Nat.le_of_ble_eq_true rfl⟩ (Nat.le_of_ble_eq_true rfl) ?_
    refine gx_if_eq 36 dX10_swings_17 (by decide) (fun c4 => ?_) (fun c4 => ?_)
    · rw [if_pos c4] at h
      exact gx_sub [] rfl (s_X10_swings_36  h)
    · rw [if_neg c4] at h
      refine gx_iload 4 dX10_swings_20 rfl ?_
      refine gx_bipush (v := (8 : Int32)) dX10_swings_22 ib_8 ?_
      obtain ⟨q6, hq6, h⟩ := bnd h
      refine gx_cSI (As := [.int l4, .int (8 : Int32)]) (st := []) dX10_swings_24 (c_X10_isBelow hq6) mos_X10_isBelow tw_706 rfl ⟨Nat.le_of_ble_eq_true rfl, Nat.le_of_ble_eq_true rfl⟩ (Nat.le_of_ble_eq_true rfl) ?_
      refine gx_if_eq 36 dX10_swings_27 (by decide) (fun c6 => ?_) (fun c6 => ?_)
      · rw [if_pos c6] at h
        exact gx_sub [] rfl (s_X10_swings_36  h)
      · rw [if_neg c6] at h
        refine gx_iload_n 3 dX10_swings_30 rfl rfl ?_
        refine gx_iload 4 dX10_swings_31 rfl ?_
        refine gx_icmp_ne 38 dX10_swings_33 (by decide) (fun c7 => ?_) (fun c7 => ?_)
        · rw [if_neg c7] at h
          refine gx_aload_n 0 dX10_swings_38 rfl rfl ?_
          obtain ⟨a9, ha9, h⟩ := bnd h
          refine gx_getN dX10_swings_39 ha9 fl_X10_82 rfl ?_
          refine gx_aload_n 0 dX10_swings_42 rfl rfl ?_
          obtain ⟨a10, ha10, h⟩ := bnd h
          refine gx_getN dX10_swings_43 ha10 fl_X10_42 rfl ?_
          refine gx_iload_n 1 dX10_swings_46 rfl rfl ?_
          refine gx_iload_n 2 dX10_swings_47 rfl rfl ?_
          refine gx_iload_n 3 dX10_swings_48 rfl rfl ?_
          refine gx_iload 4 dX10_swings_49 rfl ?_
          obtain ⟨_, hobq11, h⟩ := bnd h
          obtain ⟨q11, hq11, h⟩ := bnd h
          refine gx_cVI (As := [.ref (Γ.B + pp a10), .int l1, .int l2, .int l3, .int l4]) (st := []) (o := a9) dX10_swings_51 (c_X4_unlikeCases hq11) mov_X4_unlikeCases tw_925 hobq11 rfl ⟨Nat.le_of_ble_eq_true rfl, Nat.le_of_ble_eq_true rfl⟩ (Nat.le_of_ble_eq_true rfl) ?_
          have h := Option.some.inj h
          subst h
          exact gx_iret dX10_swings_54 rfl (Nat.le_of_ble_eq_true rfl) (Nat.le_of_ble_eq_true rfl) ⟨rfl, rfl⟩
        · rw [if_pos c7] at h
          exact gx_sub [] rfl (s_X10_swings_36  h)
theorem c_X10_swings {Γ : Cn} {τ : Mm} {N : Nat} {l0 : Nat} {l1 : Int32} {l2 : Int32} {l3 : Int32} {l4 : Int32} {σ : Mm} {o : Int32 × Mm} (h : f_X10_swings N l0 l1 l2 l3 l4 σ = some o) : Ct Γ M_X10_swings yX10_swings 0 τ [.ref (Γ.B + pp l0), .int l1, .int l2, .int l3, .int l4] σ (PI o) := ct_of (by decide) rfl (fun _ => by first | rfl | contradiction) (Nat.le_of_ble_eq_true rfl) (s_X10_swings_0  h)
abbrev M_X10_isExplained : Ms := (cX10_isExplained, RX10, 5, (some .boolean), false, 0, 0, 3)
def f_X10_isExplained_61 (N : Nat) (t0 : Int32) (σ : Mm) : Option (Int32 × Mm) :=
  if t0 = 0 ∨ t0 = 1 then some (t0, σ) else none
def f_X10_isExplained (N : Nat) (l0 : Nat) (l1 : Int32) (l2 : Int32) (l3 : Int32) (l4 : Int32) (σ : Mm) : Option (Int32 × Mm) :=
  (gN 10 9 σ l0).bind fun a1 =>
  (gN 10 4 σ l0).bind fun a2 =>
  (gN 10 4 σ l0).bind fun a3 =>
  (gI 7 11 σ a3).bind fun x4 =>
  (ob 9 σ a1).bind fun _ =>
  (f_X9_stand N a1 a2 l3 l4 x4 σ).bind fun q5 =>
  (gN 10 9 q5 l0).bind fun a6 =>
  (gN 10 7 q5 l0).bind fun a7 =>
  (aN 16 q5 a7 l1).bind fun a8 =>
  (gN 10 4 q5 l0).bind fun a9 =>
  (gN 7 7 q5 a9).bind fun a10 =>
  (aI 13 q5 a10 l3).bind fun x11 =>
  (ob 9 q5 a6).bind fun _ =>
  (f_X9_turned N a6 a8 x11 l2 q5).bind fun q12 =>
  (gN 10 4 q12.2 l0).bind fun a13 =>
  (gN 7 6 q12.2 a13).bind fun a14 =>
  (aI 13 q12.2 a14 l3).bind fun x15 =>
  if q12.1 = x15 then (
    f_X10_isExplained_61 N (1 : Int32) q12.2) else (
    f_X10_isExplained_61 N (0 : Int32) q12.2)
theorem mov_X10_isExplained : MOV yX10_isExplained M_X10_isExplained 4 10 0 := ⟨⟨tw_96, tw_936, ⟨by decide, by decide⟩, by decide +kernel⟩, tw_935, tw_32, by decide, ⟨_, rfl, rfl⟩, rfl⟩
set_option maxRecDepth 4000 in
theorem s_X10_isExplained_61 {Γ : Cn} {τ : Mm} {N : Nat} {t0 : Int32} {σ : Mm} {o : Int32 × Mm} (h : f_X10_isExplained_61 N t0 σ = some o) : Gx Γ M_X10_isExplained 0 τ (PI o) 0 0 61 [] [.int t0] σ := by
  unfold f_X10_isExplained_61 at h
  obtain ⟨hz, h⟩ := of_if h
  have h := Option.some.inj h
  subst h
  exact gx_zret dX10_isExplained_61 rfl (nar_z hz) (Nat.le_of_ble_eq_true rfl) (Nat.le_of_ble_eq_true rfl) ⟨rfl, rfl⟩
set_option maxRecDepth 4000 in
theorem s_X10_isExplained_0 {Γ : Cn} {τ : Mm} {N : Nat} {l0 : Nat} {l1 : Int32} {l2 : Int32} {l3 : Int32} {l4 : Int32} {σ : Mm} {o : Int32 × Mm} (h : f_X10_isExplained N l0 l1 l2 l3 l4 σ = some o) : Gx Γ M_X10_isExplained 0 τ (PI o) 0 0 0 [(0, .ref (Γ.B + pp l0)), (1, .int l1), (2, .int l2), (3, .int l3), (4, .int l4)] [] σ := by
  unfold f_X10_isExplained at h
  refine gx_aload_n 0 dX10_isExplained_0 rfl rfl ?_
  obtain ⟨a1, ha1, h⟩ := bnd h
  refine gx_getN dX10_isExplained_1 ha1 fl_X10_66 rfl ?_
  refine gx_aload_n 0 dX10_isExplained_4 rfl rfl ?_
  obtain ⟨a2, ha2, h⟩ := bnd h
  refine gx_getN dX10_isExplained_5 ha2 fl_X10_42 rfl ?_
  refine gx_iload_n 3 dX10_isExplained_8 rfl rfl ?_
  refine gx_iload 4 dX10_isExplained_9 rfl ?_
  refine gx_aload_n 0 dX10_isExplained_11 rfl rfl ?_
  obtain ⟨a3, ha3, h⟩ := bnd h
  refine gx_getN dX10_isExplained_12 ha3 fl_X10_42 rfl ?_
  obtain ⟨x4, hx4, h⟩ := bnd h
  refine gx_getI dX10_isExplained_15 hx4 fl_X10_168 rfl ?_
  obtain ⟨_, hobq5, h⟩ := bnd h
  obtain ⟨q5, hq5, h⟩ := bnd h
  refine gx_cVV (As := [.ref (Γ.B + pp a2), .int l3, .int l4, .int x4]) (st := []) (o := a1) dX10_isExplained_18 (c_X9_stand hq5) mov_X9_stand tw_937 hobq5 rfl ⟨Nat.le_of_ble_eq_true rfl, Nat.le_of_ble_eq_true rfl⟩ (Nat.le_of_ble_eq_true rfl) ?_
  refine gx_aload_n 0 dX10_isExplained_21 rfl rfl ?_
  obtain ⟨a6, ha6, h⟩ := bnd h
  refine gx_getN dX10_isExplained_22 ha6 fl_X10_66 rfl ?_
  refine gx_aload_n 0 dX10_isExplained_25 rfl rfl ?_
  obtain ⟨a7, ha7, h⟩ := bnd h
  refine gx_getN dX10_isExplained_26 ha7 fl_X10_55 rfl ?_
  refine gx_iload_n 1 dX10_isExplained_29 rfl rfl ?_
  obtain ⟨a8, ha8, h⟩ := bnd h
  refine gx_aaldN (t0 := 4) (C := "MostCocks$Law") dX10_isExplained_30 ha8 rfl (by decide) rfl rfl ?_
  refine gx_aload_n 0 dX10_isExplained_31 rfl rfl ?_
  obtain ⟨a9, ha9, h⟩ := bnd h
  refine gx_getN dX10_isExplained_32 ha9 fl_X10_42 rfl ?_
  obtain ⟨a10, ha10, h⟩ := bnd h
  refine gx_getN dX10_isExplained_35 ha10 fl_X10_156 rfl ?_
  refine gx_iload_n 3 dX10_isExplained_38 rfl rfl ?_
  obtain ⟨x11, hx11, h⟩ := bnd h
  refine gx_iald (kd := 13) dX10_isExplained_39 hx11 rfl rfl ?_
  refine gx_iload_n 2 dX10_isExplained_40 rfl rfl ?_
  obtain ⟨_, hobq12, h⟩ := bnd h
  obtain ⟨q12, hq12, h⟩ := bnd h
  refine gx_cVI (As := [.ref (Γ.B + pp a8), .int x11, .int l2]) (st := []) (o := a6) dX10_isExplained_41 (c_X9_turned hq12) mov_X9_turned tw_938 hobq12 rfl ⟨Nat.le_of_ble_eq_true rfl, Nat.le_of_ble_eq_true rfl⟩ (Nat.le_of_ble_eq_true rfl) ?_
  refine gx_aload_n 0 dX10_isExplained_44 rfl rfl ?_
  obtain ⟨a13, ha13, h⟩ := bnd h
  refine gx_getN dX10_isExplained_45 ha13 fl_X10_42 rfl ?_
  obtain ⟨a14, ha14, h⟩ := bnd h
  refine gx_getN dX10_isExplained_48 ha14 fl_X10_153 rfl ?_
  refine gx_iload_n 3 dX10_isExplained_51 rfl rfl ?_
  obtain ⟨x15, hx15, h⟩ := bnd h
  refine gx_iald (kd := 13) dX10_isExplained_52 hx15 rfl rfl ?_
  refine gx_icmp_ne 60 dX10_isExplained_53 (by decide) (fun c15 => ?_) (fun c15 => ?_)
  · rw [if_neg c15] at h
    refine gx_iconst (v := (0 : Int32)) dX10_isExplained_60 ic_0 ?_
    exact gx_sub [] rfl (s_X10_isExplained_61  h)
  · rw [if_pos c15] at h
    refine gx_iconst (v := (1 : Int32)) dX10_isExplained_56 ic_1 ?_
    refine gx_goto 61 dX10_isExplained_57 (by decide) ?_
    exact gx_sub [] rfl (s_X10_isExplained_61  h)
theorem c_X10_isExplained {Γ : Cn} {τ : Mm} {N : Nat} {l0 : Nat} {l1 : Int32} {l2 : Int32} {l3 : Int32} {l4 : Int32} {σ : Mm} {o : Int32 × Mm} (h : f_X10_isExplained N l0 l1 l2 l3 l4 σ = some o) : Ct Γ M_X10_isExplained yX10_isExplained 0 τ [.ref (Γ.B + pp l0), .int l1, .int l2, .int l3, .int l4] σ (PI o) := ct_of (by decide) rfl (fun _ => by first | rfl | contradiction) (Nat.le_of_ble_eq_true rfl) (s_X10_isExplained_0  h)
abbrev M_X10_explained : Ms := (cX10_explained, RX10, 6, (some .int), false, 0, 0, 4)
def f_X10_explained_21 (N : Nat) (σ : Mm) : Option (Int32 × Mm) :=
  some ((-1 : Int32), σ)
def f_X10_explained_57 (N : Nat) (r_29 : Nat → Int32 → Int32 → Int32 → Int32 → Int32 → Mm → Option (Int32 × Mm)) (l0 : Nat) (l1 : Int32) (l2 : Int32) (l3 : Int32) (l4 : Int32) (l5 : Int32) (σ : Mm) : Option (Int32 × Mm) :=
  r_29 l0 l1 l2 l3 l4 (l5 + (1 : Int32)) σ
def f_X10_explained_29 (N : Nat) : Nat → Nat → Int32 → Int32 → Int32 → Int32 → Int32 → Mm → Option (Int32 × Mm)
  | 0, _, _, _, _, _, _, _ => none
  | n + 1, l0, l1, l2, l3, l4, l5, σ =>
      if (8 : Int32) ≤ l5 then (
        some (l4, σ)) else (
        (ob 10 σ l0).bind fun _ =>
        (f_X10_isExplained N l0 l1 l2 l3 l5 σ).bind fun q2 =>
        if q2.1 = 0 then (
          f_X10_explained_57 N (f_X10_explained_29 N n) l0 l1 l2 l3 l4 l5 q2.2) else (
          f_X10_explained_57 N (f_X10_explained_29 N n) l0 l1 l2 l3 (l4 ||| ((1 : Int32) <<< (l5 &&& 31))) l5 q2.2))
def f_X10_explained (N : Nat) (l0 : Nat) (l1 : Int32) (l2 : Int32) (l3 : Int32) (σ : Mm) : Option (Int32 × Mm) :=
  (ob 10 σ l0).bind fun _ =>
  (f_X10_canBlow N l0 l1 (0 : Int32) l2 σ).bind fun q1 =>
  if q1.1 = 0 then (
    f_X10_explained_21 N q1.2) else (
    (gN 10 4 q1.2 l0).bind fun a3 =>
    (ob 7 q1.2 a3).bind fun _ =>
    (f_X7_hasCock N a3 l3 q1.2).bind fun q4 =>
    if q4.1 = 0 then (
      f_X10_explained_21 N q4.2) else (
      f_X10_explained_29 N N l0 l1 l2 l3 (0 : Int32) (0 : Int32) q4.2))
theorem mov_X10_explained : MOV yX10_explained M_X10_explained 3 10 0 := ⟨⟨tw_96, tw_932, ⟨by decide, by decide⟩, by decide +kernel⟩, tw_930, tw_931, by decide, ⟨_, rfl, rfl⟩, rfl⟩
set_option maxRecDepth 4000 in
theorem s_X10_explained_21 {Γ : Cn} {τ : Mm} {N : Nat} {σ : Mm} {o : Int32 × Mm} (h : f_X10_explained_21 N σ = some o) : Gx Γ M_X10_explained 0 τ (PI o) 0 0 21 [] [] σ := by
  unfold f_X10_explained_21 at h
  refine gx_iconst (v := (-1 : Int32)) dX10_explained_21 ic_m1 ?_
  have h := Option.some.inj h
  subst h
  exact gx_iret dX10_explained_22 rfl (Nat.le_of_ble_eq_true rfl) (Nat.le_of_ble_eq_true rfl) ⟨rfl, rfl⟩
set_option maxRecDepth 4000 in
theorem s_X10_explained_57 {Γ : Cn} {τ : Mm} {N : Nat} {r_29 : Nat → Int32 → Int32 → Int32 → Int32 → Int32 → Mm → Option (Int32 × Mm)} (hr_29 : ∀ (l0 : Nat) (l1 : Int32) (l2 : Int32) (l3 : Int32) (l4 : Int32) (l5 : Int32) (σ : Mm) (o : Int32 × Mm), r_29 l0 l1 l2 l3 l4 l5 σ = some o → Gx Γ M_X10_explained 0 τ (PI o) 0 0 29 [(0, .ref (Γ.B + pp l0)), (1, .int l1), (2, .int l2), (3, .int l3), (4, .int l4), (5, .int l5)] [] σ) {l0 : Nat} {l1 : Int32} {l2 : Int32} {l3 : Int32} {l4 : Int32} {l5 : Int32} {σ : Mm} {o : Int32 × Mm} (h : f_X10_explained_57 N r_29 l0 l1 l2 l3 l4 l5 σ = some o) : Gx Γ M_X10_explained 0 τ (PI o) 0 0 57 [(0, .ref (Γ.B + pp l0)), (1, .int l1), (2, .int l2), (3, .int l3), (4, .int l4), (5, .int l5)] [] σ := by
  unfold f_X10_explained_57 at h
  refine gx_iinc (v := (l5 + (1 : Int32))) (lv' := [(5, .int (l5 + (1 : Int32))), (0, .ref (Γ.B + pp l0)), (1, .int l1), (2, .int l2), (3, .int l3), (4, .int l4)]) 5 dX10_explained_57 rfl (by rw [ic_1]) (Nat.le_of_ble_eq_true rfl) rfl ?_
  refine gx_goto 29 dX10_explained_60 (by decide) ?_
  exact gx_sub [1, 2, 3, 4, 5, 0] rfl (hr_29 _ _ _ _ _ _ _ _ h)
set_option maxRecDepth 4000 in
theorem s_X10_explained_29 {Γ : Cn} {τ : Mm} {N : Nat} : ∀ (n : Nat) (l0 : Nat) (l1 : Int32) (l2 : Int32) (l3 : Int32) (l4 : Int32) (l5 : Int32) (σ : Mm) (o : Int32 × Mm), f_X10_explained_29 N n l0 l1 l2 l3 l4 l5 σ = some o → Gx Γ M_X10_explained 0 τ (PI o) 0 0 29 [(0, .ref (Γ.B + pp l0)), (1, .int l1), (2, .int l2), (3, .int l3), (4, .int l4), (5, .int l5)] [] σ := by
  intro n
  induction n with
  | zero =>
    intro l0 l1 l2 l3 l4 l5 σ o h
    exact absurd h (by rw [f_X10_explained_29]; exact fun q => nomatch q)
  | succ n ih =>
    intro l0 l1 l2 l3 l4 l5 σ o h
    rw [f_X10_explained_29] at h
    refine gx_iload 5 dX10_explained_29 rfl ?_
    refine gx_bipush (v := (8 : Int32)) dX10_explained_31 ib_8 ?_
    refine gx_icmp_ge 63 dX10_explained_33 (by decide) (fun c0 => ?_) (fun c0 => ?_)
    · rw [if_pos c0] at h
      refine gx_iload 4 dX10_explained_63 rfl ?_
      have h := Option.some.inj h
      subst h
      exact gx_iret dX10_explained_65 rfl (Nat.le_of_ble_eq_true rfl) (Nat.le_of_ble_eq_true rfl) ⟨rfl, rfl⟩
    · rw [if_neg c0] at h
      refine gx_aload_n 0 dX10_explained_36 rfl rfl ?_
      refine gx_iload_n 1 dX10_explained_37 rfl rfl ?_
      refine gx_iload_n 2 dX10_explained_38 rfl rfl ?_
      refine gx_iload_n 3 dX10_explained_39 rfl rfl ?_
      refine gx_iload 5 dX10_explained_40 rfl ?_
      obtain ⟨_, hobq2, h⟩ := bnd h
      obtain ⟨q2, hq2, h⟩ := bnd h
      refine gx_cVI (As := [.int l1, .int l2, .int l3, .int l5]) (st := []) (o := l0) dX10_explained_42 (c_X10_isExplained hq2) mov_X10_isExplained tw_933 hobq2 rfl ⟨Nat.le_of_ble_eq_true rfl, Nat.le_of_ble_eq_true rfl⟩ (Nat.le_of_ble_eq_true rfl) ?_
      refine gx_if_eq 57 dX10_explained_45 (by decide) (fun c2 => ?_) (fun c2 => ?_)
      · rw [if_pos c2] at h
        exact s_X10_explained_57 ih h
      · rw [if_neg c2] at h
        refine gx_iload 4 dX10_explained_48 rfl ?_
        refine gx_iconst (v := (1 : Int32)) dX10_explained_50 ic_1 ?_
        refine gx_iload 5 dX10_explained_51 rfl ?_
        refine gx_ishl dX10_explained_53 ?_
        refine gx_ior dX10_explained_54 ?_
        refine gx_istore (lv' := [(4, .int (l4 ||| ((1 : Int32) <<< (l5 &&& 31)))), (0, .ref (Γ.B + pp l0)), (1, .int l1), (2, .int l2), (3, .int l3), (5, .int l5)]) dX10_explained_55 (Nat.le_of_ble_eq_true rfl) rfl ?_
        exact gx_sub [1, 2, 3, 4, 0, 5] rfl (s_X10_explained_57 ih h)
set_option maxRecDepth 4000 in
theorem s_X10_explained_0 {Γ : Cn} {τ : Mm} {N : Nat} {l0 : Nat} {l1 : Int32} {l2 : Int32} {l3 : Int32} {σ : Mm} {o : Int32 × Mm} (h : f_X10_explained N l0 l1 l2 l3 σ = some o) : Gx Γ M_X10_explained 0 τ (PI o) 0 0 0 [(0, .ref (Γ.B + pp l0)), (1, .int l1), (2, .int l2), (3, .int l3)] [] σ := by
  unfold f_X10_explained at h
  refine gx_aload_n 0 dX10_explained_0 rfl rfl ?_
  refine gx_iload_n 1 dX10_explained_1 rfl rfl ?_
  refine gx_iconst (v := (0 : Int32)) dX10_explained_2 ic_0 ?_
  refine gx_iload_n 2 dX10_explained_3 rfl rfl ?_
  obtain ⟨_, hobq1, h⟩ := bnd h
  obtain ⟨q1, hq1, h⟩ := bnd h
  refine gx_cVI (As := [.int l1, .int (0 : Int32), .int l2]) (st := []) (o := l0) dX10_explained_4 (c_X10_canBlow hq1) mov_X10_canBlow tw_731 hobq1 rfl ⟨Nat.le_of_ble_eq_true rfl, Nat.le_of_ble_eq_true rfl⟩ (Nat.le_of_ble_eq_true rfl) ?_
  refine gx_if_eq 21 dX10_explained_7 (by decide) (fun c1 => ?_) (fun c1 => ?_)
  · rw [if_pos c1] at h
    exact gx_sub [] rfl (s_X10_explained_21  h)
  · rw [if_neg c1] at h
    refine gx_aload_n 0 dX10_explained_10 rfl rfl ?_
    obtain ⟨a3, ha3, h⟩ := bnd h
    refine gx_getN dX10_explained_11 ha3 fl_X10_42 rfl ?_
    refine gx_iload_n 3 dX10_explained_14 rfl rfl ?_
    obtain ⟨_, hobq4, h⟩ := bnd h
    obtain ⟨q4, hq4, h⟩ := bnd h
    refine gx_cVI (As := [.int l3]) (st := []) (o := a3) dX10_explained_15 (c_X7_hasCock hq4) mov_X7_hasCock tw_686 hobq4 rfl ⟨Nat.le_of_ble_eq_true rfl, Nat.le_of_ble_eq_true rfl⟩ (Nat.le_of_ble_eq_true rfl) ?_
    refine gx_if_ne 23 dX10_explained_18 (by decide) (fun c4 => ?_) (fun c4 => ?_)
    · rw [if_neg c4] at h
      refine gx_iconst (v := (0 : Int32)) dX10_explained_23 ic_0 ?_
      refine gx_istore (lv' := [(4, .int (0 : Int32)), (0, .ref (Γ.B + pp l0)), (1, .int l1), (2, .int l2), (3, .int l3)]) dX10_explained_24 (Nat.le_of_ble_eq_true rfl) rfl ?_
      refine gx_iconst (v := (0 : Int32)) dX10_explained_26 ic_0 ?_
      refine gx_istore (lv' := [(5, .int (0 : Int32)), (4, .int (0 : Int32)), (0, .ref (Γ.B + pp l0)), (1, .int l1), (2, .int l2), (3, .int l3)]) dX10_explained_27 (Nat.le_of_ble_eq_true rfl) rfl ?_
      exact gx_sub [2, 3, 4, 5, 1, 0] rfl (s_X10_explained_29  N _ _ _ _ _ _ _ _ h)
    · rw [if_pos c4] at h
      exact gx_sub [] rfl (s_X10_explained_21  h)
theorem c_X10_explained {Γ : Cn} {τ : Mm} {N : Nat} {l0 : Nat} {l1 : Int32} {l2 : Int32} {l3 : Int32} {σ : Mm} {o : Int32 × Mm} (h : f_X10_explained N l0 l1 l2 l3 σ = some o) : Ct Γ M_X10_explained yX10_explained 0 τ [.ref (Γ.B + pp l0), .int l1, .int l2, .int l3] σ (PI o) := ct_of (by decide) rfl (fun _ => by first | rfl | contradiction) (Nat.le_of_ble_eq_true rfl) (s_X10_explained_0  h)
abbrev M_X10_unexplainedBy : Ms := (cX10_unexplainedBy, RX10, 6, (some .int), false, 0, 0, 4)
def f_X10_unexplainedBy_46 (N : Nat) (r_6 : Nat → Int32 → Int32 → Int32 → Int32 → Int32 → Mm → Option (Int32 × Mm)) (l0 : Nat) (l1 : Int32) (l2 : Int32) (l3 : Int32) (l4 : Int32) (l5 : Int32) (σ : Mm) : Option (Int32 × Mm) :=
  r_6 l0 l1 l2 l3 l4 (l5 + (1 : Int32)) σ
def f_X10_unexplainedBy_52 (N : Nat) (l4 : Int32) (σ : Mm) : Option (Int32 × Mm) :=
  some (l4, σ)
def f_X10_unexplainedBy_6 (N : Nat) : Nat → Nat → Int32 → Int32 → Int32 → Int32 → Int32 → Mm → Option (Int32 × Mm)
  | 0, _, _, _, _, _, _, _ => none
  | n + 1, l0, l1, l2, l3, l4, l5, σ =>
      (gN 10 4 σ l0).bind fun a1 =>
      (gI 7 0 σ a1).bind fun x2 =>
      if x2 ≤ l5 then (
        f_X10_unexplainedBy_52 N l4 σ) else (
        if (12 : Int32) ≤ l5 then (
          f_X10_unexplainedBy_52 N l4 σ) else (
          (ob 10 σ l0).bind fun _ =>
          (f_X10_isExplained N l0 l1 l2 l5 l3 σ).bind fun q5 =>
          if q5.1 = 0 then (
            f_X10_unexplainedBy_46 N (f_X10_unexplainedBy_6 N n) l0 l1 l2 l3 (l4 ||| ((1 : Int32) <<< (l5 &&& 31))) l5 q5.2) else (
            f_X10_unexplainedBy_46 N (f_X10_unexplainedBy_6 N n) l0 l1 l2 l3 l4 l5 q5.2)))
def f_X10_unexplainedBy (N : Nat) (l0 : Nat) (l1 : Int32) (l2 : Int32) (l3 : Int32) (σ : Mm) : Option (Int32 × Mm) :=
  f_X10_unexplainedBy_6 N N l0 l1 l2 l3 (0 : Int32) (0 : Int32) σ
theorem mov_X10_unexplainedBy : MOV yX10_unexplainedBy M_X10_unexplainedBy 3 10 0 := ⟨⟨tw_96, tw_946, ⟨by decide, by decide⟩, by decide +kernel⟩, tw_945, tw_33, by decide, ⟨_, rfl, rfl⟩, rfl⟩
set_option maxRecDepth 4000 in
theorem s_X10_unexplainedBy_46 {Γ : Cn} {τ : Mm} {N : Nat} {r_6 : Nat → Int32 → Int32 → Int32 → Int32 → Int32 → Mm → Option (Int32 × Mm)} (hr_6 : ∀ (l0 : Nat) (l1 : Int32) (l2 : Int32) (l3 : Int32) (l4 : Int32) (l5 : Int32) (σ : Mm) (o : Int32 × Mm), r_6 l0 l1 l2 l3 l4 l5 σ = some o → Gx Γ M_X10_unexplainedBy 0 τ (PI o) 0 0 6 [(0, .ref (Γ.B + pp l0)), (1, .int l1), (2, .int l2), (3, .int l3), (4, .int l4), (5, .int l5)] [] σ) {l0 : Nat} {l1 : Int32} {l2 : Int32} {l3 : Int32} {l4 : Int32} {l5 : Int32} {σ : Mm} {o : Int32 × Mm} (h : f_X10_unexplainedBy_46 N r_6 l0 l1 l2 l3 l4 l5 σ = some o) : Gx Γ M_X10_unexplainedBy 0 τ (PI o) 0 0 46 [(0, .ref (Γ.B + pp l0)), (1, .int l1), (2, .int l2), (3, .int l3), (4, .int l4), (5, .int l5)] [] σ := by
  unfold f_X10_unexplainedBy_46 at h
  refine gx_iinc (v := (l5 + (1 : Int32))) (lv' := [(5, .int (l5 + (1 : Int32))), (0, .ref (Γ.B + pp l0)), (1, .int l1), (2, .int l2), (3, .int l3), (4, .int l4)]) 5 dX10_unexplainedBy_46 rfl (by rw [ic_1]) (Nat.le_of_ble_eq_true rfl) rfl ?_
  refine gx_goto 6 dX10_unexplainedBy_49 (by decide) ?_
  exact gx_sub [1, 2, 3, 4, 5, 0] rfl (hr_6 _ _ _ _ _ _ _ _ h)
set_option maxRecDepth 4000 in
theorem s_X10_unexplainedBy_52 {Γ : Cn} {τ : Mm} {N : Nat} {l4 : Int32} {σ : Mm} {o : Int32 × Mm} (h : f_X10_unexplainedBy_52 N l4 σ = some o) : Gx Γ M_X10_unexplainedBy 0 τ (PI o) 0 0 52 [(4, .int l4)] [] σ := by
  unfold f_X10_unexplainedBy_52 at h
  refine gx_iload 0 dX10_unexplainedBy_52 rfl ?_
  have h := Option.some.inj h
  subst h
  exact gx_iret dX10_unexplainedBy_54 rfl (Nat.le_of_ble_eq_true rfl) (Nat.le_of_ble_eq_true rfl) ⟨rfl, rfl⟩
set_option maxRecDepth 4000 in
theorem s_X10_unexplainedBy_6 {Γ : Cn} {τ : Mm} {N : Nat} : ∀ (n : Nat) (l0 : Nat) (l1 : Int32) (l2 : Int32) (l3 : Int32) (l4 : Int32) (l5 : Int32) (σ : Mm) (o : Int32 × Mm), f_X10_unexplainedBy_6 N n l0 l1 l2 l3 l4 l5 σ = some o → Gx Γ M_X10_unexplainedBy 0 τ (PI o) 0 0 6 [(0, .ref (Γ.B + pp l0)), (1, .int l1), (2, .int l2), (3, .int l3), (4, .int l4), (5, .int l5)] [] σ := by
  intro n
  induction n with
  | zero =>
    intro l0 l1 l2 l3 l4 l5 σ o h
    exact absurd h (by rw [f_X10_unexplainedBy_6]; exact fun q => nomatch q)
  | succ n ih =>
    intro l0 l1 l2 l3 l4 l5 σ o h
    rw [f_X10_unexplainedBy_6] at h
    refine gx_iload 5 dX10_unexplainedBy_6 rfl ?_
    refine gx_aload_n 0 dX10_unexplainedBy_8 rfl rfl ?_
    obtain ⟨a1, ha1, h⟩ := bnd h
    refine gx_getN dX10_unexplainedBy_9 ha1 fl_X10_42 rfl ?_
    obtain ⟨x2, hx2, h⟩ := bnd h
    refine gx_getI dX10_unexplainedBy_12 hx2 fl_X10_128 rfl ?_
    refine gx_icmp_ge 52 dX10_unexplainedBy_15 (by decide) (fun c2 => ?_) (fun c2 => ?_)
    · rw [if_pos c2] at h
      exact gx_sub [4] rfl (s_X10_unexplainedBy_52  h)
    · rw [if_neg c2] at h
      refine gx_iload 5 dX10_unexplainedBy_18 rfl ?_
      refine gx_bipush (v := (12 : Int32)) dX10_unexplainedBy_20 ib_12 ?_
      refine gx_icmp_ge 52 dX10_unexplainedBy_22 (by decide) (fun c3 => ?_) (fun c3 => ?_)
      · rw [if_pos c3] at h
        exact gx_sub [4] rfl (s_X10_unexplainedBy_52  h)
      · rw [if_neg c3] at h
        refine gx_aload_n 0 dX10_unexplainedBy_25 rfl rfl ?_
        refine gx_iload_n 1 dX10_unexplainedBy_26 rfl rfl ?_
        refine gx_iload_n 2 dX10_unexplainedBy_27 rfl rfl ?_
        refine gx_iload 5 dX10_unexplainedBy_28 rfl ?_
        refine gx_iload_n 3 dX10_unexplainedBy_30 rfl rfl ?_
        obtain ⟨_, hobq5, h⟩ := bnd h
        obtain ⟨q5, hq5, h⟩ := bnd h
        refine gx_cVI (As := [.int l1, .int l2, .int l5, .int l3]) (st := []) (o := l0) dX10_unexplainedBy_31 (c_X10_isExplained hq5) mov_X10_isExplained tw_933 hobq5 rfl ⟨Nat.le_of_ble_eq_true rfl, Nat.le_of_ble_eq_true rfl⟩ (Nat.le_of_ble_eq_true rfl) ?_
        refine gx_if_ne 46 dX10_unexplainedBy_34 (by decide) (fun c5 => ?_) (fun c5 => ?_)
        · rw [if_neg c5] at h
          exact s_X10_unexplainedBy_46 ih h
        · rw [if_pos c5] at h
          refine gx_iload 4 dX10_unexplainedBy_37 rfl ?_
          refine gx_iconst (v := (1 : Int32)) dX10_unexplainedBy_39 ic_1 ?_
          refine gx_iload 5 dX10_unexplainedBy_40 rfl ?_
          refine gx_ishl dX10_unexplainedBy_42 ?_
          refine gx_ior dX10_unexplainedBy_43 ?_
          refine gx_istore (lv' := [(4, .int (l4 ||| ((1 : Int32) <<< (l5 &&& 31)))), (0, .ref (Γ.B + pp l0)), (1, .int l1), (2, .int l2), (3, .int l3), (5, .int l5)]) dX10_unexplainedBy_44 (Nat.le_of_ble_eq_true rfl) rfl ?_
          exact gx_sub [1, 2, 3, 4, 0, 5] rfl (s_X10_unexplainedBy_46 ih h)
set_option maxRecDepth 4000 in
theorem s_X10_unexplainedBy_0 {Γ : Cn} {τ : Mm} {N : Nat} {l0 : Nat} {l1 : Int32} {l2 : Int32} {l3 : Int32} {σ : Mm} {o : Int32 × Mm} (h : f_X10_unexplainedBy N l0 l1 l2 l3 σ = some o) : Gx Γ M_X10_unexplainedBy 0 τ (PI o) 0 0 0 [(0, .ref (Γ.B + pp l0)), (1, .int l1), (2, .int l2), (3, .int l3)] [] σ := by
  unfold f_X10_unexplainedBy at h
  refine gx_iconst (v := (0 : Int32)) dX10_unexplainedBy_0 ic_0 ?_
  refine gx_istore (lv' := [(4, .int (0 : Int32)), (0, .ref (Γ.B + pp l0)), (1, .int l1), (2, .int l2), (3, .int l3)]) dX10_unexplainedBy_1 (Nat.le_of_ble_eq_true rfl) rfl ?_
  refine gx_iconst (v := (0 : Int32)) dX10_unexplainedBy_3 ic_0 ?_
  refine gx_istore (lv' := [(5, .int (0 : Int32)), (4, .int (0 : Int32)), (0, .ref (Γ.B + pp l0)), (1, .int l1), (2, .int l2), (3, .int l3)]) dX10_unexplainedBy_4 (Nat.le_of_ble_eq_true rfl) rfl ?_
  exact gx_sub [2, 3, 4, 5, 1, 0] rfl (s_X10_unexplainedBy_6  N _ _ _ _ _ _ _ _ h)
theorem c_X10_unexplainedBy {Γ : Cn} {τ : Mm} {N : Nat} {l0 : Nat} {l1 : Int32} {l2 : Int32} {l3 : Int32} {σ : Mm} {o : Int32 × Mm} (h : f_X10_unexplainedBy N l0 l1 l2 l3 σ = some o) : Ct Γ M_X10_unexplainedBy yX10_unexplainedBy 0 τ [.ref (Γ.B + pp l0), .int l1, .int l2, .int l3] σ (PI o) := ct_of (by decide) rfl (fun _ => by first | rfl | contradiction) (Nat.le_of_ble_eq_true rfl) (s_X10_unexplainedBy_0  h)
