abbrev M_X6_skip : Ms := (cX6_skip, RX6, 1, none, false, 0, 0, 0)
def f_X6_skip (N : Nat) (l0 : Nat) (σ : Mm) : Option Mm :=
  (gI 6 4 σ l0).bind fun x1 =>
  (pI 6 4 σ l0 (x1 + (1 : Int32))).bind fun s2 =>
  some s2
theorem mov_X6_skip : MOV yX6_skip M_X6_skip 0 6 0 := ⟨⟨tw_98, tw_585, ⟨by decide, by decide⟩, by decide +kernel⟩, tw_583, tw_584, by decide, ⟨_, rfl, rfl⟩, rfl⟩
set_option maxRecDepth 4000 in
theorem s_X6_skip_0 {Γ : Cn} {τ : Mm} {N : Nat} {l0 : Nat} {σ : Mm} {o : Mm} (h : f_X6_skip N l0 σ = some o) : Gx Γ M_X6_skip 0 τ (PV o) 0 0 0 [(0, .ref (Γ.B + pp l0))] [] σ := by
  unfold f_X6_skip at h
  refine gx_aload_n 0 dX6_skip_0 rfl rfl ?_
  refine gx_dup dX6_skip_1 rfl ?_
  obtain ⟨x1, hx1, h⟩ := bnd h
  refine gx_getI dX6_skip_2 hx1 fl_X6_25 rfl ?_
  refine gx_iconst (v := (1 : Int32)) dX6_skip_5 ic_1 ?_
  refine gx_iadd dX6_skip_6 ?_
  obtain ⟨s2, hs2, h⟩ := bnd h
  refine gx_putI dX6_skip_7 hs2 fl_X6_25 fp_X6_6_4 rfl ?_
  have h := Option.some.inj h
  subst h
  exact gx_vret dX6_skip_10 rfl (Nat.le_of_ble_eq_true rfl) (Nat.le_of_ble_eq_true rfl) ⟨rfl, rfl⟩
theorem c_X6_skip {Γ : Cn} {τ : Mm} {N : Nat} {l0 : Nat} {σ : Mm} {o : Mm} (h : f_X6_skip N l0 σ = some o) : Ct Γ M_X6_skip yX6_skip 0 τ [.ref (Γ.B + pp l0)] σ (PV o) := ct_of (by decide) rfl (fun _ => by first | rfl | contradiction) (Nat.le_of_ble_eq_true rfl) (s_X6_skip_0  h)
abbrev M_X6_value : Ms := (cX6_value, RX6, 1, (some .int), false, 0, 0, 0)
def f_X6_value_41 (N : Nat) (t0 : Int32) (σ : Mm) : Option (Int32 × Mm) :=
  some (t0, σ)
def f_X6_value_40 (N : Nat) (σ : Mm) : Option (Int32 × Mm) :=
  f_X6_value_41 N (0 : Int32) σ
def f_X6_value (N : Nat) (l0 : Nat) (σ : Mm) : Option (Int32 × Mm) :=
  (gI 6 4 σ l0).bind fun x1 =>
  if x1 < 0 then (
    f_X6_value_40 N σ) else (
    (gI 6 4 σ l0).bind fun x3 =>
    (gI 6 3 σ l0).bind fun x4 =>
    if x4 ≤ x3 then (
      f_X6_value_40 N σ) else (
      (gI 6 4 σ l0).bind fun x6 =>
      if (400 : Int32) < x6 then (
        f_X6_value_40 N σ) else (
        (gN 6 2 σ l0).bind fun a8 =>
        (gI 6 4 σ l0).bind fun x9 =>
        (aI 13 σ a8 x9).bind fun x10 =>
        f_X6_value_41 N x10 σ)))
theorem mov_X6_value : MOV yX6_value M_X6_value 0 6 0 := ⟨⟨tw_98, tw_601, ⟨by decide, by decide⟩, by decide +kernel⟩, tw_599, tw_600, by decide, ⟨_, rfl, rfl⟩, rfl⟩
set_option maxRecDepth 4000 in
theorem s_X6_value_41 {Γ : Cn} {τ : Mm} {N : Nat} {t0 : Int32} {σ : Mm} {o : Int32 × Mm} (h : f_X6_value_41 N t0 σ = some o) : Gx Γ M_X6_value 0 τ (PI o) 0 0 41 [] [.int t0] σ := by
  unfold f_X6_value_41 at h
  have h := Option.some.inj h
  subst h
  exact gx_iret dX6_value_41 rfl (Nat.le_of_ble_eq_true rfl) (Nat.le_of_ble_eq_true rfl) ⟨rfl, rfl⟩
set_option maxRecDepth 4000 in
theorem s_X6_value_40 {Γ : Cn} {τ : Mm} {N : Nat} {σ : Mm} {o : Int32 × Mm} (h : f_X6_value_40 N σ = some o) : Gx Γ M_X6_value 0 τ (PI o) 0 0 40 [] [] σ := by
  unfold f_X6_value_40 at h
  refine gx_iconst (v := (0 : Int32)) dX6_value_40 ic_0 ?_
  exact s_X6_value_41  h
set_option maxRecDepth 4000 in
theorem s_X6_value_0 {Γ : Cn} {τ : Mm} {N : Nat} {l0 : Nat} {σ : Mm} {o : Int32 × Mm} (h : f_X6_value N l0 σ = some o) : Gx Γ M_X6_value 0 τ (PI o) 0 0 0 [(0, .ref (Γ.B + pp l0))] [] σ := by
  unfold f_X6_value at h
  refine gx_aload_n 0 dX6_value_0 rfl rfl ?_
  obtain ⟨x1, hx1, h⟩ := bnd h
  refine gx_getI dX6_value_1 hx1 fl_X6_25 rfl ?_
  refine gx_if_lt 40 dX6_value_4 (by decide) (fun c1 => ?_) (fun c1 => ?_)
  · rw [if_pos c1] at h
    exact gx_sub [] rfl (s_X6_value_40  h)
  · rw [if_neg c1] at h
    refine gx_aload_n 0 dX6_value_7 rfl rfl ?_
    obtain ⟨x3, hx3, h⟩ := bnd h
    refine gx_getI dX6_value_8 hx3 fl_X6_25 rfl ?_
    refine gx_aload_n 0 dX6_value_11 rfl rfl ?_
    obtain ⟨x4, hx4, h⟩ := bnd h
    refine gx_getI dX6_value_12 hx4 fl_X6_21 rfl ?_
    refine gx_icmp_ge 40 dX6_value_15 (by decide) (fun c4 => ?_) (fun c4 => ?_)
    · rw [if_pos c4] at h
      exact gx_sub [] rfl (s_X6_value_40  h)
    · rw [if_neg c4] at h
      refine gx_aload_n 0 dX6_value_18 rfl rfl ?_
      obtain ⟨x6, hx6, h⟩ := bnd h
      refine gx_getI dX6_value_19 hx6 fl_X6_25 rfl ?_
      refine gx_sipush (v := (400 : Int32)) dX6_value_22 is_400 ?_
      refine gx_icmp_gt 40 dX6_value_25 (by decide) (fun c6 => ?_) (fun c6 => ?_)
      · rw [if_pos c6] at h
        exact gx_sub [] rfl (s_X6_value_40  h)
      · rw [if_neg c6] at h
        refine gx_aload_n 0 dX6_value_28 rfl rfl ?_
        obtain ⟨a8, ha8, h⟩ := bnd h
        refine gx_getN dX6_value_29 ha8 fl_X6_18 rfl ?_
        refine gx_aload_n 0 dX6_value_32 rfl rfl ?_
        obtain ⟨x9, hx9, h⟩ := bnd h
        refine gx_getI dX6_value_33 hx9 fl_X6_25 rfl ?_
        obtain ⟨x10, hx10, h⟩ := bnd h
        refine gx_iald (kd := 13) dX6_value_36 hx10 rfl rfl ?_
        refine gx_goto 41 dX6_value_37 (by decide) ?_
        exact gx_sub [] rfl (s_X6_value_41  h)
theorem c_X6_value {Γ : Cn} {τ : Mm} {N : Nat} {l0 : Nat} {σ : Mm} {o : Int32 × Mm} (h : f_X6_value N l0 σ = some o) : Ct Γ M_X6_value yX6_value 0 τ [.ref (Γ.B + pp l0)] σ (PI o) := ct_of (by decide) rfl (fun _ => by first | rfl | contradiction) (Nat.le_of_ble_eq_true rfl) (s_X6_value_0  h)
abbrev M_X3_readsValue : Ms := (cX3_readsValue, RX3, 3, (some .boolean), false, 0, 0, 1)
def f_X3_readsValue_35 (N : Nat) (l0 : Nat) (σ : Mm) : Option (Int32 × Mm) :=
  (gN 3 0 σ l0).bind fun a1 =>
  (ob 6 σ a1).bind fun _ =>
  (f_X6_fails N a1 (0 : Int32) σ).bind fun q2 =>
  if q2.1 = 0 ∨ q2.1 = 1 then some (q2.1, q2.2) else none
def f_X3_readsValue_115 (N : Nat) (l0 : Nat) (t0 : Nat) (t1 : Int32) (σ : Mm) : Option (Int32 × Mm) :=
  (ob 2 σ t0).bind fun _ =>
  (f_X2_add N t0 t1 σ).bind fun q1 =>
  (gN 3 0 q1 l0).bind fun a2 =>
  (ob 6 q1 a2).bind fun _ =>
  (f_X6_skip N a2 q1).bind fun q3 =>
  some ((1 : Int32), q3)
def f_X3_readsValue_67 (N : Nat) (l0 : Nat) (l1 : Int32) (l2 : Int32) (σ : Mm) : Option (Int32 × Mm) :=
  (gI 3 2 σ l0).bind fun x1 =>
  if x1 < (60 : Int32) then (
    (gI 3 2 σ l0).bind fun x3 =>
    (pI 3 2 σ l0 (x3 + (1 : Int32))).bind fun s4 =>
    (gN 3 1 s4 l0).bind fun a5 =>
    if l2 = 0 then (
      f_X3_readsValue_115 N l0 a5 (-l1) s4) else (
      (gN 3 0 s4 l0).bind fun a7 =>
      (ob 6 s4 a7).bind fun _ =>
      (f_X6_value N a7 s4).bind fun q8 =>
      f_X3_readsValue_115 N l0 a5 q8.1 q8.2)) else (
    (gN 3 0 σ l0).bind fun a9 =>
    (ob 6 σ a9).bind fun _ =>
    (f_X6_fails N a9 (3 : Int32) σ).bind fun q10 =>
    if q10.1 = 0 ∨ q10.1 = 1 then some (q10.1, q10.2) else none)
def f_X3_readsValue_44 (N : Nat) (l0 : Nat) (l1 : Int32) (l2 : Int32) (σ : Mm) : Option (Int32 × Mm) :=
  if l2 = 0 then (
    f_X3_readsValue_67 N l0 l1 l2 σ) else (
    (gN 3 0 σ l0).bind fun a2 =>
    (ob 6 σ a2).bind fun _ =>
    (f_X6_value N a2 σ).bind fun q3 =>
    if 0 ≤ q3.1 then (
      f_X3_readsValue_67 N l0 l1 l2 q3.2) else (
      (gN 3 0 q3.2 l0).bind fun a5 =>
      (ob 6 q3.2 a5).bind fun _ =>
      (f_X6_fails N a5 (1 : Int32) q3.2).bind fun q6 =>
      if q6.1 = 0 ∨ q6.1 = 1 then some (q6.1, q6.2) else none))
def f_X3_readsValue_18 (N : Nat) (l0 : Nat) (l1 : Int32) (t0 : Int32) (σ : Mm) : Option (Int32 × Mm) :=
  if t0 = 0 then (
    if l1 < (25 : Int32) then (
      f_X3_readsValue_35 N l0 σ) else (
      if l1 ≤ (33 : Int32) then (
        f_X3_readsValue_44 N l0 l1 t0 σ) else (
        f_X3_readsValue_35 N l0 σ))) else (
    f_X3_readsValue_44 N l0 l1 t0 σ)
def f_X3_readsValue (N : Nat) (l0 : Nat) (σ : Mm) : Option (Int32 × Mm) :=
  (gN 3 0 σ l0).bind fun a1 =>
  (ob 6 σ a1).bind fun _ =>
  (f_X6_kind N a1 σ).bind fun q2 =>
  if q2.1 = (3 : Int32) then (
    f_X3_readsValue_18 N l0 q2.1 (1 : Int32) q2.2) else (
    f_X3_readsValue_18 N l0 q2.1 (0 : Int32) q2.2)
theorem mov_X3_readsValue : MOV yX3_readsValue M_X3_readsValue 0 3 0 := ⟨⟨tw_100, tw_651, ⟨by decide, by decide⟩, by decide +kernel⟩, tw_650, tw_12, by decide, ⟨_, rfl, rfl⟩, rfl⟩
set_option maxRecDepth 4000 in
theorem s_X3_readsValue_35 {Γ : Cn} {τ : Mm} {N : Nat} {l0 : Nat} {σ : Mm} {o : Int32 × Mm} (h : f_X3_readsValue_35 N l0 σ = some o) : Gx Γ M_X3_readsValue 0 τ (PI o) 0 0 35 [(0, .ref (Γ.B + pp l0))] [] σ := by
  unfold f_X3_readsValue_35 at h
  refine gx_aload_n 0 dX3_readsValue_35 rfl rfl ?_
  obtain ⟨a1, ha1, h⟩ := bnd h
  refine gx_getN dX3_readsValue_36 ha1 fl_X3_22 rfl ?_
  refine gx_iconst (v := (0 : Int32)) dX3_readsValue_39 ic_0 ?_
  obtain ⟨_, hobq2, h⟩ := bnd h
  obtain ⟨q2, hq2, h⟩ := bnd h
  refine gx_cVI (As := [.int (0 : Int32)]) (st := []) (o := a1) dX3_readsValue_40 (c_X6_fails hq2) mov_X6_fails tw_637 hobq2 rfl ⟨Nat.le_of_ble_eq_true rfl, Nat.le_of_ble_eq_true rfl⟩ (Nat.le_of_ble_eq_true rfl) ?_
  obtain ⟨hz, h⟩ := of_if h
  have h := Option.some.inj h
  subst h
  exact gx_zret dX3_readsValue_43 rfl (nar_z hz) (Nat.le_of_ble_eq_true rfl) (Nat.le_of_ble_eq_true rfl) ⟨rfl, rfl⟩
set_option maxRecDepth 4000 in
theorem s_X3_readsValue_115 {Γ : Cn} {τ : Mm} {N : Nat} {l0 : Nat} {t0 : Nat} {t1 : Int32} {σ : Mm} {o : Int32 × Mm} (h : f_X3_readsValue_115 N l0 t0 t1 σ = some o) : Gx Γ M_X3_readsValue 0 τ (PI o) 0 0 115 [(0, .ref (Γ.B + pp l0))] [.int t1, .ref (Γ.B + pp t0)] σ := by
  unfold f_X3_readsValue_115 at h
  obtain ⟨_, hobq1, h⟩ := bnd h
  obtain ⟨q1, hq1, h⟩ := bnd h
  refine gx_cVV (As := [.int t1]) (st := []) (o := t0) dX3_readsValue_115 (c_X2_add hq1) mov_X2_add tw_653 hobq1 rfl ⟨Nat.le_of_ble_eq_true rfl, Nat.le_of_ble_eq_true rfl⟩ (Nat.le_of_ble_eq_true rfl) ?_
  refine gx_aload_n 0 dX3_readsValue_118 rfl rfl ?_
  obtain ⟨a2, ha2, h⟩ := bnd h
  refine gx_getN dX3_readsValue_119 ha2 fl_X3_22 rfl ?_
  obtain ⟨_, hobq3, h⟩ := bnd h
  obtain ⟨q3, hq3, h⟩ := bnd h
  refine gx_cVV (As := []) (st := []) (o := a2) dX3_readsValue_122 (c_X6_skip hq3) mov_X6_skip tw_643 hobq3 rfl ⟨Nat.le_of_ble_eq_true rfl, Nat.le_of_ble_eq_true rfl⟩ (Nat.le_of_ble_eq_true rfl) ?_
  refine gx_iconst (v := (1 : Int32)) dX3_readsValue_125 ic_1 ?_
  have h := Option.some.inj h
  subst h
  exact gx_zret dX3_readsValue_126 rfl rfl (Nat.le_of_ble_eq_true rfl) (Nat.le_of_ble_eq_true rfl) ⟨rfl, rfl⟩
set_option maxRecDepth 4000 in
theorem s_X3_readsValue_67 {Γ : Cn} {τ : Mm} {N : Nat} {l0 : Nat} {l1 : Int32} {l2 : Int32} {σ : Mm} {o : Int32 × Mm} (h : f_X3_readsValue_67 N l0 l1 l2 σ = some o) : Gx Γ M_X3_readsValue 0 τ (PI o) 0 0 67 [(0, .ref (Γ.B + pp l0)), (1, .int l1), (2, .int l2)] [] σ := by
  unfold f_X3_readsValue_67 at h
  refine gx_aload_n 0 dX3_readsValue_67 rfl rfl ?_
  obtain ⟨x1, hx1, h⟩ := bnd h
  refine gx_getI dX3_readsValue_68 hx1 fl_X3_18 rfl ?_
  refine gx_bipush (v := (60 : Int32)) dX3_readsValue_71 ib_60 ?_
  refine gx_icmp_lt 85 dX3_readsValue_73 (by decide) (fun c1 => ?_) (fun c1 => ?_)
  · rw [if_pos c1] at h
    refine gx_aload_n 0 dX3_readsValue_85 rfl rfl ?_
    refine gx_dup dX3_readsValue_86 rfl ?_
    obtain ⟨x3, hx3, h⟩ := bnd h
    refine gx_getI dX3_readsValue_87 hx3 fl_X3_18 rfl ?_
    refine gx_iconst (v := (1 : Int32)) dX3_readsValue_90 ic_1 ?_
    refine gx_iadd dX3_readsValue_91 ?_
    obtain ⟨s4, hs4, h⟩ := bnd h
    refine gx_putI dX3_readsValue_92 hs4 fl_X3_18 fp_X3_3_2 rfl ?_
    refine gx_aload_n 0 dX3_readsValue_95 rfl rfl ?_
    obtain ⟨a5, ha5, h⟩ := bnd h
    refine gx_getN dX3_readsValue_96 ha5 fl_X3_12 rfl ?_
    refine gx_iload_n 2 dX3_readsValue_99 rfl rfl ?_
    refine gx_if_eq 113 dX3_readsValue_100 (by decide) (fun c5 => ?_) (fun c5 => ?_)
    · rw [if_pos c5] at h
      refine gx_iload_n 1 dX3_readsValue_113 rfl rfl ?_
      refine gx_ineg dX3_readsValue_114 ?_
      exact gx_sub [0] rfl (s_X3_readsValue_115  h)
    · rw [if_neg c5] at h
      refine gx_aload_n 0 dX3_readsValue_103 rfl rfl ?_
      obtain ⟨a7, ha7, h⟩ := bnd h
      refine gx_getN dX3_readsValue_104 ha7 fl_X3_22 rfl ?_
      obtain ⟨_, hobq8, h⟩ := bnd h
      obtain ⟨q8, hq8, h⟩ := bnd h
      refine gx_cVI (As := []) (st := [.ref (Γ.B + pp a5)]) (o := a7) dX3_readsValue_107 (c_X6_value hq8) mov_X6_value tw_652 hobq8 rfl ⟨Nat.le_of_ble_eq_true rfl, Nat.le_of_ble_eq_true rfl⟩ (Nat.le_of_ble_eq_true rfl) ?_
      refine gx_goto 115 dX3_readsValue_110 (by decide) ?_
      exact gx_sub [0] rfl (s_X3_readsValue_115  h)
  · rw [if_neg c1] at h
    refine gx_aload_n 0 dX3_readsValue_76 rfl rfl ?_
    obtain ⟨a9, ha9, h⟩ := bnd h
    refine gx_getN dX3_readsValue_77 ha9 fl_X3_22 rfl ?_
    refine gx_iconst (v := (3 : Int32)) dX3_readsValue_80 ic_3 ?_
    obtain ⟨_, hobq10, h⟩ := bnd h
    obtain ⟨q10, hq10, h⟩ := bnd h
    refine gx_cVI (As := [.int (3 : Int32)]) (st := []) (o := a9) dX3_readsValue_81 (c_X6_fails hq10) mov_X6_fails tw_637 hobq10 rfl ⟨Nat.le_of_ble_eq_true rfl, Nat.le_of_ble_eq_true rfl⟩ (Nat.le_of_ble_eq_true rfl) ?_
    obtain ⟨hz, h⟩ := of_if h
    have h := Option.some.inj h
    subst h
    exact gx_zret dX3_readsValue_84 rfl (nar_z hz) (Nat.le_of_ble_eq_true rfl) (Nat.le_of_ble_eq_true rfl) ⟨rfl, rfl⟩
set_option maxRecDepth 4000 in
theorem s_X3_readsValue_44 {Γ : Cn} {τ : Mm} {N : Nat} {l0 : Nat} {l1 : Int32} {l2 : Int32} {σ : Mm} {o : Int32 × Mm} (h : f_X3_readsValue_44 N l0 l1 l2 σ = some o) : Gx Γ M_X3_readsValue 0 τ (PI o) 0 0 44 [(0, .ref (Γ.B + pp l0)), (1, .int l1), (2, .int l2)] [] σ := by
  unfold f_X3_readsValue_44 at h
  refine gx_iload_n 2 dX3_readsValue_44 rfl rfl ?_
  refine gx_if_eq 67 dX3_readsValue_45 (by decide) (fun c0 => ?_) (fun c0 => ?_)
  · rw [if_pos c0] at h
    exact s_X3_readsValue_67  h
  · rw [if_neg c0] at h
    refine gx_aload_n 0 dX3_readsValue_48 rfl rfl ?_
    obtain ⟨a2, ha2, h⟩ := bnd h
    refine gx_getN dX3_readsValue_49 ha2 fl_X3_22 rfl ?_
    obtain ⟨_, hobq3, h⟩ := bnd h
    obtain ⟨q3, hq3, h⟩ := bnd h
    refine gx_cVI (As := []) (st := []) (o := a2) dX3_readsValue_52 (c_X6_value hq3) mov_X6_value tw_652 hobq3 rfl ⟨Nat.le_of_ble_eq_true rfl, Nat.le_of_ble_eq_true rfl⟩ (Nat.le_of_ble_eq_true rfl) ?_
    refine gx_if_ge 67 dX3_readsValue_55 (by decide) (fun c3 => ?_) (fun c3 => ?_)
    · rw [if_pos c3] at h
      exact s_X3_readsValue_67  h
    · rw [if_neg c3] at h
      refine gx_aload_n 0 dX3_readsValue_58 rfl rfl ?_
      obtain ⟨a5, ha5, h⟩ := bnd h
      refine gx_getN dX3_readsValue_59 ha5 fl_X3_22 rfl ?_
      refine gx_iconst (v := (1 : Int32)) dX3_readsValue_62 ic_1 ?_
      obtain ⟨_, hobq6, h⟩ := bnd h
      obtain ⟨q6, hq6, h⟩ := bnd h
      refine gx_cVI (As := [.int (1 : Int32)]) (st := []) (o := a5) dX3_readsValue_63 (c_X6_fails hq6) mov_X6_fails tw_637 hobq6 rfl ⟨Nat.le_of_ble_eq_true rfl, Nat.le_of_ble_eq_true rfl⟩ (Nat.le_of_ble_eq_true rfl) ?_
      obtain ⟨hz, h⟩ := of_if h
      have h := Option.some.inj h
      subst h
      exact gx_zret dX3_readsValue_66 rfl (nar_z hz) (Nat.le_of_ble_eq_true rfl) (Nat.le_of_ble_eq_true rfl) ⟨rfl, rfl⟩
set_option maxRecDepth 4000 in
theorem s_X3_readsValue_18 {Γ : Cn} {τ : Mm} {N : Nat} {l0 : Nat} {l1 : Int32} {t0 : Int32} {σ : Mm} {o : Int32 × Mm} (h : f_X3_readsValue_18 N l0 l1 t0 σ = some o) : Gx Γ M_X3_readsValue 0 τ (PI o) 0 0 18 [(0, .ref (Γ.B + pp l0)), (1, .int l1)] [.int t0] σ := by
  unfold f_X3_readsValue_18 at h
  refine gx_istore_n (lv' := [(2, .int t0), (0, .ref (Γ.B + pp l0)), (1, .int l1)]) dX3_readsValue_18 rfl (Nat.le_of_ble_eq_true rfl) rfl ?_
  refine gx_iload_n 0 dX3_readsValue_19 rfl rfl ?_
  refine gx_if_ne 44 dX3_readsValue_20 (by decide) (fun c0 => ?_) (fun c0 => ?_)
  · rw [if_neg c0] at h
    exact gx_sub [1, 2, 0] rfl (s_X3_readsValue_44  h)
  · rw [if_pos c0] at h
    refine gx_iload_n 2 dX3_readsValue_23 rfl rfl ?_
    refine gx_bipush (v := (25 : Int32)) dX3_readsValue_24 ib_25 ?_
    refine gx_icmp_lt 35 dX3_readsValue_26 (by decide) (fun c1 => ?_) (fun c1 => ?_)
    · rw [if_pos c1] at h
      exact gx_sub [1] rfl (s_X3_readsValue_35  h)
    · rw [if_neg c1] at h
      refine gx_iload_n 2 dX3_readsValue_29 rfl rfl ?_
      refine gx_bipush (v := (33 : Int32)) dX3_readsValue_30 ib_33 ?_
      refine gx_icmp_le 44 dX3_readsValue_32 (by decide) (fun c2 => ?_) (fun c2 => ?_)
      · rw [if_pos c2] at h
        exact gx_sub [1, 2, 0] rfl (s_X3_readsValue_44  h)
      · rw [if_neg c2] at h
        exact gx_sub [1] rfl (s_X3_readsValue_35  h)
set_option maxRecDepth 4000 in
theorem s_X3_readsValue_0 {Γ : Cn} {τ : Mm} {N : Nat} {l0 : Nat} {σ : Mm} {o : Int32 × Mm} (h : f_X3_readsValue N l0 σ = some o) : Gx Γ M_X3_readsValue 0 τ (PI o) 0 0 0 [(0, .ref (Γ.B + pp l0))] [] σ := by
  unfold f_X3_readsValue at h
  refine gx_aload_n 0 dX3_readsValue_0 rfl rfl ?_
  obtain ⟨a1, ha1, h⟩ := bnd h
  refine gx_getN dX3_readsValue_1 ha1 fl_X3_22 rfl ?_
  obtain ⟨_, hobq2, h⟩ := bnd h
  obtain ⟨q2, hq2, h⟩ := bnd h
  refine gx_cVI (As := []) (st := []) (o := a1) dX3_readsValue_4 (c_X6_kind hq2) mov_X6_kind tw_642 hobq2 rfl ⟨Nat.le_of_ble_eq_true rfl, Nat.le_of_ble_eq_true rfl⟩ (Nat.le_of_ble_eq_true rfl) ?_
  refine gx_istore_n (lv' := [(1, .int q2.1), (0, .ref (Γ.B + pp l0))]) dX3_readsValue_7 rfl (Nat.le_of_ble_eq_true rfl) rfl ?_
  refine gx_iload_n 0 dX3_readsValue_8 rfl rfl ?_
  refine gx_iconst (v := (3 : Int32)) dX3_readsValue_9 ic_3 ?_
  refine gx_icmp_ne 17 dX3_readsValue_10 (by decide) (fun c2 => ?_) (fun c2 => ?_)
  · rw [if_neg c2] at h
    refine gx_iconst (v := (0 : Int32)) dX3_readsValue_17 ic_0 ?_
    exact gx_sub [1, 0] rfl (s_X3_readsValue_18  h)
  · rw [if_pos c2] at h
    refine gx_iconst (v := (1 : Int32)) dX3_readsValue_13 ic_1 ?_
    refine gx_goto 18 dX3_readsValue_14 (by decide) ?_
    exact gx_sub [1, 0] rfl (s_X3_readsValue_18  h)
theorem c_X3_readsValue {Γ : Cn} {τ : Mm} {N : Nat} {l0 : Nat} {σ : Mm} {o : Int32 × Mm} (h : f_X3_readsValue N l0 σ = some o) : Ct Γ M_X3_readsValue yX3_readsValue 0 τ [.ref (Γ.B + pp l0)] σ (PI o) := ct_of (by decide) rfl (fun _ => by first | rfl | contradiction) (Nat.le_of_ble_eq_true rfl) (s_X3_readsValue_0  h)
abbrev M_X3_addIfThere : Ms := (cX3_addIfThere, RX3, 2, none, false, 0, 0, 1)
def f_X3_addIfThere_13 (N : Nat) (σ : Mm) : Option Mm :=
  some σ
def f_X3_addIfThere (N : Nat) (l0 : Nat) (l1 : Int32) (σ : Mm) : Option Mm :=
  if l1 = 0 then (
    f_X3_addIfThere_13 N σ) else (
    (gN 3 1 σ l0).bind fun a2 =>
    (ob 2 σ a2).bind fun _ =>
    (f_X2_add N a2 (-l1) σ).bind fun q3 =>
    f_X3_addIfThere_13 N q3)
theorem mov_X3_addIfThere : MOV yX3_addIfThere M_X3_addIfThere 1 3 0 := ⟨⟨tw_100, tw_660, ⟨by decide, by decide⟩, by decide +kernel⟩, tw_659, tw_13, by decide, ⟨_, rfl, rfl⟩, rfl⟩
set_option maxRecDepth 4000 in
theorem s_X3_addIfThere_13 {Γ : Cn} {τ : Mm} {N : Nat} {σ : Mm} {o : Mm} (h : f_X3_addIfThere_13 N σ = some o) : Gx Γ M_X3_addIfThere 0 τ (PV o) 0 0 13 [] [] σ := by
  unfold f_X3_addIfThere_13 at h
  have h := Option.some.inj h
  subst h
  exact gx_vret dX3_addIfThere_13 rfl (Nat.le_of_ble_eq_true rfl) (Nat.le_of_ble_eq_true rfl) ⟨rfl, rfl⟩
set_option maxRecDepth 4000 in
theorem s_X3_addIfThere_0 {Γ : Cn} {τ : Mm} {N : Nat} {l0 : Nat} {l1 : Int32} {σ : Mm} {o : Mm} (h : f_X3_addIfThere N l0 l1 σ = some o) : Gx Γ M_X3_addIfThere 0 τ (PV o) 0 0 0 [(0, .ref (Γ.B + pp l0)), (1, .int l1)] [] σ := by
  unfold f_X3_addIfThere at h
  refine gx_iload_n 1 dX3_addIfThere_0 rfl rfl ?_
  refine gx_if_eq 13 dX3_addIfThere_1 (by decide) (fun c0 => ?_) (fun c0 => ?_)
  · rw [if_pos c0] at h
    exact gx_sub [] rfl (s_X3_addIfThere_13  h)
  · rw [if_neg c0] at h
    refine gx_aload_n 0 dX3_addIfThere_4 rfl rfl ?_
    obtain ⟨a2, ha2, h⟩ := bnd h
    refine gx_getN dX3_addIfThere_5 ha2 fl_X3_12 rfl ?_
    refine gx_iload_n 1 dX3_addIfThere_8 rfl rfl ?_
    refine gx_ineg dX3_addIfThere_9 ?_
    obtain ⟨_, hobq3, h⟩ := bnd h
    obtain ⟨q3, hq3, h⟩ := bnd h
    refine gx_cVV (As := [.int (-l1)]) (st := []) (o := a2) dX3_addIfThere_10 (c_X2_add hq3) mov_X2_add tw_653 hobq3 rfl ⟨Nat.le_of_ble_eq_true rfl, Nat.le_of_ble_eq_true rfl⟩ (Nat.le_of_ble_eq_true rfl) ?_
    exact gx_sub [] rfl (s_X3_addIfThere_13  h)
theorem c_X3_addIfThere {Γ : Cn} {τ : Mm} {N : Nat} {l0 : Nat} {l1 : Int32} {σ : Mm} {o : Mm} (h : f_X3_addIfThere N l0 l1 σ = some o) : Ct Γ M_X3_addIfThere yX3_addIfThere 0 τ [.ref (Γ.B + pp l0), .int l1] σ (PV o) := ct_of (by decide) rfl (fun _ => by first | rfl | contradiction) (Nat.le_of_ble_eq_true rfl) (s_X3_addIfThere_0  h)
abbrev M_X3_readsSum : Ms := (cX3_readsSum, RX3, 5, (some .boolean), false, 0, 0, 2)
def f_X3_readsSum_85 (N : Nat) (r_6 : Nat → Int32 → Int32 → Int32 → Mm → Option (Int32 × Mm)) (l0 : Nat) (l1 : Int32) (l2 : Int32) (l3 : Int32) (σ : Mm) : Option (Int32 × Mm) :=
  (gN 3 0 σ l0).bind fun a1 =>
  (ob 6 σ a1).bind fun _ =>
  (f_X6_skip N a1 σ).bind fun q2 =>
  r_6 l0 l1 l2 (l3 + (1 : Int32)) q2
def f_X3_readsSum_56 (N : Nat) (r_6 : Nat → Int32 → Int32 → Int32 → Mm → Option (Int32 × Mm)) (l0 : Nat) (l2 : Int32) (l3 : Int32) (l4 : Int32) (t0 : Int32) (σ : Mm) : Option (Int32 × Mm) :=
  if t0 = 0 then (
    (ob 3 σ l0).bind fun _ =>
    (f_X3_addIfThere N l0 l2 σ).bind fun q2 =>
    if l4 = (7 : Int32) then (
      f_X3_readsSum_85 N r_6 l0 t0 l4 l3 q2) else (
      if l4 = (8 : Int32) then (
        f_X3_readsSum_85 N r_6 l0 t0 l4 l3 q2) else (
        some ((1 : Int32), q2)))) else (
    f_X3_readsSum_85 N r_6 l0 t0 l2 l3 σ)
def f_X3_readsSum_50 (N : Nat) (r_6 : Nat → Int32 → Int32 → Int32 → Mm → Option (Int32 × Mm)) (l0 : Nat) (l2 : Int32) (l3 : Int32) (l4 : Int32) (σ : Mm) : Option (Int32 × Mm) :=
  f_X3_readsSum_56 N r_6 l0 l2 l3 l4 l4 σ
def f_X3_readsSum_6 (N : Nat) : Nat → Nat → Int32 → Int32 → Int32 → Mm → Option (Int32 × Mm)
  | 0, _, _, _, _, _ => none
  | n + 1, l0, l1, l2, l3, σ =>
      if (400 : Int32) ≤ l3 then (
        (gN 3 0 σ l0).bind fun a2 =>
        (ob 6 σ a2).bind fun _ =>
        (f_X6_fails N a2 (0 : Int32) σ).bind fun q3 =>
        if q3.1 = 0 ∨ q3.1 = 1 then some (q3.1, q3.2) else none) else (
        (ob 3 σ l0).bind fun _ =>
        (f_X3_readsValue N l0 σ).bind fun q4 =>
        if q4.1 = 0 then (
          some ((0 : Int32), q4.2)) else (
          (ob 3 q4.2 l0).bind fun _ =>
          (f_X3_addIfThere N l0 l1 q4.2).bind fun q6 =>
          (gN 3 0 q6 l0).bind fun a7 =>
          (ob 6 q6 a7).bind fun _ =>
          (f_X6_kind N a7 q6).bind fun q8 =>
          if q8.1 = (9 : Int32) then (
            f_X3_readsSum_50 N (f_X3_readsSum_6 N n) l0 l2 l3 q8.1 q8.2) else (
            if q8.1 = (10 : Int32) then (
              f_X3_readsSum_50 N (f_X3_readsSum_6 N n) l0 l2 l3 q8.1 q8.2) else (
              f_X3_readsSum_56 N (f_X3_readsSum_6 N n) l0 l2 l3 q8.1 (0 : Int32) q8.2))))
def f_X3_readsSum (N : Nat) (l0 : Nat) (σ : Mm) : Option (Int32 × Mm) :=
  f_X3_readsSum_6 N N l0 (0 : Int32) (0 : Int32) (0 : Int32) σ
theorem mov_X3_readsSum : MOV yX3_readsSum M_X3_readsSum 0 3 0 := ⟨⟨tw_100, tw_647, ⟨by decide, by decide⟩, by decide +kernel⟩, tw_646, tw_11, by decide, ⟨_, rfl, rfl⟩, rfl⟩
set_option maxRecDepth 4000 in
theorem s_X3_readsSum_85 {Γ : Cn} {τ : Mm} {N : Nat} {r_6 : Nat → Int32 → Int32 → Int32 → Mm → Option (Int32 × Mm)} (hr_6 : ∀ (l0 : Nat) (l1 : Int32) (l2 : Int32) (l3 : Int32) (σ : Mm) (o : Int32 × Mm), r_6 l0 l1 l2 l3 σ = some o → Gx Γ M_X3_readsSum 0 τ (PI o) 0 0 6 [(0, .ref (Γ.B + pp l0)), (1, .int l1), (2, .int l2), (3, .int l3)] [] σ) {l0 : Nat} {l1 : Int32} {l2 : Int32} {l3 : Int32} {σ : Mm} {o : Int32 × Mm} (h : f_X3_readsSum_85 N r_6 l0 l1 l2 l3 σ = some o) : Gx Γ M_X3_readsSum 0 τ (PI o) 0 0 85 [(0, .ref (Γ.B + pp l0)), (1, .int l1), (2, .int l2), (3, .int l3)] [] σ := by
  unfold f_X3_readsSum_85 at h
  refine gx_aload_n 0 dX3_readsSum_85 rfl rfl ?_
  obtain ⟨a1, ha1, h⟩ := bnd h
  refine gx_getN dX3_readsSum_86 ha1 fl_X3_22 rfl ?_
  obtain ⟨_, hobq2, h⟩ := bnd h
  obtain ⟨q2, hq2, h⟩ := bnd h
  refine gx_cVV (As := []) (st := []) (o := a1) dX3_readsSum_89 (c_X6_skip hq2) mov_X6_skip tw_643 hobq2 rfl ⟨Nat.le_of_ble_eq_true rfl, Nat.le_of_ble_eq_true rfl⟩ (Nat.le_of_ble_eq_true rfl) ?_
  refine gx_iinc (v := (l3 + (1 : Int32))) (lv' := [(3, .int (l3 + (1 : Int32))), (0, .ref (Γ.B + pp l0)), (1, .int l1), (2, .int l2)]) 3 dX3_readsSum_92 rfl (by rw [ic_1]) (Nat.le_of_ble_eq_true rfl) rfl ?_
  refine gx_goto 6 dX3_readsSum_95 (by decide) ?_
  exact gx_sub [1, 2, 3, 0] rfl (hr_6 _ _ _ _ _ _ h)
set_option maxRecDepth 4000 in
theorem s_X3_readsSum_56 {Γ : Cn} {τ : Mm} {N : Nat} {r_6 : Nat → Int32 → Int32 → Int32 → Mm → Option (Int32 × Mm)} (hr_6 : ∀ (l0 : Nat) (l1 : Int32) (l2 : Int32) (l3 : Int32) (σ : Mm) (o : Int32 × Mm), r_6 l0 l1 l2 l3 σ = some o → Gx Γ M_X3_readsSum 0 τ (PI o) 0 0 6 [(0, .ref (Γ.B + pp l0)), (1, .int l1), (2, .int l2), (3, .int l3)] [] σ) {l0 : Nat} {l2 : Int32} {l3 : Int32} {l4 : Int32} {t0 : Int32} {σ : Mm} {o : Int32 × Mm} (h : f_X3_readsSum_56 N r_6 l0 l2 l3 l4 t0 σ = some o) : Gx Γ M_X3_readsSum 0 τ (PI o) 0 0 56 [(0, .ref (Γ.B + pp l0)), (2, .int l2), (3, .int l3), (4, .int l4)] [.int t0] σ := by
  unfold f_X3_readsSum_56 at h
  refine gx_istore_n (lv' := [(1, .int t0), (0, .ref (Γ.B + pp l0)), (2, .int l2), (3, .int l3), (4, .int l4)]) dX3_readsSum_56 rfl (Nat.le_of_ble_eq_true rfl) rfl ?_
  refine gx_iload_n 0 dX3_readsSum_57 rfl rfl ?_
  refine gx_if_ne 85 dX3_readsSum_58 (by decide) (fun c0 => ?_) (fun c0 => ?_)
  · rw [if_neg c0] at h
    exact gx_sub [1, 0, 2, 3] rfl (s_X3_readsSum_85 hr_6 h)
  · rw [if_pos c0] at h
    refine gx_aload_n 1 dX3_readsSum_61 rfl rfl ?_
    refine gx_iload_n 2 dX3_readsSum_62 rfl rfl ?_
    obtain ⟨_, hobq2, h⟩ := bnd h
    obtain ⟨q2, hq2, h⟩ := bnd h
    refine gx_cVV (As := [.int l2]) (st := []) (o := l0) dX3_readsSum_63 (c_X3_addIfThere hq2) mov_X3_addIfThere tw_657 hobq2 rfl ⟨Nat.le_of_ble_eq_true rfl, Nat.le_of_ble_eq_true rfl⟩ (Nat.le_of_ble_eq_true rfl) ?_
    refine gx_iload 4 dX3_readsSum_66 rfl ?_
    refine gx_istore_n (lv' := [(2, .int l4), (1, .int t0), (0, .ref (Γ.B + pp l0)), (3, .int l3), (4, .int l4)]) dX3_readsSum_68 rfl (Nat.le_of_ble_eq_true rfl) rfl ?_
    refine gx_iload 4 dX3_readsSum_69 rfl ?_
    refine gx_bipush (v := (7 : Int32)) dX3_readsSum_71 ib_7 ?_
    refine gx_icmp_eq 85 dX3_readsSum_73 (by decide) (fun c2 => ?_) (fun c2 => ?_)
    · rw [if_pos c2] at h
      exact gx_sub [2, 1, 0, 3] rfl (s_X3_readsSum_85 hr_6 h)
    · rw [if_neg c2] at h
      refine gx_iload 4 dX3_readsSum_76 rfl ?_
      refine gx_bipush (v := (8 : Int32)) dX3_readsSum_78 ib_8 ?_
      refine gx_icmp_eq 85 dX3_readsSum_80 (by decide) (fun c3 => ?_) (fun c3 => ?_)
      · rw [if_pos c3] at h
        exact gx_sub [2, 1, 0, 3] rfl (s_X3_readsSum_85 hr_6 h)
      · rw [if_neg c3] at h
        refine gx_iconst (v := (1 : Int32)) dX3_readsSum_83 ic_1 ?_
        have h := Option.some.inj h
        subst h
        exact gx_zret dX3_readsSum_84 rfl rfl (Nat.le_of_ble_eq_true rfl) (Nat.le_of_ble_eq_true rfl) ⟨rfl, rfl⟩
set_option maxRecDepth 4000 in
theorem s_X3_readsSum_50 {Γ : Cn} {τ : Mm} {N : Nat} {r_6 : Nat → Int32 → Int32 → Int32 → Mm → Option (Int32 × Mm)} (hr_6 : ∀ (l0 : Nat) (l1 : Int32) (l2 : Int32) (l3 : Int32) (σ : Mm) (o : Int32 × Mm), r_6 l0 l1 l2 l3 σ = some o → Gx Γ M_X3_readsSum 0 τ (PI o) 0 0 6 [(0, .ref (Γ.B + pp l0)), (1, .int l1), (2, .int l2), (3, .int l3)] [] σ) {l0 : Nat} {l2 : Int32} {l3 : Int32} {l4 : Int32} {σ : Mm} {o : Int32 × Mm} (h : f_X3_readsSum_50 N r_6 l0 l2 l3 l4 σ = some o) : Gx Γ M_X3_readsSum 0 τ (PI o) 0 0 50 [(0, .ref (Γ.B + pp l0)), (2, .int l2), (3, .int l3), (4, .int l4)] [] σ := by
  unfold f_X3_readsSum_50 at h
  refine gx_iload 3 dX3_readsSum_50 rfl ?_
  refine gx_goto 56 dX3_readsSum_52 (by decide) ?_
  exact s_X3_readsSum_56 hr_6 h
set_option maxRecDepth 4000 in
theorem s_X3_readsSum_6 {Γ : Cn} {τ : Mm} {N : Nat} : ∀ (n : Nat) (l0 : Nat) (l1 : Int32) (l2 : Int32) (l3 : Int32) (σ : Mm) (o : Int32 × Mm), f_X3_readsSum_6 N n l0 l1 l2 l3 σ = some o → Gx Γ M_X3_readsSum 0 τ (PI o) 0 0 6 [(0, .ref (Γ.B + pp l0)), (1, .int l1), (2, .int l2), (3, .int l3)] [] σ := by
  intro n
  induction n with
  | zero =>
    intro l0 l1 l2 l3 σ o h
    exact absurd h (by rw [f_X3_readsSum_6]; exact fun q => nomatch q)
  | succ n ih =>
    intro l0 l1 l2 l3 σ o h
    rw [f_X3_readsSum_6] at h
    refine gx_iload_n 3 dX3_readsSum_6 rfl rfl ?_
    refine gx_sipush (v := (400 : Int32)) dX3_readsSum_7 is_400 ?_
    refine gx_icmp_ge 98 dX3_readsSum_10 (by decide) (fun c0 => ?_) (fun c0 => ?_)
    · rw [if_pos c0] at h
      refine gx_aload_n 0 dX3_readsSum_98 rfl rfl ?_
      obtain ⟨a2, ha2, h⟩ := bnd h
      refine gx_getN dX3_readsSum_99 ha2 fl_X3_22 rfl ?_
      refine gx_iconst (v := (0 : Int32)) dX3_readsSum_102 ic_0 ?_
      obtain ⟨_, hobq3, h⟩ := bnd h
      obtain ⟨q3, hq3, h⟩ := bnd h
      refine gx_cVI (As := [.int (0 : Int32)]) (st := []) (o := a2) dX3_readsSum_103 (c_X6_fails hq3) mov_X6_fails tw_637 hobq3 rfl ⟨Nat.le_of_ble_eq_true rfl, Nat.le_of_ble_eq_true rfl⟩ (Nat.le_of_ble_eq_true rfl) ?_
      obtain ⟨hz, h⟩ := of_if h
      have h := Option.some.inj h
      subst h
      exact gx_zret dX3_readsSum_106 rfl (nar_z hz) (Nat.le_of_ble_eq_true rfl) (Nat.le_of_ble_eq_true rfl) ⟨rfl, rfl⟩
    · rw [if_neg c0] at h
      refine gx_aload_n 0 dX3_readsSum_13 rfl rfl ?_
      obtain ⟨_, hobq4, h⟩ := bnd h
      obtain ⟨q4, hq4, h⟩ := bnd h
      refine gx_cVI (As := []) (st := []) (o := l0) dX3_readsSum_14 (c_X3_readsValue hq4) mov_X3_readsValue tw_648 hobq4 rfl ⟨Nat.le_of_ble_eq_true rfl, Nat.le_of_ble_eq_true rfl⟩ (Nat.le_of_ble_eq_true rfl) ?_
      refine gx_if_ne 22 dX3_readsSum_17 (by decide) (fun c4 => ?_) (fun c4 => ?_)
      · rw [if_neg c4] at h
        refine gx_aload_n 0 dX3_readsSum_22 rfl rfl ?_
        refine gx_iload_n 1 dX3_readsSum_23 rfl rfl ?_
        obtain ⟨_, hobq6, h⟩ := bnd h
        obtain ⟨q6, hq6, h⟩ := bnd h
        refine gx_cVV (As := [.int l1]) (st := []) (o := l0) dX3_readsSum_24 (c_X3_addIfThere hq6) mov_X3_addIfThere tw_657 hobq6 rfl ⟨Nat.le_of_ble_eq_true rfl, Nat.le_of_ble_eq_true rfl⟩ (Nat.le_of_ble_eq_true rfl) ?_
        refine gx_aload_n 0 dX3_readsSum_27 rfl rfl ?_
        obtain ⟨a7, ha7, h⟩ := bnd h
        refine gx_getN dX3_readsSum_28 ha7 fl_X3_22 rfl ?_
        obtain ⟨_, hobq8, h⟩ := bnd h
        obtain ⟨q8, hq8, h⟩ := bnd h
        refine gx_cVI (As := []) (st := []) (o := a7) dX3_readsSum_31 (c_X6_kind hq8) mov_X6_kind tw_642 hobq8 rfl ⟨Nat.le_of_ble_eq_true rfl, Nat.le_of_ble_eq_true rfl⟩ (Nat.le_of_ble_eq_true rfl) ?_
        refine gx_istore (lv' := [(4, .int q8.1), (0, .ref (Γ.B + pp l0)), (1, .int l1), (2, .int l2), (3, .int l3)]) dX3_readsSum_34 (Nat.le_of_ble_eq_true rfl) rfl ?_
        refine gx_iload 0 dX3_readsSum_36 rfl ?_
        refine gx_bipush (v := (9 : Int32)) dX3_readsSum_38 ib_9 ?_
        refine gx_icmp_eq 50 dX3_readsSum_40 (by decide) (fun c8 => ?_) (fun c8 => ?_)
        · rw [if_pos c8] at h
          exact gx_sub [1, 3, 4, 0] rfl (s_X3_readsSum_50 ih h)
        · rw [if_neg c8] at h
          refine gx_iload 0 dX3_readsSum_43 rfl ?_
          refine gx_bipush (v := (10 : Int32)) dX3_readsSum_45 ib_10 ?_
          refine gx_icmp_ne 55 dX3_readsSum_47 (by decide) (fun c9 => ?_) (fun c9 => ?_)
          · rw [if_neg c9] at h
            refine gx_iconst (v := (0 : Int32)) dX3_readsSum_55 ic_0 ?_
            exact gx_sub [1, 3, 4, 0] rfl (s_X3_readsSum_56 ih h)
          · rw [if_pos c9] at h
            exact gx_sub [1, 3, 4, 0] rfl (s_X3_readsSum_50 ih h)
      · rw [if_pos c4] at h
        refine gx_iconst (v := (0 : Int32)) dX3_readsSum_20 ic_0 ?_
        have h := Option.some.inj h
        subst h
        exact gx_zret dX3_readsSum_21 rfl rfl (Nat.le_of_ble_eq_true rfl) (Nat.le_of_ble_eq_true rfl) ⟨rfl, rfl⟩
set_option maxRecDepth 4000 in
theorem s_X3_readsSum_0 {Γ : Cn} {τ : Mm} {N : Nat} {l0 : Nat} {σ : Mm} {o : Int32 × Mm} (h : f_X3_readsSum N l0 σ = some o) : Gx Γ M_X3_readsSum 0 τ (PI o) 0 0 0 [(0, .ref (Γ.B + pp l0))] [] σ := by
  unfold f_X3_readsSum at h
  refine gx_iconst (v := (0 : Int32)) dX3_readsSum_0 ic_0 ?_
  refine gx_istore_n (lv' := [(1, .int (0 : Int32)), (0, .ref (Γ.B + pp l0))]) dX3_readsSum_1 rfl (Nat.le_of_ble_eq_true rfl) rfl ?_
  refine gx_iconst (v := (0 : Int32)) dX3_readsSum_2 ic_0 ?_
  refine gx_istore_n (lv' := [(2, .int (0 : Int32)), (1, .int (0 : Int32)), (0, .ref (Γ.B + pp l0))]) dX3_readsSum_3 rfl (Nat.le_of_ble_eq_true rfl) rfl ?_
  refine gx_iconst (v := (0 : Int32)) dX3_readsSum_4 ic_0 ?_
  refine gx_istore_n (lv' := [(3, .int (0 : Int32)), (2, .int (0 : Int32)), (1, .int (0 : Int32)), (0, .ref (Γ.B + pp l0))]) dX3_readsSum_5 rfl (Nat.le_of_ble_eq_true rfl) rfl ?_
  exact gx_sub [3, 2, 1, 0] rfl (s_X3_readsSum_6  N _ _ _ _ _ _ h)
theorem c_X3_readsSum {Γ : Cn} {τ : Mm} {N : Nat} {l0 : Nat} {σ : Mm} {o : Int32 × Mm} (h : f_X3_readsSum N l0 σ = some o) : Ct Γ M_X3_readsSum yX3_readsSum 0 τ [.ref (Γ.B + pp l0)] σ (PI o) := ct_of (by decide) rfl (fun _ => by first | rfl | contradiction) (Nat.le_of_ble_eq_true rfl) (s_X3_readsSum_0  h)
abbrev M_X3_takes : Ms := (cX3_takes, RX3, 2, (some .boolean), false, 0, 0, 1)
def f_X3_takes (N : Nat) (l0 : Nat) (l1 : Int32) (σ : Mm) : Option (Int32 × Mm) :=
  (gN 3 0 σ l0).bind fun a1 =>
  (ob 6 σ a1).bind fun _ =>
  (f_X6_kind N a1 σ).bind fun q2 =>
  if q2.1 = l1 then (
    (gN 3 0 q2.2 l0).bind fun a4 =>
    (ob 6 q2.2 a4).bind fun _ =>
    (f_X6_skip N a4 q2.2).bind fun q5 =>
    some ((1 : Int32), q5)) else (
    some ((0 : Int32), q2.2))
theorem mov_X3_takes : MOV yX3_takes M_X3_takes 1 3 0 := ⟨⟨tw_100, tw_664, ⟨by decide, by decide⟩, by decide +kernel⟩, tw_663, tw_14, by decide, ⟨_, rfl, rfl⟩, rfl⟩
set_option maxRecDepth 4000 in
theorem s_X3_takes_0 {Γ : Cn} {τ : Mm} {N : Nat} {l0 : Nat} {l1 : Int32} {σ : Mm} {o : Int32 × Mm} (h : f_X3_takes N l0 l1 σ = some o) : Gx Γ M_X3_takes 0 τ (PI o) 0 0 0 [(0, .ref (Γ.B + pp l0)), (1, .int l1)] [] σ := by
  unfold f_X3_takes at h
  refine gx_aload_n 0 dX3_takes_0 rfl rfl ?_
  obtain ⟨a1, ha1, h⟩ := bnd h
  refine gx_getN dX3_takes_1 ha1 fl_X3_22 rfl ?_
  obtain ⟨_, hobq2, h⟩ := bnd h
  obtain ⟨q2, hq2, h⟩ := bnd h
  refine gx_cVI (As := []) (st := []) (o := a1) dX3_takes_4 (c_X6_kind hq2) mov_X6_kind tw_642 hobq2 rfl ⟨Nat.le_of_ble_eq_true rfl, Nat.le_of_ble_eq_true rfl⟩ (Nat.le_of_ble_eq_true rfl) ?_
  refine gx_iload_n 1 dX3_takes_7 rfl rfl ?_
  refine gx_icmp_eq 13 dX3_takes_8 (by decide) (fun c2 => ?_) (fun c2 => ?_)
  · rw [if_pos c2] at h
    refine gx_aload_n 0 dX3_takes_13 rfl rfl ?_
    obtain ⟨a4, ha4, h⟩ := bnd h
    refine gx_getN dX3_takes_14 ha4 fl_X3_22 rfl ?_
    obtain ⟨_, hobq5, h⟩ := bnd h
    obtain ⟨q5, hq5, h⟩ := bnd h
    refine gx_cVV (As := []) (st := []) (o := a4) dX3_takes_17 (c_X6_skip hq5) mov_X6_skip tw_643 hobq5 rfl ⟨Nat.le_of_ble_eq_true rfl, Nat.le_of_ble_eq_true rfl⟩ (Nat.le_of_ble_eq_true rfl) ?_
    refine gx_iconst (v := (1 : Int32)) dX3_takes_20 ic_1 ?_
    have h := Option.some.inj h
    subst h
    exact gx_zret dX3_takes_21 rfl rfl (Nat.le_of_ble_eq_true rfl) (Nat.le_of_ble_eq_true rfl) ⟨rfl, rfl⟩
  · rw [if_neg c2] at h
    refine gx_iconst (v := (0 : Int32)) dX3_takes_11 ic_0 ?_
    have h := Option.some.inj h
    subst h
    exact gx_zret dX3_takes_12 rfl rfl (Nat.le_of_ble_eq_true rfl) (Nat.le_of_ble_eq_true rfl) ⟨rfl, rfl⟩
theorem c_X3_takes {Γ : Cn} {τ : Mm} {N : Nat} {l0 : Nat} {l1 : Int32} {σ : Mm} {o : Int32 × Mm} (h : f_X3_takes N l0 l1 σ = some o) : Ct Γ M_X3_takes yX3_takes 0 τ [.ref (Γ.B + pp l0), .int l1] σ (PI o) := ct_of (by decide) rfl (fun _ => by first | rfl | contradiction) (Nat.le_of_ble_eq_true rfl) (s_X3_takes_0  h)
abbrev M_X3_readsComparison : Ms := (cX3_readsComparison, RX3, 2, (some .boolean), false, 0, 0, 3)
def f_X3_readsComparison_29 (N : Nat) (l0 : Nat) (σ : Mm) : Option (Int32 × Mm) :=
  (gN 3 0 σ l0).bind fun a1 =>
  (ob 6 σ a1).bind fun _ =>
  (f_X6_fails N a1 (0 : Int32) σ).bind fun q2 =>
  if q2.1 = 0 ∨ q2.1 = 1 then some (q2.1, q2.2) else none
def f_X3_readsComparison (N : Nat) (l0 : Nat) (σ : Mm) : Option (Int32 × Mm) :=
  (ob 3 σ l0).bind fun _ =>
  (f_X3_readsSum N l0 σ).bind fun q1 =>
  if q1.1 = 0 then (
    some ((0 : Int32), q1.2)) else (
    (gN 3 0 q1.2 l0).bind fun a3 =>
    (ob 6 q1.2 a3).bind fun _ =>
    (f_X6_kind N a3 q1.2).bind fun q4 =>
    if q4.1 < (11 : Int32) then (
      f_X3_readsComparison_29 N l0 q4.2) else (
      if q4.1 ≤ (15 : Int32) then (
        (gI 3 2 q4.2 l0).bind fun x7 =>
        if x7 < (60 : Int32) then (
          (gI 3 2 q4.2 l0).bind fun x9 =>
          (pI 3 2 q4.2 l0 (x9 + (1 : Int32))).bind fun s10 =>
          (gN 3 0 s10 l0).bind fun a11 =>
          (ob 6 s10 a11).bind fun _ =>
          (f_X6_skip N a11 s10).bind fun q12 =>
          (ob 3 q12 l0).bind fun _ =>
          (f_X3_readsSum N l0 q12).bind fun q13 =>
          if q13.1 = 0 then (
            some ((0 : Int32), q13.2)) else (
            (gN 3 1 q13.2 l0).bind fun a15 =>
            (ob 2 q13.2 a15).bind fun _ =>
            (f_X2_add N a15 (-q4.1) q13.2).bind fun q16 =>
            some ((1 : Int32), q16))) else (
          (gN 3 0 q4.2 l0).bind fun a17 =>
          (ob 6 q4.2 a17).bind fun _ =>
          (f_X6_fails N a17 (3 : Int32) q4.2).bind fun q18 =>
          if q18.1 = 0 ∨ q18.1 = 1 then some (q18.1, q18.2) else none)) else (
        f_X3_readsComparison_29 N l0 q4.2)))
theorem mov_X3_readsComparison : MOV yX3_readsComparison M_X3_readsComparison 0 3 0 := ⟨⟨tw_100, tw_676, ⟨by decide, by decide⟩, by decide +kernel⟩, tw_675, tw_17, by decide, ⟨_, rfl, rfl⟩, rfl⟩
set_option maxRecDepth 4000 in
theorem s_X3_readsComparison_29 {Γ : Cn} {τ : Mm} {N : Nat} {l0 : Nat} {σ : Mm} {o : Int32 × Mm} (h : f_X3_readsComparison_29 N l0 σ = some o) : Gx Γ M_X3_readsComparison 0 τ (PI o) 0 0 29 [(0, .ref (Γ.B + pp l0))] [] σ := by
  unfold f_X3_readsComparison_29 at h
  refine gx_aload_n 0 dX3_readsComparison_29 rfl rfl ?_
  obtain ⟨a1, ha1, h⟩ := bnd h
  refine gx_getN dX3_readsComparison_30 ha1 fl_X3_22 rfl ?_
  refine gx_iconst (v := (0 : Int32)) dX3_readsComparison_33 ic_0 ?_
  obtain ⟨_, hobq2, h⟩ := bnd h
  obtain ⟨q2, hq2, h⟩ := bnd h
  refine gx_cVI (As := [.int (0 : Int32)]) (st := []) (o := a1) dX3_readsComparison_34 (c_X6_fails hq2) mov_X6_fails tw_637 hobq2 rfl ⟨Nat.le_of_ble_eq_true rfl, Nat.le_of_ble_eq_true rfl⟩ (Nat.le_of_ble_eq_true rfl) ?_
  obtain ⟨hz, h⟩ := of_if h
  have h := Option.some.inj h
  subst h
  exact gx_zret dX3_readsComparison_37 rfl (nar_z hz) (Nat.le_of_ble_eq_true rfl) (Nat.le_of_ble_eq_true rfl) ⟨rfl, rfl⟩
set_option maxRecDepth 4000 in
theorem s_X3_readsComparison_0 {Γ : Cn} {τ : Mm} {N : Nat} {l0 : Nat} {σ : Mm} {o : Int32 × Mm} (h : f_X3_readsComparison N l0 σ = some o) : Gx Γ M_X3_readsComparison 0 τ (PI o) 0 0 0 [(0, .ref (Γ.B + pp l0))] [] σ := by
  unfold f_X3_readsComparison at h
  refine gx_aload_n 0 dX3_readsComparison_0 rfl rfl ?_
  obtain ⟨_, hobq1, h⟩ := bnd h
  obtain ⟨q1, hq1, h⟩ := bnd h
  refine gx_cVI (As := []) (st := []) (o := l0) dX3_readsComparison_1 (c_X3_readsSum hq1) mov_X3_readsSum tw_644 hobq1 rfl ⟨Nat.le_of_ble_eq_true rfl, Nat.le_of_ble_eq_true rfl⟩ (Nat.le_of_ble_eq_true rfl) ?_
  refine gx_if_ne 9 dX3_readsComparison_4 (by decide) (fun c1 => ?_) (fun c1 => ?_)
  · rw [if_neg c1] at h
    refine gx_aload_n 0 dX3_readsComparison_9 rfl rfl ?_
    obtain ⟨a3, ha3, h⟩ := bnd h
    refine gx_getN dX3_readsComparison_10 ha3 fl_X3_22 rfl ?_
    obtain ⟨_, hobq4, h⟩ := bnd h
    obtain ⟨q4, hq4, h⟩ := bnd h
    refine gx_cVI (As := []) (st := []) (o := a3) dX3_readsComparison_13 (c_X6_kind hq4) mov_X6_kind tw_642 hobq4 rfl ⟨Nat.le_of_ble_eq_true rfl, Nat.le_of_ble_eq_true rfl⟩ (Nat.le_of_ble_eq_true rfl) ?_
    refine gx_istore_n (lv' := [(1, .int q4.1), (0, .ref (Γ.B + pp l0))]) dX3_readsComparison_16 rfl (Nat.le_of_ble_eq_true rfl) rfl ?_
    refine gx_iload_n 0 dX3_readsComparison_17 rfl rfl ?_
    refine gx_bipush (v := (11 : Int32)) dX3_readsComparison_18 ib_11 ?_
    refine gx_icmp_lt 29 dX3_readsComparison_20 (by decide) (fun c4 => ?_) (fun c4 => ?_)
    · rw [if_pos c4] at h
      exact gx_sub [1] rfl (s_X3_readsComparison_29  h)
    · rw [if_neg c4] at h
      refine gx_iload_n 0 dX3_readsComparison_23 rfl rfl ?_
      refine gx_bipush (v := (15 : Int32)) dX3_readsComparison_24 ib_15 ?_
      refine gx_icmp_le 38 dX3_readsComparison_26 (by decide) (fun c5 => ?_) (fun c5 => ?_)
      · rw [if_pos c5] at h
        refine gx_aload_n 1 dX3_readsComparison_38 rfl rfl ?_
        obtain ⟨x7, hx7, h⟩ := bnd h
        refine gx_getI dX3_readsComparison_39 hx7 fl_X3_18 rfl ?_
        refine gx_bipush (v := (60 : Int32)) dX3_readsComparison_42 ib_60 ?_
        refine gx_icmp_lt 56 dX3_readsComparison_44 (by decide) (fun c7 => ?_) (fun c7 => ?_)
        · rw [if_pos c7] at h
          refine gx_aload_n 1 dX3_readsComparison_56 rfl rfl ?_
          refine gx_dup dX3_readsComparison_57 rfl ?_
          obtain ⟨x9, hx9, h⟩ := bnd h
          refine gx_getI dX3_readsComparison_58 hx9 fl_X3_18 rfl ?_
          refine gx_iconst (v := (1 : Int32)) dX3_readsComparison_61 ic_1 ?_
          refine gx_iadd dX3_readsComparison_62 ?_
          obtain ⟨s10, hs10, h⟩ := bnd h
          refine gx_putI dX3_readsComparison_63 hs10 fl_X3_18 fp_X3_3_2 rfl ?_
          refine gx_aload_n 1 dX3_readsComparison_66 rfl rfl ?_
          obtain ⟨a11, ha11, h⟩ := bnd h
          refine gx_getN dX3_readsComparison_67 ha11 fl_X3_22 rfl ?_
          obtain ⟨_, hobq12, h⟩ := bnd h
          obtain ⟨q12, hq12, h⟩ := bnd h
          refine gx_cVV (As := []) (st := []) (o := a11) dX3_readsComparison_70 (c_X6_skip hq12) mov_X6_skip tw_643 hobq12 rfl ⟨Nat.le_of_ble_eq_true rfl, Nat.le_of_ble_eq_true rfl⟩ (Nat.le_of_ble_eq_true rfl) ?_
          refine gx_aload_n 1 dX3_readsComparison_73 rfl rfl ?_
          obtain ⟨_, hobq13, h⟩ := bnd h
          obtain ⟨q13, hq13, h⟩ := bnd h
          refine gx_cVI (As := []) (st := []) (o := l0) dX3_readsComparison_74 (c_X3_readsSum hq13) mov_X3_readsSum tw_644 hobq13 rfl ⟨Nat.le_of_ble_eq_true rfl, Nat.le_of_ble_eq_true rfl⟩ (Nat.le_of_ble_eq_true rfl) ?_
          refine gx_if_ne 82 dX3_readsComparison_77 (by decide) (fun c13 => ?_) (fun c13 => ?_)
          · rw [if_neg c13] at h
            refine gx_aload_n 1 dX3_readsComparison_82 rfl rfl ?_
            obtain ⟨a15, ha15, h⟩ := bnd h
            refine gx_getN dX3_readsComparison_83 ha15 fl_X3_12 rfl ?_
            refine gx_iload_n 0 dX3_readsComparison_86 rfl rfl ?_
            refine gx_ineg dX3_readsComparison_87 ?_
            obtain ⟨_, hobq16, h⟩ := bnd h
            obtain ⟨q16, hq16, h⟩ := bnd h
            refine gx_cVV (As := [.int (-q4.1)]) (st := []) (o := a15) dX3_readsComparison_88 (c_X2_add hq16) mov_X2_add tw_653 hobq16 rfl ⟨Nat.le_of_ble_eq_true rfl, Nat.le_of_ble_eq_true rfl⟩ (Nat.le_of_ble_eq_true rfl) ?_
            refine gx_iconst (v := (1 : Int32)) dX3_readsComparison_91 ic_1 ?_
            have h := Option.some.inj h
            subst h
            exact gx_zret dX3_readsComparison_92 rfl rfl (Nat.le_of_ble_eq_true rfl) (Nat.le_of_ble_eq_true rfl) ⟨rfl, rfl⟩
          · rw [if_pos c13] at h
            refine gx_iconst (v := (0 : Int32)) dX3_readsComparison_80 ic_0 ?_
            have h := Option.some.inj h
            subst h
            exact gx_zret dX3_readsComparison_81 rfl rfl (Nat.le_of_ble_eq_true rfl) (Nat.le_of_ble_eq_true rfl) ⟨rfl, rfl⟩
        · rw [if_neg c7] at h
          refine gx_aload_n 1 dX3_readsComparison_47 rfl rfl ?_
          obtain ⟨a17, ha17, h⟩ := bnd h
          refine gx_getN dX3_readsComparison_48 ha17 fl_X3_22 rfl ?_
          refine gx_iconst (v := (3 : Int32)) dX3_readsComparison_51 ic_3 ?_
          obtain ⟨_, hobq18, h⟩ := bnd h
          obtain ⟨q18, hq18, h⟩ := bnd h
          refine gx_cVI (As := [.int (3 : Int32)]) (st := []) (o := a17) dX3_readsComparison_52 (c_X6_fails hq18) mov_X6_fails tw_637 hobq18 rfl ⟨Nat.le_of_ble_eq_true rfl, Nat.le_of_ble_eq_true rfl⟩ (Nat.le_of_ble_eq_true rfl) ?_
          obtain ⟨hz, h⟩ := of_if h
          have h := Option.some.inj h
          subst h
          exact gx_zret dX3_readsComparison_55 rfl (nar_z hz) (Nat.le_of_ble_eq_true rfl) (Nat.le_of_ble_eq_true rfl) ⟨rfl, rfl⟩
      · rw [if_neg c5] at h
        exact gx_sub [1] rfl (s_X3_readsComparison_29  h)
  · rw [if_pos c1] at h
    refine gx_iconst (v := (0 : Int32)) dX3_readsComparison_7 ic_0 ?_
    have h := Option.some.inj h
    subst h
    exact gx_zret dX3_readsComparison_8 rfl rfl (Nat.le_of_ble_eq_true rfl) (Nat.le_of_ble_eq_true rfl) ⟨rfl, rfl⟩
theorem c_X3_readsComparison {Γ : Cn} {τ : Mm} {N : Nat} {l0 : Nat} {σ : Mm} {o : Int32 × Mm} (h : f_X3_readsComparison N l0 σ = some o) : Ct Γ M_X3_readsComparison yX3_readsComparison 0 τ [.ref (Γ.B + pp l0)] σ (PI o) := ct_of (by decide) rfl (fun _ => by first | rfl | contradiction) (Nat.le_of_ble_eq_true rfl) (s_X3_readsComparison_0  h)
abbrev M_X3_readsFact (dd : Nat) : Ms := (cX3_readsFact, RX3, 3, (some .boolean), false, 0, 0, 4 + dd)
abbrev M_X3_readsTest (dd : Nat) : Ms := (cX3_readsTest, RX3, 5, (some .boolean), false, 0, 0, 4 + dd)
def f_X3_readsFact_112 (N : Nat) (cF : Nat → Int32 → Mm → Option (Int32 × Mm)) (cT : Nat → Int32 → Mm → Option (Int32 × Mm)) (t0 : Int32) (σ : Mm) : Option (Int32 × Mm) :=
  if t0 = 0 ∨ t0 = 1 then some (t0, σ) else none
def f_X3_readsFact_107 (N : Nat) (cF : Nat → Int32 → Mm → Option (Int32 × Mm)) (cT : Nat → Int32 → Mm → Option (Int32 × Mm)) (σ : Mm) : Option (Int32 × Mm) :=
  f_X3_readsFact_112 N cF cT (1 : Int32) σ
def f_X3_readsFact_24 (N : Nat) (cF : Nat → Int32 → Mm → Option (Int32 × Mm)) (cT : Nat → Int32 → Mm → Option (Int32 × Mm)) (l0 : Nat) (l1 : Int32) (l2 : Int32) (σ : Mm) : Option (Int32 × Mm) :=
  if l1 < (10 : Int32) then (
    (gN 3 0 σ l0).bind fun a2 =>
    (ob 6 σ a2).bind fun _ =>
    (f_X6_skip N a2 σ).bind fun q3 =>
    if l2 = (24 : Int32) then (
      (ob 3 q3 l0).bind fun _ =>
      (cF l0 (l1 + (1 : Int32)) q3).bind fun q12 =>
      if q12.1 = 0 then (
        some ((0 : Int32), q12.2)) else (
        (gN 3 1 q12.2 l0).bind fun a14 =>
        (ob 2 q12.2 a14).bind fun _ =>
        (f_X2_add N a14 (-24 : Int32) q12.2).bind fun q15 =>
        some ((1 : Int32), q15))) else (
      (ob 3 q3 l0).bind fun _ =>
      (cT l0 (l1 + (1 : Int32)) q3).bind fun q5 =>
      if q5.1 = 0 then (
        some ((0 : Int32), q5.2)) else (
        (ob 3 q5.2 l0).bind fun _ =>
        (f_X3_takes N l0 (6 : Int32) q5.2).bind fun q7 =>
        if q7.1 = 0 then (
          (gN 3 0 q7.2 l0).bind fun a9 =>
          (ob 6 q7.2 a9).bind fun _ =>
          (f_X6_fails N a9 (0 : Int32) q7.2).bind fun q10 =>
          if q10.1 = 0 then (
            f_X3_readsFact_112 N cF cT (0 : Int32) q10.2) else (
            f_X3_readsFact_107 N cF cT q10.2)) else (
          f_X3_readsFact_107 N cF cT q7.2)))) else (
    (gN 3 0 σ l0).bind fun a16 =>
    (ob 6 σ a16).bind fun _ =>
    (f_X6_fails N a16 (2 : Int32) σ).bind fun q17 =>
    if q17.1 = 0 ∨ q17.1 = 1 then some (q17.1, q17.2) else none)
def f_X3_readsFact (N : Nat) (cF : Nat → Int32 → Mm → Option (Int32 × Mm)) (cT : Nat → Int32 → Mm → Option (Int32 × Mm)) (l0 : Nat) (l1 : Int32) (σ : Mm) : Option (Int32 × Mm) :=
  (gN 3 0 σ l0).bind fun a1 =>
  (ob 6 σ a1).bind fun _ =>
  (f_X6_kind N a1 σ).bind fun q2 =>
  if q2.1 = (24 : Int32) then (
    f_X3_readsFact_24 N cF cT l0 l1 q2.1 q2.2) else (
    if q2.1 = (5 : Int32) then (
      f_X3_readsFact_24 N cF cT l0 l1 q2.1 q2.2) else (
      (ob 3 q2.2 l0).bind fun _ =>
      (f_X3_readsComparison N l0 q2.2).bind fun q5 =>
      if q5.1 = 0 ∨ q5.1 = 1 then some (q5.1, q5.2) else none))
theorem mov_X3_readsFact {dd : Nat} : MOV yX3_readsFact (M_X3_readsFact dd) 1 3 0 := ⟨⟨tw_100, tw_672, ⟨by decide, by decide⟩, by decide +kernel⟩, tw_671, tw_16, by decide, ⟨_, rfl, rfl⟩, rfl⟩
theorem mov_X3_readsTest {dd : Nat} : MOV yX3_readsTest (M_X3_readsTest dd) 1 3 0 := ⟨⟨tw_100, tw_668, ⟨by decide, by decide⟩, by decide +kernel⟩, tw_667, tw_15, by decide, ⟨_, rfl, rfl⟩, rfl⟩
set_option maxRecDepth 4000 in
theorem s_X3_readsFact_112 {Γ : Cn} {τ : Mm} {N : Nat} {dd : Nat} {cF : Nat → Int32 → Mm → Option (Int32 × Mm)} {cT : Nat → Int32 → Mm → Option (Int32 × Mm)} (hcF : ∀ (a0 : Nat) (a1 : Int32) (σ : Mm) (o : Int32 × Mm), cF a0 a1 σ = some o → Ct Γ (M_X3_readsFact dd) yX3_readsFact 0 τ [.ref (Γ.B + pp a0), .int a1] σ (PI o)) (hcT : ∀ (a0 : Nat) (a1 : Int32) (σ : Mm) (o : Int32 × Mm), cT a0 a1 σ = some o → Ct Γ (M_X3_readsTest dd) yX3_readsTest 0 τ [.ref (Γ.B + pp a0), .int a1] σ (PI o)) {t0 : Int32} {σ : Mm} {o : Int32 × Mm} (h : f_X3_readsFact_112 N cF cT t0 σ = some o) : Gx Γ (M_X3_readsFact (dd + 1)) 0 τ (PI o) 0 0 112 [] [.int t0] σ := by
  unfold f_X3_readsFact_112 at h
  obtain ⟨hz, h⟩ := of_if h
  have h := Option.some.inj h
  subst h
  exact gx_zret dX3_readsFact_112 rfl (nar_z hz) (Nat.le_of_ble_eq_true rfl) (Nat.le_of_ble_eq_true rfl) ⟨rfl, rfl⟩
set_option maxRecDepth 4000 in
theorem s_X3_readsFact_107 {Γ : Cn} {τ : Mm} {N : Nat} {dd : Nat} {cF : Nat → Int32 → Mm → Option (Int32 × Mm)} {cT : Nat → Int32 → Mm → Option (Int32 × Mm)} (hcF : ∀ (a0 : Nat) (a1 : Int32) (σ : Mm) (o : Int32 × Mm), cF a0 a1 σ = some o → Ct Γ (M_X3_readsFact dd) yX3_readsFact 0 τ [.ref (Γ.B + pp a0), .int a1] σ (PI o)) (hcT : ∀ (a0 : Nat) (a1 : Int32) (σ : Mm) (o : Int32 × Mm), cT a0 a1 σ = some o → Ct Γ (M_X3_readsTest dd) yX3_readsTest 0 τ [.ref (Γ.B + pp a0), .int a1] σ (PI o)) {σ : Mm} {o : Int32 × Mm} (h : f_X3_readsFact_107 N cF cT σ = some o) : Gx Γ (M_X3_readsFact (dd + 1)) 0 τ (PI o) 0 0 107 [] [] σ := by
  unfold f_X3_readsFact_107 at h
  refine gx_iconst (v := (1 : Int32)) dX3_readsFact_107 ic_1 ?_
  refine gx_goto 112 dX3_readsFact_108 (by decide) ?_
  exact s_X3_readsFact_112 hcF hcT h
set_option maxRecDepth 4000 in
theorem s_X3_readsFact_24 {Γ : Cn} {τ : Mm} {N : Nat} {dd : Nat} {cF : Nat → Int32 → Mm → Option (Int32 × Mm)} {cT : Nat → Int32 → Mm → Option (Int32 × Mm)} (hcF : ∀ (a0 : Nat) (a1 : Int32) (σ : Mm) (o : Int32 × Mm), cF a0 a1 σ = some o → Ct Γ (M_X3_readsFact dd) yX3_readsFact 0 τ [.ref (Γ.B + pp a0), .int a1] σ (PI o)) (hcT : ∀ (a0 : Nat) (a1 : Int32) (σ : Mm) (o : Int32 × Mm), cT a0 a1 σ = some o → Ct Γ (M_X3_readsTest dd) yX3_readsTest 0 τ [.ref (Γ.B + pp a0), .int a1] σ (PI o)) {l0 : Nat} {l1 : Int32} {l2 : Int32} {σ : Mm} {o : Int32 × Mm} (h : f_X3_readsFact_24 N cF cT l0 l1 l2 σ = some o) : Gx Γ (M_X3_readsFact (dd + 1)) 0 τ (PI o) 0 0 24 [(0, .ref (Γ.B + pp l0)), (1, .int l1), (2, .int l2)] [] σ := by
  unfold f_X3_readsFact_24 at h
  refine gx_iload_n 1 dX3_readsFact_24 rfl rfl ?_
  refine gx_bipush (v := (10 : Int32)) dX3_readsFact_25 ib_10 ?_
  refine gx_icmp_lt 39 dX3_readsFact_27 (by decide) (fun c0 => ?_) (fun c0 => ?_)
  · rw [if_pos c0] at h
    refine gx_aload_n 0 dX3_readsFact_39 rfl rfl ?_
    obtain ⟨a2, ha2, h⟩ := bnd h
    refine gx_getN dX3_readsFact_40 ha2 fl_X3_22 rfl ?_
    obtain ⟨_, hobq3, h⟩ := bnd h
    obtain ⟨q3, hq3, h⟩ := bnd h
    refine gx_cVV (As := []) (st := []) (o := a2) dX3_readsFact_43 (c_X6_skip hq3) mov_X6_skip tw_643 hobq3 rfl (by simp only [Ms.d, Ms.nL]; omega) (Nat.le_of_ble_eq_true rfl) ?_
    refine gx_iload_n 2 dX3_readsFact_46 rfl rfl ?_
    refine gx_bipush (v := (24 : Int32)) dX3_readsFact_47 ib_24 ?_
    refine gx_icmp_ne 75 dX3_readsFact_49 (by decide) (fun c3 => ?_) (fun c3 => ?_)
    · rw [if_neg c3] at h
      refine gx_aload_n 0 dX3_readsFact_75 rfl rfl ?_
      refine gx_iload_n 1 dX3_readsFact_76 rfl rfl ?_
      refine gx_iconst (v := (1 : Int32)) dX3_readsFact_77 ic_1 ?_
      refine gx_iadd dX3_readsFact_78 ?_
      obtain ⟨_, hobq5, h⟩ := bnd h
      obtain ⟨q5, hq5, h⟩ := bnd h
      refine gx_cVI (As := [.int (l1 + (1 : Int32))]) (st := []) (o := l0) dX3_readsFact_79 (hcT _ _ _ _ hq5) mov_X3_readsTest tw_665 hobq5 rfl (by simp only [Ms.d, Ms.nL]; omega) (Nat.le_of_ble_eq_true rfl) ?_
      refine gx_if_ne 87 dX3_readsFact_82 (by decide) (fun c5 => ?_) (fun c5 => ?_)
      · rw [if_neg c5] at h
        refine gx_aload_n 0 dX3_readsFact_87 rfl rfl ?_
        refine gx_bipush (v := (6 : Int32)) dX3_readsFact_88 ib_6 ?_
        obtain ⟨_, hobq7, h⟩ := bnd h
        obtain ⟨q7, hq7, h⟩ := bnd h
        refine gx_cVI (As := [.int (6 : Int32)]) (st := []) (o := l0) dX3_readsFact_90 (c_X3_takes hq7) mov_X3_takes tw_661 hobq7 rfl (by simp only [Ms.d, Ms.nL]; omega) (Nat.le_of_ble_eq_true rfl) ?_
        refine gx_if_ne 107 dX3_readsFact_93 (by decide) (fun c7 => ?_) (fun c7 => ?_)
        · rw [if_neg c7] at h
          exact gx_sub [] rfl (s_X3_readsFact_107 hcF hcT h)
        · rw [if_pos c7] at h
          refine gx_aload_n 0 dX3_readsFact_96 rfl rfl ?_
          obtain ⟨a9, ha9, h⟩ := bnd h
          refine gx_getN dX3_readsFact_97 ha9 fl_X3_22 rfl ?_
          refine gx_iconst (v := (0 : Int32)) dX3_readsFact_100 ic_0 ?_
          obtain ⟨_, hobq10, h⟩ := bnd h
          obtain ⟨q10, hq10, h⟩ := bnd h
          refine gx_cVI (As := [.int (0 : Int32)]) (st := []) (o := a9) dX3_readsFact_101 (c_X6_fails hq10) mov_X6_fails tw_637 hobq10 rfl (by simp only [Ms.d, Ms.nL]; omega) (Nat.le_of_ble_eq_true rfl) ?_
          refine gx_if_eq 111 dX3_readsFact_104 (by decide) (fun c10 => ?_) (fun c10 => ?_)
          · rw [if_pos c10] at h
            refine gx_iconst (v := (0 : Int32)) dX3_readsFact_111 ic_0 ?_
            exact gx_sub [] rfl (s_X3_readsFact_112 hcF hcT h)
          · rw [if_neg c10] at h
            exact gx_sub [] rfl (s_X3_readsFact_107 hcF hcT h)
      · rw [if_pos c5] at h
        refine gx_iconst (v := (0 : Int32)) dX3_readsFact_85 ic_0 ?_
        have h := Option.some.inj h
        subst h
        exact gx_zret dX3_readsFact_86 rfl rfl (Nat.le_of_ble_eq_true rfl) (Nat.le_of_ble_eq_true rfl) ⟨rfl, rfl⟩
    · rw [if_pos c3] at h
      refine gx_aload_n 0 dX3_readsFact_52 rfl rfl ?_
      refine gx_iload_n 1 dX3_readsFact_53 rfl rfl ?_
      refine gx_iconst (v := (1 : Int32)) dX3_readsFact_54 ic_1 ?_
      refine gx_iadd dX3_readsFact_55 ?_
      obtain ⟨_, hobq12, h⟩ := bnd h
      obtain ⟨q12, hq12, h⟩ := bnd h
      refine gx_cVI (As := [.int (l1 + (1 : Int32))]) (st := []) (o := l0) dX3_readsFact_56 (hcF _ _ _ _ hq12) mov_X3_readsFact tw_669 hobq12 rfl (by simp only [Ms.d, Ms.nL]; omega) (Nat.le_of_ble_eq_true rfl) ?_
      refine gx_if_ne 64 dX3_readsFact_59 (by decide) (fun c12 => ?_) (fun c12 => ?_)
      · rw [if_neg c12] at h
        refine gx_aload_n 0 dX3_readsFact_64 rfl rfl ?_
        obtain ⟨a14, ha14, h⟩ := bnd h
        refine gx_getN dX3_readsFact_65 ha14 fl_X3_12 rfl ?_
        refine gx_bipush (v := (-24 : Int32)) dX3_readsFact_68 ib_m24 ?_
        obtain ⟨_, hobq15, h⟩ := bnd h
        obtain ⟨q15, hq15, h⟩ := bnd h
        refine gx_cVV (As := [.int (-24 : Int32)]) (st := []) (o := a14) dX3_readsFact_70 (c_X2_add hq15) mov_X2_add tw_653 hobq15 rfl (by simp only [Ms.d, Ms.nL]; omega) (Nat.le_of_ble_eq_true rfl) ?_
        refine gx_iconst (v := (1 : Int32)) dX3_readsFact_73 ic_1 ?_
        have h := Option.some.inj h
        subst h
        exact gx_zret dX3_readsFact_74 rfl rfl (Nat.le_of_ble_eq_true rfl) (Nat.le_of_ble_eq_true rfl) ⟨rfl, rfl⟩
      · rw [if_pos c12] at h
        refine gx_iconst (v := (0 : Int32)) dX3_readsFact_62 ic_0 ?_
        have h := Option.some.inj h
        subst h
        exact gx_zret dX3_readsFact_63 rfl rfl (Nat.le_of_ble_eq_true rfl) (Nat.le_of_ble_eq_true rfl) ⟨rfl, rfl⟩
  · rw [if_neg c0] at h
    refine gx_aload_n 0 dX3_readsFact_30 rfl rfl ?_
    obtain ⟨a16, ha16, h⟩ := bnd h
    refine gx_getN dX3_readsFact_31 ha16 fl_X3_22 rfl ?_
    refine gx_iconst (v := (2 : Int32)) dX3_readsFact_34 ic_2 ?_
    obtain ⟨_, hobq17, h⟩ := bnd h
    obtain ⟨q17, hq17, h⟩ := bnd h
    refine gx_cVI (As := [.int (2 : Int32)]) (st := []) (o := a16) dX3_readsFact_35 (c_X6_fails hq17) mov_X6_fails tw_637 hobq17 rfl (by simp only [Ms.d, Ms.nL]; omega) (Nat.le_of_ble_eq_true rfl) ?_
    obtain ⟨hz, h⟩ := of_if h
    have h := Option.some.inj h
    subst h
    exact gx_zret dX3_readsFact_38 rfl (nar_z hz) (Nat.le_of_ble_eq_true rfl) (Nat.le_of_ble_eq_true rfl) ⟨rfl, rfl⟩
set_option maxRecDepth 4000 in
theorem s_X3_readsFact_0 {Γ : Cn} {τ : Mm} {N : Nat} {dd : Nat} {cF : Nat → Int32 → Mm → Option (Int32 × Mm)} {cT : Nat → Int32 → Mm → Option (Int32 × Mm)} (hcF : ∀ (a0 : Nat) (a1 : Int32) (σ : Mm) (o : Int32 × Mm), cF a0 a1 σ = some o → Ct Γ (M_X3_readsFact dd) yX3_readsFact 0 τ [.ref (Γ.B + pp a0), .int a1] σ (PI o)) (hcT : ∀ (a0 : Nat) (a1 : Int32) (σ : Mm) (o : Int32 × Mm), cT a0 a1 σ = some o → Ct Γ (M_X3_readsTest dd) yX3_readsTest 0 τ [.ref (Γ.B + pp a0), .int a1] σ (PI o)) {l0 : Nat} {l1 : Int32} {σ : Mm} {o : Int32 × Mm} (h : f_X3_readsFact N cF cT l0 l1 σ = some o) : Gx Γ (M_X3_readsFact (dd + 1)) 0 τ (PI o) 0 0 0 [(0, .ref (Γ.B + pp l0)), (1, .int l1)] [] σ := by
  unfold f_X3_readsFact at h
  refine gx_aload_n 0 dX3_readsFact_0 rfl rfl ?_
  obtain ⟨a1, ha1, h⟩ := bnd h
  refine gx_getN dX3_readsFact_1 ha1 fl_X3_22 rfl ?_
  obtain ⟨_, hobq2, h⟩ := bnd h
  obtain ⟨q2, hq2, h⟩ := bnd h
  refine gx_cVI (As := []) (st := []) (o := a1) dX3_readsFact_4 (c_X6_kind hq2) mov_X6_kind tw_642 hobq2 rfl (by simp only [Ms.d, Ms.nL]; omega) (Nat.le_of_ble_eq_true rfl) ?_
  refine gx_istore_n (lv' := [(2, .int q2.1), (0, .ref (Γ.B + pp l0)), (1, .int l1)]) dX3_readsFact_7 rfl (Nat.le_of_ble_eq_true rfl) rfl ?_
  refine gx_iload_n 0 dX3_readsFact_8 rfl rfl ?_
  refine gx_bipush (v := (24 : Int32)) dX3_readsFact_9 ib_24 ?_
  refine gx_icmp_eq 24 dX3_readsFact_11 (by decide) (fun c2 => ?_) (fun c2 => ?_)
  · rw [if_pos c2] at h
    exact gx_sub [1, 2, 0] rfl (s_X3_readsFact_24 hcF hcT h)
  · rw [if_neg c2] at h
    refine gx_iload_n 0 dX3_readsFact_14 rfl rfl ?_
    refine gx_iconst (v := (5 : Int32)) dX3_readsFact_15 ic_5 ?_
    refine gx_icmp_eq 24 dX3_readsFact_16 (by decide) (fun c3 => ?_) (fun c3 => ?_)
    · rw [if_pos c3] at h
      exact gx_sub [1, 2, 0] rfl (s_X3_readsFact_24 hcF hcT h)
    · rw [if_neg c3] at h
      refine gx_aload_n 1 dX3_readsFact_19 rfl rfl ?_
      obtain ⟨_, hobq5, h⟩ := bnd h
      obtain ⟨q5, hq5, h⟩ := bnd h
      refine gx_cVI (As := []) (st := []) (o := l0) dX3_readsFact_20 (c_X3_readsComparison hq5) mov_X3_readsComparison tw_673 hobq5 rfl (by simp only [Ms.d, Ms.nL]; omega) (Nat.le_of_ble_eq_true rfl) ?_
      obtain ⟨hz, h⟩ := of_if h
      have h := Option.some.inj h
      subst h
      exact gx_zret dX3_readsFact_23 rfl (nar_z hz) (Nat.le_of_ble_eq_true rfl) (Nat.le_of_ble_eq_true rfl) ⟨rfl, rfl⟩
theorem co_X3_readsFact {Γ : Cn} {τ : Mm} {N : Nat} {dd : Nat} {cF : Nat → Int32 → Mm → Option (Int32 × Mm)} {cT : Nat → Int32 → Mm → Option (Int32 × Mm)} (hcF : ∀ (a0 : Nat) (a1 : Int32) (σ : Mm) (o : Int32 × Mm), cF a0 a1 σ = some o → Ct Γ (M_X3_readsFact dd) yX3_readsFact 0 τ [.ref (Γ.B + pp a0), .int a1] σ (PI o)) (hcT : ∀ (a0 : Nat) (a1 : Int32) (σ : Mm) (o : Int32 × Mm), cT a0 a1 σ = some o → Ct Γ (M_X3_readsTest dd) yX3_readsTest 0 τ [.ref (Γ.B + pp a0), .int a1] σ (PI o)) {l0 : Nat} {l1 : Int32} {σ : Mm} {o : Int32 × Mm} (h : f_X3_readsFact N cF cT l0 l1 σ = some o) : Ct Γ (M_X3_readsFact (dd + 1)) yX3_readsFact 0 τ [.ref (Γ.B + pp l0), .int l1] σ (PI o) := ct_of (by decide) rfl (fun _ => by first | rfl | contradiction) (Nat.le_of_ble_eq_true rfl) (s_X3_readsFact_0 hcF hcT h)
def f_X3_readsTest_75 (N : Nat) (cF : Nat → Int32 → Mm → Option (Int32 × Mm)) (r_7 : Nat → Int32 → Int32 → Int32 → Int32 → Mm → Option (Int32 × Mm)) (l0 : Nat) (l1 : Int32) (l2 : Int32) (l3 : Int32) (l4 : Int32) (σ : Mm) : Option (Int32 × Mm) :=
  r_7 l0 l1 l2 l3 (l4 + (1 : Int32)) σ
def f_X3_readsTest_62 (N : Nat) (cF : Nat → Int32 → Mm → Option (Int32 × Mm)) (r_7 : Nat → Int32 → Int32 → Int32 → Int32 → Mm → Option (Int32 × Mm)) (l0 : Nat) (l1 : Int32) (l2 : Int32) (l4 : Int32) (σ : Mm) : Option (Int32 × Mm) :=
  (ob 3 σ l0).bind fun _ =>
  (f_X3_takes N l0 (22 : Int32) σ).bind fun q1 =>
  if q1.1 = 0 then (
    some ((1 : Int32), q1.2)) else (
    f_X3_readsTest_75 N cF r_7 l0 l1 l2 q1.1 l4 q1.2)
def f_X3_readsTest_38 (N : Nat) (cF : Nat → Int32 → Mm → Option (Int32 × Mm)) (r_7 : Nat → Int32 → Int32 → Int32 → Int32 → Mm → Option (Int32 × Mm)) (l0 : Nat) (l1 : Int32) (l3 : Int32) (l4 : Int32) (σ : Mm) : Option (Int32 × Mm) :=
  (ob 3 σ l0).bind fun _ =>
  (f_X3_takes N l0 (23 : Int32) σ).bind fun q1 =>
  if q1.1 = 0 then (
    if l3 = 0 then (
      f_X3_readsTest_62 N cF r_7 l0 l1 q1.1 l4 q1.2) else (
      (gN 3 1 q1.2 l0).bind fun a4 =>
      (ob 2 q1.2 a4).bind fun _ =>
      (f_X2_add N a4 (-22 : Int32) q1.2).bind fun q5 =>
      f_X3_readsTest_62 N cF r_7 l0 l1 q1.1 l4 q5)) else (
    f_X3_readsTest_75 N cF r_7 l0 l1 q1.1 l3 l4 q1.2)
def f_X3_readsTest_7 (N : Nat) (cF : Nat → Int32 → Mm → Option (Int32 × Mm)) : Nat → Nat → Int32 → Int32 → Int32 → Int32 → Mm → Option (Int32 × Mm)
  | 0, _, _, _, _, _, _ => none
  | n + 1, l0, l1, l2, l3, l4, σ =>
      if (400 : Int32) ≤ l4 then (
        (gN 3 0 σ l0).bind fun a2 =>
        (ob 6 σ a2).bind fun _ =>
        (f_X6_fails N a2 (0 : Int32) σ).bind fun q3 =>
        if q3.1 = 0 ∨ q3.1 = 1 then some (q3.1, q3.2) else none) else (
        (ob 3 σ l0).bind fun _ =>
        (cF l0 l1 σ).bind fun q4 =>
        if q4.1 = 0 then (
          some ((0 : Int32), q4.2)) else (
          if l2 = 0 then (
            f_X3_readsTest_38 N cF (f_X3_readsTest_7 N cF n) l0 l1 l3 l4 q4.2) else (
            (gN 3 1 q4.2 l0).bind fun a7 =>
            (ob 2 q4.2 a7).bind fun _ =>
            (f_X2_add N a7 (-23 : Int32) q4.2).bind fun q8 =>
            f_X3_readsTest_38 N cF (f_X3_readsTest_7 N cF n) l0 l1 l3 l4 q8)))
def f_X3_readsTest (N : Nat) (cF : Nat → Int32 → Mm → Option (Int32 × Mm)) (l0 : Nat) (l1 : Int32) (σ : Mm) : Option (Int32 × Mm) :=
  f_X3_readsTest_7 N cF N l0 l1 (0 : Int32) (0 : Int32) (0 : Int32) σ
set_option maxRecDepth 4000 in
theorem s_X3_readsTest_75 {Γ : Cn} {τ : Mm} {N : Nat} {dd : Nat} {cF : Nat → Int32 → Mm → Option (Int32 × Mm)} {r_7 : Nat → Int32 → Int32 → Int32 → Int32 → Mm → Option (Int32 × Mm)} (hcF : ∀ (a0 : Nat) (a1 : Int32) (σ : Mm) (o : Int32 × Mm), cF a0 a1 σ = some o → Ct Γ (M_X3_readsFact dd) yX3_readsFact 0 τ [.ref (Γ.B + pp a0), .int a1] σ (PI o)) (hr_7 : ∀ (l0 : Nat) (l1 : Int32) (l2 : Int32) (l3 : Int32) (l4 : Int32) (σ : Mm) (o : Int32 × Mm), r_7 l0 l1 l2 l3 l4 σ = some o → Gx Γ (M_X3_readsTest (dd + 1)) 0 τ (PI o) 0 0 7 [(0, .ref (Γ.B + pp l0)), (1, .int l1), (2, .int l2), (3, .int l3), (4, .int l4)] [] σ) {l0 : Nat} {l1 : Int32} {l2 : Int32} {l3 : Int32} {l4 : Int32} {σ : Mm} {o : Int32 × Mm} (h : f_X3_readsTest_75 N cF r_7 l0 l1 l2 l3 l4 σ = some o) : Gx Γ (M_X3_readsTest (dd + 1)) 0 τ (PI o) 0 0 75 [(0, .ref (Γ.B + pp l0)), (1, .int l1), (2, .int l2), (3, .int l3), (4, .int l4)] [] σ := by
  unfold f_X3_readsTest_75 at h
  refine gx_iinc (v := (l4 + (1 : Int32))) (lv' := [(4, .int (l4 + (1 : Int32))), (0, .ref (Γ.B + pp l0)), (1, .int l1), (2, .int l2), (3, .int l3)]) 4 dX3_readsTest_75 rfl (by rw [ic_1]) (Nat.le_of_ble_eq_true rfl) rfl ?_
  refine gx_goto 7 dX3_readsTest_78 (by decide) ?_
  exact gx_sub [1, 2, 3, 4, 0] rfl (hr_7 _ _ _ _ _ _ _ h)
set_option maxRecDepth 4000 in
theorem s_X3_readsTest_62 {Γ : Cn} {τ : Mm} {N : Nat} {dd : Nat} {cF : Nat → Int32 → Mm → Option (Int32 × Mm)} {r_7 : Nat → Int32 → Int32 → Int32 → Int32 → Mm → Option (Int32 × Mm)} (hcF : ∀ (a0 : Nat) (a1 : Int32) (σ : Mm) (o : Int32 × Mm), cF a0 a1 σ = some o → Ct Γ (M_X3_readsFact dd) yX3_readsFact 0 τ [.ref (Γ.B + pp a0), .int a1] σ (PI o)) (hr_7 : ∀ (l0 : Nat) (l1 : Int32) (l2 : Int32) (l3 : Int32) (l4 : Int32) (σ : Mm) (o : Int32 × Mm), r_7 l0 l1 l2 l3 l4 σ = some o → Gx Γ (M_X3_readsTest (dd + 1)) 0 τ (PI o) 0 0 7 [(0, .ref (Γ.B + pp l0)), (1, .int l1), (2, .int l2), (3, .int l3), (4, .int l4)] [] σ) {l0 : Nat} {l1 : Int32} {l2 : Int32} {l4 : Int32} {σ : Mm} {o : Int32 × Mm} (h : f_X3_readsTest_62 N cF r_7 l0 l1 l2 l4 σ = some o) : Gx Γ (M_X3_readsTest (dd + 1)) 0 τ (PI o) 0 0 62 [(0, .ref (Γ.B + pp l0)), (1, .int l1), (2, .int l2), (4, .int l4)] [] σ := by
  unfold f_X3_readsTest_62 at h
  refine gx_aload_n 0 dX3_readsTest_62 rfl rfl ?_
  refine gx_bipush (v := (22 : Int32)) dX3_readsTest_63 ib_22 ?_
  obtain ⟨_, hobq1, h⟩ := bnd h
  obtain ⟨q1, hq1, h⟩ := bnd h
  refine gx_cVI (As := [.int (22 : Int32)]) (st := []) (o := l0) dX3_readsTest_65 (c_X3_takes hq1) mov_X3_takes tw_661 hobq1 rfl (by simp only [Ms.d, Ms.nL]; omega) (Nat.le_of_ble_eq_true rfl) ?_
  refine gx_istore_n (lv' := [(3, .int q1.1), (0, .ref (Γ.B + pp l0)), (1, .int l1), (2, .int l2), (4, .int l4)]) dX3_readsTest_68 rfl (Nat.le_of_ble_eq_true rfl) rfl ?_
  refine gx_iload_n 0 dX3_readsTest_69 rfl rfl ?_
  refine gx_if_ne 75 dX3_readsTest_70 (by decide) (fun c1 => ?_) (fun c1 => ?_)
  · rw [if_neg c1] at h
    exact gx_sub [1, 2, 3, 0, 4] rfl (s_X3_readsTest_75 hcF hr_7 h)
  · rw [if_pos c1] at h
    refine gx_iconst (v := (1 : Int32)) dX3_readsTest_73 ic_1 ?_
    have h := Option.some.inj h
    subst h
    exact gx_zret dX3_readsTest_74 rfl rfl (Nat.le_of_ble_eq_true rfl) (Nat.le_of_ble_eq_true rfl) ⟨rfl, rfl⟩
set_option maxRecDepth 4000 in
theorem s_X3_readsTest_38 {Γ : Cn} {τ : Mm} {N : Nat} {dd : Nat} {cF : Nat → Int32 → Mm → Option (Int32 × Mm)} {r_7 : Nat → Int32 → Int32 → Int32 → Int32 → Mm → Option (Int32 × Mm)} (hcF : ∀ (a0 : Nat) (a1 : Int32) (σ : Mm) (o : Int32 × Mm), cF a0 a1 σ = some o → Ct Γ (M_X3_readsFact dd) yX3_readsFact 0 τ [.ref (Γ.B + pp a0), .int a1] σ (PI o)) (hr_7 : ∀ (l0 : Nat) (l1 : Int32) (l2 : Int32) (l3 : Int32) (l4 : Int32) (σ : Mm) (o : Int32 × Mm), r_7 l0 l1 l2 l3 l4 σ = some o → Gx Γ (M_X3_readsTest (dd + 1)) 0 τ (PI o) 0 0 7 [(0, .ref (Γ.B + pp l0)), (1, .int l1), (2, .int l2), (3, .int l3), (4, .int l4)] [] σ) {l0 : Nat} {l1 : Int32} {l3 : Int32} {l4 : Int32} {σ : Mm} {o : Int32 × Mm} (h : f_X3_readsTest_38 N cF r_7 l0 l1 l3 l4 σ = some o) : Gx Γ (M_X3_readsTest (dd + 1)) 0 τ (PI o) 0 0 38 [(0, .ref (Γ.B + pp l0)), (1, .int l1), (3, .int l3), (4, .int l4)] [] σ := by
  unfold f_X3_readsTest_38 at h
  refine gx_aload_n 0 dX3_readsTest_38 rfl rfl ?_
  refine gx_bipush (v := (23 : Int32)) dX3_readsTest_39 ib_23 ?_
  obtain ⟨_, hobq1, h⟩ := bnd h
  obtain ⟨q1, hq1, h⟩ := bnd h
  refine gx_cVI (As := [.int (23 : Int32)]) (st := []) (o := l0) dX3_readsTest_41 (c_X3_takes hq1) mov_X3_takes tw_661 hobq1 rfl (by simp only [Ms.d, Ms.nL]; omega) (Nat.le_of_ble_eq_true rfl) ?_
  refine gx_istore_n (lv' := [(2, .int q1.1), (0, .ref (Γ.B + pp l0)), (1, .int l1), (3, .int l3), (4, .int l4)]) dX3_readsTest_44 rfl (Nat.le_of_ble_eq_true rfl) rfl ?_
  refine gx_iload_n 0 dX3_readsTest_45 rfl rfl ?_
  refine gx_if_ne 75 dX3_readsTest_46 (by decide) (fun c1 => ?_) (fun c1 => ?_)
  · rw [if_neg c1] at h
    exact gx_sub [1, 2, 0, 3, 4] rfl (s_X3_readsTest_75 hcF hr_7 h)
  · rw [if_pos c1] at h
    refine gx_iload_n 3 dX3_readsTest_49 rfl rfl ?_
    refine gx_if_eq 62 dX3_readsTest_50 (by decide) (fun c2 => ?_) (fun c2 => ?_)
    · rw [if_pos c2] at h
      exact gx_sub [1, 2, 0, 4] rfl (s_X3_readsTest_62 hcF hr_7 h)
    · rw [if_neg c2] at h
      refine gx_aload_n 1 dX3_readsTest_53 rfl rfl ?_
      obtain ⟨a4, ha4, h⟩ := bnd h
      refine gx_getN dX3_readsTest_54 ha4 fl_X3_12 rfl ?_
      refine gx_bipush (v := (-22 : Int32)) dX3_readsTest_57 ib_m22 ?_
      obtain ⟨_, hobq5, h⟩ := bnd h
      obtain ⟨q5, hq5, h⟩ := bnd h
      refine gx_cVV (As := [.int (-22 : Int32)]) (st := []) (o := a4) dX3_readsTest_59 (c_X2_add hq5) mov_X2_add tw_653 hobq5 rfl (by simp only [Ms.d, Ms.nL]; omega) (Nat.le_of_ble_eq_true rfl) ?_
      exact gx_sub [1, 2, 0, 4] rfl (s_X3_readsTest_62 hcF hr_7 h)
set_option maxRecDepth 4000 in
theorem s_X3_readsTest_7 {Γ : Cn} {τ : Mm} {N : Nat} {dd : Nat} {cF : Nat → Int32 → Mm → Option (Int32 × Mm)} (hcF : ∀ (a0 : Nat) (a1 : Int32) (σ : Mm) (o : Int32 × Mm), cF a0 a1 σ = some o → Ct Γ (M_X3_readsFact dd) yX3_readsFact 0 τ [.ref (Γ.B + pp a0), .int a1] σ (PI o)) : ∀ (n : Nat) (l0 : Nat) (l1 : Int32) (l2 : Int32) (l3 : Int32) (l4 : Int32) (σ : Mm) (o : Int32 × Mm), f_X3_readsTest_7 N cF n l0 l1 l2 l3 l4 σ = some o → Gx Γ (M_X3_readsTest (dd + 1)) 0 τ (PI o) 0 0 7 [(0, .ref (Γ.B + pp l0)), (1, .int l1), (2, .int l2), (3, .int l3), (4, .int l4)] [] σ := by
  intro n
  induction n with
  | zero =>
    intro l0 l1 l2 l3 l4 σ o h
    exact absurd h (by rw [f_X3_readsTest_7]; exact fun q => nomatch q)
  | succ n ih =>
    intro l0 l1 l2 l3 l4 σ o h
    rw [f_X3_readsTest_7] at h
    refine gx_iload 4 dX3_readsTest_7 rfl ?_
    refine gx_sipush (v := (400 : Int32)) dX3_readsTest_9 is_400 ?_
    refine gx_icmp_ge 81 dX3_readsTest_12 (by decide) (fun c0 => ?_) (fun c0 => ?_)
    · rw [if_pos c0] at h
      refine gx_aload_n 0 dX3_readsTest_81 rfl rfl ?_
      obtain ⟨a2, ha2, h⟩ := bnd h
      refine gx_getN dX3_readsTest_82 ha2 fl_X3_22 rfl ?_
      refine gx_iconst (v := (0 : Int32)) dX3_readsTest_85 ic_0 ?_
      obtain ⟨_, hobq3, h⟩ := bnd h
      obtain ⟨q3, hq3, h⟩ := bnd h
      refine gx_cVI (As := [.int (0 : Int32)]) (st := []) (o := a2) dX3_readsTest_86 (c_X6_fails hq3) mov_X6_fails tw_637 hobq3 rfl (by simp only [Ms.d, Ms.nL]; omega) (Nat.le_of_ble_eq_true rfl) ?_
      obtain ⟨hz, h⟩ := of_if h
      have h := Option.some.inj h
      subst h
      exact gx_zret dX3_readsTest_89 rfl (nar_z hz) (Nat.le_of_ble_eq_true rfl) (Nat.le_of_ble_eq_true rfl) ⟨rfl, rfl⟩
    · rw [if_neg c0] at h
      refine gx_aload_n 0 dX3_readsTest_15 rfl rfl ?_
      refine gx_iload_n 1 dX3_readsTest_16 rfl rfl ?_
      obtain ⟨_, hobq4, h⟩ := bnd h
      obtain ⟨q4, hq4, h⟩ := bnd h
      refine gx_cVI (As := [.int l1]) (st := []) (o := l0) dX3_readsTest_17 (hcF _ _ _ _ hq4) mov_X3_readsFact tw_669 hobq4 rfl (by simp only [Ms.d, Ms.nL]; omega) (Nat.le_of_ble_eq_true rfl) ?_
      refine gx_if_ne 25 dX3_readsTest_20 (by decide) (fun c4 => ?_) (fun c4 => ?_)
      · rw [if_neg c4] at h
        refine gx_iload_n 2 dX3_readsTest_25 rfl rfl ?_
        refine gx_if_eq 38 dX3_readsTest_26 (by decide) (fun c5 => ?_) (fun c5 => ?_)
        · rw [if_pos c5] at h
          exact gx_sub [0, 1, 3, 4] rfl (s_X3_readsTest_38 hcF ih h)
        · rw [if_neg c5] at h
          refine gx_aload_n 0 dX3_readsTest_29 rfl rfl ?_
          obtain ⟨a7, ha7, h⟩ := bnd h
          refine gx_getN dX3_readsTest_30 ha7 fl_X3_12 rfl ?_
          refine gx_bipush (v := (-23 : Int32)) dX3_readsTest_33 ib_m23 ?_
          obtain ⟨_, hobq8, h⟩ := bnd h
          obtain ⟨q8, hq8, h⟩ := bnd h
          refine gx_cVV (As := [.int (-23 : Int32)]) (st := []) (o := a7) dX3_readsTest_35 (c_X2_add hq8) mov_X2_add tw_653 hobq8 rfl (by simp only [Ms.d, Ms.nL]; omega) (Nat.le_of_ble_eq_true rfl) ?_
          exact gx_sub [0, 1, 3, 4] rfl (s_X3_readsTest_38 hcF ih h)
      · rw [if_pos c4] at h
        refine gx_iconst (v := (0 : Int32)) dX3_readsTest_23 ic_0 ?_
        have h := Option.some.inj h
        subst h
        exact gx_zret dX3_readsTest_24 rfl rfl (Nat.le_of_ble_eq_true rfl) (Nat.le_of_ble_eq_true rfl) ⟨rfl, rfl⟩
set_option maxRecDepth 4000 in
theorem s_X3_readsTest_0 {Γ : Cn} {τ : Mm} {N : Nat} {dd : Nat} {cF : Nat → Int32 → Mm → Option (Int32 × Mm)} (hcF : ∀ (a0 : Nat) (a1 : Int32) (σ : Mm) (o : Int32 × Mm), cF a0 a1 σ = some o → Ct Γ (M_X3_readsFact dd) yX3_readsFact 0 τ [.ref (Γ.B + pp a0), .int a1] σ (PI o)) {l0 : Nat} {l1 : Int32} {σ : Mm} {o : Int32 × Mm} (h : f_X3_readsTest N cF l0 l1 σ = some o) : Gx Γ (M_X3_readsTest (dd + 1)) 0 τ (PI o) 0 0 0 [(0, .ref (Γ.B + pp l0)), (1, .int l1)] [] σ := by
  unfold f_X3_readsTest at h
  refine gx_iconst (v := (0 : Int32)) dX3_readsTest_0 ic_0 ?_
  refine gx_istore_n (lv' := [(2, .int (0 : Int32)), (0, .ref (Γ.B + pp l0)), (1, .int l1)]) dX3_readsTest_1 rfl (Nat.le_of_ble_eq_true rfl) rfl ?_
  refine gx_iconst (v := (0 : Int32)) dX3_readsTest_2 ic_0 ?_
  refine gx_istore_n (lv' := [(3, .int (0 : Int32)), (2, .int (0 : Int32)), (0, .ref (Γ.B + pp l0)), (1, .int l1)]) dX3_readsTest_3 rfl (Nat.le_of_ble_eq_true rfl) rfl ?_
  refine gx_iconst (v := (0 : Int32)) dX3_readsTest_4 ic_0 ?_
  refine gx_istore (lv' := [(4, .int (0 : Int32)), (3, .int (0 : Int32)), (2, .int (0 : Int32)), (0, .ref (Γ.B + pp l0)), (1, .int l1)]) dX3_readsTest_5 (Nat.le_of_ble_eq_true rfl) rfl ?_
  exact gx_sub [3, 4, 2, 1, 0] rfl (s_X3_readsTest_7 hcF N _ _ _ _ _ _ _ h)
theorem co_X3_readsTest {Γ : Cn} {τ : Mm} {N : Nat} {dd : Nat} {cF : Nat → Int32 → Mm → Option (Int32 × Mm)} (hcF : ∀ (a0 : Nat) (a1 : Int32) (σ : Mm) (o : Int32 × Mm), cF a0 a1 σ = some o → Ct Γ (M_X3_readsFact dd) yX3_readsFact 0 τ [.ref (Γ.B + pp a0), .int a1] σ (PI o)) {l0 : Nat} {l1 : Int32} {σ : Mm} {o : Int32 × Mm} (h : f_X3_readsTest N cF l0 l1 σ = some o) : Ct Γ (M_X3_readsTest (dd + 1)) yX3_readsTest 0 τ [.ref (Γ.B + pp l0), .int l1] σ (PI o) := ct_of (by decide) rfl (fun _ => by first | rfl | contradiction) (Nat.le_of_ble_eq_true rfl) (s_X3_readsTest_0 hcF h)
def f_FT : Nat → Bool → Nat → Nat → Int32 → Mm → Option (Int32 × Mm)
  | 0, _, _, _, _, _ => none
  | d + 1, true, N, l0, l1, σ => f_X3_readsFact N (f_FT d true N) (f_FT d false N) l0 l1 σ
  | d + 1, false, N, l0, l1, σ => f_X3_readsTest N (f_FT d true N) l0 l1 σ
theorem c_FT {Γ : Cn} {τ : Mm} {N : Nat} : ∀ (d : Nat), (∀ (l0 : Nat) (l1 : Int32) (σ : Mm) (o : Int32 × Mm), f_FT d true N l0 l1 σ = some o → Ct Γ (M_X3_readsFact d) yX3_readsFact 0 τ [.ref (Γ.B + pp l0), .int l1] σ (PI o)) ∧ (∀ (l0 : Nat) (l1 : Int32) (σ : Mm) (o : Int32 × Mm), f_FT d false N l0 l1 σ = some o → Ct Γ (M_X3_readsTest d) yX3_readsTest 0 τ [.ref (Γ.B + pp l0), .int l1] σ (PI o)) := by
  intro d
  induction d with
  | zero =>
    refine ⟨?_, ?_⟩ <;> intro l0 l1 σ o h <;> rw [f_FT] at h <;> cases h
  | succ d ih =>
    refine ⟨?_, ?_⟩ <;> intro l0 l1 σ o h <;> rw [f_FT] at h
    · exact co_X3_readsFact ih.1 ih.2 h
    · exact co_X3_readsTest ih.1 h
theorem c_X3_readsTest {Γ : Cn} {τ : Mm} {N : Nat} {l0 : Nat} {l1 : Int32} {σ : Mm} {o : Int32 × Mm} (h : f_FT 24 false N l0 l1 σ = some o) : Ct Γ (M_X3_readsTest 24) yX3_readsTest 0 τ [.ref (Γ.B + pp l0), .int l1] σ (PI o) := (c_FT 24).2 _ _ _ _ h
abbrev M_X3_reads : Ms := (cX3_reads, RX3, 4, (some .boolean), false, 0, 0, 60)
def f_X3_reads_121 (N : Nat) (r_27 : Nat → Nat → Int32 → Mm → Option (Int32 × Mm)) (l0 : Nat) (l1 : Nat) (l2 : Int32) (t0 : Nat) (t1 : Int32) (σ : Mm) : Option (Int32 × Mm) :=
  (ob 2 σ t0).bind fun _ =>
  (f_X2_add N t0 t1 σ).bind fun q1 =>
  (gN 3 0 q1 l0).bind fun a2 =>
  (ob 6 q1 a2).bind fun _ =>
  (f_X6_kind N a2 q1).bind fun q3 =>
  if q3.1 = (1 : Int32) then (
    (gN 3 1 q3.2 l0).bind fun a9 =>
    (ob 2 q3.2 l1).bind fun _ =>
    (f_X2_become N l1 a9 q3.2).bind fun q10 =>
    some ((1 : Int32), q10)) else (
    (ob 3 q3.2 l0).bind fun _ =>
    (f_X3_takes N l0 (4 : Int32) q3.2).bind fun q5 =>
    if q5.1 = 0 then (
      (gN 3 0 q5.2 l0).bind fun a7 =>
      (ob 6 q5.2 a7).bind fun _ =>
      (f_X6_fails N a7 (0 : Int32) q5.2).bind fun q8 =>
      if q8.1 = 0 ∨ q8.1 = 1 then some (q8.1, q8.2) else none) else (
      r_27 l0 l1 (l2 + (1 : Int32)) q5.2))
def f_X3_reads_106 (N : Nat) (r_27 : Nat → Nat → Int32 → Mm → Option (Int32 × Mm)) (l0 : Nat) (l1 : Nat) (l2 : Int32) (l3 : Int32) (σ : Mm) : Option (Int32 × Mm) :=
  (gN 3 1 σ l0).bind fun a1 =>
  if l3 = 0 then (
    f_X3_reads_121 N r_27 l0 l1 l2 a1 (-20 : Int32) σ) else (
    f_X3_reads_121 N r_27 l0 l1 l2 a1 (-21 : Int32) σ)
def f_X3_reads_27 (N : Nat) : Nat → Nat → Nat → Int32 → Mm → Option (Int32 × Mm)
  | 0, _, _, _, _ => none
  | n + 1, l0, l1, l2, σ =>
      if (12 : Int32) < l2 then (
        (gN 3 0 σ l0).bind fun a2 =>
        (ob 6 σ a2).bind fun _ =>
        (f_X6_fails N a2 (4 : Int32) σ).bind fun q3 =>
        if q3.1 = 0 ∨ q3.1 = 1 then some (q3.1, q3.2) else none) else (
        (gN 3 0 σ l0).bind fun a4 =>
        (ob 6 σ a4).bind fun _ =>
        (f_X6_kind N a4 σ).bind fun q5 =>
        if q5.1 = (20 : Int32) then (
          if l2 = (12 : Int32) then (
            (gN 3 0 q5.2 l0).bind fun a16 =>
            (ob 6 q5.2 a16).bind fun _ =>
            (f_X6_fails N a16 (4 : Int32) q5.2).bind fun q17 =>
            if q17.1 = 0 ∨ q17.1 = 1 then some (q17.1, q17.2) else none) else (
            (gN 3 0 q5.2 l0).bind fun a8 =>
            (ob 6 q5.2 a8).bind fun _ =>
            (f_X6_skip N a8 q5.2).bind fun q9 =>
            (ob 3 q9 l0).bind fun _ =>
            (f_X3_readsSum N l0 q9).bind fun q10 =>
            if q10.1 = 0 then (
              some ((0 : Int32), q10.2)) else (
              (ob 3 q10.2 l0).bind fun _ =>
              (f_X3_takes N l0 (21 : Int32) q10.2).bind fun q12 =>
              if q12.1 = 0 then (
                f_X3_reads_106 N (f_X3_reads_27 N n) l0 l1 l2 q12.1 q12.2) else (
                (ob 3 q12.2 l0).bind fun _ =>
                (f_FT 24 false N l0 (0 : Int32) q12.2).bind fun q14 =>
                if q14.1 = 0 then (
                  some ((0 : Int32), q14.2)) else (
                  f_X3_reads_106 N (f_X3_reads_27 N n) l0 l1 l2 q12.1 q14.2))))) else (
          (gN 3 0 q5.2 l0).bind fun a18 =>
          (ob 6 q5.2 a18).bind fun _ =>
          (f_X6_fails N a18 (0 : Int32) q5.2).bind fun q19 =>
          if q19.1 = 0 ∨ q19.1 = 1 then some (q19.1, q19.2) else none))
def f_X3_reads (N : Nat) (l0 : Nat) (l1 : Nat) (σ : Mm) : Option (Int32 × Mm) :=
  (gN 3 1 σ l0).bind fun a1 =>
  (ob 2 σ a1).bind fun _ =>
  (f_X2_clear N a1 σ).bind fun q2 =>
  (pI 3 2 q2 l0 (0 : Int32)).bind fun s3 =>
  f_X3_reads_27 N N l0 l1 (0 : Int32) s3
theorem mov_X3_reads : MOV yX3_reads M_X3_reads 1 3 0 := ⟨⟨tw_100, tw_636, ⟨by decide, by decide⟩, by decide +kernel⟩, tw_634, tw_635, by decide, ⟨_, rfl, rfl⟩, rfl⟩
set_option maxRecDepth 4000 in
theorem s_X3_reads_121 {Γ : Cn} {τ : Mm} {N : Nat} {r_27 : Nat → Nat → Int32 → Mm → Option (Int32 × Mm)} (hr_27 : ∀ (l0 : Nat) (l1 : Nat) (l2 : Int32) (σ : Mm) (o : Int32 × Mm), r_27 l0 l1 l2 σ = some o → Gx Γ M_X3_reads 0 τ (PI o) 0 0 27 [(0, .ref (Γ.B + pp l0)), (1, .ref (Γ.B + pp l1)), (2, .int l2)] [] σ) {l0 : Nat} {l1 : Nat} {l2 : Int32} {t0 : Nat} {t1 : Int32} {σ : Mm} {o : Int32 × Mm} (h : f_X3_reads_121 N r_27 l0 l1 l2 t0 t1 σ = some o) : Gx Γ M_X3_reads 0 τ (PI o) 0 0 121 [(0, .ref (Γ.B + pp l0)), (1, .ref (Γ.B + pp l1)), (2, .int l2)] [.int t1, .ref (Γ.B + pp t0)] σ := by
  unfold f_X3_reads_121 at h
  obtain ⟨_, hobq1, h⟩ := bnd h
  obtain ⟨q1, hq1, h⟩ := bnd h
  refine gx_cVV (As := [.int t1]) (st := []) (o := t0) dX3_reads_121 (c_X2_add hq1) mov_X2_add tw_653 hobq1 rfl ⟨Nat.le_of_ble_eq_true rfl, Nat.le_of_ble_eq_true rfl⟩ (Nat.le_of_ble_eq_true rfl) ?_
  refine gx_aload_n 0 dX3_reads_124 rfl rfl ?_
  obtain ⟨a2, ha2, h⟩ := bnd h
  refine gx_getN dX3_reads_125 ha2 fl_X3_22 rfl ?_
  obtain ⟨_, hobq3, h⟩ := bnd h
  obtain ⟨q3, hq3, h⟩ := bnd h
  refine gx_cVI (As := []) (st := []) (o := a2) dX3_reads_128 (c_X6_kind hq3) mov_X6_kind tw_642 hobq3 rfl ⟨Nat.le_of_ble_eq_true rfl, Nat.le_of_ble_eq_true rfl⟩ (Nat.le_of_ble_eq_true rfl) ?_
  refine gx_iconst (v := (1 : Int32)) dX3_reads_131 ic_1 ?_
  refine gx_icmp_ne 145 dX3_reads_132 (by decide) (fun c3 => ?_) (fun c3 => ?_)
  · rw [if_neg c3] at h
    refine gx_aload_n 0 dX3_reads_145 rfl rfl ?_
    refine gx_iconst (v := (4 : Int32)) dX3_reads_146 ic_4 ?_
    obtain ⟨_, hobq5, h⟩ := bnd h
    obtain ⟨q5, hq5, h⟩ := bnd h
    refine gx_cVI (As := [.int (4 : Int32)]) (st := []) (o := l0) dX3_reads_147 (c_X3_takes hq5) mov_X3_takes tw_661 hobq5 rfl ⟨Nat.le_of_ble_eq_true rfl, Nat.le_of_ble_eq_true rfl⟩ (Nat.le_of_ble_eq_true rfl) ?_
    refine gx_if_ne 162 dX3_reads_150 (by decide) (fun c5 => ?_) (fun c5 => ?_)
    · rw [if_neg c5] at h
      refine gx_iinc (v := (l2 + (1 : Int32))) (lv' := [(2, .int (l2 + (1 : Int32))), (0, .ref (Γ.B + pp l0)), (1, .ref (Γ.B + pp l1))]) 2 dX3_reads_162 rfl (by rw [ic_1]) (Nat.le_of_ble_eq_true rfl) rfl ?_
      refine gx_goto 27 dX3_reads_165 (by decide) ?_
      exact gx_sub [1, 2, 0] rfl (hr_27 _ _ _ _ _ h)
    · rw [if_pos c5] at h
      refine gx_aload_n 0 dX3_reads_153 rfl rfl ?_
      obtain ⟨a7, ha7, h⟩ := bnd h
      refine gx_getN dX3_reads_154 ha7 fl_X3_22 rfl ?_
      refine gx_iconst (v := (0 : Int32)) dX3_reads_157 ic_0 ?_
      obtain ⟨_, hobq8, h⟩ := bnd h
      obtain ⟨q8, hq8, h⟩ := bnd h
      refine gx_cVI (As := [.int (0 : Int32)]) (st := []) (o := a7) dX3_reads_158 (c_X6_fails hq8) mov_X6_fails tw_637 hobq8 rfl ⟨Nat.le_of_ble_eq_true rfl, Nat.le_of_ble_eq_true rfl⟩ (Nat.le_of_ble_eq_true rfl) ?_
      obtain ⟨hz, h⟩ := of_if h
      have h := Option.some.inj h
      subst h
      exact gx_zret dX3_reads_161 rfl (nar_z hz) (Nat.le_of_ble_eq_true rfl) (Nat.le_of_ble_eq_true rfl) ⟨rfl, rfl⟩
  · rw [if_pos c3] at h
    refine gx_aload_n 1 dX3_reads_135 rfl rfl ?_
    refine gx_aload_n 0 dX3_reads_136 rfl rfl ?_
    obtain ⟨a9, ha9, h⟩ := bnd h
    refine gx_getN dX3_reads_137 ha9 fl_X3_12 rfl ?_
    obtain ⟨_, hobq10, h⟩ := bnd h
    obtain ⟨q10, hq10, h⟩ := bnd h
    refine gx_cVV (As := [.ref (Γ.B + pp a9)]) (st := []) (o := l1) dX3_reads_140 (c_X2_become hq10) mov_X2_become tw_677 hobq10 rfl ⟨Nat.le_of_ble_eq_true rfl, Nat.le_of_ble_eq_true rfl⟩ (Nat.le_of_ble_eq_true rfl) ?_
    refine gx_iconst (v := (1 : Int32)) dX3_reads_143 ic_1 ?_
    have h := Option.some.inj h
    subst h
    exact gx_zret dX3_reads_144 rfl rfl (Nat.le_of_ble_eq_true rfl) (Nat.le_of_ble_eq_true rfl) ⟨rfl, rfl⟩
set_option maxRecDepth 4000 in
theorem s_X3_reads_106 {Γ : Cn} {τ : Mm} {N : Nat} {r_27 : Nat → Nat → Int32 → Mm → Option (Int32 × Mm)} (hr_27 : ∀ (l0 : Nat) (l1 : Nat) (l2 : Int32) (σ : Mm) (o : Int32 × Mm), r_27 l0 l1 l2 σ = some o → Gx Γ M_X3_reads 0 τ (PI o) 0 0 27 [(0, .ref (Γ.B + pp l0)), (1, .ref (Γ.B + pp l1)), (2, .int l2)] [] σ) {l0 : Nat} {l1 : Nat} {l2 : Int32} {l3 : Int32} {σ : Mm} {o : Int32 × Mm} (h : f_X3_reads_106 N r_27 l0 l1 l2 l3 σ = some o) : Gx Γ M_X3_reads 0 τ (PI o) 0 0 106 [(0, .ref (Γ.B + pp l0)), (1, .ref (Γ.B + pp l1)), (2, .int l2), (3, .int l3)] [] σ := by
  unfold f_X3_reads_106 at h
  refine gx_aload_n 0 dX3_reads_106 rfl rfl ?_
  obtain ⟨a1, ha1, h⟩ := bnd h
  refine gx_getN dX3_reads_107 ha1 fl_X3_12 rfl ?_
  refine gx_iload_n 3 dX3_reads_110 rfl rfl ?_
  refine gx_if_eq 119 dX3_reads_111 (by decide) (fun c1 => ?_) (fun c1 => ?_)
  · rw [if_pos c1] at h
    refine gx_bipush (v := (-20 : Int32)) dX3_reads_119 ib_m20 ?_
    exact gx_sub [0, 1, 2] rfl (s_X3_reads_121 hr_27 h)
  · rw [if_neg c1] at h
    refine gx_bipush (v := (-21 : Int32)) dX3_reads_114 ib_m21 ?_
    refine gx_goto 121 dX3_reads_116 (by decide) ?_
    exact gx_sub [0, 1, 2] rfl (s_X3_reads_121 hr_27 h)
set_option maxRecDepth 4000 in
theorem s_X3_reads_27 {Γ : Cn} {τ : Mm} {N : Nat} : ∀ (n : Nat) (l0 : Nat) (l1 : Nat) (l2 : Int32) (σ : Mm) (o : Int32 × Mm), f_X3_reads_27 N n l0 l1 l2 σ = some o → Gx Γ M_X3_reads 0 τ (PI o) 0 0 27 [(0, .ref (Γ.B + pp l0)), (1, .ref (Γ.B + pp l1)), (2, .int l2)] [] σ := by
  intro n
  induction n with
  | zero =>
    intro l0 l1 l2 σ o h
    exact absurd h (by rw [f_X3_reads_27]; exact fun q => nomatch q)
  | succ n ih =>
    intro l0 l1 l2 σ o h
    rw [f_X3_reads_27] at h
    refine gx_iload_n 2 dX3_reads_27 rfl rfl ?_
    refine gx_bipush (v := (12 : Int32)) dX3_reads_28 ib_12 ?_
    refine gx_icmp_gt 168 dX3_reads_30 (by decide) (fun c0 => ?_) (fun c0 => ?_)
    · rw [if_pos c0] at h
      refine gx_aload_n 0 dX3_reads_168 rfl rfl ?_
      obtain ⟨a2, ha2, h⟩ := bnd h
      refine gx_getN dX3_reads_169 ha2 fl_X3_22 rfl ?_
      refine gx_iconst (v := (4 : Int32)) dX3_reads_172 ic_4 ?_
      obtain ⟨_, hobq3, h⟩ := bnd h
      obtain ⟨q3, hq3, h⟩ := bnd h
      refine gx_cVI (As := [.int (4 : Int32)]) (st := []) (o := a2) dX3_reads_173 (c_X6_fails hq3) mov_X6_fails tw_637 hobq3 rfl ⟨Nat.le_of_ble_eq_true rfl, Nat.le_of_ble_eq_true rfl⟩ (Nat.le_of_ble_eq_true rfl) ?_
      obtain ⟨hz, h⟩ := of_if h
      have h := Option.some.inj h
      subst h
      exact gx_zret dX3_reads_176 rfl (nar_z hz) (Nat.le_of_ble_eq_true rfl) (Nat.le_of_ble_eq_true rfl) ⟨rfl, rfl⟩
    · rw [if_neg c0] at h
      refine gx_aload_n 0 dX3_reads_33 rfl rfl ?_
      obtain ⟨a4, ha4, h⟩ := bnd h
      refine gx_getN dX3_reads_34 ha4 fl_X3_22 rfl ?_
      obtain ⟨_, hobq5, h⟩ := bnd h
      obtain ⟨q5, hq5, h⟩ := bnd h
      refine gx_cVI (As := []) (st := []) (o := a4) dX3_reads_37 (c_X6_kind hq5) mov_X6_kind tw_642 hobq5 rfl ⟨Nat.le_of_ble_eq_true rfl, Nat.le_of_ble_eq_true rfl⟩ (Nat.le_of_ble_eq_true rfl) ?_
      refine gx_bipush (v := (20 : Int32)) dX3_reads_40 ib_20 ?_
      refine gx_icmp_eq 54 dX3_reads_42 (by decide) (fun c5 => ?_) (fun c5 => ?_)
      · rw [if_pos c5] at h
        refine gx_iload_n 2 dX3_reads_54 rfl rfl ?_
        refine gx_bipush (v := (12 : Int32)) dX3_reads_55 ib_12 ?_
        refine gx_icmp_ne 69 dX3_reads_57 (by decide) (fun c6 => ?_) (fun c6 => ?_)
        · rw [if_neg c6] at h
          refine gx_aload_n 0 dX3_reads_69 rfl rfl ?_
          obtain ⟨a8, ha8, h⟩ := bnd h
          refine gx_getN dX3_reads_70 ha8 fl_X3_22 rfl ?_
          obtain ⟨_, hobq9, h⟩ := bnd h
          obtain ⟨q9, hq9, h⟩ := bnd h
          refine gx_cVV (As := []) (st := []) (o := a8) dX3_reads_73 (c_X6_skip hq9) mov_X6_skip tw_643 hobq9 rfl ⟨Nat.le_of_ble_eq_true rfl, Nat.le_of_ble_eq_true rfl⟩ (Nat.le_of_ble_eq_true rfl) ?_
          refine gx_aload_n 0 dX3_reads_76 rfl rfl ?_
          obtain ⟨_, hobq10, h⟩ := bnd h
          obtain ⟨q10, hq10, h⟩ := bnd h
          refine gx_cVI (As := []) (st := []) (o := l0) dX3_reads_77 (c_X3_readsSum hq10) mov_X3_readsSum tw_644 hobq10 rfl ⟨Nat.le_of_ble_eq_true rfl, Nat.le_of_ble_eq_true rfl⟩ (Nat.le_of_ble_eq_true rfl) ?_
          refine gx_if_ne 85 dX3_reads_80 (by decide) (fun c10 => ?_) (fun c10 => ?_)
          · rw [if_neg c10] at h
            refine gx_aload_n 0 dX3_reads_85 rfl rfl ?_
            refine gx_bipush (v := (21 : Int32)) dX3_reads_86 ib_21 ?_
            obtain ⟨_, hobq12, h⟩ := bnd h
            obtain ⟨q12, hq12, h⟩ := bnd h
            refine gx_cVI (As := [.int (21 : Int32)]) (st := []) (o := l0) dX3_reads_88 (c_X3_takes hq12) mov_X3_takes tw_661 hobq12 rfl ⟨Nat.le_of_ble_eq_true rfl, Nat.le_of_ble_eq_true rfl⟩ (Nat.le_of_ble_eq_true rfl) ?_
            refine gx_istore_n (lv' := [(3, .int q12.1), (0, .ref (Γ.B + pp l0)), (1, .ref (Γ.B + pp l1)), (2, .int l2)]) dX3_reads_91 rfl (Nat.le_of_ble_eq_true rfl) rfl ?_
            refine gx_iload_n 0 dX3_reads_92 rfl rfl ?_
            refine gx_if_eq 106 dX3_reads_93 (by decide) (fun c12 => ?_) (fun c12 => ?_)
            · rw [if_pos c12] at h
              exact gx_sub [1, 2, 3, 0] rfl (s_X3_reads_106 ih h)
            · rw [if_neg c12] at h
              refine gx_aload_n 1 dX3_reads_96 rfl rfl ?_
              refine gx_iconst (v := (0 : Int32)) dX3_reads_97 ic_0 ?_
              obtain ⟨_, hobq14, h⟩ := bnd h
              obtain ⟨q14, hq14, h⟩ := bnd h
              refine gx_cVI (As := [.int (0 : Int32)]) (st := []) (o := l0) dX3_reads_98 (c_X3_readsTest hq14) mov_X3_readsTest tw_665 hobq14 rfl ⟨Nat.le_of_ble_eq_true rfl, Nat.le_of_ble_eq_true rfl⟩ (Nat.le_of_ble_eq_true rfl) ?_
              refine gx_if_ne 106 dX3_reads_101 (by decide) (fun c14 => ?_) (fun c14 => ?_)
              · rw [if_neg c14] at h
                exact gx_sub [1, 2, 3, 0] rfl (s_X3_reads_106 ih h)
              · rw [if_pos c14] at h
                refine gx_iconst (v := (0 : Int32)) dX3_reads_104 ic_0 ?_
                have h := Option.some.inj h
                subst h
                exact gx_zret dX3_reads_105 rfl rfl (Nat.le_of_ble_eq_true rfl) (Nat.le_of_ble_eq_true rfl) ⟨rfl, rfl⟩
          · rw [if_pos c10] at h
            refine gx_iconst (v := (0 : Int32)) dX3_reads_83 ic_0 ?_
            have h := Option.some.inj h
            subst h
            exact gx_zret dX3_reads_84 rfl rfl (Nat.le_of_ble_eq_true rfl) (Nat.le_of_ble_eq_true rfl) ⟨rfl, rfl⟩
        · rw [if_pos c6] at h
          refine gx_aload_n 0 dX3_reads_60 rfl rfl ?_
          obtain ⟨a16, ha16, h⟩ := bnd h
          refine gx_getN dX3_reads_61 ha16 fl_X3_22 rfl ?_
          refine gx_iconst (v := (4 : Int32)) dX3_reads_64 ic_4 ?_
          obtain ⟨_, hobq17, h⟩ := bnd h
          obtain ⟨q17, hq17, h⟩ := bnd h
          refine gx_cVI (As := [.int (4 : Int32)]) (st := []) (o := a16) dX3_reads_65 (c_X6_fails hq17) mov_X6_fails tw_637 hobq17 rfl ⟨Nat.le_of_ble_eq_true rfl, Nat.le_of_ble_eq_true rfl⟩ (Nat.le_of_ble_eq_true rfl) ?_
          obtain ⟨hz, h⟩ := of_if h
          have h := Option.some.inj h
          subst h
          exact gx_zret dX3_reads_68 rfl (nar_z hz) (Nat.le_of_ble_eq_true rfl) (Nat.le_of_ble_eq_true rfl) ⟨rfl, rfl⟩
      · rw [if_neg c5] at h
        refine gx_aload_n 0 dX3_reads_45 rfl rfl ?_
        obtain ⟨a18, ha18, h⟩ := bnd h
        refine gx_getN dX3_reads_46 ha18 fl_X3_22 rfl ?_
        refine gx_iconst (v := (0 : Int32)) dX3_reads_49 ic_0 ?_
        obtain ⟨_, hobq19, h⟩ := bnd h
        obtain ⟨q19, hq19, h⟩ := bnd h
        refine gx_cVI (As := [.int (0 : Int32)]) (st := []) (o := a18) dX3_reads_50 (c_X6_fails hq19) mov_X6_fails tw_637 hobq19 rfl ⟨Nat.le_of_ble_eq_true rfl, Nat.le_of_ble_eq_true rfl⟩ (Nat.le_of_ble_eq_true rfl) ?_
        obtain ⟨hz, h⟩ := of_if h
        have h := Option.some.inj h
        subst h
        exact gx_zret dX3_reads_53 rfl (nar_z hz) (Nat.le_of_ble_eq_true rfl) (Nat.le_of_ble_eq_true rfl) ⟨rfl, rfl⟩
set_option maxRecDepth 4000 in
theorem s_X3_reads_0 {Γ : Cn} {τ : Mm} {N : Nat} {l0 : Nat} {l1 : Nat} {σ : Mm} {o : Int32 × Mm} (h : f_X3_reads N l0 l1 σ = some o) : Gx Γ M_X3_reads 0 τ (PI o) 0 0 0 [(0, .ref (Γ.B + pp l0)), (1, .ref (Γ.B + pp l1))] [] σ := by
  unfold f_X3_reads at h
  refine gx_aload_n 1 dX3_reads_0 rfl rfl ?_
  refine gx_nonnull 13 dX3_reads_1 (by decide) ?_
  refine gx_aload_n 0 dX3_reads_13 rfl rfl ?_
  obtain ⟨a1, ha1, h⟩ := bnd h
  refine gx_getN dX3_reads_14 ha1 fl_X3_12 rfl ?_
  obtain ⟨_, hobq2, h⟩ := bnd h
  obtain ⟨q2, hq2, h⟩ := bnd h
  refine gx_cVV (As := []) (st := []) (o := a1) dX3_reads_17 (c_X2_clear hq2) mov_X2_clear tw_638 hobq2 rfl ⟨Nat.le_of_ble_eq_true rfl, Nat.le_of_ble_eq_true rfl⟩ (Nat.le_of_ble_eq_true rfl) ?_
  refine gx_aload_n 0 dX3_reads_20 rfl rfl ?_
  refine gx_iconst (v := (0 : Int32)) dX3_reads_21 ic_0 ?_
  obtain ⟨s3, hs3, h⟩ := bnd h
  refine gx_putI dX3_reads_22 hs3 fl_X3_18 fp_X3_3_2 rfl ?_
  refine gx_iconst (v := (0 : Int32)) dX3_reads_25 ic_0 ?_
  refine gx_istore_n (lv' := [(2, .int (0 : Int32)), (0, .ref (Γ.B + pp l0)), (1, .ref (Γ.B + pp l1))]) dX3_reads_26 rfl (Nat.le_of_ble_eq_true rfl) rfl ?_
  exact gx_sub [1, 2, 0] rfl (s_X3_reads_27  N _ _ _ _ _ h)
theorem c_X3_reads {Γ : Cn} {τ : Mm} {N : Nat} {l0 : Nat} {l1 : Nat} {σ : Mm} {o : Int32 × Mm} (h : f_X3_reads N l0 l1 σ = some o) : Ct Γ M_X3_reads yX3_reads 0 τ [.ref (Γ.B + pp l0), .ref (Γ.B + pp l1)] σ (PI o) := ct_of (by decide) rfl (fun _ => by first | rfl | contradiction) (Nat.le_of_ble_eq_true rfl) (s_X3_reads_0  h)
abbrev M_X4_init : Ms := (cX4_init, RX4, 2, none, true, 4, 48, 1)
def f_X4_init (N : Nat) (l0 : Nat) (l1 : Nat) (σ : Mm) : Option Mm :=
  (nA 13 σ (12 : Int32)).bind fun s1 =>
  (pR 4 1 s1 l0 (some (pq (nn σ)))).bind fun s2 =>
  (nA 13 s2 (12 : Int32)).bind fun s3 =>
  (pR 4 2 s3 l0 (some (pq (nn s2)))).bind fun s4 =>
  (nA 13 s4 (12 : Int32)).bind fun s5 =>
  (pR 4 3 s5 l0 (some (pq (nn s4)))).bind fun s6 =>
  (nA 13 s6 (12 : Int32)).bind fun s7 =>
  (pR 4 4 s7 l0 (some (pq (nn s6)))).bind fun s8 =>
  (pI 4 5 s8 l0 (0 : Int32)).bind fun s9 =>
  (pZ 4 6 s9 l0 (0 : Int32)).bind fun s10 =>
  (pI 4 7 s10 l0 (0 : Int32)).bind fun s11 =>
  (pI 4 8 s11 l0 (0 : Int32)).bind fun s12 =>
  (pR 4 0 s12 l0 (some l1)).bind fun s13 =>
  some s13
theorem moi_X4_init : MOI yX4_init M_X4_init 1 := ⟨⟨tw_105, tw_340, ⟨by decide, by decide⟩, by decide +kernel⟩, tw_339, rfl, rfl⟩
set_option maxRecDepth 4000 in
theorem s_X4_init_0 {Γ : Cn} {τ : Mm} {N : Nat} {l0 : Nat} {l1 : Nat} {σ : Mm} {o : Mm} (h : f_X4_init N l0 l1 σ = some o) : Gx Γ M_X4_init 0 τ (PV o) 0 0 0 [(0, .ref (Γ.B + pp l0)), (1, .ref (Γ.B + pp l1))] [] σ := by
  unfold f_X4_init at h
  refine gx_aload_n 0 dX4_init_0 rfl rfl ?_
  refine gx_objInit dX4_init_1 tw_341 tw_oi tw_oc (Nat.le_of_ble_eq_true rfl) (Nat.le_of_ble_eq_true rfl) ?_
  refine gx_aload_n 0 dX4_init_4 rfl rfl ?_
  refine gx_bipush (v := (12 : Int32)) dX4_init_5 ib_12 ?_
  obtain ⟨s1, hs1, h⟩ := bnd h
  refine gx_newI dX4_init_7 hs1 ac_I rfl (by decide) rfl (Nat.le_of_ble_eq_true rfl) (Nat.le_of_ble_eq_true rfl) ?_
  obtain ⟨s2, hs2, h⟩ := bnd h
  refine gx_putR (r := (some (pq (nn σ)))) dX4_init_9 hs2 fl_X4_9 fp_X4_4_1 (Or.inr ⟨_, rfl⟩) (fun _ => rfl) rfl ?_
  refine gx_aload_n 0 dX4_init_12 rfl rfl ?_
  refine gx_bipush (v := (12 : Int32)) dX4_init_13 ib_12 ?_
  obtain ⟨s3, hs3, h⟩ := bnd h
  refine gx_newI dX4_init_15 hs3 ac_I rfl (by decide) rfl (Nat.le_of_ble_eq_true rfl) (Nat.le_of_ble_eq_true rfl) ?_
  obtain ⟨s4, hs4, h⟩ := bnd h
  refine gx_putR (r := (some (pq (nn s2)))) dX4_init_17 hs4 fl_X4_15 fp_X4_4_2 (Or.inr ⟨_, rfl⟩) (fun _ => rfl) rfl ?_
  refine gx_aload_n 0 dX4_init_20 rfl rfl ?_
  refine gx_bipush (v := (12 : Int32)) dX4_init_21 ib_12 ?_
  obtain ⟨s5, hs5, h⟩ := bnd h
  refine gx_newI dX4_init_23 hs5 ac_I rfl (by decide) rfl (Nat.le_of_ble_eq_true rfl) (Nat.le_of_ble_eq_true rfl) ?_
  obtain ⟨s6, hs6, h⟩ := bnd h
  refine gx_putR (r := (some (pq (nn s4)))) dX4_init_25 hs6 fl_X4_18 fp_X4_4_3 (Or.inr ⟨_, rfl⟩) (fun _ => rfl) rfl ?_
  refine gx_aload_n 0 dX4_init_28 rfl rfl ?_
  refine gx_bipush (v := (12 : Int32)) dX4_init_29 ib_12 ?_
  obtain ⟨s7, hs7, h⟩ := bnd h
  refine gx_newI dX4_init_31 hs7 ac_I rfl (by decide) rfl (Nat.le_of_ble_eq_true rfl) (Nat.le_of_ble_eq_true rfl) ?_
  obtain ⟨s8, hs8, h⟩ := bnd h
  refine gx_putR (r := (some (pq (nn s6)))) dX4_init_33 hs8 fl_X4_21 fp_X4_4_4 (Or.inr ⟨_, rfl⟩) (fun _ => rfl) rfl ?_
  refine gx_aload_n 0 dX4_init_36 rfl rfl ?_
  refine gx_iconst (v := (0 : Int32)) dX4_init_37 ic_0 ?_
  obtain ⟨s9, hs9, h⟩ := bnd h
  refine gx_putI dX4_init_38 hs9 fl_X4_24 fp_X4_4_5 rfl ?_
  refine gx_aload_n 0 dX4_init_41 rfl rfl ?_
  refine gx_iconst (v := (0 : Int32)) dX4_init_42 ic_0 ?_
  obtain ⟨s10, hs10, h⟩ := bnd h
  refine gx_putZ dX4_init_43 hs10 fl_X4_28 fp_X4_4_6 rfl ?_
  refine gx_aload_n 0 dX4_init_46 rfl rfl ?_
  refine gx_iconst (v := (0 : Int32)) dX4_init_47 ic_0 ?_
  obtain ⟨s11, hs11, h⟩ := bnd h
  refine gx_putI dX4_init_48 hs11 fl_X4_32 fp_X4_4_7 rfl ?_
  refine gx_aload_n 0 dX4_init_51 rfl rfl ?_
  refine gx_iconst (v := (0 : Int32)) dX4_init_52 ic_0 ?_
  obtain ⟨s12, hs12, h⟩ := bnd h
  refine gx_putI dX4_init_53 hs12 fl_X4_35 fp_X4_4_8 rfl ?_
  refine gx_aload_n 0 dX4_init_56 rfl rfl ?_
  refine gx_aload_n 1 dX4_init_57 rfl rfl ?_
  obtain ⟨s13, hs13, h⟩ := bnd h
  refine gx_putR (r := (some l1)) dX4_init_58 hs13 fl_X4_38 fp_X4_4_0 (Or.inl ⟨_, rfl⟩) (fun _ => rfl) rfl ?_
  have h := Option.some.inj h
  subst h
  exact gx_vret dX4_init_61 rfl (Nat.le_of_ble_eq_true rfl) (Nat.le_of_ble_eq_true rfl) ⟨rfl, rfl⟩
theorem c_X4_init {Γ : Cn} {τ : Mm} {N : Nat} {l0 : Nat} {l1 : Nat} {σ : Mm} {o : Mm} (h : f_X4_init N l0 l1 σ = some o) : Ct Γ M_X4_init yX4_init 0 τ [.ref (Γ.B + pp l0), .ref (Γ.B + pp l1)] σ (PV o) := ct_of (by decide) rfl (fun _ => by first | rfl | contradiction) (Nat.le_of_ble_eq_true rfl) (s_X4_init_0  h)
abbrev M_X4_startFrom : Ms := (cX4_startFrom, RX4, 2, none, false, 0, 0, 1)
def f_X4_startFrom (N : Nat) (l0 : Nat) (l1 : Nat) (σ : Mm) : Option Mm :=
  (gN 7 6 σ l1).bind fun a1 =>
  (gN 4 1 σ l0).bind fun a2 =>
  (cpA 13 σ a1 (0 : Int32) a2 (0 : Int32) (12 : Int32)).bind fun s3 =>
  some s3
theorem mov_X4_startFrom : MOV yX4_startFrom M_X4_startFrom 1 4 0 := ⟨⟨tw_105, tw_861, ⟨by decide, by decide⟩, by decide +kernel⟩, tw_859, tw_860, by decide, ⟨_, rfl, rfl⟩, rfl⟩
set_option maxRecDepth 4000 in
theorem s_X4_startFrom_0 {Γ : Cn} {τ : Mm} {N : Nat} {l0 : Nat} {l1 : Nat} {σ : Mm} {o : Mm} (h : f_X4_startFrom N l0 l1 σ = some o) : Gx Γ M_X4_startFrom 0 τ (PV o) 0 0 0 [(0, .ref (Γ.B + pp l0)), (1, .ref (Γ.B + pp l1))] [] σ := by
  unfold f_X4_startFrom at h
  refine gx_aload_n 1 dX4_startFrom_0 rfl rfl ?_
  obtain ⟨a1, ha1, h⟩ := bnd h
  refine gx_getN dX4_startFrom_1 ha1 fl_X4_42 rfl ?_
  refine gx_iconst (v := (0 : Int32)) dX4_startFrom_4 ic_0 ?_
  refine gx_aload_n 0 dX4_startFrom_5 rfl rfl ?_
  obtain ⟨a2, ha2, h⟩ := bnd h
  refine gx_getN dX4_startFrom_6 ha2 fl_X4_9 rfl ?_
  refine gx_iconst (v := (0 : Int32)) dX4_startFrom_9 ic_0 ?_
  refine gx_bipush (v := (12 : Int32)) dX4_startFrom_10 ib_12 ?_
  obtain ⟨s3, hs3, h⟩ := bnd h
  refine gx_copy (kd := 13) dX4_startFrom_12 hs3 rfl tw_862 tw_ac1 tw_ac2 tw_ac3 rfl (Nat.le_of_ble_eq_true rfl) (by decide) ?_
  have h := Option.some.inj h
  subst h
  exact gx_vret dX4_startFrom_15 rfl (Nat.le_of_ble_eq_true rfl) (Nat.le_of_ble_eq_true rfl) ⟨rfl, rfl⟩
theorem c_X4_startFrom {Γ : Cn} {τ : Mm} {N : Nat} {l0 : Nat} {l1 : Nat} {σ : Mm} {o : Mm} (h : f_X4_startFrom N l0 l1 σ = some o) : Ct Γ M_X4_startFrom yX4_startFrom 0 τ [.ref (Γ.B + pp l0), .ref (Γ.B + pp l1)] σ (PV o) := ct_of (by decide) rfl (fun _ => by first | rfl | contradiction) (Nat.le_of_ble_eq_true rfl) (s_X4_startFrom_0  h)
abbrev M_X4_startFromFound : Ms := (cX4_startFromFound, RX4, 3, none, false, 0, 0, 0)
def f_X4_startFromFound_39 (N : Nat) (r_2 : Nat → Nat → Int32 → Mm → Option Mm) (l0 : Nat) (l1 : Nat) (l2 : Int32) (σ : Mm) : Option Mm :=
  r_2 l0 l1 (l2 + (1 : Int32)) σ
def f_X4_startFromFound_45 (N : Nat) (σ : Mm) : Option Mm :=
  some σ
def f_X4_startFromFound_2 (N : Nat) : Nat → Nat → Nat → Int32 → Mm → Option Mm
  | 0, _, _, _, _ => none
  | n + 1, l0, l1, l2, σ =>
      (gI 7 0 σ l1).bind fun x1 =>
      if x1 ≤ l2 then (
        f_X4_startFromFound_45 N σ) else (
        if (12 : Int32) ≤ l2 then (
          f_X4_startFromFound_45 N σ) else (
          (gI 4 8 σ l0).bind fun x4 =>
          if ((x4 >>> (l2 &&& 31)) &&& (1 : Int32)) = 0 then (
            f_X4_startFromFound_39 N (f_X4_startFromFound_2 N n) l0 l1 l2 σ) else (
            (gN 4 1 σ l0).bind fun a6 =>
            (gN 4 2 σ l0).bind fun a7 =>
            (aI 13 σ a7 l2).bind fun x8 =>
            (sI 13 σ a6 l2 x8).bind fun s9 =>
            f_X4_startFromFound_39 N (f_X4_startFromFound_2 N n) l0 l1 l2 s9)))
def f_X4_startFromFound (N : Nat) (l0 : Nat) (l1 : Nat) (σ : Mm) : Option Mm :=
  f_X4_startFromFound_2 N N l0 l1 (0 : Int32) σ
theorem mov_X4_startFromFound : MOV yX4_startFromFound M_X4_startFromFound 1 4 0 := ⟨⟨tw_105, tw_912, ⟨by decide, by decide⟩, by decide +kernel⟩, tw_910, tw_911, by decide, ⟨_, rfl, rfl⟩, rfl⟩
set_option maxRecDepth 4000 in
theorem s_X4_startFromFound_39 {Γ : Cn} {τ : Mm} {N : Nat} {r_2 : Nat → Nat → Int32 → Mm → Option Mm} (hr_2 : ∀ (l0 : Nat) (l1 : Nat) (l2 : Int32) (σ : Mm) (o : Mm), r_2 l0 l1 l2 σ = some o → Gx Γ M_X4_startFromFound 0 τ (PV o) 0 0 2 [(0, .ref (Γ.B + pp l0)), (1, .ref (Γ.B + pp l1)), (2, .int l2)] [] σ) {l0 : Nat} {l1 : Nat} {l2 : Int32} {σ : Mm} {o : Mm} (h : f_X4_startFromFound_39 N r_2 l0 l1 l2 σ = some o) : Gx Γ M_X4_startFromFound 0 τ (PV o) 0 0 39 [(0, .ref (Γ.B + pp l0)), (1, .ref (Γ.B + pp l1)), (2, .int l2)] [] σ := by
  unfold f_X4_startFromFound_39 at h
  refine gx_iinc (v := (l2 + (1 : Int32))) (lv' := [(2, .int (l2 + (1 : Int32))), (0, .ref (Γ.B + pp l0)), (1, .ref (Γ.B + pp l1))]) 2 dX4_startFromFound_39 rfl (by rw [ic_1]) (Nat.le_of_ble_eq_true rfl) rfl ?_
  refine gx_goto 2 dX4_startFromFound_42 (by decide) ?_
  exact gx_sub [1, 2, 0] rfl (hr_2 _ _ _ _ _ h)
set_option maxRecDepth 4000 in
theorem s_X4_startFromFound_45 {Γ : Cn} {τ : Mm} {N : Nat} {σ : Mm} {o : Mm} (h : f_X4_startFromFound_45 N σ = some o) : Gx Γ M_X4_startFromFound 0 τ (PV o) 0 0 45 [] [] σ := by
  unfold f_X4_startFromFound_45 at h
  have h := Option.some.inj h
  subst h
  exact gx_vret dX4_startFromFound_45 rfl (Nat.le_of_ble_eq_true rfl) (Nat.le_of_ble_eq_true rfl) ⟨rfl, rfl⟩
set_option maxRecDepth 4000 in
theorem s_X4_startFromFound_2 {Γ : Cn} {τ : Mm} {N : Nat} : ∀ (n : Nat) (l0 : Nat) (l1 : Nat) (l2 : Int32) (σ : Mm) (o : Mm), f_X4_startFromFound_2 N n l0 l1 l2 σ = some o → Gx Γ M_X4_startFromFound 0 τ (PV o) 0 0 2 [(0, .ref (Γ.B + pp l0)), (1, .ref (Γ.B + pp l1)), (2, .int l2)] [] σ := by
  intro n
  induction n with
  | zero =>
    intro l0 l1 l2 σ o h
    exact absurd h (by rw [f_X4_startFromFound_2]; exact fun q => nomatch q)
  | succ n ih =>
    intro l0 l1 l2 σ o h
    rw [f_X4_startFromFound_2] at h
    refine gx_iload_n 2 dX4_startFromFound_2 rfl rfl ?_
    refine gx_aload_n 1 dX4_startFromFound_3 rfl rfl ?_
    obtain ⟨x1, hx1, h⟩ := bnd h
    refine gx_getI dX4_startFromFound_4 hx1 fl_X4_53 rfl ?_
    refine gx_icmp_ge 45 dX4_startFromFound_7 (by decide) (fun c1 => ?_) (fun c1 => ?_)
    · rw [if_pos c1] at h
      exact gx_sub [] rfl (s_X4_startFromFound_45  h)
    · rw [if_neg c1] at h
      refine gx_iload_n 2 dX4_startFromFound_10 rfl rfl ?_
      refine gx_bipush (v := (12 : Int32)) dX4_startFromFound_11 ib_12 ?_
      refine gx_icmp_ge 45 dX4_startFromFound_13 (by decide) (fun c2 => ?_) (fun c2 => ?_)
      · rw [if_pos c2] at h
        exact gx_sub [] rfl (s_X4_startFromFound_45  h)
      · rw [if_neg c2] at h
        refine gx_aload_n 0 dX4_startFromFound_16 rfl rfl ?_
        obtain ⟨x4, hx4, h⟩ := bnd h
        refine gx_getI dX4_startFromFound_17 hx4 fl_X4_35 rfl ?_
        refine gx_iload_n 2 dX4_startFromFound_20 rfl rfl ?_
        refine gx_ishr dX4_startFromFound_21 ?_
        refine gx_iconst (v := (1 : Int32)) dX4_startFromFound_22 ic_1 ?_
        refine gx_iand dX4_startFromFound_23 ?_
        refine gx_if_eq 39 dX4_startFromFound_24 (by decide) (fun c4 => ?_) (fun c4 => ?_)
        · rw [if_pos c4] at h
          exact s_X4_startFromFound_39 ih h
        · rw [if_neg c4] at h
          refine gx_aload_n 0 dX4_startFromFound_27 rfl rfl ?_
          obtain ⟨a6, ha6, h⟩ := bnd h
          refine gx_getN dX4_startFromFound_28 ha6 fl_X4_9 rfl ?_
          refine gx_iload_n 2 dX4_startFromFound_31 rfl rfl ?_
          refine gx_aload_n 0 dX4_startFromFound_32 rfl rfl ?_
          obtain ⟨a7, ha7, h⟩ := bnd h
          refine gx_getN dX4_startFromFound_33 ha7 fl_X4_15 rfl ?_
          refine gx_iload_n 2 dX4_startFromFound_36 rfl rfl ?_
          obtain ⟨x8, hx8, h⟩ := bnd h
          refine gx_iald (kd := 13) dX4_startFromFound_37 hx8 rfl rfl ?_
          obtain ⟨s9, hs9, h⟩ := bnd h
          refine gx_iast (kd := 13) dX4_startFromFound_38 hs9 rfl rfl ?_
          exact s_X4_startFromFound_39 ih h
set_option maxRecDepth 4000 in
theorem s_X4_startFromFound_0 {Γ : Cn} {τ : Mm} {N : Nat} {l0 : Nat} {l1 : Nat} {σ : Mm} {o : Mm} (h : f_X4_startFromFound N l0 l1 σ = some o) : Gx Γ M_X4_startFromFound 0 τ (PV o) 0 0 0 [(0, .ref (Γ.B + pp l0)), (1, .ref (Γ.B + pp l1))] [] σ := by
  unfold f_X4_startFromFound at h
  refine gx_iconst (v := (0 : Int32)) dX4_startFromFound_0 ic_0 ?_
  refine gx_istore_n (lv' := [(2, .int (0 : Int32)), (0, .ref (Γ.B + pp l0)), (1, .ref (Γ.B + pp l1))]) dX4_startFromFound_1 rfl (Nat.le_of_ble_eq_true rfl) rfl ?_
  exact gx_sub [1, 2, 0] rfl (s_X4_startFromFound_2  N _ _ _ _ _ h)
theorem c_X4_startFromFound {Γ : Cn} {τ : Mm} {N : Nat} {l0 : Nat} {l1 : Nat} {σ : Mm} {o : Mm} (h : f_X4_startFromFound N l0 l1 σ = some o) : Ct Γ M_X4_startFromFound yX4_startFromFound 0 τ [.ref (Γ.B + pp l0), .ref (Γ.B + pp l1)] σ (PV o) := ct_of (by decide) rfl (fun _ => by first | rfl | contradiction) (Nat.le_of_ble_eq_true rfl) (s_X4_startFromFound_0  h)
abbrev M_X10_bendingCost : Ms := (cX10_bendingCost, RX10, 3, (some .int), false, 0, 0, 2)
def f_X10_bendingCost (N : Nat) (l0 : Int32) (l1 : Int32) (l2 : Int32) (σ : Mm) : Option (Int32 × Mm) :=
  (f_X10_offBetween N l1 l2 σ).bind fun q1 =>
  some (((l0 + (1 : Int32)) * q1.1), q1.2)
theorem mos_X10_bendingCost : MOS yX10_bendingCost M_X10_bendingCost 3 := ⟨⟨tw_96, tw_780, ⟨by decide, by decide⟩, by decide +kernel⟩, tw_779⟩
set_option maxRecDepth 4000 in
theorem s_X10_bendingCost_0 {Γ : Cn} {τ : Mm} {N : Nat} {l0 : Int32} {l1 : Int32} {l2 : Int32} {σ : Mm} {o : Int32 × Mm} (h : f_X10_bendingCost N l0 l1 l2 σ = some o) : Gx Γ M_X10_bendingCost 0 τ (PI o) 0 0 0 [(0, .int l0), (1, .int l1), (2, .int l2)] [] σ := by
  unfold f_X10_bendingCost at h
  refine gx_iload_n 0 dX10_bendingCost_0 rfl rfl ?_
  refine gx_iconst (v := (1 : Int32)) dX10_bendingCost_1 ic_1 ?_
  refine gx_iadd dX10_bendingCost_2 ?_
  refine gx_iload_n 1 dX10_bendingCost_3 rfl rfl ?_
  refine gx_iload_n 2 dX10_bendingCost_4 rfl rfl ?_
  obtain ⟨q1, hq1, h⟩ := bnd h
  refine gx_cSI (As := [.int l1, .int l2]) (st := [.int (l0 + (1 : Int32))]) dX10_bendingCost_5 (c_X10_offBetween hq1) mos_X10_offBetween tw_781 rfl ⟨Nat.le_of_ble_eq_true rfl, Nat.le_of_ble_eq_true rfl⟩ (Nat.le_of_ble_eq_true rfl) ?_
  refine gx_imul dX10_bendingCost_8 ?_
  have h := Option.some.inj h
  subst h
  exact gx_iret dX10_bendingCost_9 rfl (Nat.le_of_ble_eq_true rfl) (Nat.le_of_ble_eq_true rfl) ⟨rfl, rfl⟩
theorem c_X10_bendingCost {Γ : Cn} {τ : Mm} {N : Nat} {l0 : Int32} {l1 : Int32} {l2 : Int32} {σ : Mm} {o : Int32 × Mm} (h : f_X10_bendingCost N l0 l1 l2 σ = some o) : Ct Γ M_X10_bendingCost yX10_bendingCost 0 τ [.int l0, .int l1, .int l2] σ (PI o) := ct_of (by decide) rfl (fun _ => by first | rfl | contradiction) (Nat.le_of_ble_eq_true rfl) (s_X10_bendingCost_0  h)
abbrev M_X4_bendTo : Ms := (cX4_bendTo, RX4, 4, none, false, 0, 0, 3)
def f_X4_bendTo_51 (N : Nat) (σ : Mm) : Option Mm :=
  some σ
def f_X4_bendTo_2 (N : Nat) : Nat → Nat → Nat → Int32 → Int32 → Mm → Option Mm
  | 0, _, _, _, _, _ => none
  | n + 1, l0, l1, l2, l3, σ =>
      (gI 7 0 σ l1).bind fun x1 =>
      if x1 ≤ l3 then (
        f_X4_bendTo_51 N σ) else (
        if (12 : Int32) ≤ l3 then (
          f_X4_bendTo_51 N σ) else (
          (gN 4 2 σ l0).bind fun a4 =>
          (sI 13 σ a4 l3 l2).bind fun s5 =>
          (gN 4 3 s5 l0).bind fun a6 =>
          (gN 7 3 s5 l1).bind fun a7 =>
          (aI 13 s5 a7 l3).bind fun x8 =>
          (gN 4 1 s5 l0).bind fun a9 =>
          (aI 13 s5 a9 l3).bind fun x10 =>
          (f_X10_bendingCost N x8 x10 l2 s5).bind fun q11 =>
          (sI 13 q11.2 a6 l3 q11.1).bind fun s12 =>
          f_X4_bendTo_2 N n l0 l1 l2 (l3 + (1 : Int32)) s12))
def f_X4_bendTo (N : Nat) (l0 : Nat) (l1 : Nat) (l2 : Int32) (σ : Mm) : Option Mm :=
  f_X4_bendTo_2 N N l0 l1 l2 (0 : Int32) σ
theorem mov_X4_bendTo : MOV yX4_bendTo M_X4_bendTo 2 4 0 := ⟨⟨tw_105, tw_866, ⟨by decide, by decide⟩, by decide +kernel⟩, tw_864, tw_865, by decide, ⟨_, rfl, rfl⟩, rfl⟩
set_option maxRecDepth 4000 in
theorem s_X4_bendTo_51 {Γ : Cn} {τ : Mm} {N : Nat} {σ : Mm} {o : Mm} (h : f_X4_bendTo_51 N σ = some o) : Gx Γ M_X4_bendTo 0 τ (PV o) 0 0 51 [] [] σ := by
  unfold f_X4_bendTo_51 at h
  have h := Option.some.inj h
  subst h
  exact gx_vret dX4_bendTo_51 rfl (Nat.le_of_ble_eq_true rfl) (Nat.le_of_ble_eq_true rfl) ⟨rfl, rfl⟩
set_option maxRecDepth 4000 in
theorem s_X4_bendTo_2 {Γ : Cn} {τ : Mm} {N : Nat} : ∀ (n : Nat) (l0 : Nat) (l1 : Nat) (l2 : Int32) (l3 : Int32) (σ : Mm) (o : Mm), f_X4_bendTo_2 N n l0 l1 l2 l3 σ = some o → Gx Γ M_X4_bendTo 0 τ (PV o) 0 0 2 [(0, .ref (Γ.B + pp l0)), (1, .ref (Γ.B + pp l1)), (2, .int l2), (3, .int l3)] [] σ := by
  intro n
  induction n with
  | zero =>
    intro l0 l1 l2 l3 σ o h
    exact absurd h (by rw [f_X4_bendTo_2]; exact fun q => nomatch q)
  | succ n ih =>
    intro l0 l1 l2 l3 σ o h
    rw [f_X4_bendTo_2] at h
    refine gx_iload_n 3 dX4_bendTo_2 rfl rfl ?_
    refine gx_aload_n 1 dX4_bendTo_3 rfl rfl ?_
    obtain ⟨x1, hx1, h⟩ := bnd h
    refine gx_getI dX4_bendTo_4 hx1 fl_X4_53 rfl ?_
    refine gx_icmp_ge 51 dX4_bendTo_7 (by decide) (fun c1 => ?_) (fun c1 => ?_)
    · rw [if_pos c1] at h
      exact gx_sub [] rfl (s_X4_bendTo_51  h)
    · rw [if_neg c1] at h
      refine gx_iload_n 3 dX4_bendTo_10 rfl rfl ?_
      refine gx_bipush (v := (12 : Int32)) dX4_bendTo_11 ib_12 ?_
      refine gx_icmp_ge 51 dX4_bendTo_13 (by decide) (fun c2 => ?_) (fun c2 => ?_)
      · rw [if_pos c2] at h
        exact gx_sub [] rfl (s_X4_bendTo_51  h)
      · rw [if_neg c2] at h
        refine gx_aload_n 0 dX4_bendTo_16 rfl rfl ?_
        obtain ⟨a4, ha4, h⟩ := bnd h
        refine gx_getN dX4_bendTo_17 ha4 fl_X4_15 rfl ?_
        refine gx_iload_n 3 dX4_bendTo_20 rfl rfl ?_
        refine gx_iload_n 2 dX4_bendTo_21 rfl rfl ?_
        obtain ⟨s5, hs5, h⟩ := bnd h
        refine gx_iast (kd := 13) dX4_bendTo_22 hs5 rfl rfl ?_
        refine gx_aload_n 0 dX4_bendTo_23 rfl rfl ?_
        obtain ⟨a6, ha6, h⟩ := bnd h
        refine gx_getN dX4_bendTo_24 ha6 fl_X4_18 rfl ?_
        refine gx_iload_n 3 dX4_bendTo_27 rfl rfl ?_
        refine gx_aload_n 1 dX4_bendTo_28 rfl rfl ?_
        obtain ⟨a7, ha7, h⟩ := bnd h
        refine gx_getN dX4_bendTo_29 ha7 fl_X4_56 rfl ?_
        refine gx_iload_n 3 dX4_bendTo_32 rfl rfl ?_
        obtain ⟨x8, hx8, h⟩ := bnd h
        refine gx_iald (kd := 13) dX4_bendTo_33 hx8 rfl rfl ?_
        refine gx_aload_n 0 dX4_bendTo_34 rfl rfl ?_
        obtain ⟨a9, ha9, h⟩ := bnd h
        refine gx_getN dX4_bendTo_35 ha9 fl_X4_9 rfl ?_
        refine gx_iload_n 3 dX4_bendTo_38 rfl rfl ?_
        obtain ⟨x10, hx10, h⟩ := bnd h
        refine gx_iald (kd := 13) dX4_bendTo_39 hx10 rfl rfl ?_
        refine gx_iload_n 2 dX4_bendTo_40 rfl rfl ?_
        obtain ⟨q11, hq11, h⟩ := bnd h
        refine gx_cSNI (As := [.int x8, .int x10, .int l2]) (st := [.int l3, .ref (Γ.B + pp a6)]) dX4_bendTo_41 (c_X10_bendingCost hq11) mos_X10_bendingCost (by decide) rfl ⟨Nat.le_of_ble_eq_true rfl, Nat.le_of_ble_eq_true rfl⟩ (Nat.le_of_ble_eq_true rfl) ?_
        obtain ⟨s12, hs12, h⟩ := bnd h
        refine gx_iast (kd := 13) dX4_bendTo_44 hs12 rfl rfl ?_
        refine gx_iinc (v := (l3 + (1 : Int32))) (lv' := [(3, .int (l3 + (1 : Int32))), (0, .ref (Γ.B + pp l0)), (1, .ref (Γ.B + pp l1)), (2, .int l2)]) 3 dX4_bendTo_45 rfl (by rw [ic_1]) (Nat.le_of_ble_eq_true rfl) rfl ?_
        refine gx_goto 2 dX4_bendTo_48 (by decide) ?_
        exact gx_sub [1, 2, 3, 0] rfl (ih _ _ _ _ _ _ h)
set_option maxRecDepth 4000 in
theorem s_X4_bendTo_0 {Γ : Cn} {τ : Mm} {N : Nat} {l0 : Nat} {l1 : Nat} {l2 : Int32} {σ : Mm} {o : Mm} (h : f_X4_bendTo N l0 l1 l2 σ = some o) : Gx Γ M_X4_bendTo 0 τ (PV o) 0 0 0 [(0, .ref (Γ.B + pp l0)), (1, .ref (Γ.B + pp l1)), (2, .int l2)] [] σ := by
  unfold f_X4_bendTo at h
  refine gx_iconst (v := (0 : Int32)) dX4_bendTo_0 ic_0 ?_
  refine gx_istore_n (lv' := [(3, .int (0 : Int32)), (0, .ref (Γ.B + pp l0)), (1, .ref (Γ.B + pp l1)), (2, .int l2)]) dX4_bendTo_1 rfl (Nat.le_of_ble_eq_true rfl) rfl ?_
  exact gx_sub [1, 2, 3, 0] rfl (s_X4_bendTo_2  N _ _ _ _ _ _ h)
theorem c_X4_bendTo {Γ : Cn} {τ : Mm} {N : Nat} {l0 : Nat} {l1 : Nat} {l2 : Int32} {σ : Mm} {o : Mm} (h : f_X4_bendTo N l0 l1 l2 σ = some o) : Ct Γ M_X4_bendTo yX4_bendTo 0 τ [.ref (Γ.B + pp l0), .ref (Γ.B + pp l1), .int l2] σ (PV o) := ct_of (by decide) rfl (fun _ => by first | rfl | contradiction) (Nat.le_of_ble_eq_true rfl) (s_X4_bendTo_0  h)
abbrev M_X4_bendEachForOne : Ms := (cX4_bendEachForOne, RX4, 4, none, false, 0, 0, 0)
def f_X4_bendEachForOne_36 (N : Nat) (σ : Mm) : Option Mm :=
  some σ
def f_X4_bendEachForOne_2 (N : Nat) : Nat → Nat → Nat → Int32 → Int32 → Mm → Option Mm
  | 0, _, _, _, _, _ => none
  | n + 1, l0, l1, l2, l3, σ =>
      (gI 7 0 σ l1).bind fun x1 =>
      if x1 ≤ l3 then (
        f_X4_bendEachForOne_36 N σ) else (
        if (12 : Int32) ≤ l3 then (
          f_X4_bendEachForOne_36 N σ) else (
          (gN 4 2 σ l0).bind fun a4 =>
          (sI 13 σ a4 l3 l2).bind fun s5 =>
          (gN 4 3 s5 l0).bind fun a6 =>
          (sI 13 s5 a6 l3 (1 : Int32)).bind fun s7 =>
          f_X4_bendEachForOne_2 N n l0 l1 l2 (l3 + (1 : Int32)) s7))
def f_X4_bendEachForOne (N : Nat) (l0 : Nat) (l1 : Nat) (l2 : Int32) (σ : Mm) : Option Mm :=
  f_X4_bendEachForOne_2 N N l0 l1 l2 (0 : Int32) σ
theorem mov_X4_bendEachForOne : MOV yX4_bendEachForOne M_X4_bendEachForOne 2 4 0 := ⟨⟨tw_105, tw_920, ⟨by decide, by decide⟩, by decide +kernel⟩, tw_918, tw_919, by decide, ⟨_, rfl, rfl⟩, rfl⟩
set_option maxRecDepth 4000 in
theorem s_X4_bendEachForOne_36 {Γ : Cn} {τ : Mm} {N : Nat} {σ : Mm} {o : Mm} (h : f_X4_bendEachForOne_36 N σ = some o) : Gx Γ M_X4_bendEachForOne 0 τ (PV o) 0 0 36 [] [] σ := by
  unfold f_X4_bendEachForOne_36 at h
  have h := Option.some.inj h
  subst h
  exact gx_vret dX4_bendEachForOne_36 rfl (Nat.le_of_ble_eq_true rfl) (Nat.le_of_ble_eq_true rfl) ⟨rfl, rfl⟩
set_option maxRecDepth 4000 in
theorem s_X4_bendEachForOne_2 {Γ : Cn} {τ : Mm} {N : Nat} : ∀ (n : Nat) (l0 : Nat) (l1 : Nat) (l2 : Int32) (l3 : Int32) (σ : Mm) (o : Mm), f_X4_bendEachForOne_2 N n l0 l1 l2 l3 σ = some o → Gx Γ M_X4_bendEachForOne 0 τ (PV o) 0 0 2 [(0, .ref (Γ.B + pp l0)), (1, .ref (Γ.B + pp l1)), (2, .int l2), (3, .int l3)] [] σ := by
  intro n
  induction n with
  | zero =>
    intro l0 l1 l2 l3 σ o h
    exact absurd h (by rw [f_X4_bendEachForOne_2]; exact fun q => nomatch q)
  | succ n ih =>
    intro l0 l1 l2 l3 σ o h
    rw [f_X4_bendEachForOne_2] at h
    refine gx_iload_n 3 dX4_bendEachForOne_2 rfl rfl ?_
    refine gx_aload_n 1 dX4_bendEachForOne_3 rfl rfl ?_
    obtain ⟨x1, hx1, h⟩ := bnd h
    refine gx_getI dX4_bendEachForOne_4 hx1 fl_X4_53 rfl ?_
    refine gx_icmp_ge 36 dX4_bendEachForOne_7 (by decide) (fun c1 => ?_) (fun c1 => ?_)
    · rw [if_pos c1] at h
      exact gx_sub [] rfl (s_X4_bendEachForOne_36  h)
    · rw [if_neg c1] at h
      refine gx_iload_n 3 dX4_bendEachForOne_10 rfl rfl ?_
      refine gx_bipush (v := (12 : Int32)) dX4_bendEachForOne_11 ib_12 ?_
      refine gx_icmp_ge 36 dX4_bendEachForOne_13 (by decide) (fun c2 => ?_) (fun c2 => ?_)
      · rw [if_pos c2] at h
        exact gx_sub [] rfl (s_X4_bendEachForOne_36  h)
      · rw [if_neg c2] at h
        refine gx_aload_n 0 dX4_bendEachForOne_16 rfl rfl ?_
        obtain ⟨a4, ha4, h⟩ := bnd h
        refine gx_getN dX4_bendEachForOne_17 ha4 fl_X4_15 rfl ?_
        refine gx_iload_n 3 dX4_bendEachForOne_20 rfl rfl ?_
        refine gx_iload_n 2 dX4_bendEachForOne_21 rfl rfl ?_
        obtain ⟨s5, hs5, h⟩ := bnd h
        refine gx_iast (kd := 13) dX4_bendEachForOne_22 hs5 rfl rfl ?_
        refine gx_aload_n 0 dX4_bendEachForOne_23 rfl rfl ?_
        obtain ⟨a6, ha6, h⟩ := bnd h
        refine gx_getN dX4_bendEachForOne_24 ha6 fl_X4_18 rfl ?_
        refine gx_iload_n 3 dX4_bendEachForOne_27 rfl rfl ?_
        refine gx_iconst (v := (1 : Int32)) dX4_bendEachForOne_28 ic_1 ?_
        obtain ⟨s7, hs7, h⟩ := bnd h
        refine gx_iast (kd := 13) dX4_bendEachForOne_29 hs7 rfl rfl ?_
        refine gx_iinc (v := (l3 + (1 : Int32))) (lv' := [(3, .int (l3 + (1 : Int32))), (0, .ref (Γ.B + pp l0)), (1, .ref (Γ.B + pp l1)), (2, .int l2)]) 3 dX4_bendEachForOne_30 rfl (by rw [ic_1]) (Nat.le_of_ble_eq_true rfl) rfl ?_
        refine gx_goto 2 dX4_bendEachForOne_33 (by decide) ?_
        exact gx_sub [1, 2, 3, 0] rfl (ih _ _ _ _ _ _ h)
set_option maxRecDepth 4000 in
theorem s_X4_bendEachForOne_0 {Γ : Cn} {τ : Mm} {N : Nat} {l0 : Nat} {l1 : Nat} {l2 : Int32} {σ : Mm} {o : Mm} (h : f_X4_bendEachForOne N l0 l1 l2 σ = some o) : Gx Γ M_X4_bendEachForOne 0 τ (PV o) 0 0 0 [(0, .ref (Γ.B + pp l0)), (1, .ref (Γ.B + pp l1)), (2, .int l2)] [] σ := by
  unfold f_X4_bendEachForOne at h
  refine gx_iconst (v := (0 : Int32)) dX4_bendEachForOne_0 ic_0 ?_
  refine gx_istore_n (lv' := [(3, .int (0 : Int32)), (0, .ref (Γ.B + pp l0)), (1, .ref (Γ.B + pp l1)), (2, .int l2)]) dX4_bendEachForOne_1 rfl (Nat.le_of_ble_eq_true rfl) rfl ?_
  exact gx_sub [1, 2, 3, 0] rfl (s_X4_bendEachForOne_2  N _ _ _ _ _ _ h)
theorem c_X4_bendEachForOne {Γ : Cn} {τ : Mm} {N : Nat} {l0 : Nat} {l1 : Nat} {l2 : Int32} {σ : Mm} {o : Mm} (h : f_X4_bendEachForOne N l0 l1 l2 σ = some o) : Ct Γ M_X4_bendEachForOne yX4_bendEachForOne 0 τ [.ref (Γ.B + pp l0), .ref (Γ.B + pp l1), .int l2] σ (PV o) := ct_of (by decide) rfl (fun _ => by first | rfl | contradiction) (Nat.le_of_ble_eq_true rfl) (s_X4_bendEachForOne_0  h)
abbrev M_X4_told : Ms := (cX4_told, RX4, 2, (some .int), false, 0, 0, 0)
def f_X4_told_27 (N : Nat) (t0 : Int32) (σ : Mm) : Option (Int32 × Mm) :=
  some (t0, σ)
def f_X4_told (N : Nat) (l0 : Nat) (l1 : Int32) (σ : Mm) : Option (Int32 × Mm) :=
  (gI 4 6 σ l0).bind fun x1 =>
  if x1 = 0 then (
    f_X4_told_27 N (-2 : Int32) σ) else (
    if l1 = 0 then (
      (gI 4 7 σ l0).bind fun x5 =>
      f_X4_told_27 N x5 σ) else (
      (gI 4 8 σ l0).bind fun x4 =>
      f_X4_told_27 N x4 σ))
theorem mov_X4_told : MOV yX4_told M_X4_told 1 4 0 := ⟨⟨tw_105, tw_904, ⟨by decide, by decide⟩, by decide +kernel⟩, tw_902, tw_903, by decide, ⟨_, rfl, rfl⟩, rfl⟩
set_option maxRecDepth 4000 in
theorem s_X4_told_27 {Γ : Cn} {τ : Mm} {N : Nat} {t0 : Int32} {σ : Mm} {o : Int32 × Mm} (h : f_X4_told_27 N t0 σ = some o) : Gx Γ M_X4_told 0 τ (PI o) 0 0 27 [] [.int t0] σ := by
  unfold f_X4_told_27 at h
  have h := Option.some.inj h
  subst h
  exact gx_iret dX4_told_27 rfl (Nat.le_of_ble_eq_true rfl) (Nat.le_of_ble_eq_true rfl) ⟨rfl, rfl⟩
set_option maxRecDepth 4000 in
theorem s_X4_told_0 {Γ : Cn} {τ : Mm} {N : Nat} {l0 : Nat} {l1 : Int32} {σ : Mm} {o : Int32 × Mm} (h : f_X4_told N l0 l1 σ = some o) : Gx Γ M_X4_told 0 τ (PI o) 0 0 0 [(0, .ref (Γ.B + pp l0)), (1, .int l1)] [] σ := by
  unfold f_X4_told at h
  refine gx_aload_n 0 dX4_told_0 rfl rfl ?_
  obtain ⟨x1, hx1, h⟩ := bnd h
  refine gx_getI dX4_told_1 hx1 fl_X4_28 rfl ?_
  refine gx_if_ne 12 dX4_told_4 (by decide) (fun c1 => ?_) (fun c1 => ?_)
  · rw [if_neg c1] at h
    refine gx_iload_n 1 dX4_told_12 rfl rfl ?_
    refine gx_if_ne 23 dX4_told_13 (by decide) (fun c2 => ?_) (fun c2 => ?_)
    · rw [if_neg c2] at h
      refine gx_aload_n 0 dX4_told_23 rfl rfl ?_
      obtain ⟨x4, hx4, h⟩ := bnd h
      refine gx_getI dX4_told_24 hx4 fl_X4_35 rfl ?_
      exact gx_sub [] rfl (s_X4_told_27  h)
    · rw [if_pos c2] at h
      refine gx_aload_n 0 dX4_told_16 rfl rfl ?_
      obtain ⟨x5, hx5, h⟩ := bnd h
      refine gx_getI dX4_told_17 hx5 fl_X4_32 rfl ?_
      refine gx_goto 27 dX4_told_20 (by decide) ?_
      exact gx_sub [] rfl (s_X4_told_27  h)
  · rw [if_pos c1] at h
    refine gx_bipush (v := (-2 : Int32)) dX4_told_7 ib_m2 ?_
    refine gx_goto 27 dX4_told_9 (by decide) ?_
    exact gx_sub [] rfl (s_X4_told_27  h)
theorem c_X4_told {Γ : Cn} {τ : Mm} {N : Nat} {l0 : Nat} {l1 : Int32} {σ : Mm} {o : Int32 × Mm} (h : f_X4_told N l0 l1 σ = some o) : Ct Γ M_X4_told yX4_told 0 τ [.ref (Γ.B + pp l0), .int l1] σ (PI o) := ct_of (by decide) rfl (fun _ => by first | rfl | contradiction) (Nat.le_of_ble_eq_true rfl) (s_X4_told_0  h)
abbrev M_X4_addFree : Ms := (cX4_addFree, RX4, 2, none, false, 0, 0, 1)
def f_X4_addFree_32 (N : Nat) (σ : Mm) : Option Mm :=
  some σ
def f_X4_addFree (N : Nat) (l0 : Nat) (l1 : Int32) (σ : Mm) : Option Mm :=
  (gI 4 5 σ l0).bind fun x1 =>
  (f_X10_isBelow N x1 (12 : Int32) σ).bind fun q2 =>
  if q2.1 = 0 then (
    f_X4_addFree_32 N q2.2) else (
    (gN 4 4 q2.2 l0).bind fun a4 =>
    (gI 4 5 q2.2 l0).bind fun x5 =>
    (sI 13 q2.2 a4 x5 l1).bind fun s6 =>
    (gI 4 5 s6 l0).bind fun x7 =>
    (pI 4 5 s6 l0 (x7 + (1 : Int32))).bind fun s8 =>
    f_X4_addFree_32 N s8)
theorem mov_X4_addFree : MOV yX4_addFree M_X4_addFree 1 4 0 := ⟨⟨tw_105, tw_879, ⟨by decide, by decide⟩, by decide +kernel⟩, tw_878, tw_29, by decide, ⟨_, rfl, rfl⟩, rfl⟩
set_option maxRecDepth 4000 in
theorem s_X4_addFree_32 {Γ : Cn} {τ : Mm} {N : Nat} {σ : Mm} {o : Mm} (h : f_X4_addFree_32 N σ = some o) : Gx Γ M_X4_addFree 0 τ (PV o) 0 0 32 [] [] σ := by
  unfold f_X4_addFree_32 at h
  have h := Option.some.inj h
  subst h
  exact gx_vret dX4_addFree_32 rfl (Nat.le_of_ble_eq_true rfl) (Nat.le_of_ble_eq_true rfl) ⟨rfl, rfl⟩
set_option maxRecDepth 4000 in
theorem s_X4_addFree_0 {Γ : Cn} {τ : Mm} {N : Nat} {l0 : Nat} {l1 : Int32} {σ : Mm} {o : Mm} (h : f_X4_addFree N l0 l1 σ = some o) : Gx Γ M_X4_addFree 0 τ (PV o) 0 0 0 [(0, .ref (Γ.B + pp l0)), (1, .int l1)] [] σ := by
  unfold f_X4_addFree at h
  refine gx_aload_n 0 dX4_addFree_0 rfl rfl ?_
  obtain ⟨x1, hx1, h⟩ := bnd h
  refine gx_getI dX4_addFree_1 hx1 fl_X4_24 rfl ?_
  refine gx_bipush (v := (12 : Int32)) dX4_addFree_4 ib_12 ?_
  obtain ⟨q2, hq2, h⟩ := bnd h
  refine gx_cSNI (As := [.int x1, .int (12 : Int32)]) (st := []) dX4_addFree_6 (c_X10_isBelow hq2) mos_X10_isBelow (by decide) rfl ⟨Nat.le_of_ble_eq_true rfl, Nat.le_of_ble_eq_true rfl⟩ (Nat.le_of_ble_eq_true rfl) ?_
  refine gx_if_eq 32 dX4_addFree_9 (by decide) (fun c2 => ?_) (fun c2 => ?_)
  · rw [if_pos c2] at h
    exact gx_sub [] rfl (s_X4_addFree_32  h)
  · rw [if_neg c2] at h
    refine gx_aload_n 0 dX4_addFree_12 rfl rfl ?_
    obtain ⟨a4, ha4, h⟩ := bnd h
    refine gx_getN dX4_addFree_13 ha4 fl_X4_21 rfl ?_
    refine gx_aload_n 0 dX4_addFree_16 rfl rfl ?_
    obtain ⟨x5, hx5, h⟩ := bnd h
    refine gx_getI dX4_addFree_17 hx5 fl_X4_24 rfl ?_
    refine gx_iload_n 1 dX4_addFree_20 rfl rfl ?_
    obtain ⟨s6, hs6, h⟩ := bnd h
    refine gx_iast (kd := 13) dX4_addFree_21 hs6 rfl rfl ?_
    refine gx_aload_n 0 dX4_addFree_22 rfl rfl ?_
    refine gx_dup dX4_addFree_23 rfl ?_
    obtain ⟨x7, hx7, h⟩ := bnd h
    refine gx_getI dX4_addFree_24 hx7 fl_X4_24 rfl ?_
    refine gx_iconst (v := (1 : Int32)) dX4_addFree_27 ic_1 ?_
    refine gx_iadd dX4_addFree_28 ?_
    obtain ⟨s8, hs8, h⟩ := bnd h
    refine gx_putI dX4_addFree_29 hs8 fl_X4_24 fp_X4_4_5 rfl ?_
    exact gx_sub [] rfl (s_X4_addFree_32  h)
theorem c_X4_addFree {Γ : Cn} {τ : Mm} {N : Nat} {l0 : Nat} {l1 : Int32} {σ : Mm} {o : Mm} (h : f_X4_addFree N l0 l1 σ = some o) : Ct Γ M_X4_addFree yX4_addFree 0 τ [.ref (Γ.B + pp l0), .int l1] σ (PV o) := ct_of (by decide) rfl (fun _ => by first | rfl | contradiction) (Nat.le_of_ble_eq_true rfl) (s_X4_addFree_0  h)
