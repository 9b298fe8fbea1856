abbrev M_X0_evening : Ms := (cX0_evening, RX0, 4, (some .int), false, 0, 0, 3)
def f_X0_evening_31 (N : Nat) (l2 : Int32) (σ : Mm) : Option (Int32 × Mm) :=
  some (l2, σ)
def f_X0_evening_87 (N : Nat) (l0 : Nat) (l3 : Int32) (σ : Mm) : Option (Int32 × Mm) :=
  (gN 0 4 σ l0).bind fun a1 =>
  (aI 13 σ a1 l3).bind fun x2 =>
  some (x2, σ)
def f_X0_evening (N : Nat) (l0 : Nat) (l1 : Int32) (l2 : Int32) (σ : Mm) : Option (Int32 × Mm) :=
  (gI 0 8 σ l0).bind fun x1 =>
  if ((((l1 * (8 : Int32)) + l2) * (8 : Int32)) + (x1 &&& (7 : Int32))) < 0 then (
    f_X0_evening_31 N l2 σ) else (
    (gN 0 4 σ l0).bind fun a3 =>
    (ln 0 σ a3).bind fun x4 =>
    if ((((l1 * (8 : Int32)) + l2) * (8 : Int32)) + (x1 &&& (7 : Int32))) < x4 then (
      (gN 0 4 σ l0).bind fun a6 =>
      (aI 13 σ a6 ((((l1 * (8 : Int32)) + l2) * (8 : Int32)) + (x1 &&& (7 : Int32)))).bind fun x7 =>
      if 0 ≤ x7 then (
        f_X0_evening_87 N l0 ((((l1 * (8 : Int32)) + l2) * (8 : Int32)) + (x1 &&& (7 : Int32))) σ) else (
        (gN 0 1 σ l0).bind fun a9 =>
        (gN 0 0 σ l0).bind fun a10 =>
        (gI 0 8 σ l0).bind fun x11 =>
        (gN 0 0 σ l0).bind fun a12 =>
        (gI 7 11 σ a12).bind fun x13 =>
        (ob 9 σ a9).bind fun _ =>
        (f_X9_stand N a9 a10 l1 x11 x13 σ).bind fun q14 =>
        (gN 0 4 q14 l0).bind fun a15 =>
        (gN 0 1 q14 l0).bind fun a16 =>
        (gN 0 5 q14 l0).bind fun a17 =>
        (gI 0 6 q14 l0).bind fun x18 =>
        (ob 9 q14 a16).bind fun _ =>
        (f_X9_turned N a16 a17 l2 x18 q14).bind fun q19 =>
        (sI 13 q19.2 a15 ((((l1 * (8 : Int32)) + l2) * (8 : Int32)) + (x1 &&& (7 : Int32))) q19.1).bind fun s20 =>
        f_X0_evening_87 N l0 ((((l1 * (8 : Int32)) + l2) * (8 : Int32)) + (x1 &&& (7 : Int32))) s20)) else (
      f_X0_evening_31 N l2 σ))
theorem mov_X0_evening : MOV yX0_evening M_X0_evening 2 0 0 := ⟨⟨tw_106, tw_1005, ⟨by decide, by decide⟩, by decide +kernel⟩, tw_1004, tw_35, by decide, ⟨_, rfl, rfl⟩, rfl⟩
set_option maxRecDepth 4000 in
theorem s_X0_evening_31 {Γ : Cn} {τ : Mm} {N : Nat} {l2 : Int32} {σ : Mm} {o : Int32 × Mm} (h : f_X0_evening_31 N l2 σ = some o) : Gx Γ M_X0_evening 0 τ (PI o) 0 0 31 [(2, .int l2)] [] σ := by
  unfold f_X0_evening_31 at h
  refine gx_iload_n 0 dX0_evening_31 rfl rfl ?_
  have h := Option.some.inj h
  subst h
  exact gx_iret dX0_evening_32 rfl (Nat.le_of_ble_eq_true rfl) (Nat.le_of_ble_eq_true rfl) ⟨rfl, rfl⟩
set_option maxRecDepth 4000 in
theorem s_X0_evening_87 {Γ : Cn} {τ : Mm} {N : Nat} {l0 : Nat} {l3 : Int32} {σ : Mm} {o : Int32 × Mm} (h : f_X0_evening_87 N l0 l3 σ = some o) : Gx Γ M_X0_evening 0 τ (PI o) 0 0 87 [(0, .ref (Γ.B + pp l0)), (3, .int l3)] [] σ := by
  unfold f_X0_evening_87 at h
  refine gx_aload_n 0 dX0_evening_87 rfl rfl ?_
  obtain ⟨a1, ha1, h⟩ := bnd h
  refine gx_getN dX0_evening_88 ha1 fl_X0_15 rfl ?_
  refine gx_iload_n 1 dX0_evening_91 rfl rfl ?_
  obtain ⟨x2, hx2, h⟩ := bnd h
  refine gx_iald (kd := 13) dX0_evening_92 hx2 rfl rfl ?_
  have h := Option.some.inj h
  subst h
  exact gx_iret dX0_evening_93 rfl (Nat.le_of_ble_eq_true rfl) (Nat.le_of_ble_eq_true rfl) ⟨rfl, rfl⟩
set_option maxRecDepth 4000 in
theorem s_X0_evening_0 {Γ : Cn} {τ : Mm} {N : Nat} {l0 : Nat} {l1 : Int32} {l2 : Int32} {σ : Mm} {o : Int32 × Mm} (h : f_X0_evening N l0 l1 l2 σ = some o) : Gx Γ M_X0_evening 0 τ (PI o) 0 0 0 [(0, .ref (Γ.B + pp l0)), (1, .int l1), (2, .int l2)] [] σ := by
  unfold f_X0_evening at h
  refine gx_iload_n 1 dX0_evening_0 rfl rfl ?_
  refine gx_bipush (v := (8 : Int32)) dX0_evening_1 ib_8 ?_
  refine gx_imul dX0_evening_3 ?_
  refine gx_iload_n 2 dX0_evening_4 rfl rfl ?_
  refine gx_iadd dX0_evening_5 ?_
  refine gx_bipush (v := (8 : Int32)) dX0_evening_6 ib_8 ?_
  refine gx_imul dX0_evening_8 ?_
  refine gx_aload_n 0 dX0_evening_9 rfl rfl ?_
  obtain ⟨x1, hx1, h⟩ := bnd h
  refine gx_getI dX0_evening_10 hx1 fl_X0_29 rfl ?_
  refine gx_bipush (v := (7 : Int32)) dX0_evening_13 ib_7 ?_
  refine gx_iand dX0_evening_15 ?_
  refine gx_iadd dX0_evening_16 ?_
  refine gx_istore_n (lv' := [(3, .int ((((l1 * (8 : Int32)) + l2) * (8 : Int32)) + (x1 &&& (7 : Int32)))), (0, .ref (Γ.B + pp l0)), (1, .int l1), (2, .int l2)]) dX0_evening_17 rfl (Nat.le_of_ble_eq_true rfl) rfl ?_
  refine gx_iload_n 0 dX0_evening_18 rfl rfl ?_
  refine gx_if_lt 31 dX0_evening_19 (by decide) (fun c1 => ?_) (fun c1 => ?_)
  · rw [if_pos c1] at h
    exact gx_sub [3] rfl (s_X0_evening_31  h)
  · rw [if_neg c1] at h
    refine gx_iload_n 0 dX0_evening_22 rfl rfl ?_
    refine gx_aload_n 1 dX0_evening_23 rfl rfl ?_
    obtain ⟨a3, ha3, h⟩ := bnd h
    refine gx_getN dX0_evening_24 ha3 fl_X0_15 rfl ?_
    obtain ⟨x4, hx4, h⟩ := bnd h
    refine gx_alen dX0_evening_27 hx4 ?_
    refine gx_icmp_lt 33 dX0_evening_28 (by decide) (fun c4 => ?_) (fun c4 => ?_)
    · rw [if_pos c4] at h
      refine gx_aload_n 1 dX0_evening_33 rfl rfl ?_
      obtain ⟨a6, ha6, h⟩ := bnd h
      refine gx_getN dX0_evening_34 ha6 fl_X0_15 rfl ?_
      refine gx_iload_n 0 dX0_evening_37 rfl rfl ?_
      obtain ⟨x7, hx7, h⟩ := bnd h
      refine gx_iald (kd := 13) dX0_evening_38 hx7 rfl rfl ?_
      refine gx_if_ge 87 dX0_evening_39 (by decide) (fun c7 => ?_) (fun c7 => ?_)
      · rw [if_pos c7] at h
        exact gx_sub [1, 0] rfl (s_X0_evening_87  h)
      · rw [if_neg c7] at h
        refine gx_aload_n 1 dX0_evening_42 rfl rfl ?_
        obtain ⟨a9, ha9, h⟩ := bnd h
        refine gx_getN dX0_evening_43 ha9 fl_X0_36 rfl ?_
        refine gx_aload_n 1 dX0_evening_46 rfl rfl ?_
        obtain ⟨a10, ha10, h⟩ := bnd h
        refine gx_getN dX0_evening_47 ha10 fl_X0_32 rfl ?_
        refine gx_iload_n 2 dX0_evening_50 rfl rfl ?_
        refine gx_aload_n 1 dX0_evening_51 rfl rfl ?_
        obtain ⟨x11, hx11, h⟩ := bnd h
        refine gx_getI dX0_evening_52 hx11 fl_X0_29 rfl ?_
        refine gx_aload_n 1 dX0_evening_55 rfl rfl ?_
        obtain ⟨a12, ha12, h⟩ := bnd h
        refine gx_getN dX0_evening_56 ha12 fl_X0_32 rfl ?_
        obtain ⟨x13, hx13, h⟩ := bnd h
        refine gx_getI dX0_evening_59 hx13 fl_X0_77 rfl ?_
        obtain ⟨_, hobq14, h⟩ := bnd h
        obtain ⟨q14, hq14, h⟩ := bnd h
        refine gx_cVV (As := [.ref (Γ.B + pp a10), .int l1, .int x11, .int x13]) (st := []) (o := a9) dX0_evening_62 (c_X9_stand hq14) mov_X9_stand tw_1006 hobq14 rfl ⟨Nat.le_of_ble_eq_true rfl, Nat.le_of_ble_eq_true rfl⟩ (Nat.le_of_ble_eq_true rfl) ?_
        refine gx_aload_n 1 dX0_evening_65 rfl rfl ?_
        obtain ⟨a15, ha15, h⟩ := bnd h
        refine gx_getN dX0_evening_66 ha15 fl_X0_15 rfl ?_
        refine gx_iload_n 0 dX0_evening_69 rfl rfl ?_
        refine gx_aload_n 1 dX0_evening_70 rfl rfl ?_
        obtain ⟨a16, ha16, h⟩ := bnd h
        refine gx_getN dX0_evening_71 ha16 fl_X0_36 rfl ?_
        refine gx_aload_n 1 dX0_evening_74 rfl rfl ?_
        obtain ⟨a17, ha17, h⟩ := bnd h
        refine gx_getN dX0_evening_75 ha17 fl_X0_18 rfl ?_
        refine gx_iload_n 3 dX0_evening_78 rfl rfl ?_
        refine gx_aload_n 1 dX0_evening_79 rfl rfl ?_
        obtain ⟨x18, hx18, h⟩ := bnd h
        refine gx_getI dX0_evening_80 hx18 fl_X0_22 rfl ?_
        obtain ⟨_, hobq19, h⟩ := bnd h
        obtain ⟨q19, hq19, h⟩ := bnd h
        refine gx_cVI (As := [.ref (Γ.B + pp a17), .int l2, .int x18]) (st := [.int ((((l1 * (8 : Int32)) + l2) * (8 : Int32)) + (x1 &&& (7 : Int32))), .ref (Γ.B + pp a15)]) (o := a16) dX0_evening_83 (c_X9_turned hq19) mov_X9_turned tw_1007 hobq19 rfl ⟨Nat.le_of_ble_eq_true rfl, Nat.le_of_ble_eq_true rfl⟩ (Nat.le_of_ble_eq_true rfl) ?_
        obtain ⟨s20, hs20, h⟩ := bnd h
        refine gx_iast (kd := 13) dX0_evening_86 hs20 rfl rfl ?_
        exact gx_sub [1, 0] rfl (s_X0_evening_87  h)
    · rw [if_neg c4] at h
      exact gx_sub [3] rfl (s_X0_evening_31  h)
theorem c_X0_evening {Γ : Cn} {τ : Mm} {N : Nat} {l0 : Nat} {l1 : Int32} {l2 : Int32} {σ : Mm} {o : Int32 × Mm} (h : f_X0_evening N l0 l1 l2 σ = some o) : Ct Γ M_X0_evening yX0_evening 0 τ [.ref (Γ.B + pp l0), .int l1, .int l2] σ (PI o) := ct_of (by decide) rfl (fun _ => by first | rfl | contradiction) (Nat.le_of_ble_eq_true rfl) (s_X0_evening_0  h)
abbrev M_X1_tally : Ms := (cX1_tally, RX1, 4, none, false, 0, 0, 0)
def f_X1_tally (N : Nat) (l0 : Nat) (l1 : Int32) (l2 : Int32) (σ : Mm) : Option Mm :=
  (gN 1 2 σ l0).bind fun a1 =>
  (aI 13 σ a1 l1).bind fun x2 =>
  (gN 1 3 σ l0).bind fun a3 =>
  (aI 13 σ a3 (x2 &&& (7 : Int32))).bind fun x4 =>
  (sI 13 σ a3 (x2 &&& (7 : Int32)) (x4 + l2)).bind fun s5 =>
  (gN 1 4 s5 l0).bind fun a6 =>
  (aI 13 s5 a6 (x2 &&& (7 : Int32))).bind fun x7 =>
  (gN 1 1 s5 l0).bind fun a8 =>
  (aI 13 s5 a8 l1).bind fun x9 =>
  (sI 13 s5 a6 (x2 &&& (7 : Int32)) (x7 + (l2 * (x9 + (1 : Int32))))).bind fun s10 =>
  some s10
theorem mov_X1_tally : MOV yX1_tally M_X1_tally 2 1 0 := ⟨⟨tw_104, tw_815, ⟨by decide, by decide⟩, by decide +kernel⟩, tw_814, tw_21, by decide, ⟨_, rfl, rfl⟩, rfl⟩
set_option maxRecDepth 4000 in
theorem s_X1_tally_0 {Γ : Cn} {τ : Mm} {N : Nat} {l0 : Nat} {l1 : Int32} {l2 : Int32} {σ : Mm} {o : Mm} (h : f_X1_tally N l0 l1 l2 σ = some o) : Gx Γ M_X1_tally 0 τ (PV o) 0 0 0 [(0, .ref (Γ.B + pp l0)), (1, .int l1), (2, .int l2)] [] σ := by
  unfold f_X1_tally at h
  refine gx_aload_n 0 dX1_tally_0 rfl rfl ?_
  obtain ⟨a1, ha1, h⟩ := bnd h
  refine gx_getN dX1_tally_1 ha1 fl_X1_19 rfl ?_
  refine gx_iload_n 1 dX1_tally_4 rfl rfl ?_
  obtain ⟨x2, hx2, h⟩ := bnd h
  refine gx_iald (kd := 13) dX1_tally_5 hx2 rfl rfl ?_
  refine gx_bipush (v := (7 : Int32)) dX1_tally_6 ib_7 ?_
  refine gx_iand dX1_tally_8 ?_
  refine gx_istore_n (lv' := [(3, .int (x2 &&& (7 : Int32))), (0, .ref (Γ.B + pp l0)), (1, .int l1), (2, .int l2)]) dX1_tally_9 rfl (Nat.le_of_ble_eq_true rfl) rfl ?_
  refine gx_aload_n 1 dX1_tally_10 rfl rfl ?_
  obtain ⟨a3, ha3, h⟩ := bnd h
  refine gx_getN dX1_tally_11 ha3 fl_X1_22 rfl ?_
  refine gx_iload_n 0 dX1_tally_14 rfl rfl ?_
  refine gx_dup2 dX1_tally_15 rfl rfl ?_
  obtain ⟨x4, hx4, h⟩ := bnd h
  refine gx_iald (kd := 13) dX1_tally_16 hx4 rfl rfl ?_
  refine gx_iload_n 3 dX1_tally_17 rfl rfl ?_
  refine gx_iadd dX1_tally_18 ?_
  obtain ⟨s5, hs5, h⟩ := bnd h
  refine gx_iast (kd := 13) dX1_tally_19 hs5 rfl rfl ?_
  refine gx_aload_n 1 dX1_tally_20 rfl rfl ?_
  obtain ⟨a6, ha6, h⟩ := bnd h
  refine gx_getN dX1_tally_21 ha6 fl_X1_25 rfl ?_
  refine gx_iload_n 0 dX1_tally_24 rfl rfl ?_
  refine gx_dup2 dX1_tally_25 rfl rfl ?_
  obtain ⟨x7, hx7, h⟩ := bnd h
  refine gx_iald (kd := 13) dX1_tally_26 hx7 rfl rfl ?_
  refine gx_iload_n 3 dX1_tally_27 rfl rfl ?_
  refine gx_aload_n 1 dX1_tally_28 rfl rfl ?_
  obtain ⟨a8, ha8, h⟩ := bnd h
  refine gx_getN dX1_tally_29 ha8 fl_X1_15 rfl ?_
  refine gx_iload_n 2 dX1_tally_32 rfl rfl ?_
  obtain ⟨x9, hx9, h⟩ := bnd h
  refine gx_iald (kd := 13) dX1_tally_33 hx9 rfl rfl ?_
  refine gx_iconst (v := (1 : Int32)) dX1_tally_34 ic_1 ?_
  refine gx_iadd dX1_tally_35 ?_
  refine gx_imul dX1_tally_36 ?_
  refine gx_iadd dX1_tally_37 ?_
  obtain ⟨s10, hs10, h⟩ := bnd h
  refine gx_iast (kd := 13) dX1_tally_38 hs10 rfl rfl ?_
  have h := Option.some.inj h
  subst h
  exact gx_vret dX1_tally_39 rfl (Nat.le_of_ble_eq_true rfl) (Nat.le_of_ble_eq_true rfl) ⟨rfl, rfl⟩
theorem c_X1_tally {Γ : Cn} {τ : Mm} {N : Nat} {l0 : Nat} {l1 : Int32} {l2 : Int32} {σ : Mm} {o : Mm} (h : f_X1_tally N l0 l1 l2 σ = some o) : Ct Γ M_X1_tally yX1_tally 0 τ [.ref (Γ.B + pp l0), .int l1, .int l2] σ (PV o) := ct_of (by decide) rfl (fun _ => by first | rfl | contradiction) (Nat.le_of_ble_eq_true rfl) (s_X1_tally_0  h)
abbrev M_X1_open : Ms := (cX1_open, RX1, 4, none, false, 0, 0, 1)
def f_X1_open_48 (N : Nat) : Nat → Nat → Nat → Nat → Int32 → Mm → Option Mm
  | 0, _, _, _, _, _ => none
  | n + 1, l0, l1, l2, l3, σ =>
      (gI 1 0 σ l0).bind fun x1 =>
      if x1 ≤ l3 then (
        some σ) else (
        (gN 1 1 σ l0).bind fun a3 =>
        (gN 7 4 σ l1).bind fun a4 =>
        (aI 13 σ a4 l3).bind fun x5 =>
        (sI 13 σ a3 l3 x5).bind fun s6 =>
        (gN 1 2 s6 l0).bind fun a7 =>
        (aI 13 s6 l2 l3).bind fun x8 =>
        (sI 13 s6 a7 l3 x8).bind fun s9 =>
        (ob 1 s9 l0).bind fun _ =>
        (f_X1_tally N l0 l3 (1 : Int32) s9).bind fun q10 =>
        f_X1_open_48 N n l0 l1 l2 (l3 + (1 : Int32)) q10)
def f_X1_open_20 (N : Nat) : Nat → Nat → Nat → Nat → Int32 → Mm → Option Mm
  | 0, _, _, _, _, _ => none
  | n + 1, l0, l1, l2, l3, σ =>
      if (8 : Int32) ≤ l3 then (
        f_X1_open_48 N N l0 l1 l2 (0 : Int32) σ) else (
        (gN 1 3 σ l0).bind fun a2 =>
        (sI 13 σ a2 l3 (0 : Int32)).bind fun s3 =>
        (gN 1 4 s3 l0).bind fun a4 =>
        (sI 13 s3 a4 l3 (0 : Int32)).bind fun s5 =>
        f_X1_open_20 N n l0 l1 l2 (l3 + (1 : Int32)) s5)
def f_X1_open (N : Nat) (l0 : Nat) (l1 : Nat) (l2 : Nat) (σ : Mm) : Option Mm :=
  (gI 7 0 σ l1).bind fun x1 =>
  (ln 0 σ l2).bind fun x2 =>
  (pI 1 0 σ l0 (if (if x2 < (12 : Int32) then x2 else (12 : Int32)) < x1 then (if x2 < (12 : Int32) then x2 else (12 : Int32)) else x1)).bind fun s3 =>
  f_X1_open_20 N N l0 l1 l2 (0 : Int32) s3
theorem mov_X1_open : MOV yX1_open M_X1_open 2 1 0 := ⟨⟨tw_104, tw_810, ⟨by decide, by decide⟩, by decide +kernel⟩, tw_808, tw_809, by decide, ⟨_, rfl, rfl⟩, rfl⟩
set_option maxRecDepth 4000 in
theorem s_X1_open_48 {Γ : Cn} {τ : Mm} {N : Nat} : ∀ (n : Nat) (l0 : Nat) (l1 : Nat) (l2 : Nat) (l3 : Int32) (σ : Mm) (o : Mm), f_X1_open_48 N n l0 l1 l2 l3 σ = some o → Gx Γ M_X1_open 0 τ (PV o) 0 0 48 [(0, .ref (Γ.B + pp l0)), (1, .ref (Γ.B + pp l1)), (2, .ref (Γ.B + pp l2)), (3, .int l3)] [] σ := by
  intro n
  induction n with
  | zero =>
    intro l0 l1 l2 l3 σ o h
    exact absurd h (by rw [f_X1_open_48]; exact fun q => nomatch q)
  | succ n ih =>
    intro l0 l1 l2 l3 σ o h
    rw [f_X1_open_48] at h
    refine gx_iload_n 3 dX1_open_48 rfl rfl ?_
    refine gx_aload_n 0 dX1_open_49 rfl rfl ?_
    obtain ⟨x1, hx1, h⟩ := bnd h
    refine gx_getI dX1_open_50 hx1 fl_X1_9 rfl ?_
    refine gx_icmp_ge 89 dX1_open_53 (by decide) (fun c1 => ?_) (fun c1 => ?_)
    · rw [if_pos c1] at h
      have h := Option.some.inj h
      subst h
      exact gx_vret dX1_open_89 rfl (Nat.le_of_ble_eq_true rfl) (Nat.le_of_ble_eq_true rfl) ⟨rfl, rfl⟩
    · rw [if_neg c1] at h
      refine gx_aload_n 0 dX1_open_56 rfl rfl ?_
      obtain ⟨a3, ha3, h⟩ := bnd h
      refine gx_getN dX1_open_57 ha3 fl_X1_15 rfl ?_
      refine gx_iload_n 3 dX1_open_60 rfl rfl ?_
      refine gx_aload_n 1 dX1_open_61 rfl rfl ?_
      obtain ⟨a4, ha4, h⟩ := bnd h
      refine gx_getN dX1_open_62 ha4 fl_X1_40 rfl ?_
      refine gx_iload_n 3 dX1_open_65 rfl rfl ?_
      obtain ⟨x5, hx5, h⟩ := bnd h
      refine gx_iald (kd := 13) dX1_open_66 hx5 rfl rfl ?_
      obtain ⟨s6, hs6, h⟩ := bnd h
      refine gx_iast (kd := 13) dX1_open_67 hs6 rfl rfl ?_
      refine gx_aload_n 0 dX1_open_68 rfl rfl ?_
      obtain ⟨a7, ha7, h⟩ := bnd h
      refine gx_getN dX1_open_69 ha7 fl_X1_19 rfl ?_
      refine gx_iload_n 3 dX1_open_72 rfl rfl ?_
      refine gx_aload_n 2 dX1_open_73 rfl rfl ?_
      refine gx_iload_n 3 dX1_open_74 rfl rfl ?_
      obtain ⟨x8, hx8, h⟩ := bnd h
      refine gx_iald (kd := 13) dX1_open_75 hx8 rfl rfl ?_
      obtain ⟨s9, hs9, h⟩ := bnd h
      refine gx_iast (kd := 13) dX1_open_76 hs9 rfl rfl ?_
      refine gx_aload_n 0 dX1_open_77 rfl rfl ?_
      refine gx_iload_n 3 dX1_open_78 rfl rfl ?_
      refine gx_iconst (v := (1 : Int32)) dX1_open_79 ic_1 ?_
      obtain ⟨_, hobq10, h⟩ := bnd h
      obtain ⟨q10, hq10, h⟩ := bnd h
      refine gx_cVV (As := [.int l3, .int (1 : Int32)]) (st := []) (o := l0) dX1_open_80 (c_X1_tally hq10) mov_X1_tally tw_812 hobq10 rfl ⟨Nat.le_of_ble_eq_true rfl, Nat.le_of_ble_eq_true rfl⟩ (Nat.le_of_ble_eq_true rfl) ?_
      refine gx_iinc (v := (l3 + (1 : Int32))) (lv' := [(3, .int (l3 + (1 : Int32))), (0, .ref (Γ.B + pp l0)), (1, .ref (Γ.B + pp l1)), (2, .ref (Γ.B + pp l2))]) 3 dX1_open_83 rfl (by rw [ic_1]) (Nat.le_of_ble_eq_true rfl) rfl ?_
      refine gx_goto 48 dX1_open_86 (by decide) ?_
      exact gx_sub [1, 2, 3, 0] rfl (ih _ _ _ _ _ _ h)
set_option maxRecDepth 4000 in
theorem s_X1_open_20 {Γ : Cn} {τ : Mm} {N : Nat} : ∀ (n : Nat) (l0 : Nat) (l1 : Nat) (l2 : Nat) (l3 : Int32) (σ : Mm) (o : Mm), f_X1_open_20 N n l0 l1 l2 l3 σ = some o → Gx Γ M_X1_open 0 τ (PV o) 0 0 20 [(0, .ref (Γ.B + pp l0)), (1, .ref (Γ.B + pp l1)), (2, .ref (Γ.B + pp l2)), (3, .int l3)] [] σ := by
  intro n
  induction n with
  | zero =>
    intro l0 l1 l2 l3 σ o h
    exact absurd h (by rw [f_X1_open_20]; exact fun q => nomatch q)
  | succ n ih =>
    intro l0 l1 l2 l3 σ o h
    rw [f_X1_open_20] at h
    refine gx_iload_n 3 dX1_open_20 rfl rfl ?_
    refine gx_bipush (v := (8 : Int32)) dX1_open_21 ib_8 ?_
    refine gx_icmp_ge 46 dX1_open_23 (by decide) (fun c0 => ?_) (fun c0 => ?_)
    · rw [if_pos c0] at h
      refine gx_iconst (v := (0 : Int32)) dX1_open_46 ic_0 ?_
      refine gx_istore_n (lv' := [(3, .int (0 : Int32)), (0, .ref (Γ.B + pp l0)), (1, .ref (Γ.B + pp l1)), (2, .ref (Γ.B + pp l2))]) dX1_open_47 rfl (Nat.le_of_ble_eq_true rfl) rfl ?_
      exact gx_sub [1, 2, 3, 0] rfl (s_X1_open_48  N _ _ _ _ _ _ h)
    · rw [if_neg c0] at h
      refine gx_aload_n 0 dX1_open_26 rfl rfl ?_
      obtain ⟨a2, ha2, h⟩ := bnd h
      refine gx_getN dX1_open_27 ha2 fl_X1_22 rfl ?_
      refine gx_iload_n 3 dX1_open_30 rfl rfl ?_
      refine gx_iconst (v := (0 : Int32)) dX1_open_31 ic_0 ?_
      obtain ⟨s3, hs3, h⟩ := bnd h
      refine gx_iast (kd := 13) dX1_open_32 hs3 rfl rfl ?_
      refine gx_aload_n 0 dX1_open_33 rfl rfl ?_
      obtain ⟨a4, ha4, h⟩ := bnd h
      refine gx_getN dX1_open_34 ha4 fl_X1_25 rfl ?_
      refine gx_iload_n 3 dX1_open_37 rfl rfl ?_
      refine gx_iconst (v := (0 : Int32)) dX1_open_38 ic_0 ?_
      obtain ⟨s5, hs5, h⟩ := bnd h
      refine gx_iast (kd := 13) dX1_open_39 hs5 rfl rfl ?_
      refine gx_iinc (v := (l3 + (1 : Int32))) (lv' := [(3, .int (l3 + (1 : Int32))), (0, .ref (Γ.B + pp l0)), (1, .ref (Γ.B + pp l1)), (2, .ref (Γ.B + pp l2))]) 3 dX1_open_40 rfl (by rw [ic_1]) (Nat.le_of_ble_eq_true rfl) rfl ?_
      refine gx_goto 20 dX1_open_43 (by decide) ?_
      exact gx_sub [1, 2, 3, 0] rfl (ih _ _ _ _ _ _ h)
set_option maxRecDepth 4000 in
theorem s_X1_open_0 {Γ : Cn} {τ : Mm} {N : Nat} {l0 : Nat} {l1 : Nat} {l2 : Nat} {σ : Mm} {o : Mm} (h : f_X1_open N l0 l1 l2 σ = some o) : Gx Γ M_X1_open 0 τ (PV o) 0 0 0 [(0, .ref (Γ.B + pp l0)), (1, .ref (Γ.B + pp l1)), (2, .ref (Γ.B + pp l2))] [] σ := by
  unfold f_X1_open at h
  refine gx_aload_n 0 dX1_open_0 rfl rfl ?_
  refine gx_aload_n 1 dX1_open_1 rfl rfl ?_
  obtain ⟨x1, hx1, h⟩ := bnd h
  refine gx_getI dX1_open_2 hx1 fl_X1_31 rfl ?_
  refine gx_bipush (v := (12 : Int32)) dX1_open_5 ib_12 ?_
  refine gx_aload_n 2 dX1_open_7 rfl rfl ?_
  obtain ⟨x2, hx2, h⟩ := bnd h
  refine gx_alen dX1_open_8 hx2 ?_
  refine gx_mminI dX1_open_9 tw_811 (Nat.le_of_ble_eq_true rfl) (Nat.le_of_ble_eq_true rfl) ?_
  refine gx_mminI dX1_open_12 tw_811 (Nat.le_of_ble_eq_true rfl) (Nat.le_of_ble_eq_true rfl) ?_
  obtain ⟨s3, hs3, h⟩ := bnd h
  refine gx_putI dX1_open_15 hs3 fl_X1_9 fp_X1_1_0 rfl ?_
  refine gx_iconst (v := (0 : Int32)) dX1_open_18 ic_0 ?_
  refine gx_istore_n (lv' := [(3, .int (0 : Int32)), (0, .ref (Γ.B + pp l0)), (1, .ref (Γ.B + pp l1)), (2, .ref (Γ.B + pp l2))]) dX1_open_19 rfl (Nat.le_of_ble_eq_true rfl) rfl ?_
  exact gx_sub [1, 2, 3, 0] rfl (s_X1_open_20  N _ _ _ _ _ _ h)
theorem c_X1_open {Γ : Cn} {τ : Mm} {N : Nat} {l0 : Nat} {l1 : Nat} {l2 : Nat} {σ : Mm} {o : Mm} (h : f_X1_open N l0 l1 l2 σ = some o) : Ct Γ M_X1_open yX1_open 0 τ [.ref (Γ.B + pp l0), .ref (Γ.B + pp l1), .ref (Γ.B + pp l2)] σ (PV o) := ct_of (by decide) rfl (fun _ => by first | rfl | contradiction) (Nat.le_of_ble_eq_true rfl) (s_X1_open_0  h)
abbrev M_X1_pointOfOldest : Ms := (cX1_pointOfOldest, RX1, 7, (some .int), false, 0, 0, 0)
def f_X1_pointOfOldest_68 (N : Nat) (r_8 : Nat → Nat → Int32 → Int32 → Int32 → Int32 → Mm → Option (Int32 × Mm)) (l0 : Nat) (l1 : Nat) (l2 : Int32) (l3 : Int32) (l4 : Int32) (l5 : Int32) (σ : Mm) : Option (Int32 × Mm) :=
  r_8 l0 l1 l2 l3 l4 (l5 + (1 : Int32)) σ
def f_X1_pointOfOldest_74 (N : Nat) (l3 : Int32) (σ : Mm) : Option (Int32 × Mm) :=
  some (l3, σ)
def f_X1_pointOfOldest_8 (N : Nat) : Nat → Nat → Nat → Int32 → Int32 → Int32 → Int32 → Mm → Option (Int32 × Mm)
  | 0, _, _, _, _, _, _, _ => none
  | n + 1, l0, l1, l2, l3, l4, l5, σ =>
      (gI 1 0 σ l0).bind fun x1 =>
      if x1 ≤ l5 then (
        f_X1_pointOfOldest_74 N l3 σ) else (
        if (12 : Int32) ≤ l5 then (
          f_X1_pointOfOldest_74 N l3 σ) else (
          (gN 1 2 σ l0).bind fun a4 =>
          (aI 13 σ a4 l5).bind fun x5 =>
          (aI 13 σ l1 (x5 &&& (7 : Int32))).bind fun x6 =>
          if x6 = l2 then (
            (gN 1 1 σ l0).bind fun a8 =>
            (aI 13 σ a8 l5).bind fun x9 =>
            if x9 ≤ l4 then (
              f_X1_pointOfOldest_68 N (f_X1_pointOfOldest_8 N n) l0 l1 l2 l3 l4 l5 σ) else (
              (gN 1 1 σ l0).bind fun a11 =>
              (aI 13 σ a11 l5).bind fun x12 =>
              f_X1_pointOfOldest_68 N (f_X1_pointOfOldest_8 N n) l0 l1 l2 (x5 &&& (7 : Int32)) x12 l5 σ)) else (
            f_X1_pointOfOldest_68 N (f_X1_pointOfOldest_8 N n) l0 l1 l2 l3 l4 l5 σ)))
def f_X1_pointOfOldest (N : Nat) (l0 : Nat) (l1 : Nat) (l2 : Int32) (σ : Mm) : Option (Int32 × Mm) :=
  f_X1_pointOfOldest_8 N N l0 l1 l2 (0 : Int32) (-1 : Int32) (0 : Int32) σ
theorem mov_X1_pointOfOldest : MOV yX1_pointOfOldest M_X1_pointOfOldest 2 1 0 := ⟨⟨tw_104, tw_827, ⟨by decide, by decide⟩, by decide +kernel⟩, tw_826, tw_23, by decide, ⟨_, rfl, rfl⟩, rfl⟩
set_option maxRecDepth 4000 in
theorem s_X1_pointOfOldest_68 {Γ : Cn} {τ : Mm} {N : Nat} {r_8 : Nat → Nat → Int32 → Int32 → Int32 → Int32 → Mm → Option (Int32 × Mm)} (hr_8 : ∀ (l0 : Nat) (l1 : Nat) (l2 : Int32) (l3 : Int32) (l4 : Int32) (l5 : Int32) (σ : Mm) (o : Int32 × Mm), r_8 l0 l1 l2 l3 l4 l5 σ = some o → Gx Γ M_X1_pointOfOldest 0 τ (PI o) 0 0 8 [(0, .ref (Γ.B + pp l0)), (1, .ref (Γ.B + pp l1)), (2, .int l2), (3, .int l3), (4, .int l4), (5, .int l5)] [] σ) {l0 : Nat} {l1 : Nat} {l2 : Int32} {l3 : Int32} {l4 : Int32} {l5 : Int32} {σ : Mm} {o : Int32 × Mm} (h : f_X1_pointOfOldest_68 N r_8 l0 l1 l2 l3 l4 l5 σ = some o) : Gx Γ M_X1_pointOfOldest 0 τ (PI o) 0 0 68 [(0, .ref (Γ.B + pp l0)), (1, .ref (Γ.B + pp l1)), (2, .int l2), (3, .int l3), (4, .int l4), (5, .int l5)] [] σ := by
  unfold f_X1_pointOfOldest_68 at h
  refine gx_iinc (v := (l5 + (1 : Int32))) (lv' := [(5, .int (l5 + (1 : Int32))), (0, .ref (Γ.B + pp l0)), (1, .ref (Γ.B + pp l1)), (2, .int l2), (3, .int l3), (4, .int l4)]) 5 dX1_pointOfOldest_68 rfl (by rw [ic_1]) (Nat.le_of_ble_eq_true rfl) rfl ?_
  refine gx_goto 8 dX1_pointOfOldest_71 (by decide) ?_
  exact gx_sub [1, 2, 3, 4, 5, 0] rfl (hr_8 _ _ _ _ _ _ _ _ h)
set_option maxRecDepth 4000 in
theorem s_X1_pointOfOldest_74 {Γ : Cn} {τ : Mm} {N : Nat} {l3 : Int32} {σ : Mm} {o : Int32 × Mm} (h : f_X1_pointOfOldest_74 N l3 σ = some o) : Gx Γ M_X1_pointOfOldest 0 τ (PI o) 0 0 74 [(3, .int l3)] [] σ := by
  unfold f_X1_pointOfOldest_74 at h
  refine gx_iload_n 0 dX1_pointOfOldest_74 rfl rfl ?_
  have h := Option.some.inj h
  subst h
  exact gx_iret dX1_pointOfOldest_75 rfl (Nat.le_of_ble_eq_true rfl) (Nat.le_of_ble_eq_true rfl) ⟨rfl, rfl⟩
set_option maxRecDepth 4000 in
theorem s_X1_pointOfOldest_8 {Γ : Cn} {τ : Mm} {N : Nat} : ∀ (n : Nat) (l0 : Nat) (l1 : Nat) (l2 : Int32) (l3 : Int32) (l4 : Int32) (l5 : Int32) (σ : Mm) (o : Int32 × Mm), f_X1_pointOfOldest_8 N n l0 l1 l2 l3 l4 l5 σ = some o → Gx Γ M_X1_pointOfOldest 0 τ (PI o) 0 0 8 [(0, .ref (Γ.B + pp l0)), (1, .ref (Γ.B + pp l1)), (2, .int l2), (3, .int l3), (4, .int l4), (5, .int l5)] [] σ := by
  intro n
  induction n with
  | zero =>
    intro l0 l1 l2 l3 l4 l5 σ o h
    exact absurd h (by rw [f_X1_pointOfOldest_8]; exact fun q => nomatch q)
  | succ n ih =>
    intro l0 l1 l2 l3 l4 l5 σ o h
    rw [f_X1_pointOfOldest_8] at h
    refine gx_iload 5 dX1_pointOfOldest_8 rfl ?_
    refine gx_aload_n 0 dX1_pointOfOldest_10 rfl rfl ?_
    obtain ⟨x1, hx1, h⟩ := bnd h
    refine gx_getI dX1_pointOfOldest_11 hx1 fl_X1_9 rfl ?_
    refine gx_icmp_ge 74 dX1_pointOfOldest_14 (by decide) (fun c1 => ?_) (fun c1 => ?_)
    · rw [if_pos c1] at h
      exact gx_sub [3] rfl (s_X1_pointOfOldest_74  h)
    · rw [if_neg c1] at h
      refine gx_iload 5 dX1_pointOfOldest_17 rfl ?_
      refine gx_bipush (v := (12 : Int32)) dX1_pointOfOldest_19 ib_12 ?_
      refine gx_icmp_ge 74 dX1_pointOfOldest_21 (by decide) (fun c2 => ?_) (fun c2 => ?_)
      · rw [if_pos c2] at h
        exact gx_sub [3] rfl (s_X1_pointOfOldest_74  h)
      · rw [if_neg c2] at h
        refine gx_aload_n 0 dX1_pointOfOldest_24 rfl rfl ?_
        obtain ⟨a4, ha4, h⟩ := bnd h
        refine gx_getN dX1_pointOfOldest_25 ha4 fl_X1_19 rfl ?_
        refine gx_iload 5 dX1_pointOfOldest_28 rfl ?_
        obtain ⟨x5, hx5, h⟩ := bnd h
        refine gx_iald (kd := 13) dX1_pointOfOldest_30 hx5 rfl rfl ?_
        refine gx_bipush (v := (7 : Int32)) dX1_pointOfOldest_31 ib_7 ?_
        refine gx_iand dX1_pointOfOldest_33 ?_
        refine gx_istore (lv' := [(6, .int (x5 &&& (7 : Int32))), (0, .ref (Γ.B + pp l0)), (1, .ref (Γ.B + pp l1)), (2, .int l2), (3, .int l3), (4, .int l4), (5, .int l5)]) dX1_pointOfOldest_34 (Nat.le_of_ble_eq_true rfl) rfl ?_
        refine gx_aload_n 2 dX1_pointOfOldest_36 rfl rfl ?_
        refine gx_iload 0 dX1_pointOfOldest_37 rfl ?_
        obtain ⟨x6, hx6, h⟩ := bnd h
        refine gx_iald (kd := 13) dX1_pointOfOldest_39 hx6 rfl rfl ?_
        refine gx_iload_n 3 dX1_pointOfOldest_40 rfl rfl ?_
        refine gx_icmp_ne 68 dX1_pointOfOldest_41 (by decide) (fun c6 => ?_) (fun c6 => ?_)
        · rw [if_neg c6] at h
          exact gx_sub [1, 2, 3, 4, 5, 6] rfl (s_X1_pointOfOldest_68 ih h)
        · rw [if_pos c6] at h
          refine gx_aload_n 1 dX1_pointOfOldest_44 rfl rfl ?_
          obtain ⟨a8, ha8, h⟩ := bnd h
          refine gx_getN dX1_pointOfOldest_45 ha8 fl_X1_15 rfl ?_
          refine gx_iload 6 dX1_pointOfOldest_48 rfl ?_
          obtain ⟨x9, hx9, h⟩ := bnd h
          refine gx_iald (kd := 13) dX1_pointOfOldest_50 hx9 rfl rfl ?_
          refine gx_iload 5 dX1_pointOfOldest_51 rfl ?_
          refine gx_icmp_le 68 dX1_pointOfOldest_53 (by decide) (fun c9 => ?_) (fun c9 => ?_)
          · rw [if_pos c9] at h
            exact gx_sub [1, 2, 3, 4, 5, 6] rfl (s_X1_pointOfOldest_68 ih h)
          · rw [if_neg c9] at h
            refine gx_aload_n 1 dX1_pointOfOldest_56 rfl rfl ?_
            obtain ⟨a11, ha11, h⟩ := bnd h
            refine gx_getN dX1_pointOfOldest_57 ha11 fl_X1_15 rfl ?_
            refine gx_iload 6 dX1_pointOfOldest_60 rfl ?_
            obtain ⟨x12, hx12, h⟩ := bnd h
            refine gx_iald (kd := 13) dX1_pointOfOldest_62 hx12 rfl rfl ?_
            refine gx_istore (lv' := [(4, .int x12), (6, .int (x5 &&& (7 : Int32))), (0, .ref (Γ.B + pp l0)), (1, .ref (Γ.B + pp l1)), (2, .int l2), (3, .int l3), (5, .int l5)]) dX1_pointOfOldest_63 (Nat.le_of_ble_eq_true rfl) rfl ?_
            refine gx_iload 1 dX1_pointOfOldest_65 rfl ?_
            refine gx_istore_n (lv' := [(3, .int (x5 &&& (7 : Int32))), (4, .int x12), (6, .int (x5 &&& (7 : Int32))), (0, .ref (Γ.B + pp l0)), (1, .ref (Γ.B + pp l1)), (2, .int l2), (5, .int l5)]) dX1_pointOfOldest_67 rfl (Nat.le_of_ble_eq_true rfl) rfl ?_
            exact gx_sub [3, 4, 5, 0, 1, 6] rfl (s_X1_pointOfOldest_68 ih h)
set_option maxRecDepth 4000 in
theorem s_X1_pointOfOldest_0 {Γ : Cn} {τ : Mm} {N : Nat} {l0 : Nat} {l1 : Nat} {l2 : Int32} {σ : Mm} {o : Int32 × Mm} (h : f_X1_pointOfOldest N l0 l1 l2 σ = some o) : Gx Γ M_X1_pointOfOldest 0 τ (PI o) 0 0 0 [(0, .ref (Γ.B + pp l0)), (1, .ref (Γ.B + pp l1)), (2, .int l2)] [] σ := by
  unfold f_X1_pointOfOldest at h
  refine gx_iconst (v := (0 : Int32)) dX1_pointOfOldest_0 ic_0 ?_
  refine gx_istore_n (lv' := [(3, .int (0 : Int32)), (0, .ref (Γ.B + pp l0)), (1, .ref (Γ.B + pp l1)), (2, .int l2)]) dX1_pointOfOldest_1 rfl (Nat.le_of_ble_eq_true rfl) rfl ?_
  refine gx_iconst (v := (-1 : Int32)) dX1_pointOfOldest_2 ic_m1 ?_
  refine gx_istore (lv' := [(4, .int (-1 : Int32)), (3, .int (0 : Int32)), (0, .ref (Γ.B + pp l0)), (1, .ref (Γ.B + pp l1)), (2, .int l2)]) dX1_pointOfOldest_3 (Nat.le_of_ble_eq_true rfl) rfl ?_
  refine gx_iconst (v := (0 : Int32)) dX1_pointOfOldest_5 ic_0 ?_
  refine gx_istore (lv' := [(5, .int (0 : Int32)), (4, .int (-1 : Int32)), (3, .int (0 : Int32)), (0, .ref (Γ.B + pp l0)), (1, .ref (Γ.B + pp l1)), (2, .int l2)]) dX1_pointOfOldest_6 (Nat.le_of_ble_eq_true rfl) rfl ?_
  exact gx_sub [3, 4, 5, 2, 1, 0] rfl (s_X1_pointOfOldest_8  N _ _ _ _ _ _ _ _ h)
theorem c_X1_pointOfOldest {Γ : Cn} {τ : Mm} {N : Nat} {l0 : Nat} {l1 : Nat} {l2 : Int32} {σ : Mm} {o : Int32 × Mm} (h : f_X1_pointOfOldest N l0 l1 l2 σ = some o) : Ct Γ M_X1_pointOfOldest yX1_pointOfOldest 0 τ [.ref (Γ.B + pp l0), .ref (Γ.B + pp l1), .int l2] σ (PI o) := ct_of (by decide) rfl (fun _ => by first | rfl | contradiction) (Nat.le_of_ble_eq_true rfl) (s_X1_pointOfOldest_0  h)
abbrev M_X1_leader : Ms := (cX1_leader, RX1, 5, (some .int), false, 0, 0, 1)
def f_X1_leader_51 (N : Nat) (r_7 : Nat → Nat → Int32 → Int32 → Int32 → Mm → Option (Int32 × Mm)) (l0 : Nat) (l1 : Nat) (l2 : Int32) (l3 : Int32) (l4 : Int32) (σ : Mm) : Option (Int32 × Mm) :=
  r_7 l0 l1 l2 l3 (l4 + (1 : Int32)) σ
def f_X1_leader_50 (N : Nat) (r_7 : Nat → Nat → Int32 → Int32 → Int32 → Mm → Option (Int32 × Mm)) (l0 : Nat) (l1 : Nat) (l3 : Int32) (l4 : Int32) (t0 : Int32) (σ : Mm) : Option (Int32 × Mm) :=
  f_X1_leader_51 N r_7 l0 l1 t0 l3 l4 σ
def f_X1_leader_39 (N : Nat) (r_7 : Nat → Nat → Int32 → Int32 → Int32 → Mm → Option (Int32 × Mm)) (l0 : Nat) (l1 : Nat) (l2 : Int32) (l4 : Int32) (t0 : Int32) (σ : Mm) : Option (Int32 × Mm) :=
  if t0 = 0 then (
    f_X1_leader_50 N r_7 l0 l1 t0 l4 l4 σ) else (
    f_X1_leader_50 N r_7 l0 l1 t0 l4 l2 σ)
def f_X1_leader_73 (N : Nat) (t0 : Int32) (σ : Mm) : Option (Int32 × Mm) :=
  some (t0, σ)
def f_X1_leader_7 (N : Nat) : Nat → Nat → Nat → Int32 → Int32 → Int32 → Mm → Option (Int32 × Mm)
  | 0, _, _, _, _, _, _ => none
  | n + 1, l0, l1, l2, l3, l4, σ =>
      if (8 : Int32) ≤ l4 then (
        if l3 = 0 then (
          f_X1_leader_73 N l2 σ) else (
          (aI 13 σ l1 l2).bind fun x3 =>
          (ob 1 σ l0).bind fun _ =>
          (f_X1_pointOfOldest N l0 l1 x3 σ).bind fun q4 =>
          f_X1_leader_73 N q4.1 q4.2)) else (
        (aI 13 σ l1 l4).bind fun x5 =>
        (aI 13 σ l1 l2).bind fun x6 =>
        if x5 < x6 then (
          f_X1_leader_51 N (f_X1_leader_7 N n) l0 l1 l2 l3 l4 σ) else (
          (aI 13 σ l1 l4).bind fun x8 =>
          (aI 13 σ l1 l2).bind fun x9 =>
          if x8 = x9 then (
            f_X1_leader_39 N (f_X1_leader_7 N n) l0 l1 l2 l4 (1 : Int32) σ) else (
            f_X1_leader_39 N (f_X1_leader_7 N n) l0 l1 l2 l4 (0 : Int32) σ)))
def f_X1_leader (N : Nat) (l0 : Nat) (l1 : Nat) (σ : Mm) : Option (Int32 × Mm) :=
  f_X1_leader_7 N N l0 l1 (0 : Int32) (0 : Int32) (1 : Int32) σ
theorem mov_X1_leader : MOV yX1_leader M_X1_leader 1 1 0 := ⟨⟨tw_104, tw_823, ⟨by decide, by decide⟩, by decide +kernel⟩, tw_822, tw_22, by decide, ⟨_, rfl, rfl⟩, rfl⟩
set_option maxRecDepth 4000 in
theorem s_X1_leader_51 {Γ : Cn} {τ : Mm} {N : Nat} {r_7 : Nat → Nat → Int32 → Int32 → Int32 → Mm → Option (Int32 × Mm)} (hr_7 : ∀ (l0 : Nat) (l1 : Nat) (l2 : Int32) (l3 : Int32) (l4 : Int32) (σ : Mm) (o : Int32 × Mm), r_7 l0 l1 l2 l3 l4 σ = some o → Gx Γ M_X1_leader 0 τ (PI o) 0 0 7 [(0, .ref (Γ.B + pp l0)), (1, .ref (Γ.B + pp l1)), (2, .int l2), (3, .int l3), (4, .int l4)] [] σ) {l0 : Nat} {l1 : Nat} {l2 : Int32} {l3 : Int32} {l4 : Int32} {σ : Mm} {o : Int32 × Mm} (h : f_X1_leader_51 N r_7 l0 l1 l2 l3 l4 σ = some o) : Gx Γ M_X1_leader 0 τ (PI o) 0 0 51 [(0, .ref (Γ.B + pp l0)), (1, .ref (Γ.B + pp l1)), (2, .int l2), (3, .int l3), (4, .int l4)] [] σ := by
  unfold f_X1_leader_51 at h
  refine gx_iinc (v := (l4 + (1 : Int32))) (lv' := [(4, .int (l4 + (1 : Int32))), (0, .ref (Γ.B + pp l0)), (1, .ref (Γ.B + pp l1)), (2, .int l2), (3, .int l3)]) 4 dX1_leader_51 rfl (by rw [ic_1]) (Nat.le_of_ble_eq_true rfl) rfl ?_
  refine gx_goto 7 dX1_leader_54 (by decide) ?_
  exact gx_sub [1, 2, 3, 4, 0] rfl (hr_7 _ _ _ _ _ _ _ h)
set_option maxRecDepth 4000 in
theorem s_X1_leader_50 {Γ : Cn} {τ : Mm} {N : Nat} {r_7 : Nat → Nat → Int32 → Int32 → Int32 → Mm → Option (Int32 × Mm)} (hr_7 : ∀ (l0 : Nat) (l1 : Nat) (l2 : Int32) (l3 : Int32) (l4 : Int32) (σ : Mm) (o : Int32 × Mm), r_7 l0 l1 l2 l3 l4 σ = some o → Gx Γ M_X1_leader 0 τ (PI o) 0 0 7 [(0, .ref (Γ.B + pp l0)), (1, .ref (Γ.B + pp l1)), (2, .int l2), (3, .int l3), (4, .int l4)] [] σ) {l0 : Nat} {l1 : Nat} {l3 : Int32} {l4 : Int32} {t0 : Int32} {σ : Mm} {o : Int32 × Mm} (h : f_X1_leader_50 N r_7 l0 l1 l3 l4 t0 σ = some o) : Gx Γ M_X1_leader 0 τ (PI o) 0 0 50 [(0, .ref (Γ.B + pp l0)), (1, .ref (Γ.B + pp l1)), (3, .int l3), (4, .int l4)] [.int t0] σ := by
  unfold f_X1_leader_50 at h
  refine gx_istore_n (lv' := [(2, .int t0), (0, .ref (Γ.B + pp l0)), (1, .ref (Γ.B + pp l1)), (3, .int l3), (4, .int l4)]) dX1_leader_50 rfl (Nat.le_of_ble_eq_true rfl) rfl ?_
  exact gx_sub [1, 2, 0, 3, 4] rfl (s_X1_leader_51 hr_7 h)
set_option maxRecDepth 4000 in
theorem s_X1_leader_39 {Γ : Cn} {τ : Mm} {N : Nat} {r_7 : Nat → Nat → Int32 → Int32 → Int32 → Mm → Option (Int32 × Mm)} (hr_7 : ∀ (l0 : Nat) (l1 : Nat) (l2 : Int32) (l3 : Int32) (l4 : Int32) (σ : Mm) (o : Int32 × Mm), r_7 l0 l1 l2 l3 l4 σ = some o → Gx Γ M_X1_leader 0 τ (PI o) 0 0 7 [(0, .ref (Γ.B + pp l0)), (1, .ref (Γ.B + pp l1)), (2, .int l2), (3, .int l3), (4, .int l4)] [] σ) {l0 : Nat} {l1 : Nat} {l2 : Int32} {l4 : Int32} {t0 : Int32} {σ : Mm} {o : Int32 × Mm} (h : f_X1_leader_39 N r_7 l0 l1 l2 l4 t0 σ = some o) : Gx Γ M_X1_leader 0 τ (PI o) 0 0 39 [(0, .ref (Γ.B + pp l0)), (1, .ref (Γ.B + pp l1)), (2, .int l2), (4, .int l4)] [.int t0] σ := by
  unfold f_X1_leader_39 at h
  refine gx_istore_n (lv' := [(3, .int t0), (0, .ref (Γ.B + pp l0)), (1, .ref (Γ.B + pp l1)), (2, .int l2), (4, .int l4)]) dX1_leader_39 rfl (Nat.le_of_ble_eq_true rfl) rfl ?_
  refine gx_iload_n 0 dX1_leader_40 rfl rfl ?_
  refine gx_if_eq 48 dX1_leader_41 (by decide) (fun c0 => ?_) (fun c0 => ?_)
  · rw [if_pos c0] at h
    refine gx_iload 4 dX1_leader_48 rfl ?_
    exact gx_sub [1, 2, 0, 4] rfl (s_X1_leader_50 hr_7 h)
  · rw [if_neg c0] at h
    refine gx_iload_n 3 dX1_leader_44 rfl rfl ?_
    refine gx_goto 50 dX1_leader_45 (by decide) ?_
    exact gx_sub [1, 2, 0, 4] rfl (s_X1_leader_50 hr_7 h)
set_option maxRecDepth 4000 in
theorem s_X1_leader_73 {Γ : Cn} {τ : Mm} {N : Nat} {t0 : Int32} {σ : Mm} {o : Int32 × Mm} (h : f_X1_leader_73 N t0 σ = some o) : Gx Γ M_X1_leader 0 τ (PI o) 0 0 73 [] [.int t0] σ := by
  unfold f_X1_leader_73 at h
  have h := Option.some.inj h
  subst h
  exact gx_iret dX1_leader_73 rfl (Nat.le_of_ble_eq_true rfl) (Nat.le_of_ble_eq_true rfl) ⟨rfl, rfl⟩
set_option maxRecDepth 4000 in
theorem s_X1_leader_7 {Γ : Cn} {τ : Mm} {N : Nat} : ∀ (n : Nat) (l0 : Nat) (l1 : Nat) (l2 : Int32) (l3 : Int32) (l4 : Int32) (σ : Mm) (o : Int32 × Mm), f_X1_leader_7 N n l0 l1 l2 l3 l4 σ = some o → Gx Γ M_X1_leader 0 τ (PI o) 0 0 7 [(0, .ref (Γ.B + pp l0)), (1, .ref (Γ.B + pp l1)), (2, .int l2), (3, .int l3), (4, .int l4)] [] σ := by
  intro n
  induction n with
  | zero =>
    intro l0 l1 l2 l3 l4 σ o h
    exact absurd h (by rw [f_X1_leader_7]; exact fun q => nomatch q)
  | succ n ih =>
    intro l0 l1 l2 l3 l4 σ o h
    rw [f_X1_leader_7] at h
    refine gx_iload 4 dX1_leader_7 rfl ?_
    refine gx_bipush (v := (8 : Int32)) dX1_leader_9 ib_8 ?_
    refine gx_icmp_ge 57 dX1_leader_11 (by decide) (fun c0 => ?_) (fun c0 => ?_)
    · rw [if_pos c0] at h
      refine gx_iload_n 3 dX1_leader_57 rfl rfl ?_
      refine gx_if_eq 72 dX1_leader_58 (by decide) (fun c1 => ?_) (fun c1 => ?_)
      · rw [if_pos c1] at h
        refine gx_iload_n 2 dX1_leader_72 rfl rfl ?_
        exact gx_sub [] rfl (s_X1_leader_73  h)
      · rw [if_neg c1] at h
        refine gx_aload_n 0 dX1_leader_61 rfl rfl ?_
        refine gx_aload_n 1 dX1_leader_62 rfl rfl ?_
        refine gx_aload_n 1 dX1_leader_63 rfl rfl ?_
        refine gx_iload_n 2 dX1_leader_64 rfl rfl ?_
        obtain ⟨x3, hx3, h⟩ := bnd h
        refine gx_iald (kd := 13) dX1_leader_65 hx3 rfl rfl ?_
        obtain ⟨_, hobq4, h⟩ := bnd h
        obtain ⟨q4, hq4, h⟩ := bnd h
        refine gx_cVI (As := [.ref (Γ.B + pp l1), .int x3]) (st := []) (o := l0) dX1_leader_66 (c_X1_pointOfOldest hq4) mov_X1_pointOfOldest tw_824 hobq4 rfl ⟨Nat.le_of_ble_eq_true rfl, Nat.le_of_ble_eq_true rfl⟩ (Nat.le_of_ble_eq_true rfl) ?_
        refine gx_goto 73 dX1_leader_69 (by decide) ?_
        exact gx_sub [] rfl (s_X1_leader_73  h)
    · rw [if_neg c0] at h
      refine gx_aload_n 1 dX1_leader_14 rfl rfl ?_
      refine gx_iload 4 dX1_leader_15 rfl ?_
      obtain ⟨x5, hx5, h⟩ := bnd h
      refine gx_iald (kd := 13) dX1_leader_17 hx5 rfl rfl ?_
      refine gx_aload_n 1 dX1_leader_18 rfl rfl ?_
      refine gx_iload_n 2 dX1_leader_19 rfl rfl ?_
      obtain ⟨x6, hx6, h⟩ := bnd h
      refine gx_iald (kd := 13) dX1_leader_20 hx6 rfl rfl ?_
      refine gx_icmp_lt 51 dX1_leader_21 (by decide) (fun c6 => ?_) (fun c6 => ?_)
      · rw [if_pos c6] at h
        exact s_X1_leader_51 ih h
      · rw [if_neg c6] at h
        refine gx_aload_n 1 dX1_leader_24 rfl rfl ?_
        refine gx_iload 4 dX1_leader_25 rfl ?_
        obtain ⟨x8, hx8, h⟩ := bnd h
        refine gx_iald (kd := 13) dX1_leader_27 hx8 rfl rfl ?_
        refine gx_aload_n 1 dX1_leader_28 rfl rfl ?_
        refine gx_iload_n 2 dX1_leader_29 rfl rfl ?_
        obtain ⟨x9, hx9, h⟩ := bnd h
        refine gx_iald (kd := 13) dX1_leader_30 hx9 rfl rfl ?_
        refine gx_icmp_ne 38 dX1_leader_31 (by decide) (fun c9 => ?_) (fun c9 => ?_)
        · rw [if_neg c9] at h
          refine gx_iconst (v := (0 : Int32)) dX1_leader_38 ic_0 ?_
          exact gx_sub [0, 1, 2, 4] rfl (s_X1_leader_39 ih h)
        · rw [if_pos c9] at h
          refine gx_iconst (v := (1 : Int32)) dX1_leader_34 ic_1 ?_
          refine gx_goto 39 dX1_leader_35 (by decide) ?_
          exact gx_sub [0, 1, 2, 4] rfl (s_X1_leader_39 ih h)
set_option maxRecDepth 4000 in
theorem s_X1_leader_0 {Γ : Cn} {τ : Mm} {N : Nat} {l0 : Nat} {l1 : Nat} {σ : Mm} {o : Int32 × Mm} (h : f_X1_leader N l0 l1 σ = some o) : Gx Γ M_X1_leader 0 τ (PI o) 0 0 0 [(0, .ref (Γ.B + pp l0)), (1, .ref (Γ.B + pp l1))] [] σ := by
  unfold f_X1_leader at h
  refine gx_iconst (v := (0 : Int32)) dX1_leader_0 ic_0 ?_
  refine gx_istore_n (lv' := [(2, .int (0 : Int32)), (0, .ref (Γ.B + pp l0)), (1, .ref (Γ.B + pp l1))]) dX1_leader_1 rfl (Nat.le_of_ble_eq_true rfl) rfl ?_
  refine gx_iconst (v := (0 : Int32)) dX1_leader_2 ic_0 ?_
  refine gx_istore_n (lv' := [(3, .int (0 : Int32)), (2, .int (0 : Int32)), (0, .ref (Γ.B + pp l0)), (1, .ref (Γ.B + pp l1))]) dX1_leader_3 rfl (Nat.le_of_ble_eq_true rfl) rfl ?_
  refine gx_iconst (v := (1 : Int32)) dX1_leader_4 ic_1 ?_
  refine gx_istore (lv' := [(4, .int (1 : Int32)), (3, .int (0 : Int32)), (2, .int (0 : Int32)), (0, .ref (Γ.B + pp l0)), (1, .ref (Γ.B + pp l1))]) dX1_leader_5 (Nat.le_of_ble_eq_true rfl) rfl ?_
  exact gx_sub [3, 4, 2, 1, 0] rfl (s_X1_leader_7  N _ _ _ _ _ _ _ h)
theorem c_X1_leader {Γ : Cn} {τ : Mm} {N : Nat} {l0 : Nat} {l1 : Nat} {σ : Mm} {o : Int32 × Mm} (h : f_X1_leader N l0 l1 σ = some o) : Ct Γ M_X1_leader yX1_leader 0 τ [.ref (Γ.B + pp l0), .ref (Γ.B + pp l1)] σ (PI o) := ct_of (by decide) rfl (fun _ => by first | rfl | contradiction) (Nat.le_of_ble_eq_true rfl) (s_X1_leader_0  h)
abbrev M_X1_middle : Ms := (cX1_middle, RX1, 3, (some .int), false, 0, 0, 0)
def f_X1_middle_11 (N : Nat) : Nat → Nat → Int32 → Int32 → Mm → Option (Int32 × Mm)
  | 0, _, _, _, _ => none
  | n + 1, l0, l1, l2, σ =>
      if (8 : Int32) ≤ l2 then (
        some ((0 : Int32), σ)) else (
        (gN 1 3 σ l0).bind fun a2 =>
        (aI 13 σ a2 l2).bind fun x3 =>
        if 0 ≤ (l1 - x3) then (
          f_X1_middle_11 N n l0 (l1 - x3) (l2 + (1 : Int32)) σ) else (
          some (l2, σ)))
def f_X1_middle (N : Nat) (l0 : Nat) (σ : Mm) : Option (Int32 × Mm) :=
  (gI 1 0 σ l0).bind fun x1 =>
  if (2 : Int32) = 0 then none else
  f_X1_middle_11 N N l0 ((x1 - (1 : Int32)) / (2 : Int32)) (0 : Int32) σ
theorem mov_X1_middle : MOV yX1_middle M_X1_middle 0 1 0 := ⟨⟨tw_104, tw_831, ⟨by decide, by decide⟩, by decide +kernel⟩, tw_830, tw_24, by decide, ⟨_, rfl, rfl⟩, rfl⟩
set_option maxRecDepth 4000 in
theorem s_X1_middle_11 {Γ : Cn} {τ : Mm} {N : Nat} : ∀ (n : Nat) (l0 : Nat) (l1 : Int32) (l2 : Int32) (σ : Mm) (o : Int32 × Mm), f_X1_middle_11 N n l0 l1 l2 σ = some o → Gx Γ M_X1_middle 0 τ (PI o) 0 0 11 [(0, .ref (Γ.B + pp l0)), (1, .int l1), (2, .int l2)] [] σ := by
  intro n
  induction n with
  | zero =>
    intro l0 l1 l2 σ o h
    exact absurd h (by rw [f_X1_middle_11]; exact fun q => nomatch q)
  | succ n ih =>
    intro l0 l1 l2 σ o h
    rw [f_X1_middle_11] at h
    refine gx_iload_n 2 dX1_middle_11 rfl rfl ?_
    refine gx_bipush (v := (8 : Int32)) dX1_middle_12 ib_8 ?_
    refine gx_icmp_ge 38 dX1_middle_14 (by decide) (fun c0 => ?_) (fun c0 => ?_)
    · rw [if_pos c0] at h
      refine gx_iconst (v := (0 : Int32)) dX1_middle_38 ic_0 ?_
      have h := Option.some.inj h
      subst h
      exact gx_iret dX1_middle_39 rfl (Nat.le_of_ble_eq_true rfl) (Nat.le_of_ble_eq_true rfl) ⟨rfl, rfl⟩
    · rw [if_neg c0] at h
      refine gx_iload_n 1 dX1_middle_17 rfl rfl ?_
      refine gx_aload_n 0 dX1_middle_18 rfl rfl ?_
      obtain ⟨a2, ha2, h⟩ := bnd h
      refine gx_getN dX1_middle_19 ha2 fl_X1_22 rfl ?_
      refine gx_iload_n 2 dX1_middle_22 rfl rfl ?_
      obtain ⟨x3, hx3, h⟩ := bnd h
      refine gx_iald (kd := 13) dX1_middle_23 hx3 rfl rfl ?_
      refine gx_isub dX1_middle_24 ?_
      refine gx_istore_n (lv' := [(1, .int (l1 - x3)), (0, .ref (Γ.B + pp l0)), (2, .int l2)]) dX1_middle_25 rfl (Nat.le_of_ble_eq_true rfl) rfl ?_
      refine gx_iload_n 0 dX1_middle_26 rfl rfl ?_
      refine gx_if_ge 32 dX1_middle_27 (by decide) (fun c3 => ?_) (fun c3 => ?_)
      · rw [if_pos c3] at h
        refine gx_iinc (v := (l2 + (1 : Int32))) (lv' := [(2, .int (l2 + (1 : Int32))), (1, .int (l1 - x3)), (0, .ref (Γ.B + pp l0))]) 2 dX1_middle_32 rfl (by rw [ic_1]) (Nat.le_of_ble_eq_true rfl) rfl ?_
        refine gx_goto 11 dX1_middle_35 (by decide) ?_
        exact gx_sub [2, 1, 0] rfl (ih _ _ _ _ _ h)
      · rw [if_neg c3] at h
        refine gx_iload_n 2 dX1_middle_30 rfl rfl ?_
        have h := Option.some.inj h
        subst h
        exact gx_iret dX1_middle_31 rfl (Nat.le_of_ble_eq_true rfl) (Nat.le_of_ble_eq_true rfl) ⟨rfl, rfl⟩
set_option maxRecDepth 4000 in
theorem s_X1_middle_0 {Γ : Cn} {τ : Mm} {N : Nat} {l0 : Nat} {σ : Mm} {o : Int32 × Mm} (h : f_X1_middle N l0 σ = some o) : Gx Γ M_X1_middle 0 τ (PI o) 0 0 0 [(0, .ref (Γ.B + pp l0))] [] σ := by
  unfold f_X1_middle at h
  refine gx_aload_n 0 dX1_middle_0 rfl rfl ?_
  obtain ⟨x1, hx1, h⟩ := bnd h
  refine gx_getI dX1_middle_1 hx1 fl_X1_9 rfl ?_
  refine gx_iconst (v := (1 : Int32)) dX1_middle_4 ic_1 ?_
  refine gx_isub dX1_middle_5 ?_
  refine gx_iconst (v := (2 : Int32)) dX1_middle_6 ic_2 ?_
  obtain ⟨c1, h⟩ := of_ifn h
  refine gx_idiv dX1_middle_7 c1 ?_
  refine gx_istore_n (lv' := [(1, .int ((x1 - (1 : Int32)) / (2 : Int32))), (0, .ref (Γ.B + pp l0))]) dX1_middle_8 rfl (Nat.le_of_ble_eq_true rfl) rfl ?_
  refine gx_iconst (v := (0 : Int32)) dX1_middle_9 ic_0 ?_
  refine gx_istore_n (lv' := [(2, .int (0 : Int32)), (1, .int ((x1 - (1 : Int32)) / (2 : Int32))), (0, .ref (Γ.B + pp l0))]) dX1_middle_10 rfl (Nat.le_of_ble_eq_true rfl) rfl ?_
  exact gx_sub [2, 1, 0] rfl (s_X1_middle_11  N _ _ _ _ _ h)
theorem c_X1_middle {Γ : Cn} {τ : Mm} {N : Nat} {l0 : Nat} {σ : Mm} {o : Int32 × Mm} (h : f_X1_middle N l0 σ = some o) : Ct Γ M_X1_middle yX1_middle 0 τ [.ref (Γ.B + pp l0)] σ (PI o) := ct_of (by decide) rfl (fun _ => by first | rfl | contradiction) (Nat.le_of_ble_eq_true rfl) (s_X1_middle_0  h)
abbrev M_X1_strikeOut : Ms := (cX1_strikeOut, RX1, 5, none, false, 0, 0, 1)
def f_X1_strikeOut_43 (N : Nat) (r_12 : Nat → Int32 → Int32 → Mm → Option Mm) (l0 : Nat) (l1 : Int32) (l2 : Int32) (t0 : Int32) (σ : Mm) : Option Mm :=
  (gN 1 5 σ l0).bind fun a1 =>
  (aI 13 σ a1 t0).bind fun x2 =>
  if x2 ≤ 0 then (
    r_12 l0 l1 (l2 + (1 : Int32)) σ) else (
    (gN 1 5 σ l0).bind fun a4 =>
    (aI 13 σ a4 t0).bind fun x5 =>
    (gN 1 5 σ l0).bind fun a6 =>
    (aI 13 σ a6 l1).bind fun x7 =>
    (sI 13 σ a4 t0 (x5 + x7)).bind fun s8 =>
    (gN 1 5 s8 l0).bind fun a9 =>
    (sI 13 s8 a9 l1 (0 : Int32)).bind fun s10 =>
    some s10)
def f_X1_strikeOut_12 (N : Nat) : Nat → Nat → Int32 → Int32 → Mm → Option Mm
  | 0, _, _, _, _ => none
  | n + 1, l0, l1, l2, σ =>
      if (4 : Int32) < l2 then (
        some σ) else (
        (gN 1 5 σ l0).bind fun a2 =>
        (aI 13 σ a2 ((l1 + l2) &&& (7 : Int32))).bind fun x3 =>
        if x3 ≤ 0 then (
          f_X1_strikeOut_43 N (f_X1_strikeOut_12 N n) l0 l1 l2 ((l1 - l2) &&& (7 : Int32)) σ) else (
          f_X1_strikeOut_43 N (f_X1_strikeOut_12 N n) l0 l1 l2 ((l1 + l2) &&& (7 : Int32)) σ))
def f_X1_strikeOut (N : Nat) (l0 : Nat) (l1 : Int32) (σ : Mm) : Option Mm :=
  (f_X10_isBelow N l1 (8 : Int32) σ).bind fun q1 =>
  if q1.1 = 0 then (
    some q1.2) else (
    f_X1_strikeOut_12 N N l0 l1 (1 : Int32) q1.2)
theorem mov_X1_strikeOut : MOV yX1_strikeOut M_X1_strikeOut 1 1 0 := ⟨⟨tw_104, tw_840, ⟨by decide, by decide⟩, by decide +kernel⟩, tw_839, tw_26, by decide, ⟨_, rfl, rfl⟩, rfl⟩
set_option maxRecDepth 4000 in
theorem s_X1_strikeOut_43 {Γ : Cn} {τ : Mm} {N : Nat} {r_12 : Nat → Int32 → Int32 → Mm → Option Mm} (hr_12 : ∀ (l0 : Nat) (l1 : Int32) (l2 : Int32) (σ : Mm) (o : Mm), r_12 l0 l1 l2 σ = some o → Gx Γ M_X1_strikeOut 0 τ (PV o) 0 0 12 [(0, .ref (Γ.B + pp l0)), (1, .int l1), (2, .int l2)] [] σ) {l0 : Nat} {l1 : Int32} {l2 : Int32} {t0 : Int32} {σ : Mm} {o : Mm} (h : f_X1_strikeOut_43 N r_12 l0 l1 l2 t0 σ = some o) : Gx Γ M_X1_strikeOut 0 τ (PV o) 0 0 43 [(0, .ref (Γ.B + pp l0)), (1, .int l1), (2, .int l2)] [.int t0] σ := by
  unfold f_X1_strikeOut_43 at h
  refine gx_istore (lv' := [(4, .int t0), (0, .ref (Γ.B + pp l0)), (1, .int l1), (2, .int l2)]) dX1_strikeOut_43 (Nat.le_of_ble_eq_true rfl) rfl ?_
  refine gx_aload_n 1 dX1_strikeOut_45 rfl rfl ?_
  obtain ⟨a1, ha1, h⟩ := bnd h
  refine gx_getN dX1_strikeOut_46 ha1 fl_X1_28 rfl ?_
  refine gx_iload 0 dX1_strikeOut_49 rfl ?_
  obtain ⟨x2, hx2, h⟩ := bnd h
  refine gx_iald (kd := 13) dX1_strikeOut_51 hx2 rfl rfl ?_
  refine gx_if_le 79 dX1_strikeOut_52 (by decide) (fun c2 => ?_) (fun c2 => ?_)
  · rw [if_pos c2] at h
    refine gx_iinc (v := (l2 + (1 : Int32))) (lv' := [(2, .int (l2 + (1 : Int32))), (4, .int t0), (0, .ref (Γ.B + pp l0)), (1, .int l1)]) 3 dX1_strikeOut_79 rfl (by rw [ic_1]) (Nat.le_of_ble_eq_true rfl) rfl ?_
    refine gx_goto 12 dX1_strikeOut_82 (by decide) ?_
    exact gx_sub [2, 3, 0] rfl (hr_12 _ _ _ _ _ h)
  · rw [if_neg c2] at h
    refine gx_aload_n 1 dX1_strikeOut_55 rfl rfl ?_
    obtain ⟨a4, ha4, h⟩ := bnd h
    refine gx_getN dX1_strikeOut_56 ha4 fl_X1_28 rfl ?_
    refine gx_iload 0 dX1_strikeOut_59 rfl ?_
    refine gx_dup2 dX1_strikeOut_61 rfl rfl ?_
    obtain ⟨x5, hx5, h⟩ := bnd h
    refine gx_iald (kd := 13) dX1_strikeOut_62 hx5 rfl rfl ?_
    refine gx_aload_n 1 dX1_strikeOut_63 rfl rfl ?_
    obtain ⟨a6, ha6, h⟩ := bnd h
    refine gx_getN dX1_strikeOut_64 ha6 fl_X1_28 rfl ?_
    refine gx_iload_n 2 dX1_strikeOut_67 rfl rfl ?_
    obtain ⟨x7, hx7, h⟩ := bnd h
    refine gx_iald (kd := 13) dX1_strikeOut_68 hx7 rfl rfl ?_
    refine gx_iadd dX1_strikeOut_69 ?_
    obtain ⟨s8, hs8, h⟩ := bnd h
    refine gx_iast (kd := 13) dX1_strikeOut_70 hs8 rfl rfl ?_
    refine gx_aload_n 1 dX1_strikeOut_71 rfl rfl ?_
    obtain ⟨a9, ha9, h⟩ := bnd h
    refine gx_getN dX1_strikeOut_72 ha9 fl_X1_28 rfl ?_
    refine gx_iload_n 2 dX1_strikeOut_75 rfl rfl ?_
    refine gx_iconst (v := (0 : Int32)) dX1_strikeOut_76 ic_0 ?_
    obtain ⟨s10, hs10, h⟩ := bnd h
    refine gx_iast (kd := 13) dX1_strikeOut_77 hs10 rfl rfl ?_
    have h := Option.some.inj h
    subst h
    exact gx_vret dX1_strikeOut_78 rfl (Nat.le_of_ble_eq_true rfl) (Nat.le_of_ble_eq_true rfl) ⟨rfl, rfl⟩
set_option maxRecDepth 4000 in
theorem s_X1_strikeOut_12 {Γ : Cn} {τ : Mm} {N : Nat} : ∀ (n : Nat) (l0 : Nat) (l1 : Int32) (l2 : Int32) (σ : Mm) (o : Mm), f_X1_strikeOut_12 N n l0 l1 l2 σ = some o → Gx Γ M_X1_strikeOut 0 τ (PV o) 0 0 12 [(0, .ref (Γ.B + pp l0)), (1, .int l1), (2, .int l2)] [] σ := by
  intro n
  induction n with
  | zero =>
    intro l0 l1 l2 σ o h
    exact absurd h (by rw [f_X1_strikeOut_12]; exact fun q => nomatch q)
  | succ n ih =>
    intro l0 l1 l2 σ o h
    rw [f_X1_strikeOut_12] at h
    refine gx_iload_n 2 dX1_strikeOut_12 rfl rfl ?_
    refine gx_iconst (v := (4 : Int32)) dX1_strikeOut_13 ic_4 ?_
    refine gx_icmp_gt 85 dX1_strikeOut_14 (by decide) (fun c0 => ?_) (fun c0 => ?_)
    · rw [if_pos c0] at h
      have h := Option.some.inj h
      subst h
      exact gx_vret dX1_strikeOut_85 rfl (Nat.le_of_ble_eq_true rfl) (Nat.le_of_ble_eq_true rfl) ⟨rfl, rfl⟩
    · rw [if_neg c0] at h
      refine gx_iload_n 1 dX1_strikeOut_17 rfl rfl ?_
      refine gx_iload_n 2 dX1_strikeOut_18 rfl rfl ?_
      refine gx_iadd dX1_strikeOut_19 ?_
      refine gx_bipush (v := (7 : Int32)) dX1_strikeOut_20 ib_7 ?_
      refine gx_iand dX1_strikeOut_22 ?_
      refine gx_istore_n (lv' := [(3, .int ((l1 + l2) &&& (7 : Int32))), (0, .ref (Γ.B + pp l0)), (1, .int l1), (2, .int l2)]) dX1_strikeOut_23 rfl (Nat.le_of_ble_eq_true rfl) rfl ?_
      refine gx_aload_n 1 dX1_strikeOut_24 rfl rfl ?_
      obtain ⟨a2, ha2, h⟩ := bnd h
      refine gx_getN dX1_strikeOut_25 ha2 fl_X1_28 rfl ?_
      refine gx_iload_n 0 dX1_strikeOut_28 rfl rfl ?_
      obtain ⟨x3, hx3, h⟩ := bnd h
      refine gx_iald (kd := 13) dX1_strikeOut_29 hx3 rfl rfl ?_
      refine gx_if_le 37 dX1_strikeOut_30 (by decide) (fun c3 => ?_) (fun c3 => ?_)
      · rw [if_pos c3] at h
        refine gx_iload_n 2 dX1_strikeOut_37 rfl rfl ?_
        refine gx_iload_n 3 dX1_strikeOut_38 rfl rfl ?_
        refine gx_isub dX1_strikeOut_39 ?_
        refine gx_bipush (v := (7 : Int32)) dX1_strikeOut_40 ib_7 ?_
        refine gx_iand dX1_strikeOut_42 ?_
        exact gx_sub [1, 2, 3] rfl (s_X1_strikeOut_43 ih h)
      · rw [if_neg c3] at h
        refine gx_iload_n 0 dX1_strikeOut_33 rfl rfl ?_
        refine gx_goto 43 dX1_strikeOut_34 (by decide) ?_
        exact gx_sub [1, 2, 3] rfl (s_X1_strikeOut_43 ih h)
set_option maxRecDepth 4000 in
theorem s_X1_strikeOut_0 {Γ : Cn} {τ : Mm} {N : Nat} {l0 : Nat} {l1 : Int32} {σ : Mm} {o : Mm} (h : f_X1_strikeOut N l0 l1 σ = some o) : Gx Γ M_X1_strikeOut 0 τ (PV o) 0 0 0 [(0, .ref (Γ.B + pp l0)), (1, .int l1)] [] σ := by
  unfold f_X1_strikeOut at h
  refine gx_iload_n 1 dX1_strikeOut_0 rfl rfl ?_
  refine gx_bipush (v := (8 : Int32)) dX1_strikeOut_1 ib_8 ?_
  obtain ⟨q1, hq1, h⟩ := bnd h
  refine gx_cSNI (As := [.int l1, .int (8 : Int32)]) (st := []) dX1_strikeOut_3 (c_X10_isBelow hq1) mos_X10_isBelow (by decide) rfl ⟨Nat.le_of_ble_eq_true rfl, Nat.le_of_ble_eq_true rfl⟩ (Nat.le_of_ble_eq_true rfl) ?_
  refine gx_if_ne 10 dX1_strikeOut_6 (by decide) (fun c1 => ?_) (fun c1 => ?_)
  · rw [if_neg c1] at h
    refine gx_iconst (v := (1 : Int32)) dX1_strikeOut_10 ic_1 ?_
    refine gx_istore_n (lv' := [(2, .int (1 : Int32)), (0, .ref (Γ.B + pp l0)), (1, .int l1)]) dX1_strikeOut_11 rfl (Nat.le_of_ble_eq_true rfl) rfl ?_
    exact gx_sub [1, 2, 0] rfl (s_X1_strikeOut_12  N _ _ _ _ _ h)
  · rw [if_pos c1] at h
    have h := Option.some.inj h
    subst h
    exact gx_vret dX1_strikeOut_9 rfl (Nat.le_of_ble_eq_true rfl) (Nat.le_of_ble_eq_true rfl) ⟨rfl, rfl⟩
theorem c_X1_strikeOut {Γ : Cn} {τ : Mm} {N : Nat} {l0 : Nat} {l1 : Int32} {σ : Mm} {o : Mm} (h : f_X1_strikeOut N l0 l1 σ = some o) : Ct Γ M_X1_strikeOut yX1_strikeOut 0 τ [.ref (Γ.B + pp l0), .int l1] σ (PV o) := ct_of (by decide) rfl (fun _ => by first | rfl | contradiction) (Nat.le_of_ble_eq_true rfl) (s_X1_strikeOut_0  h)
abbrev M_X1_lastLeft : Ms := (cX1_lastLeft, RX1, 4, (some .int), false, 0, 0, 2)
def f_X1_lastLeft_80 (N : Nat) (r_27 : Nat → Int32 → Int32 → Int32 → Mm → Option (Int32 × Mm)) (l0 : Nat) (l1 : Int32) (l2 : Int32) (l3 : Int32) (σ : Mm) : Option (Int32 × Mm) :=
  r_27 l0 l1 l2 (l3 + (1 : Int32)) σ
def f_X1_lastLeft_78 (N : Nat) (r_27 : Nat → Int32 → Int32 → Int32 → Mm → Option (Int32 × Mm)) (l0 : Nat) (l1 : Int32) (l3 : Int32) (σ : Mm) : Option (Int32 × Mm) :=
  f_X1_lastLeft_80 N r_27 l0 l1 l3 l3 σ
def f_X1_lastLeft_27 (N : Nat) (r_17 : Nat → Int32 → Mm → Option (Int32 × Mm)) : Nat → Nat → Int32 → Int32 → Int32 → Mm → Option (Int32 × Mm)
  | 0, _, _, _, _, _ => none
  | n + 1, l0, l1, l2, l3, σ =>
      if (8 : Int32) ≤ l3 then (
        (ob 1 σ l0).bind fun _ =>
        (f_X1_strikeOut N l0 l2 σ).bind fun q2 =>
        r_17 l0 (l1 + (1 : Int32)) q2) else (
        (gN 1 5 σ l0).bind fun a3 =>
        (aI 13 σ a3 l3).bind fun x4 =>
        (gI 1 0 σ l0).bind fun x5 =>
        if (x4 * (2 : Int32)) ≤ x5 then (
          (gN 1 5 σ l0).bind fun a7 =>
          (aI 13 σ a7 l3).bind fun x8 =>
          if x8 ≤ 0 then (
            f_X1_lastLeft_80 N (f_X1_lastLeft_27 N r_17 n) l0 l1 l2 l3 σ) else (
            if l2 < 0 then (
              f_X1_lastLeft_78 N (f_X1_lastLeft_27 N r_17 n) l0 l1 l3 σ) else (
              (gN 1 5 σ l0).bind fun a11 =>
              (aI 13 σ a11 l3).bind fun x12 =>
              (gN 1 5 σ l0).bind fun a13 =>
              (aI 13 σ a13 l2).bind fun x14 =>
              if x14 < x12 then (
                f_X1_lastLeft_80 N (f_X1_lastLeft_27 N r_17 n) l0 l1 l2 l3 σ) else (
                f_X1_lastLeft_78 N (f_X1_lastLeft_27 N r_17 n) l0 l1 l3 σ)))) else (
          some (l3, σ)))
def f_X1_lastLeft_17 (N : Nat) : Nat → Nat → Int32 → Mm → Option (Int32 × Mm)
  | 0, _, _, _ => none
  | n + 1, l0, l1, σ =>
      if (8 : Int32) ≤ l1 then (
        some ((0 : Int32), σ)) else (
        f_X1_lastLeft_27 N (f_X1_lastLeft_17 N n) N l0 l1 (-1 : Int32) (0 : Int32) σ)
def f_X1_lastLeft (N : Nat) (l0 : Nat) (σ : Mm) : Option (Int32 × Mm) :=
  (gN 1 3 σ l0).bind fun a1 =>
  (gN 1 5 σ l0).bind fun a2 =>
  (cpA 13 σ a1 (0 : Int32) a2 (0 : Int32) (8 : Int32)).bind fun s3 =>
  f_X1_lastLeft_17 N N l0 (0 : Int32) s3
theorem mov_X1_lastLeft : MOV yX1_lastLeft M_X1_lastLeft 0 1 0 := ⟨⟨tw_104, tw_835, ⟨by decide, by decide⟩, by decide +kernel⟩, tw_834, tw_25, by decide, ⟨_, rfl, rfl⟩, rfl⟩
set_option maxRecDepth 4000 in
theorem s_X1_lastLeft_80 {Γ : Cn} {τ : Mm} {N : Nat} {r_27 : Nat → Int32 → Int32 → Int32 → Mm → Option (Int32 × Mm)} (hr_27 : ∀ (l0 : Nat) (l1 : Int32) (l2 : Int32) (l3 : Int32) (σ : Mm) (o : Int32 × Mm), r_27 l0 l1 l2 l3 σ = some o → Gx Γ M_X1_lastLeft 0 τ (PI o) 0 0 27 [(0, .ref (Γ.B + pp l0)), (1, .int l1), (2, .int l2), (3, .int l3)] [] σ) {l0 : Nat} {l1 : Int32} {l2 : Int32} {l3 : Int32} {σ : Mm} {o : Int32 × Mm} (h : f_X1_lastLeft_80 N r_27 l0 l1 l2 l3 σ = some o) : Gx Γ M_X1_lastLeft 0 τ (PI o) 0 0 80 [(0, .ref (Γ.B + pp l0)), (1, .int l1), (2, .int l2), (3, .int l3)] [] σ := by
  unfold f_X1_lastLeft_80 at h
  refine gx_iinc (v := (l3 + (1 : Int32))) (lv' := [(3, .int (l3 + (1 : Int32))), (0, .ref (Γ.B + pp l0)), (1, .int l1), (2, .int l2)]) 3 dX1_lastLeft_80 rfl (by rw [ic_1]) (Nat.le_of_ble_eq_true rfl) rfl ?_
  refine gx_goto 27 dX1_lastLeft_83 (by decide) ?_
  exact gx_sub [1, 2, 3, 0] rfl (hr_27 _ _ _ _ _ _ h)
set_option maxRecDepth 4000 in
theorem s_X1_lastLeft_78 {Γ : Cn} {τ : Mm} {N : Nat} {r_27 : Nat → Int32 → Int32 → Int32 → Mm → Option (Int32 × Mm)} (hr_27 : ∀ (l0 : Nat) (l1 : Int32) (l2 : Int32) (l3 : Int32) (σ : Mm) (o : Int32 × Mm), r_27 l0 l1 l2 l3 σ = some o → Gx Γ M_X1_lastLeft 0 τ (PI o) 0 0 27 [(0, .ref (Γ.B + pp l0)), (1, .int l1), (2, .int l2), (3, .int l3)] [] σ) {l0 : Nat} {l1 : Int32} {l3 : Int32} {σ : Mm} {o : Int32 × Mm} (h : f_X1_lastLeft_78 N r_27 l0 l1 l3 σ = some o) : Gx Γ M_X1_lastLeft 0 τ (PI o) 0 0 78 [(0, .ref (Γ.B + pp l0)), (1, .int l1), (3, .int l3)] [] σ := by
  unfold f_X1_lastLeft_78 at h
  refine gx_iload_n 2 dX1_lastLeft_78 rfl rfl ?_
  refine gx_istore_n (lv' := [(2, .int l3), (0, .ref (Γ.B + pp l0)), (1, .int l1), (3, .int l3)]) dX1_lastLeft_79 rfl (Nat.le_of_ble_eq_true rfl) rfl ?_
  exact gx_sub [1, 2, 0, 3] rfl (s_X1_lastLeft_80 hr_27 h)
set_option maxRecDepth 4000 in
theorem s_X1_lastLeft_27 {Γ : Cn} {τ : Mm} {N : Nat} {r_17 : Nat → Int32 → Mm → Option (Int32 × Mm)} (hr_17 : ∀ (l0 : Nat) (l1 : Int32) (σ : Mm) (o : Int32 × Mm), r_17 l0 l1 σ = some o → Gx Γ M_X1_lastLeft 0 τ (PI o) 0 0 17 [(0, .ref (Γ.B + pp l0)), (1, .int l1)] [] σ) : ∀ (n : Nat) (l0 : Nat) (l1 : Int32) (l2 : Int32) (l3 : Int32) (σ : Mm) (o : Int32 × Mm), f_X1_lastLeft_27 N r_17 n l0 l1 l2 l3 σ = some o → Gx Γ M_X1_lastLeft 0 τ (PI o) 0 0 27 [(0, .ref (Γ.B + pp l0)), (1, .int l1), (2, .int l2), (3, .int l3)] [] σ := by
  intro n
  induction n with
  | zero =>
    intro l0 l1 l2 l3 σ o h
    exact absurd h (by rw [f_X1_lastLeft_27]; exact fun q => nomatch q)
  | succ n ih =>
    intro l0 l1 l2 l3 σ o h
    rw [f_X1_lastLeft_27] at h
    refine gx_iload_n 3 dX1_lastLeft_27 rfl rfl ?_
    refine gx_bipush (v := (8 : Int32)) dX1_lastLeft_28 ib_8 ?_
    refine gx_icmp_ge 86 dX1_lastLeft_30 (by decide) (fun c0 => ?_) (fun c0 => ?_)
    · rw [if_pos c0] at h
      refine gx_aload_n 0 dX1_lastLeft_86 rfl rfl ?_
      refine gx_iload_n 2 dX1_lastLeft_87 rfl rfl ?_
      obtain ⟨_, hobq2, h⟩ := bnd h
      obtain ⟨q2, hq2, h⟩ := bnd h
      refine gx_cVV (As := [.int l2]) (st := []) (o := l0) dX1_lastLeft_88 (c_X1_strikeOut hq2) mov_X1_strikeOut tw_837 hobq2 rfl ⟨Nat.le_of_ble_eq_true rfl, Nat.le_of_ble_eq_true rfl⟩ (Nat.le_of_ble_eq_true rfl) ?_
      refine gx_iinc (v := (l1 + (1 : Int32))) (lv' := [(1, .int (l1 + (1 : Int32))), (0, .ref (Γ.B + pp l0)), (2, .int l2), (3, .int l3)]) 1 dX1_lastLeft_91 rfl (by rw [ic_1]) (Nat.le_of_ble_eq_true rfl) rfl ?_
      refine gx_goto 17 dX1_lastLeft_94 (by decide) ?_
      exact gx_sub [1, 0] rfl (hr_17 _ _ _ _ h)
    · rw [if_neg c0] at h
      refine gx_aload_n 0 dX1_lastLeft_33 rfl rfl ?_
      obtain ⟨a3, ha3, h⟩ := bnd h
      refine gx_getN dX1_lastLeft_34 ha3 fl_X1_28 rfl ?_
      refine gx_iload_n 3 dX1_lastLeft_37 rfl rfl ?_
      obtain ⟨x4, hx4, h⟩ := bnd h
      refine gx_iald (kd := 13) dX1_lastLeft_38 hx4 rfl rfl ?_
      refine gx_iconst (v := (2 : Int32)) dX1_lastLeft_39 ic_2 ?_
      refine gx_imul dX1_lastLeft_40 ?_
      refine gx_aload_n 0 dX1_lastLeft_41 rfl rfl ?_
      obtain ⟨x5, hx5, h⟩ := bnd h
      refine gx_getI dX1_lastLeft_42 hx5 fl_X1_9 rfl ?_
      refine gx_icmp_le 50 dX1_lastLeft_45 (by decide) (fun c5 => ?_) (fun c5 => ?_)
      · rw [if_pos c5] at h
        refine gx_aload_n 0 dX1_lastLeft_50 rfl rfl ?_
        obtain ⟨a7, ha7, h⟩ := bnd h
        refine gx_getN dX1_lastLeft_51 ha7 fl_X1_28 rfl ?_
        refine gx_iload_n 3 dX1_lastLeft_54 rfl rfl ?_
        obtain ⟨x8, hx8, h⟩ := bnd h
        refine gx_iald (kd := 13) dX1_lastLeft_55 hx8 rfl rfl ?_
        refine gx_if_le 80 dX1_lastLeft_56 (by decide) (fun c8 => ?_) (fun c8 => ?_)
        · rw [if_pos c8] at h
          exact s_X1_lastLeft_80 ih h
        · rw [if_neg c8] at h
          refine gx_iload_n 2 dX1_lastLeft_59 rfl rfl ?_
          refine gx_if_lt 78 dX1_lastLeft_60 (by decide) (fun c9 => ?_) (fun c9 => ?_)
          · rw [if_pos c9] at h
            exact gx_sub [0, 1, 3] rfl (s_X1_lastLeft_78 ih h)
          · rw [if_neg c9] at h
            refine gx_aload_n 0 dX1_lastLeft_63 rfl rfl ?_
            obtain ⟨a11, ha11, h⟩ := bnd h
            refine gx_getN dX1_lastLeft_64 ha11 fl_X1_28 rfl ?_
            refine gx_iload_n 3 dX1_lastLeft_67 rfl rfl ?_
            obtain ⟨x12, hx12, h⟩ := bnd h
            refine gx_iald (kd := 13) dX1_lastLeft_68 hx12 rfl rfl ?_
            refine gx_aload_n 0 dX1_lastLeft_69 rfl rfl ?_
            obtain ⟨a13, ha13, h⟩ := bnd h
            refine gx_getN dX1_lastLeft_70 ha13 fl_X1_28 rfl ?_
            refine gx_iload_n 2 dX1_lastLeft_73 rfl rfl ?_
            obtain ⟨x14, hx14, h⟩ := bnd h
            refine gx_iald (kd := 13) dX1_lastLeft_74 hx14 rfl rfl ?_
            refine gx_icmp_gt 80 dX1_lastLeft_75 (by decide) (fun c14 => ?_) (fun c14 => ?_)
            · rw [if_pos c14] at h
              exact s_X1_lastLeft_80 ih h
            · rw [if_neg c14] at h
              exact gx_sub [0, 1, 3] rfl (s_X1_lastLeft_78 ih h)
      · rw [if_neg c5] at h
        refine gx_iload_n 3 dX1_lastLeft_48 rfl rfl ?_
        have h := Option.some.inj h
        subst h
        exact gx_iret dX1_lastLeft_49 rfl (Nat.le_of_ble_eq_true rfl) (Nat.le_of_ble_eq_true rfl) ⟨rfl, rfl⟩
set_option maxRecDepth 4000 in
theorem s_X1_lastLeft_17 {Γ : Cn} {τ : Mm} {N : Nat} : ∀ (n : Nat) (l0 : Nat) (l1 : Int32) (σ : Mm) (o : Int32 × Mm), f_X1_lastLeft_17 N n l0 l1 σ = some o → Gx Γ M_X1_lastLeft 0 τ (PI o) 0 0 17 [(0, .ref (Γ.B + pp l0)), (1, .int l1)] [] σ := by
  intro n
  induction n with
  | zero =>
    intro l0 l1 σ o h
    exact absurd h (by rw [f_X1_lastLeft_17]; exact fun q => nomatch q)
  | succ n ih =>
    intro l0 l1 σ o h
    rw [f_X1_lastLeft_17] at h
    refine gx_iload_n 1 dX1_lastLeft_17 rfl rfl ?_
    refine gx_bipush (v := (8 : Int32)) dX1_lastLeft_18 ib_8 ?_
    refine gx_icmp_ge 97 dX1_lastLeft_20 (by decide) (fun c0 => ?_) (fun c0 => ?_)
    · rw [if_pos c0] at h
      refine gx_iconst (v := (0 : Int32)) dX1_lastLeft_97 ic_0 ?_
      have h := Option.some.inj h
      subst h
      exact gx_iret dX1_lastLeft_98 rfl (Nat.le_of_ble_eq_true rfl) (Nat.le_of_ble_eq_true rfl) ⟨rfl, rfl⟩
    · rw [if_neg c0] at h
      refine gx_iconst (v := (-1 : Int32)) dX1_lastLeft_23 ic_m1 ?_
      refine gx_istore_n (lv' := [(2, .int (-1 : Int32)), (0, .ref (Γ.B + pp l0)), (1, .int l1)]) dX1_lastLeft_24 rfl (Nat.le_of_ble_eq_true rfl) rfl ?_
      refine gx_iconst (v := (0 : Int32)) dX1_lastLeft_25 ic_0 ?_
      refine gx_istore_n (lv' := [(3, .int (0 : Int32)), (2, .int (-1 : Int32)), (0, .ref (Γ.B + pp l0)), (1, .int l1)]) dX1_lastLeft_26 rfl (Nat.le_of_ble_eq_true rfl) rfl ?_
      exact gx_sub [2, 3, 1, 0] rfl (s_X1_lastLeft_27 ih N _ _ _ _ _ _ h)
set_option maxRecDepth 4000 in
theorem s_X1_lastLeft_0 {Γ : Cn} {τ : Mm} {N : Nat} {l0 : Nat} {σ : Mm} {o : Int32 × Mm} (h : f_X1_lastLeft N l0 σ = some o) : Gx Γ M_X1_lastLeft 0 τ (PI o) 0 0 0 [(0, .ref (Γ.B + pp l0))] [] σ := by
  unfold f_X1_lastLeft at h
  refine gx_aload_n 0 dX1_lastLeft_0 rfl rfl ?_
  obtain ⟨a1, ha1, h⟩ := bnd h
  refine gx_getN dX1_lastLeft_1 ha1 fl_X1_22 rfl ?_
  refine gx_iconst (v := (0 : Int32)) dX1_lastLeft_4 ic_0 ?_
  refine gx_aload_n 0 dX1_lastLeft_5 rfl rfl ?_
  obtain ⟨a2, ha2, h⟩ := bnd h
  refine gx_getN dX1_lastLeft_6 ha2 fl_X1_28 rfl ?_
  refine gx_iconst (v := (0 : Int32)) dX1_lastLeft_9 ic_0 ?_
  refine gx_bipush (v := (8 : Int32)) dX1_lastLeft_10 ib_8 ?_
  obtain ⟨s3, hs3, h⟩ := bnd h
  refine gx_copy (kd := 13) dX1_lastLeft_12 hs3 rfl tw_836 tw_ac1 tw_ac2 tw_ac3 rfl (Nat.le_of_ble_eq_true rfl) (by decide) ?_
  refine gx_iconst (v := (0 : Int32)) dX1_lastLeft_15 ic_0 ?_
  refine gx_istore_n (lv' := [(1, .int (0 : Int32)), (0, .ref (Γ.B + pp l0))]) dX1_lastLeft_16 rfl (Nat.le_of_ble_eq_true rfl) rfl ?_
  exact gx_sub [1, 0] rfl (s_X1_lastLeft_17  N _ _ _ _ h)
theorem c_X1_lastLeft {Γ : Cn} {τ : Mm} {N : Nat} {l0 : Nat} {σ : Mm} {o : Int32 × Mm} (h : f_X1_lastLeft N l0 σ = some o) : Ct Γ M_X1_lastLeft yX1_lastLeft 0 τ [.ref (Γ.B + pp l0)] σ (PI o) := ct_of (by decide) rfl (fun _ => by first | rfl | contradiction) (Nat.le_of_ble_eq_true rfl) (s_X1_lastLeft_0  h)
abbrev M_X1_winner : Ms := (cX1_winner, RX1, 2, (some .int), false, 0, 0, 3)
def f_X1_winner (N : Nat) (l0 : Nat) (l1 : Int32) (σ : Mm) : Option (Int32 × Mm) :=
  if l1 = (0 : Int32) then (
    (gN 1 3 σ l0).bind fun a3 =>
    (ob 1 σ l0).bind fun _ =>
    (f_X1_leader N l0 a3 σ).bind fun q4 =>
    some (q4.1, q4.2)) else
  if l1 = (1 : Int32) then (
    (gN 1 4 σ l0).bind fun a6 =>
    (ob 1 σ l0).bind fun _ =>
    (f_X1_leader N l0 a6 σ).bind fun q7 =>
    some (q7.1, q7.2)) else
  if l1 = (2 : Int32) then (
    (ob 1 σ l0).bind fun _ =>
    (f_X1_middle N l0 σ).bind fun q9 =>
    some (q9.1, q9.2)) else
  (ob 1 σ l0).bind fun _ =>
    (f_X1_lastLeft N l0 σ).bind fun q10 =>
    some (q10.1, q10.2)
theorem mov_X1_winner : MOV yX1_winner M_X1_winner 1 1 0 := ⟨⟨tw_104, tw_819, ⟨by decide, by decide⟩, by decide +kernel⟩, tw_817, tw_818, by decide, ⟨_, rfl, rfl⟩, rfl⟩
set_option maxRecDepth 4000 in
theorem s_X1_winner_0 {Γ : Cn} {τ : Mm} {N : Nat} {l0 : Nat} {l1 : Int32} {σ : Mm} {o : Int32 × Mm} (h : f_X1_winner N l0 l1 σ = some o) : Gx Γ M_X1_winner 0 τ (PI o) 0 0 0 [(0, .ref (Γ.B + pp l0)), (1, .int l1)] [] σ := by
  unfold f_X1_winner at h
  refine gx_iload_n 1 dX1_winner_0 rfl rfl ?_
  by_cases c1 : l1 = (0 : Int32)
  · rw [if_pos c1] at h
    refine gx_tIn 28 dX1_winner_1 (by rw [c1]; decide) (by rw [c1]; decide) (by rw [c1]; rfl) (by decide) ?_
    refine gx_aload_n 0 dX1_winner_28 rfl rfl ?_
    refine gx_aload_n 0 dX1_winner_29 rfl rfl ?_
    obtain ⟨a3, ha3, h⟩ := bnd h
    refine gx_getN dX1_winner_30 ha3 fl_X1_22 rfl ?_
    obtain ⟨_, hobq4, h⟩ := bnd h
    obtain ⟨q4, hq4, h⟩ := bnd h
    refine gx_cVI (As := [.ref (Γ.B + pp a3)]) (st := []) (o := l0) dX1_winner_33 (c_X1_leader hq4) mov_X1_leader tw_820 hobq4 rfl ⟨Nat.le_of_ble_eq_true rfl, Nat.le_of_ble_eq_true rfl⟩ (Nat.le_of_ble_eq_true rfl) ?_
    have h := Option.some.inj h
    subst h
    exact gx_iret dX1_winner_36 rfl (Nat.le_of_ble_eq_true rfl) (Nat.le_of_ble_eq_true rfl) ⟨rfl, rfl⟩
  rw [if_neg c1] at h
  by_cases c4 : l1 = (1 : Int32)
  · rw [if_pos c4] at h
    refine gx_tIn 37 dX1_winner_1 (by rw [c4]; decide) (by rw [c4]; decide) (by rw [c4]; rfl) (by decide) ?_
    refine gx_aload_n 0 dX1_winner_37 rfl rfl ?_
    refine gx_aload_n 0 dX1_winner_38 rfl rfl ?_
    obtain ⟨a6, ha6, h⟩ := bnd h
    refine gx_getN dX1_winner_39 ha6 fl_X1_25 rfl ?_
    obtain ⟨_, hobq7, h⟩ := bnd h
    obtain ⟨q7, hq7, h⟩ := bnd h
    refine gx_cVI (As := [.ref (Γ.B + pp a6)]) (st := []) (o := l0) dX1_winner_42 (c_X1_leader hq7) mov_X1_leader tw_820 hobq7 rfl ⟨Nat.le_of_ble_eq_true rfl, Nat.le_of_ble_eq_true rfl⟩ (Nat.le_of_ble_eq_true rfl) ?_
    have h := Option.some.inj h
    subst h
    exact gx_iret dX1_winner_45 rfl (Nat.le_of_ble_eq_true rfl) (Nat.le_of_ble_eq_true rfl) ⟨rfl, rfl⟩
  rw [if_neg c4] at h
  by_cases c7 : l1 = (2 : Int32)
  · rw [if_pos c7] at h
    refine gx_tIn 46 dX1_winner_1 (by rw [c7]; decide) (by rw [c7]; decide) (by rw [c7]; rfl) (by decide) ?_
    refine gx_aload_n 0 dX1_winner_46 rfl rfl ?_
    obtain ⟨_, hobq9, h⟩ := bnd h
    obtain ⟨q9, hq9, h⟩ := bnd h
    refine gx_cVI (As := []) (st := []) (o := l0) dX1_winner_47 (c_X1_middle hq9) mov_X1_middle tw_828 hobq9 rfl ⟨Nat.le_of_ble_eq_true rfl, Nat.le_of_ble_eq_true rfl⟩ (Nat.le_of_ble_eq_true rfl) ?_
    have h := Option.some.inj h
    subst h
    exact gx_iret dX1_winner_50 rfl (Nat.le_of_ble_eq_true rfl) (Nat.le_of_ble_eq_true rfl) ⟨rfl, rfl⟩
  rw [if_neg c7] at h
  have K11 : Gx Γ M_X1_winner 0 τ (PI o) 0 0 51 [(0, .ref (Γ.B + pp l0)), (1, .int l1)] [] σ := by
    refine gx_aload_n 0 dX1_winner_51 rfl rfl ?_
    obtain ⟨_, hobq10, h⟩ := bnd h
    obtain ⟨q10, hq10, h⟩ := bnd h
    refine gx_cVI (As := []) (st := []) (o := l0) dX1_winner_52 (c_X1_lastLeft hq10) mov_X1_lastLeft tw_832 hobq10 rfl ⟨Nat.le_of_ble_eq_true rfl, Nat.le_of_ble_eq_true rfl⟩ (Nat.le_of_ble_eq_true rfl) ?_
    have h := Option.some.inj h
    subst h
    exact gx_iret dX1_winner_55 rfl (Nat.le_of_ble_eq_true rfl) (Nat.le_of_ble_eq_true rfl) ⟨rfl, rfl⟩
  by_cases hr : l1.toInt < (0) ∨ (2) < l1.toInt
  · exact gx_tOut 51 dX1_winner_1 hr (by decide) K11
  · obtain ⟨j, hj, hx⟩ := sw_in hr
    match j, hj, hx with
    | 0, _, hx => exact absurd hx c1
    | 1, _, hx => exact absurd hx c4
    | 2, _, hx => exact absurd hx c7
    | j + 3, hj, _ => exact absurd hj (by omega)
theorem c_X1_winner {Γ : Cn} {τ : Mm} {N : Nat} {l0 : Nat} {l1 : Int32} {σ : Mm} {o : Int32 × Mm} (h : f_X1_winner N l0 l1 σ = some o) : Ct Γ M_X1_winner yX1_winner 0 τ [.ref (Γ.B + pp l0), .int l1] σ (PI o) := ct_of (by decide) rfl (fun _ => by first | rfl | contradiction) (Nat.le_of_ble_eq_true rfl) (s_X1_winner_0  h)
abbrev M_X0_voteOfNextDay : Ms := (cX0_voteOfNextDay, RX0, 3, (some .int), false, 0, 0, 4)
def f_X0_voteOfNextDay_70 (N : Nat) (l0 : Nat) (l1 : Int32) (σ : Mm) : Option (Int32 × Mm) :=
  (gN 0 2 σ l0).bind fun a1 =>
  (gN 0 0 σ l0).bind fun a2 =>
  (gN 0 3 σ l0).bind fun a3 =>
  (ob 1 σ a1).bind fun _ =>
  (f_X1_open N a1 a2 a3 σ).bind fun q4 =>
  (gN 0 2 q4 l0).bind fun a5 =>
  (ob 1 q4 a5).bind fun _ =>
  (f_X1_winner N a5 l1 q4).bind fun q6 =>
  some (q6.1, q6.2)
def f_X0_voteOfNextDay_27 (N : Nat) : Nat → Nat → Int32 → Int32 → Mm → Option (Int32 × Mm)
  | 0, _, _, _, _ => none
  | n + 1, l0, l1, l2, σ =>
      (gN 0 0 σ l0).bind fun a1 =>
      (gI 7 0 σ a1).bind fun x2 =>
      if x2 ≤ l2 then (
        f_X0_voteOfNextDay_70 N l0 l1 σ) else (
        if (12 : Int32) ≤ l2 then (
          f_X0_voteOfNextDay_70 N l0 l1 σ) else (
          (gN 0 3 σ l0).bind fun a5 =>
          (gN 0 3 σ l0).bind fun a6 =>
          (aI 13 σ a6 l2).bind fun x7 =>
          (ob 0 σ l0).bind fun _ =>
          (f_X0_evening N l0 l2 (x7 &&& (7 : Int32)) σ).bind fun q8 =>
          (sI 13 q8.2 a5 l2 q8.1).bind fun s9 =>
          f_X0_voteOfNextDay_27 N n l0 l1 (l2 + (1 : Int32)) s9))
def f_X0_voteOfNextDay (N : Nat) (l0 : Nat) (l1 : Int32) (σ : Mm) : Option (Int32 × Mm) :=
  (gI 0 7 σ l0).bind fun x1 =>
  (f_X10_nextDrawn N x1 σ).bind fun q2 =>
  (pI 0 7 q2.2 l0 q2.1).bind fun s3 =>
  (gI 0 7 s3 l0).bind fun x4 =>
  if (65536 : Int32) = 0 then none else
  if (8 : Int32) = 0 then none else
  (pI 0 8 s3 l0 ((x4 / (65536 : Int32)) - (x4 / (65536 : Int32)) / (8 : Int32) * (8 : Int32))).bind fun s7 =>
  f_X0_voteOfNextDay_27 N N l0 l1 (0 : Int32) s7
theorem mov_X0_voteOfNextDay : MOV yX0_voteOfNextDay M_X0_voteOfNextDay 1 0 0 := ⟨⟨tw_106, tw_999, ⟨by decide, by decide⟩, by decide +kernel⟩, tw_997, tw_998, by decide, ⟨_, rfl, rfl⟩, rfl⟩
set_option maxRecDepth 4000 in
theorem s_X0_voteOfNextDay_70 {Γ : Cn} {τ : Mm} {N : Nat} {l0 : Nat} {l1 : Int32} {σ : Mm} {o : Int32 × Mm} (h : f_X0_voteOfNextDay_70 N l0 l1 σ = some o) : Gx Γ M_X0_voteOfNextDay 0 τ (PI o) 0 0 70 [(0, .ref (Γ.B + pp l0)), (1, .int l1)] [] σ := by
  unfold f_X0_voteOfNextDay_70 at h
  refine gx_aload_n 0 dX0_voteOfNextDay_70 rfl rfl ?_
  obtain ⟨a1, ha1, h⟩ := bnd h
  refine gx_getN dX0_voteOfNextDay_71 ha1 fl_X0_40 rfl ?_
  refine gx_aload_n 0 dX0_voteOfNextDay_74 rfl rfl ?_
  obtain ⟨a2, ha2, h⟩ := bnd h
  refine gx_getN dX0_voteOfNextDay_75 ha2 fl_X0_32 rfl ?_
  refine gx_aload_n 0 dX0_voteOfNextDay_78 rfl rfl ?_
  obtain ⟨a3, ha3, h⟩ := bnd h
  refine gx_getN dX0_voteOfNextDay_79 ha3 fl_X0_9 rfl ?_
  obtain ⟨_, hobq4, h⟩ := bnd h
  obtain ⟨q4, hq4, h⟩ := bnd h
  refine gx_cVV (As := [.ref (Γ.B + pp a2), .ref (Γ.B + pp a3)]) (st := []) (o := a1) dX0_voteOfNextDay_82 (c_X1_open hq4) mov_X1_open tw_1008 hobq4 rfl ⟨Nat.le_of_ble_eq_true rfl, Nat.le_of_ble_eq_true rfl⟩ (Nat.le_of_ble_eq_true rfl) ?_
  refine gx_aload_n 0 dX0_voteOfNextDay_85 rfl rfl ?_
  obtain ⟨a5, ha5, h⟩ := bnd h
  refine gx_getN dX0_voteOfNextDay_86 ha5 fl_X0_40 rfl ?_
  refine gx_iload_n 1 dX0_voteOfNextDay_89 rfl rfl ?_
  obtain ⟨_, hobq6, h⟩ := bnd h
  obtain ⟨q6, hq6, h⟩ := bnd h
  refine gx_cVI (As := [.int l1]) (st := []) (o := a5) dX0_voteOfNextDay_90 (c_X1_winner hq6) mov_X1_winner tw_1009 hobq6 rfl ⟨Nat.le_of_ble_eq_true rfl, Nat.le_of_ble_eq_true rfl⟩ (Nat.le_of_ble_eq_true rfl) ?_
  have h := Option.some.inj h
  subst h
  exact gx_iret dX0_voteOfNextDay_93 rfl (Nat.le_of_ble_eq_true rfl) (Nat.le_of_ble_eq_true rfl) ⟨rfl, rfl⟩
set_option maxRecDepth 4000 in
theorem s_X0_voteOfNextDay_27 {Γ : Cn} {τ : Mm} {N : Nat} : ∀ (n : Nat) (l0 : Nat) (l1 : Int32) (l2 : Int32) (σ : Mm) (o : Int32 × Mm), f_X0_voteOfNextDay_27 N n l0 l1 l2 σ = some o → Gx Γ M_X0_voteOfNextDay 0 τ (PI o) 0 0 27 [(0, .ref (Γ.B + pp l0)), (1, .int l1), (2, .int l2)] [] σ := by
  intro n
  induction n with
  | zero =>
    intro l0 l1 l2 σ o h
    exact absurd h (by rw [f_X0_voteOfNextDay_27]; exact fun q => nomatch q)
  | succ n ih =>
    intro l0 l1 l2 σ o h
    rw [f_X0_voteOfNextDay_27] at h
    refine gx_iload_n 2 dX0_voteOfNextDay_27 rfl rfl ?_
    refine gx_aload_n 0 dX0_voteOfNextDay_28 rfl rfl ?_
    obtain ⟨a1, ha1, h⟩ := bnd h
    refine gx_getN dX0_voteOfNextDay_29 ha1 fl_X0_32 rfl ?_
    obtain ⟨x2, hx2, h⟩ := bnd h
    refine gx_getI dX0_voteOfNextDay_32 hx2 fl_X0_61 rfl ?_
    refine gx_icmp_ge 70 dX0_voteOfNextDay_35 (by decide) (fun c2 => ?_) (fun c2 => ?_)
    · rw [if_pos c2] at h
      exact gx_sub [0, 1] rfl (s_X0_voteOfNextDay_70  h)
    · rw [if_neg c2] at h
      refine gx_iload_n 2 dX0_voteOfNextDay_38 rfl rfl ?_
      refine gx_bipush (v := (12 : Int32)) dX0_voteOfNextDay_39 ib_12 ?_
      refine gx_icmp_ge 70 dX0_voteOfNextDay_41 (by decide) (fun c3 => ?_) (fun c3 => ?_)
      · rw [if_pos c3] at h
        exact gx_sub [0, 1] rfl (s_X0_voteOfNextDay_70  h)
      · rw [if_neg c3] at h
        refine gx_aload_n 0 dX0_voteOfNextDay_44 rfl rfl ?_
        obtain ⟨a5, ha5, h⟩ := bnd h
        refine gx_getN dX0_voteOfNextDay_45 ha5 fl_X0_9 rfl ?_
        refine gx_iload_n 2 dX0_voteOfNextDay_48 rfl rfl ?_
        refine gx_aload_n 0 dX0_voteOfNextDay_49 rfl rfl ?_
        refine gx_iload_n 2 dX0_voteOfNextDay_50 rfl rfl ?_
        refine gx_aload_n 0 dX0_voteOfNextDay_51 rfl rfl ?_
        obtain ⟨a6, ha6, h⟩ := bnd h
        refine gx_getN dX0_voteOfNextDay_52 ha6 fl_X0_9 rfl ?_
        refine gx_iload_n 2 dX0_voteOfNextDay_55 rfl rfl ?_
        obtain ⟨x7, hx7, h⟩ := bnd h
        refine gx_iald (kd := 13) dX0_voteOfNextDay_56 hx7 rfl rfl ?_
        refine gx_bipush (v := (7 : Int32)) dX0_voteOfNextDay_57 ib_7 ?_
        refine gx_iand dX0_voteOfNextDay_59 ?_
        obtain ⟨_, hobq8, h⟩ := bnd h
        obtain ⟨q8, hq8, h⟩ := bnd h
        refine gx_cVI (As := [.int l2, .int (x7 &&& (7 : Int32))]) (st := [.int l2, .ref (Γ.B + pp a5)]) (o := l0) dX0_voteOfNextDay_60 (c_X0_evening hq8) mov_X0_evening tw_1002 hobq8 rfl ⟨Nat.le_of_ble_eq_true rfl, Nat.le_of_ble_eq_true rfl⟩ (Nat.le_of_ble_eq_true rfl) ?_
        obtain ⟨s9, hs9, h⟩ := bnd h
        refine gx_iast (kd := 13) dX0_voteOfNextDay_63 hs9 rfl rfl ?_
        refine gx_iinc (v := (l2 + (1 : Int32))) (lv' := [(2, .int (l2 + (1 : Int32))), (0, .ref (Γ.B + pp l0)), (1, .int l1)]) 2 dX0_voteOfNextDay_64 rfl (by rw [ic_1]) (Nat.le_of_ble_eq_true rfl) rfl ?_
        refine gx_goto 27 dX0_voteOfNextDay_67 (by decide) ?_
        exact gx_sub [1, 2, 0] rfl (ih _ _ _ _ _ h)
set_option maxRecDepth 4000 in
theorem s_X0_voteOfNextDay_0 {Γ : Cn} {τ : Mm} {N : Nat} {l0 : Nat} {l1 : Int32} {σ : Mm} {o : Int32 × Mm} (h : f_X0_voteOfNextDay N l0 l1 σ = some o) : Gx Γ M_X0_voteOfNextDay 0 τ (PI o) 0 0 0 [(0, .ref (Γ.B + pp l0)), (1, .int l1)] [] σ := by
  unfold f_X0_voteOfNextDay at h
  refine gx_aload_n 0 dX0_voteOfNextDay_0 rfl rfl ?_
  refine gx_aload_n 0 dX0_voteOfNextDay_1 rfl rfl ?_
  obtain ⟨x1, hx1, h⟩ := bnd h
  refine gx_getI dX0_voteOfNextDay_2 hx1 fl_X0_26 rfl ?_
  obtain ⟨q2, hq2, h⟩ := bnd h
  refine gx_cSNI (As := [.int x1]) (st := [.ref (Γ.B + pp l0)]) dX0_voteOfNextDay_5 (c_X10_nextDrawn hq2) mos_X10_nextDrawn (by decide) rfl ⟨Nat.le_of_ble_eq_true rfl, Nat.le_of_ble_eq_true rfl⟩ (Nat.le_of_ble_eq_true rfl) ?_
  obtain ⟨s3, hs3, h⟩ := bnd h
  refine gx_putI dX0_voteOfNextDay_8 hs3 fl_X0_26 fp_X0_0_7 rfl ?_
  refine gx_aload_n 0 dX0_voteOfNextDay_11 rfl rfl ?_
  refine gx_aload_n 0 dX0_voteOfNextDay_12 rfl rfl ?_
  obtain ⟨x4, hx4, h⟩ := bnd h
  refine gx_getI dX0_voteOfNextDay_13 hx4 fl_X0_26 rfl ?_
  refine gx_ldc (v := (65536 : Int32)) dX0_voteOfNextDay_16 tw_1001 ?_
  obtain ⟨c4, h⟩ := of_ifn h
  refine gx_idiv dX0_voteOfNextDay_18 c4 ?_
  refine gx_bipush (v := (8 : Int32)) dX0_voteOfNextDay_19 ib_8 ?_
  obtain ⟨c5, h⟩ := of_ifn h
  refine gx_irem dX0_voteOfNextDay_21 c5 ?_
  obtain ⟨s7, hs7, h⟩ := bnd h
  refine gx_putI dX0_voteOfNextDay_22 hs7 fl_X0_29 fp_X0_0_8 rfl ?_
  refine gx_iconst (v := (0 : Int32)) dX0_voteOfNextDay_25 ic_0 ?_
  refine gx_istore_n (lv' := [(2, .int (0 : Int32)), (0, .ref (Γ.B + pp l0)), (1, .int l1)]) dX0_voteOfNextDay_26 rfl (Nat.le_of_ble_eq_true rfl) rfl ?_
  exact gx_sub [1, 2, 0] rfl (s_X0_voteOfNextDay_27  N _ _ _ _ _ h)
theorem c_X0_voteOfNextDay {Γ : Cn} {τ : Mm} {N : Nat} {l0 : Nat} {l1 : Int32} {σ : Mm} {o : Int32 × Mm} (h : f_X0_voteOfNextDay N l0 l1 σ = some o) : Ct Γ M_X0_voteOfNextDay yX0_voteOfNextDay 0 τ [.ref (Γ.B + pp l0), .int l1] σ (PI o) := ct_of (by decide) rfl (fun _ => by first | rfl | contradiction) (Nat.le_of_ble_eq_true rfl) (s_X0_voteOfNextDay_0  h)
abbrev M_X1_init : Ms := (cX1_init, RX1, 1, none, true, 5, 48, 1)
def f_X1_init (N : Nat) (l0 : Nat) (σ : Mm) : Option Mm :=
  (pI 1 0 σ l0 (0 : Int32)).bind fun s1 =>
  (nA 13 s1 (12 : Int32)).bind fun s2 =>
  (pR 1 1 s2 l0 (some (pq (nn s1)))).bind fun s3 =>
  (nA 13 s3 (12 : Int32)).bind fun s4 =>
  (pR 1 2 s4 l0 (some (pq (nn s3)))).bind fun s5 =>
  (nA 13 s5 (8 : Int32)).bind fun s6 =>
  (pR 1 3 s6 l0 (some (pq (nn s5)))).bind fun s7 =>
  (nA 13 s7 (8 : Int32)).bind fun s8 =>
  (pR 1 4 s8 l0 (some (pq (nn s7)))).bind fun s9 =>
  (nA 13 s9 (8 : Int32)).bind fun s10 =>
  (pR 1 5 s10 l0 (some (pq (nn s9)))).bind fun s11 =>
  some s11
theorem moi_X1_init : MOI yX1_init M_X1_init 0 := ⟨⟨tw_104, tw_315, ⟨by decide, by decide⟩, by decide +kernel⟩, tw_314, rfl, rfl⟩
set_option maxRecDepth 4000 in
theorem s_X1_init_0 {Γ : Cn} {τ : Mm} {N : Nat} {l0 : Nat} {σ : Mm} {o : Mm} (h : f_X1_init N l0 σ = some o) : Gx Γ M_X1_init 0 τ (PV o) 0 0 0 [(0, .ref (Γ.B + pp l0))] [] σ := by
  unfold f_X1_init at h
  refine gx_aload_n 0 dX1_init_0 rfl rfl ?_
  refine gx_objInit dX1_init_1 tw_316 tw_oi tw_oc (Nat.le_of_ble_eq_true rfl) (Nat.le_of_ble_eq_true rfl) ?_
  refine gx_aload_n 0 dX1_init_4 rfl rfl ?_
  refine gx_iconst (v := (0 : Int32)) dX1_init_5 ic_0 ?_
  obtain ⟨s1, hs1, h⟩ := bnd h
  refine gx_putI dX1_init_6 hs1 fl_X1_9 fp_X1_1_0 rfl ?_
  refine gx_aload_n 0 dX1_init_9 rfl rfl ?_
  refine gx_bipush (v := (12 : Int32)) dX1_init_10 ib_12 ?_
  obtain ⟨s2, hs2, h⟩ := bnd h
  refine gx_newI dX1_init_12 hs2 ac_I rfl (by decide) rfl (Nat.le_of_ble_eq_true rfl) (Nat.le_of_ble_eq_true rfl) ?_
  obtain ⟨s3, hs3, h⟩ := bnd h
  refine gx_putR (r := (some (pq (nn s1)))) dX1_init_14 hs3 fl_X1_15 fp_X1_1_1 (Or.inr ⟨_, rfl⟩) (fun _ => rfl) rfl ?_
  refine gx_aload_n 0 dX1_init_17 rfl rfl ?_
  refine gx_bipush (v := (12 : Int32)) dX1_init_18 ib_12 ?_
  obtain ⟨s4, hs4, h⟩ := bnd h
  refine gx_newI dX1_init_20 hs4 ac_I rfl (by decide) rfl (Nat.le_of_ble_eq_true rfl) (Nat.le_of_ble_eq_true rfl) ?_
  obtain ⟨s5, hs5, h⟩ := bnd h
  refine gx_putR (r := (some (pq (nn s3)))) dX1_init_22 hs5 fl_X1_19 fp_X1_1_2 (Or.inr ⟨_, rfl⟩) (fun _ => rfl) rfl ?_
  refine gx_aload_n 0 dX1_init_25 rfl rfl ?_
  refine gx_bipush (v := (8 : Int32)) dX1_init_26 ib_8 ?_
  obtain ⟨s6, hs6, h⟩ := bnd h
  refine gx_newI dX1_init_28 hs6 ac_I rfl (by decide) rfl (Nat.le_of_ble_eq_true rfl) (Nat.le_of_ble_eq_true rfl) ?_
  obtain ⟨s7, hs7, h⟩ := bnd h
  refine gx_putR (r := (some (pq (nn s5)))) dX1_init_30 hs7 fl_X1_22 fp_X1_1_3 (Or.inr ⟨_, rfl⟩) (fun _ => rfl) rfl ?_
  refine gx_aload_n 0 dX1_init_33 rfl rfl ?_
  refine gx_bipush (v := (8 : Int32)) dX1_init_34 ib_8 ?_
  obtain ⟨s8, hs8, h⟩ := bnd h
  refine gx_newI dX1_init_36 hs8 ac_I rfl (by decide) rfl (Nat.le_of_ble_eq_true rfl) (Nat.le_of_ble_eq_true rfl) ?_
  obtain ⟨s9, hs9, h⟩ := bnd h
  refine gx_putR (r := (some (pq (nn s7)))) dX1_init_38 hs9 fl_X1_25 fp_X1_1_4 (Or.inr ⟨_, rfl⟩) (fun _ => rfl) rfl ?_
  refine gx_aload_n 0 dX1_init_41 rfl rfl ?_
  refine gx_bipush (v := (8 : Int32)) dX1_init_42 ib_8 ?_
  obtain ⟨s10, hs10, h⟩ := bnd h
  refine gx_newI dX1_init_44 hs10 ac_I rfl (by decide) rfl (Nat.le_of_ble_eq_true rfl) (Nat.le_of_ble_eq_true rfl) ?_
  obtain ⟨s11, hs11, h⟩ := bnd h
  refine gx_putR (r := (some (pq (nn s9)))) dX1_init_46 hs11 fl_X1_28 fp_X1_1_5 (Or.inr ⟨_, rfl⟩) (fun _ => rfl) rfl ?_
  have h := Option.some.inj h
  subst h
  exact gx_vret dX1_init_49 rfl (Nat.le_of_ble_eq_true rfl) (Nat.le_of_ble_eq_true rfl) ⟨rfl, rfl⟩
theorem c_X1_init {Γ : Cn} {τ : Mm} {N : Nat} {l0 : Nat} {σ : Mm} {o : Mm} (h : f_X1_init N l0 σ = some o) : Ct Γ M_X1_init yX1_init 0 τ [.ref (Γ.B + pp l0)] σ (PV o) := ct_of (by decide) rfl (fun _ => by first | rfl | contradiction) (Nat.le_of_ble_eq_true rfl) (s_X1_init_0  h)
abbrev M_X1_put : Ms := (cX1_put, RX1, 3, none, false, 0, 0, 1)
def f_X1_put_36 (N : Nat) (σ : Mm) : Option Mm :=
  some σ
def f_X1_put (N : Nat) (l0 : Nat) (l1 : Int32) (l2 : Int32) (σ : Mm) : Option Mm :=
  (f_X10_isBelow N l1 (12 : Int32) σ).bind fun q1 =>
  if q1.1 = 0 then (
    f_X1_put_36 N q1.2) else (
    (gI 1 0 q1.2 l0).bind fun x3 =>
    if x3 ≤ l1 then (
      f_X1_put_36 N q1.2) else (
      (ob 1 q1.2 l0).bind fun _ =>
      (f_X1_tally N l0 l1 (-1 : Int32) q1.2).bind fun q5 =>
      (gN 1 2 q5 l0).bind fun a6 =>
      (sI 13 q5 a6 l1 l2).bind fun s7 =>
      (ob 1 s7 l0).bind fun _ =>
      (f_X1_tally N l0 l1 (1 : Int32) s7).bind fun q8 =>
      f_X1_put_36 N q8))
theorem mov_X1_put : MOV yX1_put M_X1_put 2 1 0 := ⟨⟨tw_104, tw_889, ⟨by decide, by decide⟩, by decide +kernel⟩, tw_887, tw_888, by decide, ⟨_, rfl, rfl⟩, rfl⟩
set_option maxRecDepth 4000 in
theorem s_X1_put_36 {Γ : Cn} {τ : Mm} {N : Nat} {σ : Mm} {o : Mm} (h : f_X1_put_36 N σ = some o) : Gx Γ M_X1_put 0 τ (PV o) 0 0 36 [] [] σ := by
  unfold f_X1_put_36 at h
  have h := Option.some.inj h
  subst h
  exact gx_vret dX1_put_36 rfl (Nat.le_of_ble_eq_true rfl) (Nat.le_of_ble_eq_true rfl) ⟨rfl, rfl⟩
set_option maxRecDepth 4000 in
theorem s_X1_put_0 {Γ : Cn} {τ : Mm} {N : Nat} {l0 : Nat} {l1 : Int32} {l2 : Int32} {σ : Mm} {o : Mm} (h : f_X1_put N l0 l1 l2 σ = some o) : Gx Γ M_X1_put 0 τ (PV o) 0 0 0 [(0, .ref (Γ.B + pp l0)), (1, .int l1), (2, .int l2)] [] σ := by
  unfold f_X1_put at h
  refine gx_iload_n 1 dX1_put_0 rfl rfl ?_
  refine gx_bipush (v := (12 : Int32)) dX1_put_1 ib_12 ?_
  obtain ⟨q1, hq1, h⟩ := bnd h
  refine gx_cSNI (As := [.int l1, .int (12 : Int32)]) (st := []) dX1_put_3 (c_X10_isBelow hq1) mos_X10_isBelow (by decide) rfl ⟨Nat.le_of_ble_eq_true rfl, Nat.le_of_ble_eq_true rfl⟩ (Nat.le_of_ble_eq_true rfl) ?_
  refine gx_if_eq 36 dX1_put_6 (by decide) (fun c1 => ?_) (fun c1 => ?_)
  · rw [if_pos c1] at h
    exact gx_sub [] rfl (s_X1_put_36  h)
  · rw [if_neg c1] at h
    refine gx_iload_n 1 dX1_put_9 rfl rfl ?_
    refine gx_aload_n 0 dX1_put_10 rfl rfl ?_
    obtain ⟨x3, hx3, h⟩ := bnd h
    refine gx_getI dX1_put_11 hx3 fl_X1_9 rfl ?_
    refine gx_icmp_ge 36 dX1_put_14 (by decide) (fun c3 => ?_) (fun c3 => ?_)
    · rw [if_pos c3] at h
      exact gx_sub [] rfl (s_X1_put_36  h)
    · rw [if_neg c3] at h
      refine gx_aload_n 0 dX1_put_17 rfl rfl ?_
      refine gx_iload_n 1 dX1_put_18 rfl rfl ?_
      refine gx_iconst (v := (-1 : Int32)) dX1_put_19 ic_m1 ?_
      obtain ⟨_, hobq5, h⟩ := bnd h
      obtain ⟨q5, hq5, h⟩ := bnd h
      refine gx_cVV (As := [.int l1, .int (-1 : Int32)]) (st := []) (o := l0) dX1_put_20 (c_X1_tally hq5) mov_X1_tally tw_812 hobq5 rfl ⟨Nat.le_of_ble_eq_true rfl, Nat.le_of_ble_eq_true rfl⟩ (Nat.le_of_ble_eq_true rfl) ?_
      refine gx_aload_n 0 dX1_put_23 rfl rfl ?_
      obtain ⟨a6, ha6, h⟩ := bnd h
      refine gx_getN dX1_put_24 ha6 fl_X1_19 rfl ?_
      refine gx_iload_n 1 dX1_put_27 rfl rfl ?_
      refine gx_iload_n 2 dX1_put_28 rfl rfl ?_
      obtain ⟨s7, hs7, h⟩ := bnd h
      refine gx_iast (kd := 13) dX1_put_29 hs7 rfl rfl ?_
      refine gx_aload_n 0 dX1_put_30 rfl rfl ?_
      refine gx_iload_n 1 dX1_put_31 rfl rfl ?_
      refine gx_iconst (v := (1 : Int32)) dX1_put_32 ic_1 ?_
      obtain ⟨_, hobq8, h⟩ := bnd h
      obtain ⟨q8, hq8, h⟩ := bnd h
      refine gx_cVV (As := [.int l1, .int (1 : Int32)]) (st := []) (o := l0) dX1_put_33 (c_X1_tally hq8) mov_X1_tally tw_812 hobq8 rfl ⟨Nat.le_of_ble_eq_true rfl, Nat.le_of_ble_eq_true rfl⟩ (Nat.le_of_ble_eq_true rfl) ?_
      exact gx_sub [] rfl (s_X1_put_36  h)
theorem c_X1_put {Γ : Cn} {τ : Mm} {N : Nat} {l0 : Nat} {l1 : Int32} {l2 : Int32} {σ : Mm} {o : Mm} (h : f_X1_put N l0 l1 l2 σ = some o) : Ct Γ M_X1_put yX1_put 0 τ [.ref (Γ.B + pp l0), .int l1, .int l2] σ (PV o) := ct_of (by decide) rfl (fun _ => by first | rfl | contradiction) (Nat.le_of_ble_eq_true rfl) (s_X1_put_0  h)
abbrev M_X2_init : Ms := (cX2_init, RX2, 1, none, true, 1, 400, 1)
def f_X2_init (N : Nat) (l0 : Nat) (σ : Mm) : Option Mm :=
  (nA 13 σ (400 : Int32)).bind fun s1 =>
  (pR 2 0 s1 l0 (some (pq (nn σ)))).bind fun s2 =>
  (pI 2 1 s2 l0 (0 : Int32)).bind fun s3 =>
  some s3
theorem moi_X2_init : MOI yX2_init M_X2_init 0 := ⟨⟨tw_101, tw_188, ⟨by decide, by decide⟩, by decide +kernel⟩, tw_187, rfl, rfl⟩
set_option maxRecDepth 4000 in
theorem s_X2_init_0 {Γ : Cn} {τ : Mm} {N : Nat} {l0 : Nat} {σ : Mm} {o : Mm} (h : f_X2_init N l0 σ = some o) : Gx Γ M_X2_init 0 τ (PV o) 0 0 0 [(0, .ref (Γ.B + pp l0))] [] σ := by
  unfold f_X2_init at h
  refine gx_aload_n 0 dX2_init_0 rfl rfl ?_
  refine gx_objInit dX2_init_1 tw_189 tw_oi tw_oc (Nat.le_of_ble_eq_true rfl) (Nat.le_of_ble_eq_true rfl) ?_
  refine gx_aload_n 0 dX2_init_4 rfl rfl ?_
  refine gx_sipush (v := (400 : Int32)) dX2_init_5 is_400 ?_
  obtain ⟨s1, hs1, h⟩ := bnd h
  refine gx_newI dX2_init_8 hs1 ac_I rfl (by decide) rfl (Nat.le_of_ble_eq_true rfl) (Nat.le_of_ble_eq_true rfl) ?_
  obtain ⟨s2, hs2, h⟩ := bnd h
  refine gx_putR (r := (some (pq (nn σ)))) dX2_init_10 hs2 fl_X2_9 fp_X2_2_0 (Or.inr ⟨_, rfl⟩) (fun _ => rfl) rfl ?_
  refine gx_aload_n 0 dX2_init_13 rfl rfl ?_
  refine gx_iconst (v := (0 : Int32)) dX2_init_14 ic_0 ?_
  obtain ⟨s3, hs3, h⟩ := bnd h
  refine gx_putI dX2_init_15 hs3 fl_X2_15 fp_X2_2_1 rfl ?_
  have h := Option.some.inj h
  subst h
  exact gx_vret dX2_init_18 rfl (Nat.le_of_ble_eq_true rfl) (Nat.le_of_ble_eq_true rfl) ⟨rfl, rfl⟩
theorem c_X2_init {Γ : Cn} {τ : Mm} {N : Nat} {l0 : Nat} {σ : Mm} {o : Mm} (h : f_X2_init N l0 σ = some o) : Ct Γ M_X2_init yX2_init 0 τ [.ref (Γ.B + pp l0)] σ (PV o) := ct_of (by decide) rfl (fun _ => by first | rfl | contradiction) (Nat.le_of_ble_eq_true rfl) (s_X2_init_0  h)
abbrev M_X2_clear : Ms := (cX2_clear, RX2, 1, none, false, 0, 0, 0)
def f_X2_clear (N : Nat) (l0 : Nat) (σ : Mm) : Option Mm :=
  (pI 2 1 σ l0 (0 : Int32)).bind fun s1 =>
  some s1
theorem mov_X2_clear : MOV yX2_clear M_X2_clear 0 2 0 := ⟨⟨tw_101, tw_641, ⟨by decide, by decide⟩, by decide +kernel⟩, tw_639, tw_640, by decide, ⟨_, rfl, rfl⟩, rfl⟩
set_option maxRecDepth 4000 in
theorem s_X2_clear_0 {Γ : Cn} {τ : Mm} {N : Nat} {l0 : Nat} {σ : Mm} {o : Mm} (h : f_X2_clear N l0 σ = some o) : Gx Γ M_X2_clear 0 τ (PV o) 0 0 0 [(0, .ref (Γ.B + pp l0))] [] σ := by
  unfold f_X2_clear at h
  refine gx_aload_n 0 dX2_clear_0 rfl rfl ?_
  refine gx_iconst (v := (0 : Int32)) dX2_clear_1 ic_0 ?_
  obtain ⟨s1, hs1, h⟩ := bnd h
  refine gx_putI dX2_clear_2 hs1 fl_X2_15 fp_X2_2_1 rfl ?_
  have h := Option.some.inj h
  subst h
  exact gx_vret dX2_clear_5 rfl (Nat.le_of_ble_eq_true rfl) (Nat.le_of_ble_eq_true rfl) ⟨rfl, rfl⟩
theorem c_X2_clear {Γ : Cn} {τ : Mm} {N : Nat} {l0 : Nat} {σ : Mm} {o : Mm} (h : f_X2_clear N l0 σ = some o) : Ct Γ M_X2_clear yX2_clear 0 τ [.ref (Γ.B + pp l0)] σ (PV o) := ct_of (by decide) rfl (fun _ => by first | rfl | contradiction) (Nat.le_of_ble_eq_true rfl) (s_X2_clear_0  h)
abbrev M_X2_become : Ms := (cX2_become, RX2, 2, none, false, 0, 0, 1)
def f_X2_become (N : Nat) (l0 : Nat) (l1 : Nat) (σ : Mm) : Option Mm :=
  (gI 2 1 σ l1).bind fun x1 =>
  (pI 2 1 σ l0 x1).bind fun s2 =>
  (gN 2 0 s2 l1).bind fun a3 =>
  (gN 2 0 s2 l0).bind fun a4 =>
  (cpA 13 s2 a3 (0 : Int32) a4 (0 : Int32) (400 : Int32)).bind fun s5 =>
  some s5
theorem mov_X2_become : MOV yX2_become M_X2_become 1 2 0 := ⟨⟨tw_101, tw_680, ⟨by decide, by decide⟩, by decide +kernel⟩, tw_678, tw_679, by decide, ⟨_, rfl, rfl⟩, rfl⟩
set_option maxRecDepth 4000 in
theorem s_X2_become_0 {Γ : Cn} {τ : Mm} {N : Nat} {l0 : Nat} {l1 : Nat} {σ : Mm} {o : Mm} (h : f_X2_become N l0 l1 σ = some o) : Gx Γ M_X2_become 0 τ (PV o) 0 0 0 [(0, .ref (Γ.B + pp l0)), (1, .ref (Γ.B + pp l1))] [] σ := by
  unfold f_X2_become at h
  refine gx_aload_n 0 dX2_become_0 rfl rfl ?_
  refine gx_aload_n 1 dX2_become_1 rfl rfl ?_
  obtain ⟨x1, hx1, h⟩ := bnd h
  refine gx_getI dX2_become_2 hx1 fl_X2_15 rfl ?_
  obtain ⟨s2, hs2, h⟩ := bnd h
  refine gx_putI dX2_become_5 hs2 fl_X2_15 fp_X2_2_1 rfl ?_
  refine gx_aload_n 1 dX2_become_8 rfl rfl ?_
  obtain ⟨a3, ha3, h⟩ := bnd h
  refine gx_getN dX2_become_9 ha3 fl_X2_9 rfl ?_
  refine gx_iconst (v := (0 : Int32)) dX2_become_12 ic_0 ?_
  refine gx_aload_n 0 dX2_become_13 rfl rfl ?_
  obtain ⟨a4, ha4, h⟩ := bnd h
  refine gx_getN dX2_become_14 ha4 fl_X2_9 rfl ?_
  refine gx_iconst (v := (0 : Int32)) dX2_become_17 ic_0 ?_
  refine gx_sipush (v := (400 : Int32)) dX2_become_18 is_400 ?_
  obtain ⟨s5, hs5, h⟩ := bnd h
  refine gx_copy (kd := 13) dX2_become_21 hs5 rfl tw_681 tw_ac1 tw_ac2 tw_ac3 rfl (Nat.le_of_ble_eq_true rfl) (by decide) ?_
  have h := Option.some.inj h
  subst h
  exact gx_vret dX2_become_24 rfl (Nat.le_of_ble_eq_true rfl) (Nat.le_of_ble_eq_true rfl) ⟨rfl, rfl⟩
theorem c_X2_become {Γ : Cn} {τ : Mm} {N : Nat} {l0 : Nat} {l1 : Nat} {σ : Mm} {o : Mm} (h : f_X2_become N l0 l1 σ = some o) : Ct Γ M_X2_become yX2_become 0 τ [.ref (Γ.B + pp l0), .ref (Γ.B + pp l1)] σ (PV o) := ct_of (by decide) rfl (fun _ => by first | rfl | contradiction) (Nat.le_of_ble_eq_true rfl) (s_X2_become_0  h)
abbrev M_X2_add : Ms := (cX2_add, RX2, 2, none, false, 0, 0, 0)
def f_X2_add_37 (N : Nat) (σ : Mm) : Option Mm :=
  some σ
def f_X2_add (N : Nat) (l0 : Nat) (l1 : Int32) (σ : Mm) : Option Mm :=
  (gI 2 1 σ l0).bind fun x1 =>
  if x1 < 0 then (
    f_X2_add_37 N σ) else (
    (gI 2 1 σ l0).bind fun x3 =>
    if (400 : Int32) ≤ x3 then (
      f_X2_add_37 N σ) else (
      (gN 2 0 σ l0).bind fun a5 =>
      (gI 2 1 σ l0).bind fun x6 =>
      (sI 13 σ a5 x6 l1).bind fun s7 =>
      (gI 2 1 s7 l0).bind fun x8 =>
      (pI 2 1 s7 l0 (x8 + (1 : Int32))).bind fun s9 =>
      f_X2_add_37 N s9))
theorem mov_X2_add : MOV yX2_add M_X2_add 1 2 0 := ⟨⟨tw_101, tw_656, ⟨by decide, by decide⟩, by decide +kernel⟩, tw_654, tw_655, by decide, ⟨_, rfl, rfl⟩, rfl⟩
set_option maxRecDepth 4000 in
theorem s_X2_add_37 {Γ : Cn} {τ : Mm} {N : Nat} {σ : Mm} {o : Mm} (h : f_X2_add_37 N σ = some o) : Gx Γ M_X2_add 0 τ (PV o) 0 0 37 [] [] σ := by
  unfold f_X2_add_37 at h
  have h := Option.some.inj h
  subst h
  exact gx_vret dX2_add_37 rfl (Nat.le_of_ble_eq_true rfl) (Nat.le_of_ble_eq_true rfl) ⟨rfl, rfl⟩
set_option maxRecDepth 4000 in
theorem s_X2_add_0 {Γ : Cn} {τ : Mm} {N : Nat} {l0 : Nat} {l1 : Int32} {σ : Mm} {o : Mm} (h : f_X2_add N l0 l1 σ = some o) : Gx Γ M_X2_add 0 τ (PV o) 0 0 0 [(0, .ref (Γ.B + pp l0)), (1, .int l1)] [] σ := by
  unfold f_X2_add at h
  refine gx_aload_n 0 dX2_add_0 rfl rfl ?_
  obtain ⟨x1, hx1, h⟩ := bnd h
  refine gx_getI dX2_add_1 hx1 fl_X2_15 rfl ?_
  refine gx_if_lt 37 dX2_add_4 (by decide) (fun c1 => ?_) (fun c1 => ?_)
  · rw [if_pos c1] at h
    exact gx_sub [] rfl (s_X2_add_37  h)
  · rw [if_neg c1] at h
    refine gx_aload_n 0 dX2_add_7 rfl rfl ?_
    obtain ⟨x3, hx3, h⟩ := bnd h
    refine gx_getI dX2_add_8 hx3 fl_X2_15 rfl ?_
    refine gx_sipush (v := (400 : Int32)) dX2_add_11 is_400 ?_
    refine gx_icmp_ge 37 dX2_add_14 (by decide) (fun c3 => ?_) (fun c3 => ?_)
    · rw [if_pos c3] at h
      exact gx_sub [] rfl (s_X2_add_37  h)
    · rw [if_neg c3] at h
      refine gx_aload_n 0 dX2_add_17 rfl rfl ?_
      obtain ⟨a5, ha5, h⟩ := bnd h
      refine gx_getN dX2_add_18 ha5 fl_X2_9 rfl ?_
      refine gx_aload_n 0 dX2_add_21 rfl rfl ?_
      obtain ⟨x6, hx6, h⟩ := bnd h
      refine gx_getI dX2_add_22 hx6 fl_X2_15 rfl ?_
      refine gx_iload_n 1 dX2_add_25 rfl rfl ?_
      obtain ⟨s7, hs7, h⟩ := bnd h
      refine gx_iast (kd := 13) dX2_add_26 hs7 rfl rfl ?_
      refine gx_aload_n 0 dX2_add_27 rfl rfl ?_
      refine gx_dup dX2_add_28 rfl ?_
      obtain ⟨x8, hx8, h⟩ := bnd h
      refine gx_getI dX2_add_29 hx8 fl_X2_15 rfl ?_
      refine gx_iconst (v := (1 : Int32)) dX2_add_32 ic_1 ?_
      refine gx_iadd dX2_add_33 ?_
      obtain ⟨s9, hs9, h⟩ := bnd h
      refine gx_putI dX2_add_34 hs9 fl_X2_15 fp_X2_2_1 rfl ?_
      exact gx_sub [] rfl (s_X2_add_37  h)
theorem c_X2_add {Γ : Cn} {τ : Mm} {N : Nat} {l0 : Nat} {l1 : Int32} {σ : Mm} {o : Mm} (h : f_X2_add N l0 l1 σ = some o) : Ct Γ M_X2_add yX2_add 0 τ [.ref (Γ.B + pp l0), .int l1] σ (PV o) := ct_of (by decide) rfl (fun _ => by first | rfl | contradiction) (Nat.le_of_ble_eq_true rfl) (s_X2_add_0  h)
abbrev M_X3_init : Ms := (cX3_init, RX3, 2, none, true, 2, 402, 2)
def f_X3_init (N : Nat) (l0 : Nat) (l1 : Nat) (σ : Mm) : Option Mm :=
  (nO 2 σ).bind fun s1 =>
  (f_X2_init N (pq (nn σ)) s1).bind fun q2 =>
  if nn q2 = nn s1 + 1 then
  (pR 3 1 q2 l0 (some (pq (nn σ)))).bind fun s4 =>
  (pI 3 2 s4 l0 (0 : Int32)).bind fun s5 =>
  (pR 3 0 s5 l0 (some l1)).bind fun s6 =>
  some s6 else none
theorem moi_X3_init : MOI yX3_init M_X3_init 1 := ⟨⟨tw_100, tw_182, ⟨by decide, by decide⟩, by decide +kernel⟩, tw_181, rfl, rfl⟩
set_option maxRecDepth 4000 in
theorem s_X3_init_0 {Γ : Cn} {τ : Mm} {N : Nat} {l0 : Nat} {l1 : Nat} {σ : Mm} {o : Mm} (h : f_X3_init N l0 l1 σ = some o) : Gx Γ M_X3_init 0 τ (PV o) 0 0 0 [(0, .ref (Γ.B + pp l0)), (1, .ref (Γ.B + pp l1))] [] σ := by
  unfold f_X3_init at h
  refine gx_aload_n 0 dX3_init_0 rfl rfl ?_
  refine gx_objInit dX3_init_1 tw_183 tw_oi tw_oc (Nat.le_of_ble_eq_true rfl) (Nat.le_of_ble_eq_true rfl) ?_
  refine gx_aload_n 0 dX3_init_4 rfl rfl ?_
  obtain ⟨s1, hs1, h⟩ := bnd h
  refine gx_new dX3_init_5 hs1 nw_X3_9 rfl (Nat.le_of_ble_eq_true rfl) (Nat.le_of_ble_eq_true rfl) ?_
  refine gx_dup dX3_init_8 rfl ?_
  obtain ⟨q2, hq2, h⟩ := bnd h
  obtain ⟨g2, h⟩ := of_if h
  refine gx_cINV (As := []) (st := [.ref (Γ.B + pp (pq (nn σ))), .ref (Γ.B + pp l0)]) (o := (pq (nn σ))) (k' := 2) (n' := 402) dX3_init_9 (c_X2_init hq2) moi_X2_init (by decide) rfl ⟨Nat.le_of_ble_eq_true rfl, Nat.le_of_ble_eq_true rfl⟩ (Nat.le_of_ble_eq_true rfl) rfl rfl (Nat.le_of_ble_eq_true rfl) (Nat.le_of_ble_eq_true rfl) g2 ?_
  obtain ⟨s4, hs4, h⟩ := bnd h
  refine gx_putR (r := (some (pq (nn σ)))) dX3_init_12 hs4 fl_X3_12 fp_X3_3_1 (Or.inl ⟨_, rfl⟩) (fun _ => rfl) rfl ?_
  refine gx_aload_n 0 dX3_init_15 rfl rfl ?_
  refine gx_iconst (v := (0 : Int32)) dX3_init_16 ic_0 ?_
  obtain ⟨s5, hs5, h⟩ := bnd h
  refine gx_putI dX3_init_17 hs5 fl_X3_18 fp_X3_3_2 rfl ?_
  refine gx_aload_n 0 dX3_init_20 rfl rfl ?_
  refine gx_aload_n 1 dX3_init_21 rfl rfl ?_
  obtain ⟨s6, hs6, h⟩ := bnd h
  refine gx_putR (r := (some l1)) dX3_init_22 hs6 fl_X3_22 fp_X3_3_0 (Or.inl ⟨_, rfl⟩) (fun _ => rfl) rfl ?_
  have h := Option.some.inj h
  subst h
  exact gx_vret dX3_init_25 rfl (Nat.le_of_ble_eq_true rfl) (Nat.le_of_ble_eq_true rfl) ⟨rfl, rfl⟩
theorem c_X3_init {Γ : Cn} {τ : Mm} {N : Nat} {l0 : Nat} {l1 : Nat} {σ : Mm} {o : Mm} (h : f_X3_init N l0 l1 σ = some o) : Ct Γ M_X3_init yX3_init 0 τ [.ref (Γ.B + pp l0), .ref (Γ.B + pp l1)] σ (PV o) := ct_of (by decide) rfl (fun _ => by first | rfl | contradiction) (Nat.le_of_ble_eq_true rfl) (s_X3_init_0  h)
abbrev M_X6_fails : Ms := (cX6_fails, RX6, 3, (some .boolean), false, 0, 0, 0)
def f_X6_fails_41 (N : Nat) (l0 : Nat) (l1 : Int32) (t0 : Int32) (σ : Mm) : Option (Int32 × Mm) :=
  (pI 6 5 σ l0 (((1 : Int32) + ((8 : Int32) * t0)) + l1)).bind fun s1 =>
  some ((0 : Int32), s1)
def f_X6_fails_40 (N : Nat) (l0 : Nat) (l1 : Int32) (σ : Mm) : Option (Int32 × Mm) :=
  f_X6_fails_41 N l0 l1 (0 : Int32) σ
def f_X6_fails (N : Nat) (l0 : Nat) (l1 : Int32) (σ : Mm) : Option (Int32 × Mm) :=
  (gI 6 4 σ l0).bind fun x1 =>
  if x1 < 0 then (
    f_X6_fails_40 N l0 l1 σ) else (
    (gI 6 4 σ l0).bind fun x3 =>
    (gI 6 3 σ l0).bind fun x4 =>
    if x4 ≤ x3 then (
      f_X6_fails_40 N l0 l1 σ) else (
      (gI 6 4 σ l0).bind fun x6 =>
      if (400 : Int32) < x6 then (
        f_X6_fails_40 N l0 l1 σ) else (
        (gN 6 1 σ l0).bind fun a8 =>
        (gI 6 4 σ l0).bind fun x9 =>
        (aI 13 σ a8 x9).bind fun x10 =>
        f_X6_fails_41 N l0 l1 x10 σ)))
theorem mov_X6_fails : MOV yX6_fails M_X6_fails 1 6 0 := ⟨⟨tw_98, tw_581, ⟨by decide, by decide⟩, by decide +kernel⟩, tw_579, tw_580, by decide, ⟨_, rfl, rfl⟩, rfl⟩
set_option maxRecDepth 4000 in
theorem s_X6_fails_41 {Γ : Cn} {τ : Mm} {N : Nat} {l0 : Nat} {l1 : Int32} {t0 : Int32} {σ : Mm} {o : Int32 × Mm} (h : f_X6_fails_41 N l0 l1 t0 σ = some o) : Gx Γ M_X6_fails 0 τ (PI o) 0 0 41 [(0, .ref (Γ.B + pp l0)), (1, .int l1)] [.int t0] σ := by
  unfold f_X6_fails_41 at h
  refine gx_istore_n (lv' := [(2, .int t0), (0, .ref (Γ.B + pp l0)), (1, .int l1)]) dX6_fails_41 rfl (Nat.le_of_ble_eq_true rfl) rfl ?_
  refine gx_aload_n 1 dX6_fails_42 rfl rfl ?_
  refine gx_iconst (v := (1 : Int32)) dX6_fails_43 ic_1 ?_
  refine gx_bipush (v := (8 : Int32)) dX6_fails_44 ib_8 ?_
  refine gx_iload_n 0 dX6_fails_46 rfl rfl ?_
  refine gx_imul dX6_fails_47 ?_
  refine gx_iadd dX6_fails_48 ?_
  refine gx_iload_n 2 dX6_fails_49 rfl rfl ?_
  refine gx_iadd dX6_fails_50 ?_
  obtain ⟨s1, hs1, h⟩ := bnd h
  refine gx_putI dX6_fails_51 hs1 fl_X6_28 fp_X6_6_5 rfl ?_
  refine gx_iconst (v := (0 : Int32)) dX6_fails_54 ic_0 ?_
  have h := Option.some.inj h
  subst h
  exact gx_zret dX6_fails_55 rfl rfl (Nat.le_of_ble_eq_true rfl) (Nat.le_of_ble_eq_true rfl) ⟨rfl, rfl⟩
set_option maxRecDepth 4000 in
theorem s_X6_fails_40 {Γ : Cn} {τ : Mm} {N : Nat} {l0 : Nat} {l1 : Int32} {σ : Mm} {o : Int32 × Mm} (h : f_X6_fails_40 N l0 l1 σ = some o) : Gx Γ M_X6_fails 0 τ (PI o) 0 0 40 [(0, .ref (Γ.B + pp l0)), (1, .int l1)] [] σ := by
  unfold f_X6_fails_40 at h
  refine gx_iconst (v := (0 : Int32)) dX6_fails_40 ic_0 ?_
  exact s_X6_fails_41  h
set_option maxRecDepth 4000 in
theorem s_X6_fails_0 {Γ : Cn} {τ : Mm} {N : Nat} {l0 : Nat} {l1 : Int32} {σ : Mm} {o : Int32 × Mm} (h : f_X6_fails N l0 l1 σ = some o) : Gx Γ M_X6_fails 0 τ (PI o) 0 0 0 [(0, .ref (Γ.B + pp l0)), (1, .int l1)] [] σ := by
  unfold f_X6_fails at h
  refine gx_aload_n 0 dX6_fails_0 rfl rfl ?_
  obtain ⟨x1, hx1, h⟩ := bnd h
  refine gx_getI dX6_fails_1 hx1 fl_X6_25 rfl ?_
  refine gx_if_lt 40 dX6_fails_4 (by decide) (fun c1 => ?_) (fun c1 => ?_)
  · rw [if_pos c1] at h
    exact s_X6_fails_40  h
  · rw [if_neg c1] at h
    refine gx_aload_n 0 dX6_fails_7 rfl rfl ?_
    obtain ⟨x3, hx3, h⟩ := bnd h
    refine gx_getI dX6_fails_8 hx3 fl_X6_25 rfl ?_
    refine gx_aload_n 0 dX6_fails_11 rfl rfl ?_
    obtain ⟨x4, hx4, h⟩ := bnd h
    refine gx_getI dX6_fails_12 hx4 fl_X6_21 rfl ?_
    refine gx_icmp_ge 40 dX6_fails_15 (by decide) (fun c4 => ?_) (fun c4 => ?_)
    · rw [if_pos c4] at h
      exact s_X6_fails_40  h
    · rw [if_neg c4] at h
      refine gx_aload_n 0 dX6_fails_18 rfl rfl ?_
      obtain ⟨x6, hx6, h⟩ := bnd h
      refine gx_getI dX6_fails_19 hx6 fl_X6_25 rfl ?_
      refine gx_sipush (v := (400 : Int32)) dX6_fails_22 is_400 ?_
      refine gx_icmp_gt 40 dX6_fails_25 (by decide) (fun c6 => ?_) (fun c6 => ?_)
      · rw [if_pos c6] at h
        exact s_X6_fails_40  h
      · rw [if_neg c6] at h
        refine gx_aload_n 0 dX6_fails_28 rfl rfl ?_
        obtain ⟨a8, ha8, h⟩ := bnd h
        refine gx_getN dX6_fails_29 ha8 fl_X6_15 rfl ?_
        refine gx_aload_n 0 dX6_fails_32 rfl rfl ?_
        obtain ⟨x9, hx9, h⟩ := bnd h
        refine gx_getI dX6_fails_33 hx9 fl_X6_25 rfl ?_
        obtain ⟨x10, hx10, h⟩ := bnd h
        refine gx_iald (kd := 13) dX6_fails_36 hx10 rfl rfl ?_
        refine gx_goto 41 dX6_fails_37 (by decide) ?_
        exact s_X6_fails_41  h
theorem c_X6_fails {Γ : Cn} {τ : Mm} {N : Nat} {l0 : Nat} {l1 : Int32} {σ : Mm} {o : Int32 × Mm} (h : f_X6_fails N l0 l1 σ = some o) : Ct Γ M_X6_fails yX6_fails 0 τ [.ref (Γ.B + pp l0), .int l1] σ (PI o) := ct_of (by decide) rfl (fun _ => by first | rfl | contradiction) (Nat.le_of_ble_eq_true rfl) (s_X6_fails_0  h)
abbrev M_X6_kind : Ms := (cX6_kind, RX6, 1, (some .int), false, 0, 0, 0)
def f_X6_kind_41 (N : Nat) (t0 : Int32) (σ : Mm) : Option (Int32 × Mm) :=
  some (t0, σ)
def f_X6_kind_40 (N : Nat) (σ : Mm) : Option (Int32 × Mm) :=
  f_X6_kind_41 N (1 : Int32) σ
def f_X6_kind (N : Nat) (l0 : Nat) (σ : Mm) : Option (Int32 × Mm) :=
  (gI 6 4 σ l0).bind fun x1 =>
  if x1 < 0 then (
    f_X6_kind_40 N σ) else (
    (gI 6 4 σ l0).bind fun x3 =>
    (gI 6 3 σ l0).bind fun x4 =>
    if x4 ≤ x3 then (
      f_X6_kind_40 N σ) else (
      (gI 6 4 σ l0).bind fun x6 =>
      if (400 : Int32) < x6 then (
        f_X6_kind_40 N σ) else (
        (gN 6 0 σ l0).bind fun a8 =>
        (gI 6 4 σ l0).bind fun x9 =>
        (aI 13 σ a8 x9).bind fun x10 =>
        f_X6_kind_41 N x10 σ)))
theorem mov_X6_kind : MOV yX6_kind M_X6_kind 0 6 0 := ⟨⟨tw_98, tw_577, ⟨by decide, by decide⟩, by decide +kernel⟩, tw_575, tw_576, by decide, ⟨_, rfl, rfl⟩, rfl⟩
set_option maxRecDepth 4000 in
theorem s_X6_kind_41 {Γ : Cn} {τ : Mm} {N : Nat} {t0 : Int32} {σ : Mm} {o : Int32 × Mm} (h : f_X6_kind_41 N t0 σ = some o) : Gx Γ M_X6_kind 0 τ (PI o) 0 0 41 [] [.int t0] σ := by
  unfold f_X6_kind_41 at h
  have h := Option.some.inj h
  subst h
  exact gx_iret dX6_kind_41 rfl (Nat.le_of_ble_eq_true rfl) (Nat.le_of_ble_eq_true rfl) ⟨rfl, rfl⟩
set_option maxRecDepth 4000 in
theorem s_X6_kind_40 {Γ : Cn} {τ : Mm} {N : Nat} {σ : Mm} {o : Int32 × Mm} (h : f_X6_kind_40 N σ = some o) : Gx Γ M_X6_kind 0 τ (PI o) 0 0 40 [] [] σ := by
  unfold f_X6_kind_40 at h
  refine gx_iconst (v := (1 : Int32)) dX6_kind_40 ic_1 ?_
  exact s_X6_kind_41  h
set_option maxRecDepth 4000 in
theorem s_X6_kind_0 {Γ : Cn} {τ : Mm} {N : Nat} {l0 : Nat} {σ : Mm} {o : Int32 × Mm} (h : f_X6_kind N l0 σ = some o) : Gx Γ M_X6_kind 0 τ (PI o) 0 0 0 [(0, .ref (Γ.B + pp l0))] [] σ := by
  unfold f_X6_kind at h
  refine gx_aload_n 0 dX6_kind_0 rfl rfl ?_
  obtain ⟨x1, hx1, h⟩ := bnd h
  refine gx_getI dX6_kind_1 hx1 fl_X6_25 rfl ?_
  refine gx_if_lt 40 dX6_kind_4 (by decide) (fun c1 => ?_) (fun c1 => ?_)
  · rw [if_pos c1] at h
    exact gx_sub [] rfl (s_X6_kind_40  h)
  · rw [if_neg c1] at h
    refine gx_aload_n 0 dX6_kind_7 rfl rfl ?_
    obtain ⟨x3, hx3, h⟩ := bnd h
    refine gx_getI dX6_kind_8 hx3 fl_X6_25 rfl ?_
    refine gx_aload_n 0 dX6_kind_11 rfl rfl ?_
    obtain ⟨x4, hx4, h⟩ := bnd h
    refine gx_getI dX6_kind_12 hx4 fl_X6_21 rfl ?_
    refine gx_icmp_ge 40 dX6_kind_15 (by decide) (fun c4 => ?_) (fun c4 => ?_)
    · rw [if_pos c4] at h
      exact gx_sub [] rfl (s_X6_kind_40  h)
    · rw [if_neg c4] at h
      refine gx_aload_n 0 dX6_kind_18 rfl rfl ?_
      obtain ⟨x6, hx6, h⟩ := bnd h
      refine gx_getI dX6_kind_19 hx6 fl_X6_25 rfl ?_
      refine gx_sipush (v := (400 : Int32)) dX6_kind_22 is_400 ?_
      refine gx_icmp_gt 40 dX6_kind_25 (by decide) (fun c6 => ?_) (fun c6 => ?_)
      · rw [if_pos c6] at h
        exact gx_sub [] rfl (s_X6_kind_40  h)
      · rw [if_neg c6] at h
        refine gx_aload_n 0 dX6_kind_28 rfl rfl ?_
        obtain ⟨a8, ha8, h⟩ := bnd h
        refine gx_getN dX6_kind_29 ha8 fl_X6_9 rfl ?_
        refine gx_aload_n 0 dX6_kind_32 rfl rfl ?_
        obtain ⟨x9, hx9, h⟩ := bnd h
        refine gx_getI dX6_kind_33 hx9 fl_X6_25 rfl ?_
        obtain ⟨x10, hx10, h⟩ := bnd h
        refine gx_iald (kd := 13) dX6_kind_36 hx10 rfl rfl ?_
        refine gx_goto 41 dX6_kind_37 (by decide) ?_
        exact gx_sub [] rfl (s_X6_kind_41  h)
theorem c_X6_kind {Γ : Cn} {τ : Mm} {N : Nat} {l0 : Nat} {σ : Mm} {o : Int32 × Mm} (h : f_X6_kind N l0 σ = some o) : Ct Γ M_X6_kind yX6_kind 0 τ [.ref (Γ.B + pp l0)] σ (PI o) := ct_of (by decide) rfl (fun _ => by first | rfl | contradiction) (Nat.le_of_ble_eq_true rfl) (s_X6_kind_0  h)
