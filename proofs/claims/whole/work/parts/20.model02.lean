abbrev M_X11_isCockHere : Ms := (cX11_isCockHere, RX11, 3, (some .boolean), false, 0, 0, 2)
def f_X11_isCockHere_22 (N : Nat) : Nat → Nat → Int32 → Mm → Option (Int32 × Mm)
  | 0, _, _, _ => none
  | n + 1, l0, l2, σ =>
      if (6 : Int32) ≤ l2 then (
        (gI 11 7 σ l0).bind fun x2 =>
        (pI 11 7 σ l0 (x2 + (1 : Int32))).bind fun s3 =>
        some ((1 : Int32), s3)) else (
        (f_X11_mostOf N l2 σ).bind fun q4 =>
        (ob 11 q4.2 l0).bind fun _ =>
        (f_X11_numberHere N l0 (0 : Int32) q4.1 q4.2).bind fun q5 =>
        if q5.1 = 0 then (
          some ((0 : Int32), q5.2)) else (
          (gN 11 9 q5.2 l0).bind fun a7 =>
          (gI 11 7 q5.2 l0).bind fun x8 =>
          (gI 11 14 q5.2 l0).bind fun x9 =>
          (sI 113 q5.2 a7 (((6 : Int32) * x8) + l2) x9).bind fun s10 =>
          f_X11_isCockHere_22 N n l0 (l2 + (1 : Int32)) s10))
def f_X11_isCockHere (N : Nat) (l0 : Nat) (l1 : Int32) (σ : Mm) : Option (Int32 × Mm) :=
  (gI 11 7 σ l0).bind fun x1 =>
  if x1 = (12 : Int32) then (
    (ob 11 σ l0).bind fun _ =>
    (f_X11_fails N l0 (4 : Int32) l1 σ).bind fun q4 =>
    if q4.1 = 0 ∨ q4.1 = 1 then some (q4.1, q4.2) else none) else (
    (ob 11 σ l0).bind fun _ =>
    (f_X11_passWord N l0 σ).bind fun q3 =>
    f_X11_isCockHere_22 N N l0 (0 : Int32) q3)
theorem mov_X11_isCockHere : MOV yX11_isCockHere M_X11_isCockHere 1 11 100 := ⟨⟨tw_107, tw_1271, ⟨by decide, by decide⟩, by decide +kernel⟩, tw_1270, tw_61, by decide, ⟨_, rfl, rfl⟩, rfl⟩
set_option maxRecDepth 4000 in
theorem s_X11_isCockHere_22 {Γ : Cn} {τ : Mm} {N : Nat} : ∀ (n : Nat) (l0 : Nat) (l2 : Int32) (σ : Mm) (o : Int32 × Mm), f_X11_isCockHere_22 N n l0 l2 σ = some o → Gx Γ M_X11_isCockHere 100 τ (PI o) 0 0 22 [(0, .ref (Γ.B + pp l0)), (2, .int l2)] [] σ := by
  intro n
  induction n with
  | zero =>
    intro l0 l2 σ o h
    exact absurd h (by rw [f_X11_isCockHere_22]; exact fun q => nomatch q)
  | succ n ih =>
    intro l0 l2 σ o h
    rw [f_X11_isCockHere_22] at h
    refine gx_iload_n 1 dX11_isCockHere_22 rfl rfl ?_
    refine gx_bipush (v := (6 : Int32)) dX11_isCockHere_23 ib_6 ?_
    refine gx_icmp_ge 66 dX11_isCockHere_25 (by decide) (fun c0 => ?_) (fun c0 => ?_)
    · rw [if_pos c0] at h
      refine gx_aload_n 0 dX11_isCockHere_66 rfl rfl ?_
      refine gx_dup dX11_isCockHere_67 rfl ?_
      obtain ⟨x2, hx2, h⟩ := bnd h
      refine gx_getI dX11_isCockHere_68 hx2 fl_X11_203 rfl ?_
      refine gx_iconst (v := (1 : Int32)) dX11_isCockHere_71 ic_1 ?_
      refine gx_iadd dX11_isCockHere_72 ?_
      obtain ⟨s3, hs3, h⟩ := bnd h
      refine gx_putI dX11_isCockHere_73 hs3 fl_X11_203 fp_X11_11_7 rfl ?_
      refine gx_iconst (v := (1 : Int32)) dX11_isCockHere_76 ic_1 ?_
      have h := Option.some.inj h
      subst h
      exact gx_zret dX11_isCockHere_77 rfl rfl (Nat.le_of_ble_eq_true rfl) (Nat.le_of_ble_eq_true rfl) ⟨rfl, rfl⟩
    · rw [if_neg c0] at h
      refine gx_aload_n 0 dX11_isCockHere_28 rfl rfl ?_
      refine gx_iconst (v := (0 : Int32)) dX11_isCockHere_29 ic_0 ?_
      refine gx_iload_n 1 dX11_isCockHere_30 rfl rfl ?_
      obtain ⟨q4, hq4, h⟩ := bnd h
      refine gx_cSI (As := [.int l2]) (st := [.int (0 : Int32), .ref (Γ.B + pp l0)]) dX11_isCockHere_31 (c_X11_mostOf hq4) mos_X11_mostOf tw_1272 rfl ⟨Nat.le_of_ble_eq_true rfl, Nat.le_of_ble_eq_true rfl⟩ (Nat.le_of_ble_eq_true rfl) ?_
      obtain ⟨_, hobq5, h⟩ := bnd h
      obtain ⟨q5, hq5, h⟩ := bnd h
      refine gx_cVI (As := [.int (0 : Int32), .int q4.1]) (st := []) (o := l0) dX11_isCockHere_34 (c_X11_numberHere hq5) mov_X11_numberHere tw_1202 hobq5 rfl ⟨Nat.le_of_ble_eq_true rfl, Nat.le_of_ble_eq_true rfl⟩ (Nat.le_of_ble_eq_true rfl) ?_
      refine gx_if_ne 42 dX11_isCockHere_37 (by decide) (fun c5 => ?_) (fun c5 => ?_)
      · rw [if_neg c5] at h
        refine gx_aload_n 0 dX11_isCockHere_42 rfl rfl ?_
        obtain ⟨a7, ha7, h⟩ := bnd h
        refine gx_getN dX11_isCockHere_43 ha7 fl_X11_26 rfl ?_
        refine gx_bipush (v := (6 : Int32)) dX11_isCockHere_46 ib_6 ?_
        refine gx_aload_n 0 dX11_isCockHere_48 rfl rfl ?_
        obtain ⟨x8, hx8, h⟩ := bnd h
        refine gx_getI dX11_isCockHere_49 hx8 fl_X11_203 rfl ?_
        refine gx_imul dX11_isCockHere_52 ?_
        refine gx_iload_n 1 dX11_isCockHere_53 rfl rfl ?_
        refine gx_iadd dX11_isCockHere_54 ?_
        refine gx_aload_n 0 dX11_isCockHere_55 rfl rfl ?_
        obtain ⟨x9, hx9, h⟩ := bnd h
        refine gx_getI dX11_isCockHere_56 hx9 fl_X11_106 rfl ?_
        obtain ⟨s10, hs10, h⟩ := bnd h
        refine gx_iast (kd := 113) dX11_isCockHere_59 hs10 rfl rfl ?_
        refine gx_iinc (v := (l2 + (1 : Int32))) (lv' := [(2, .int (l2 + (1 : Int32))), (0, .ref (Γ.B + pp l0))]) 1 dX11_isCockHere_60 rfl (by rw [ic_1]) (Nat.le_of_ble_eq_true rfl) rfl ?_
        refine gx_goto 22 dX11_isCockHere_63 (by decide) ?_
        exact gx_sub [1, 0] rfl (ih _ _ _ _ h)
      · rw [if_pos c5] at h
        refine gx_iconst (v := (0 : Int32)) dX11_isCockHere_40 ic_0 ?_
        have h := Option.some.inj h
        subst h
        exact gx_zret dX11_isCockHere_41 rfl rfl (Nat.le_of_ble_eq_true rfl) (Nat.le_of_ble_eq_true rfl) ⟨rfl, rfl⟩
set_option maxRecDepth 4000 in
theorem s_X11_isCockHere_0 {Γ : Cn} {τ : Mm} {N : Nat} {l0 : Nat} {l1 : Int32} {σ : Mm} {o : Int32 × Mm} (h : f_X11_isCockHere N l0 l1 σ = some o) : Gx Γ M_X11_isCockHere 100 τ (PI o) 0 0 0 [(0, .ref (Γ.B + pp l0)), (1, .int l1)] [] σ := by
  unfold f_X11_isCockHere at h
  refine gx_aload_n 0 dX11_isCockHere_0 rfl rfl ?_
  obtain ⟨x1, hx1, h⟩ := bnd h
  refine gx_getI dX11_isCockHere_1 hx1 fl_X11_203 rfl ?_
  refine gx_bipush (v := (12 : Int32)) dX11_isCockHere_4 ib_12 ?_
  refine gx_icmp_ne 16 dX11_isCockHere_6 (by decide) (fun c1 => ?_) (fun c1 => ?_)
  · rw [if_neg c1] at h
    refine gx_aload_n 0 dX11_isCockHere_16 rfl rfl ?_
    obtain ⟨_, hobq3, h⟩ := bnd h
    obtain ⟨q3, hq3, h⟩ := bnd h
    refine gx_cVV (As := []) (st := []) (o := l0) dX11_isCockHere_17 (c_X11_passWord hq3) mov_X11_passWord tw_1181 hobq3 rfl ⟨Nat.le_of_ble_eq_true rfl, Nat.le_of_ble_eq_true rfl⟩ (Nat.le_of_ble_eq_true rfl) ?_
    refine gx_iconst (v := (0 : Int32)) dX11_isCockHere_20 ic_0 ?_
    refine gx_istore_n (lv' := [(2, .int (0 : Int32)), (0, .ref (Γ.B + pp l0)), (1, .int l1)]) dX11_isCockHere_21 rfl (Nat.le_of_ble_eq_true rfl) rfl ?_
    exact gx_sub [1, 0] rfl (s_X11_isCockHere_22  N _ _ _ _ h)
  · rw [if_pos c1] at h
    refine gx_aload_n 0 dX11_isCockHere_9 rfl rfl ?_
    refine gx_iconst (v := (4 : Int32)) dX11_isCockHere_10 ic_4 ?_
    refine gx_iload_n 1 dX11_isCockHere_11 rfl rfl ?_
    obtain ⟨_, hobq4, h⟩ := bnd h
    obtain ⟨q4, hq4, h⟩ := bnd h
    refine gx_cVI (As := [.int (4 : Int32), .int l1]) (st := []) (o := l0) dX11_isCockHere_12 (c_X11_fails hq4) mov_X11_fails tw_1173 hobq4 rfl ⟨Nat.le_of_ble_eq_true rfl, Nat.le_of_ble_eq_true rfl⟩ (Nat.le_of_ble_eq_true rfl) ?_
    obtain ⟨hz, h⟩ := of_if h
    have h := Option.some.inj h
    subst h
    exact gx_zret dX11_isCockHere_15 rfl (nar_z hz) (Nat.le_of_ble_eq_true rfl) (Nat.le_of_ble_eq_true rfl) ⟨rfl, rfl⟩
theorem c_X11_isCockHere {Γ : Cn} {τ : Mm} {N : Nat} {l0 : Nat} {l1 : Int32} {σ : Mm} {o : Int32 × Mm} (h : f_X11_isCockHere N l0 l1 σ = some o) : Ct Γ M_X11_isCockHere yX11_isCockHere 100 τ [.ref (Γ.B + pp l0), .int l1] σ (PI o) := ct_of (by decide) rfl (fun _ => by first | rfl | contradiction) (Nat.le_of_ble_eq_true rfl) (s_X11_isCockHere_0  h)
abbrev M_X11_isTreeHere : Ms := (cX11_isTreeHere, RX11, 3, (some .boolean), false, 0, 0, 2)
def f_X11_isTreeHere_22 (N : Nat) : Nat → Nat → Int32 → Mm → Option (Int32 × Mm)
  | 0, _, _, _ => none
  | n + 1, l0, l2, σ =>
      if (2 : Int32) ≤ l2 then (
        (gI 11 8 σ l0).bind fun x2 =>
        (pI 11 8 σ l0 (x2 + (1 : Int32))).bind fun s3 =>
        some ((1 : Int32), s3)) else (
        (ob 11 σ l0).bind fun _ =>
        (f_X11_numberHere N l0 (0 : Int32) (9 : Int32) σ).bind fun q4 =>
        if q4.1 = 0 then (
          some ((0 : Int32), q4.2)) else (
          (gN 11 10 q4.2 l0).bind fun a6 =>
          (gI 11 8 q4.2 l0).bind fun x7 =>
          (gI 11 14 q4.2 l0).bind fun x8 =>
          (sI 113 q4.2 a6 (((2 : Int32) * x7) + l2) x8).bind fun s9 =>
          f_X11_isTreeHere_22 N n l0 (l2 + (1 : Int32)) s9))
def f_X11_isTreeHere (N : Nat) (l0 : Nat) (l1 : Int32) (σ : Mm) : Option (Int32 × Mm) :=
  (gI 11 8 σ l0).bind fun x1 =>
  if x1 = (12 : Int32) then (
    (ob 11 σ l0).bind fun _ =>
    (f_X11_fails N l0 (4 : Int32) l1 σ).bind fun q4 =>
    if q4.1 = 0 ∨ q4.1 = 1 then some (q4.1, q4.2) else none) else (
    (ob 11 σ l0).bind fun _ =>
    (f_X11_passWord N l0 σ).bind fun q3 =>
    f_X11_isTreeHere_22 N N l0 (0 : Int32) q3)
theorem mov_X11_isTreeHere : MOV yX11_isTreeHere M_X11_isTreeHere 1 11 100 := ⟨⟨tw_107, tw_1278, ⟨by decide, by decide⟩, by decide +kernel⟩, tw_1277, tw_62, by decide, ⟨_, rfl, rfl⟩, rfl⟩
set_option maxRecDepth 4000 in
theorem s_X11_isTreeHere_22 {Γ : Cn} {τ : Mm} {N : Nat} : ∀ (n : Nat) (l0 : Nat) (l2 : Int32) (σ : Mm) (o : Int32 × Mm), f_X11_isTreeHere_22 N n l0 l2 σ = some o → Gx Γ M_X11_isTreeHere 100 τ (PI o) 0 0 22 [(0, .ref (Γ.B + pp l0)), (2, .int l2)] [] σ := by
  intro n
  induction n with
  | zero =>
    intro l0 l2 σ o h
    exact absurd h (by rw [f_X11_isTreeHere_22]; exact fun q => nomatch q)
  | succ n ih =>
    intro l0 l2 σ o h
    rw [f_X11_isTreeHere_22] at h
    refine gx_iload_n 1 dX11_isTreeHere_22 rfl rfl ?_
    refine gx_iconst (v := (2 : Int32)) dX11_isTreeHere_23 ic_2 ?_
    refine gx_icmp_ge 62 dX11_isTreeHere_24 (by decide) (fun c0 => ?_) (fun c0 => ?_)
    · rw [if_pos c0] at h
      refine gx_aload_n 0 dX11_isTreeHere_62 rfl rfl ?_
      refine gx_dup dX11_isTreeHere_63 rfl ?_
      obtain ⟨x2, hx2, h⟩ := bnd h
      refine gx_getI dX11_isTreeHere_64 hx2 fl_X11_209 rfl ?_
      refine gx_iconst (v := (1 : Int32)) dX11_isTreeHere_67 ic_1 ?_
      refine gx_iadd dX11_isTreeHere_68 ?_
      obtain ⟨s3, hs3, h⟩ := bnd h
      refine gx_putI dX11_isTreeHere_69 hs3 fl_X11_209 fp_X11_11_8 rfl ?_
      refine gx_iconst (v := (1 : Int32)) dX11_isTreeHere_72 ic_1 ?_
      have h := Option.some.inj h
      subst h
      exact gx_zret dX11_isTreeHere_73 rfl rfl (Nat.le_of_ble_eq_true rfl) (Nat.le_of_ble_eq_true rfl) ⟨rfl, rfl⟩
    · rw [if_neg c0] at h
      refine gx_aload_n 0 dX11_isTreeHere_27 rfl rfl ?_
      refine gx_iconst (v := (0 : Int32)) dX11_isTreeHere_28 ic_0 ?_
      refine gx_bipush (v := (9 : Int32)) dX11_isTreeHere_29 ib_9 ?_
      obtain ⟨_, hobq4, h⟩ := bnd h
      obtain ⟨q4, hq4, h⟩ := bnd h
      refine gx_cVI (As := [.int (0 : Int32), .int (9 : Int32)]) (st := []) (o := l0) dX11_isTreeHere_31 (c_X11_numberHere hq4) mov_X11_numberHere tw_1202 hobq4 rfl ⟨Nat.le_of_ble_eq_true rfl, Nat.le_of_ble_eq_true rfl⟩ (Nat.le_of_ble_eq_true rfl) ?_
      refine gx_if_ne 39 dX11_isTreeHere_34 (by decide) (fun c4 => ?_) (fun c4 => ?_)
      · rw [if_neg c4] at h
        refine gx_aload_n 0 dX11_isTreeHere_39 rfl rfl ?_
        obtain ⟨a6, ha6, h⟩ := bnd h
        refine gx_getN dX11_isTreeHere_40 ha6 fl_X11_29 rfl ?_
        refine gx_iconst (v := (2 : Int32)) dX11_isTreeHere_43 ic_2 ?_
        refine gx_aload_n 0 dX11_isTreeHere_44 rfl rfl ?_
        obtain ⟨x7, hx7, h⟩ := bnd h
        refine gx_getI dX11_isTreeHere_45 hx7 fl_X11_209 rfl ?_
        refine gx_imul dX11_isTreeHere_48 ?_
        refine gx_iload_n 1 dX11_isTreeHere_49 rfl rfl ?_
        refine gx_iadd dX11_isTreeHere_50 ?_
        refine gx_aload_n 0 dX11_isTreeHere_51 rfl rfl ?_
        obtain ⟨x8, hx8, h⟩ := bnd h
        refine gx_getI dX11_isTreeHere_52 hx8 fl_X11_106 rfl ?_
        obtain ⟨s9, hs9, h⟩ := bnd h
        refine gx_iast (kd := 113) dX11_isTreeHere_55 hs9 rfl rfl ?_
        refine gx_iinc (v := (l2 + (1 : Int32))) (lv' := [(2, .int (l2 + (1 : Int32))), (0, .ref (Γ.B + pp l0))]) 1 dX11_isTreeHere_56 rfl (by rw [ic_1]) (Nat.le_of_ble_eq_true rfl) rfl ?_
        refine gx_goto 22 dX11_isTreeHere_59 (by decide) ?_
        exact gx_sub [1, 0] rfl (ih _ _ _ _ h)
      · rw [if_pos c4] at h
        refine gx_iconst (v := (0 : Int32)) dX11_isTreeHere_37 ic_0 ?_
        have h := Option.some.inj h
        subst h
        exact gx_zret dX11_isTreeHere_38 rfl rfl (Nat.le_of_ble_eq_true rfl) (Nat.le_of_ble_eq_true rfl) ⟨rfl, rfl⟩
set_option maxRecDepth 4000 in
theorem s_X11_isTreeHere_0 {Γ : Cn} {τ : Mm} {N : Nat} {l0 : Nat} {l1 : Int32} {σ : Mm} {o : Int32 × Mm} (h : f_X11_isTreeHere N l0 l1 σ = some o) : Gx Γ M_X11_isTreeHere 100 τ (PI o) 0 0 0 [(0, .ref (Γ.B + pp l0)), (1, .int l1)] [] σ := by
  unfold f_X11_isTreeHere at h
  refine gx_aload_n 0 dX11_isTreeHere_0 rfl rfl ?_
  obtain ⟨x1, hx1, h⟩ := bnd h
  refine gx_getI dX11_isTreeHere_1 hx1 fl_X11_209 rfl ?_
  refine gx_bipush (v := (12 : Int32)) dX11_isTreeHere_4 ib_12 ?_
  refine gx_icmp_ne 16 dX11_isTreeHere_6 (by decide) (fun c1 => ?_) (fun c1 => ?_)
  · rw [if_neg c1] at h
    refine gx_aload_n 0 dX11_isTreeHere_16 rfl rfl ?_
    obtain ⟨_, hobq3, h⟩ := bnd h
    obtain ⟨q3, hq3, h⟩ := bnd h
    refine gx_cVV (As := []) (st := []) (o := l0) dX11_isTreeHere_17 (c_X11_passWord hq3) mov_X11_passWord tw_1181 hobq3 rfl ⟨Nat.le_of_ble_eq_true rfl, Nat.le_of_ble_eq_true rfl⟩ (Nat.le_of_ble_eq_true rfl) ?_
    refine gx_iconst (v := (0 : Int32)) dX11_isTreeHere_20 ic_0 ?_
    refine gx_istore_n (lv' := [(2, .int (0 : Int32)), (0, .ref (Γ.B + pp l0)), (1, .int l1)]) dX11_isTreeHere_21 rfl (Nat.le_of_ble_eq_true rfl) rfl ?_
    exact gx_sub [1, 0] rfl (s_X11_isTreeHere_22  N _ _ _ _ h)
  · rw [if_pos c1] at h
    refine gx_aload_n 0 dX11_isTreeHere_9 rfl rfl ?_
    refine gx_iconst (v := (4 : Int32)) dX11_isTreeHere_10 ic_4 ?_
    refine gx_iload_n 1 dX11_isTreeHere_11 rfl rfl ?_
    obtain ⟨_, hobq4, h⟩ := bnd h
    obtain ⟨q4, hq4, h⟩ := bnd h
    refine gx_cVI (As := [.int (4 : Int32), .int l1]) (st := []) (o := l0) dX11_isTreeHere_12 (c_X11_fails hq4) mov_X11_fails tw_1173 hobq4 rfl ⟨Nat.le_of_ble_eq_true rfl, Nat.le_of_ble_eq_true rfl⟩ (Nat.le_of_ble_eq_true rfl) ?_
    obtain ⟨hz, h⟩ := of_if h
    have h := Option.some.inj h
    subst h
    exact gx_zret dX11_isTreeHere_15 rfl (nar_z hz) (Nat.le_of_ble_eq_true rfl) (Nat.le_of_ble_eq_true rfl) ⟨rfl, rfl⟩
theorem c_X11_isTreeHere {Γ : Cn} {τ : Mm} {N : Nat} {l0 : Nat} {l1 : Int32} {σ : Mm} {o : Int32 × Mm} (h : f_X11_isTreeHere N l0 l1 σ = some o) : Ct Γ M_X11_isTreeHere yX11_isTreeHere 100 τ [.ref (Γ.B + pp l0), .int l1] σ (PI o) := ct_of (by decide) rfl (fun _ => by first | rfl | contradiction) (Nat.le_of_ble_eq_true rfl) (s_X11_isTreeHere_0  h)
abbrev M_X11_isWorthHere : Ms := (cX11_isWorthHere, RX11, 3, (some .boolean), false, 0, 0, 2)
def f_X11_isWorthHere (N : Nat) (l0 : Nat) (σ : Mm) : Option (Int32 × Mm) :=
  (ob 11 σ l0).bind fun _ =>
  (f_X11_passWord N l0 σ).bind fun q1 =>
  (ob 11 q1 l0).bind fun _ =>
  (f_X11_numberHere N l0 (0 : Int32) (3 : Int32) q1).bind fun q2 =>
  if q2.1 = 0 then (
    some ((0 : Int32), q2.2)) else (
    (gI 11 14 q2.2 l0).bind fun x4 =>
    (ob 11 q2.2 l0).bind fun _ =>
    (f_X11_numberHere N l0 (0 : Int32) (7 : Int32) q2.2).bind fun q5 =>
    if q5.1 = 0 then (
      some ((0 : Int32), q5.2)) else (
      (gI 11 14 q5.2 l0).bind fun x7 =>
      (ob 11 q5.2 l0).bind fun _ =>
      (f_X11_numberHere N l0 (0 : Int32) (99 : Int32) q5.2).bind fun q8 =>
      if q8.1 = 0 then (
        some ((0 : Int32), q8.2)) else (
        (gN 11 11 q8.2 l0).bind fun a10 =>
        (gI 11 14 q8.2 l0).bind fun x11 =>
        (sI 113 q8.2 a10 (((8 : Int32) * x4) + x7) x11).bind fun s12 =>
        some ((1 : Int32), s12))))
theorem mov_X11_isWorthHere : MOV yX11_isWorthHere M_X11_isWorthHere 0 11 100 := ⟨⟨tw_107, tw_1282, ⟨by decide, by decide⟩, by decide +kernel⟩, tw_1281, tw_63, by decide, ⟨_, rfl, rfl⟩, rfl⟩
set_option maxRecDepth 4000 in
theorem s_X11_isWorthHere_0 {Γ : Cn} {τ : Mm} {N : Nat} {l0 : Nat} {σ : Mm} {o : Int32 × Mm} (h : f_X11_isWorthHere N l0 σ = some o) : Gx Γ M_X11_isWorthHere 100 τ (PI o) 0 0 0 [(0, .ref (Γ.B + pp l0))] [] σ := by
  unfold f_X11_isWorthHere at h
  refine gx_aload_n 0 dX11_isWorthHere_0 rfl rfl ?_
  obtain ⟨_, hobq1, h⟩ := bnd h
  obtain ⟨q1, hq1, h⟩ := bnd h
  refine gx_cVV (As := []) (st := []) (o := l0) dX11_isWorthHere_1 (c_X11_passWord hq1) mov_X11_passWord tw_1181 hobq1 rfl ⟨Nat.le_of_ble_eq_true rfl, Nat.le_of_ble_eq_true rfl⟩ (Nat.le_of_ble_eq_true rfl) ?_
  refine gx_aload_n 0 dX11_isWorthHere_4 rfl rfl ?_
  refine gx_iconst (v := (0 : Int32)) dX11_isWorthHere_5 ic_0 ?_
  refine gx_iconst (v := (3 : Int32)) dX11_isWorthHere_6 ic_3 ?_
  obtain ⟨_, hobq2, h⟩ := bnd h
  obtain ⟨q2, hq2, h⟩ := bnd h
  refine gx_cVI (As := [.int (0 : Int32), .int (3 : Int32)]) (st := []) (o := l0) dX11_isWorthHere_7 (c_X11_numberHere hq2) mov_X11_numberHere tw_1202 hobq2 rfl ⟨Nat.le_of_ble_eq_true rfl, Nat.le_of_ble_eq_true rfl⟩ (Nat.le_of_ble_eq_true rfl) ?_
  refine gx_if_ne 15 dX11_isWorthHere_10 (by decide) (fun c2 => ?_) (fun c2 => ?_)
  · rw [if_neg c2] at h
    refine gx_aload_n 0 dX11_isWorthHere_15 rfl rfl ?_
    obtain ⟨x4, hx4, h⟩ := bnd h
    refine gx_getI dX11_isWorthHere_16 hx4 fl_X11_106 rfl ?_
    refine gx_istore_n (lv' := [(1, .int x4), (0, .ref (Γ.B + pp l0))]) dX11_isWorthHere_19 rfl (Nat.le_of_ble_eq_true rfl) rfl ?_
    refine gx_aload_n 1 dX11_isWorthHere_20 rfl rfl ?_
    refine gx_iconst (v := (0 : Int32)) dX11_isWorthHere_21 ic_0 ?_
    refine gx_bipush (v := (7 : Int32)) dX11_isWorthHere_22 ib_7 ?_
    obtain ⟨_, hobq5, h⟩ := bnd h
    obtain ⟨q5, hq5, h⟩ := bnd h
    refine gx_cVI (As := [.int (0 : Int32), .int (7 : Int32)]) (st := []) (o := l0) dX11_isWorthHere_24 (c_X11_numberHere hq5) mov_X11_numberHere tw_1202 hobq5 rfl ⟨Nat.le_of_ble_eq_true rfl, Nat.le_of_ble_eq_true rfl⟩ (Nat.le_of_ble_eq_true rfl) ?_
    refine gx_if_ne 32 dX11_isWorthHere_27 (by decide) (fun c5 => ?_) (fun c5 => ?_)
    · rw [if_neg c5] at h
      refine gx_aload_n 1 dX11_isWorthHere_32 rfl rfl ?_
      obtain ⟨x7, hx7, h⟩ := bnd h
      refine gx_getI dX11_isWorthHere_33 hx7 fl_X11_106 rfl ?_
      refine gx_istore_n (lv' := [(2, .int x7), (1, .int x4), (0, .ref (Γ.B + pp l0))]) dX11_isWorthHere_36 rfl (Nat.le_of_ble_eq_true rfl) rfl ?_
      refine gx_aload_n 2 dX11_isWorthHere_37 rfl rfl ?_
      refine gx_iconst (v := (0 : Int32)) dX11_isWorthHere_38 ic_0 ?_
      refine gx_bipush (v := (99 : Int32)) dX11_isWorthHere_39 ib_99 ?_
      obtain ⟨_, hobq8, h⟩ := bnd h
      obtain ⟨q8, hq8, h⟩ := bnd h
      refine gx_cVI (As := [.int (0 : Int32), .int (99 : Int32)]) (st := []) (o := l0) dX11_isWorthHere_41 (c_X11_numberHere hq8) mov_X11_numberHere tw_1202 hobq8 rfl ⟨Nat.le_of_ble_eq_true rfl, Nat.le_of_ble_eq_true rfl⟩ (Nat.le_of_ble_eq_true rfl) ?_
      refine gx_if_ne 49 dX11_isWorthHere_44 (by decide) (fun c8 => ?_) (fun c8 => ?_)
      · rw [if_neg c8] at h
        refine gx_aload_n 2 dX11_isWorthHere_49 rfl rfl ?_
        obtain ⟨a10, ha10, h⟩ := bnd h
        refine gx_getN dX11_isWorthHere_50 ha10 fl_X11_32 rfl ?_
        refine gx_bipush (v := (8 : Int32)) dX11_isWorthHere_53 ib_8 ?_
        refine gx_iload_n 1 dX11_isWorthHere_55 rfl rfl ?_
        refine gx_imul dX11_isWorthHere_56 ?_
        refine gx_iload_n 0 dX11_isWorthHere_57 rfl rfl ?_
        refine gx_iadd dX11_isWorthHere_58 ?_
        refine gx_aload_n 2 dX11_isWorthHere_59 rfl rfl ?_
        obtain ⟨x11, hx11, h⟩ := bnd h
        refine gx_getI dX11_isWorthHere_60 hx11 fl_X11_106 rfl ?_
        obtain ⟨s12, hs12, h⟩ := bnd h
        refine gx_iast (kd := 113) dX11_isWorthHere_63 hs12 rfl rfl ?_
        refine gx_iconst (v := (1 : Int32)) dX11_isWorthHere_64 ic_1 ?_
        have h := Option.some.inj h
        subst h
        exact gx_zret dX11_isWorthHere_65 rfl rfl (Nat.le_of_ble_eq_true rfl) (Nat.le_of_ble_eq_true rfl) ⟨rfl, rfl⟩
      · rw [if_pos c8] at h
        refine gx_iconst (v := (0 : Int32)) dX11_isWorthHere_47 ic_0 ?_
        have h := Option.some.inj h
        subst h
        exact gx_zret dX11_isWorthHere_48 rfl rfl (Nat.le_of_ble_eq_true rfl) (Nat.le_of_ble_eq_true rfl) ⟨rfl, rfl⟩
    · rw [if_pos c5] at h
      refine gx_iconst (v := (0 : Int32)) dX11_isWorthHere_30 ic_0 ?_
      have h := Option.some.inj h
      subst h
      exact gx_zret dX11_isWorthHere_31 rfl rfl (Nat.le_of_ble_eq_true rfl) (Nat.le_of_ble_eq_true rfl) ⟨rfl, rfl⟩
  · rw [if_pos c2] at h
    refine gx_iconst (v := (0 : Int32)) dX11_isWorthHere_13 ic_0 ?_
    have h := Option.some.inj h
    subst h
    exact gx_zret dX11_isWorthHere_14 rfl rfl (Nat.le_of_ble_eq_true rfl) (Nat.le_of_ble_eq_true rfl) ⟨rfl, rfl⟩
theorem c_X11_isWorthHere {Γ : Cn} {τ : Mm} {N : Nat} {l0 : Nat} {σ : Mm} {o : Int32 × Mm} (h : f_X11_isWorthHere N l0 σ = some o) : Ct Γ M_X11_isWorthHere yX11_isWorthHere 100 τ [.ref (Γ.B + pp l0)] σ (PI o) := ct_of (by decide) rfl (fun _ => by first | rfl | contradiction) (Nat.le_of_ble_eq_true rfl) (s_X11_isWorthHere_0  h)
abbrev M_X11_clauseHere : Ms := (cX11_clauseHere, RX11, 4, (some .boolean), false, 0, 0, 10)
def f_X11_clauseHere_170 (N : Nat) (t0 : Int32) (σ : Mm) : Option (Int32 × Mm) :=
  if t0 = 0 ∨ t0 = 1 then some (t0, σ) else none
def f_X11_clauseHere_101 (N : Nat) (l0 : Nat) (l1 : Int32) (l2 : Int32) (t0 : Int32) (t1 : Int32) (σ : Mm) : Option (Int32 × Mm) :=
  if t0 = t1 then (
    (ob 11 σ l0).bind fun _ =>
    (f_X11_fails N l0 (4 : Int32) l1 σ).bind fun q13 =>
    if q13.1 = 0 ∨ q13.1 = 1 then some (q13.1, q13.2) else none) else (
    (gI 11 18 σ l0).bind fun x2 =>
    (pI 11 18 σ l0 (x2 + (1 : Int32))).bind fun s3 =>
    if l2 = 0 then (
      (ob 11 s3 l0).bind fun _ =>
      (f_X11_isTurnHere N l0 s3).bind fun q12 =>
      if q12.1 = 0 ∨ q12.1 = 1 then some (q12.1, q12.2) else none) else (
      (ob 11 s3 l0).bind fun _ =>
      (f_X11_isWord N l0 (1668244331 : Int64) s3).bind fun q5 =>
      if q5.1 = 0 then (
        (ob 11 q5.2 l0).bind fun _ =>
        (f_X11_isWord N l0 (1953654117 : Int64) q5.2).bind fun q7 =>
        if q7.1 = 0 then (
          (ob 11 q7.2 l0).bind fun _ =>
          (f_X11_isWorthHere N l0 q7.2).bind fun q9 =>
          f_X11_clauseHere_170 N q9.1 q9.2) else (
          (ob 11 q7.2 l0).bind fun _ =>
          (f_X11_isTreeHere N l0 l1 q7.2).bind fun q10 =>
          f_X11_clauseHere_170 N q10.1 q10.2)) else (
        (ob 11 q5.2 l0).bind fun _ =>
        (f_X11_isCockHere N l0 l1 q5.2).bind fun q11 =>
        f_X11_clauseHere_170 N q11.1 q11.2)))
def f_X11_clauseHere_74 (N : Nat) (l0 : Nat) (l1 : Int32) (l2 : Int32) (t0 : Int32) (σ : Mm) : Option (Int32 × Mm) :=
  if t0 = 0 then (
    (ob 11 σ l0).bind fun _ =>
    (f_X11_fails N l0 (0 : Int32) l1 σ).bind fun q4 =>
    if q4.1 = 0 ∨ q4.1 = 1 then some (q4.1, q4.2) else none) else (
    (gI 11 18 σ l0).bind fun x2 =>
    if l2 = 0 then (
      f_X11_clauseHere_101 N l0 l1 l2 x2 (12 : Int32) σ) else (
      f_X11_clauseHere_101 N l0 l1 l2 x2 (40 : Int32) σ))
def f_X11_clauseHere_59 (N : Nat) (l0 : Nat) (l1 : Int32) (l2 : Int32) (σ : Mm) : Option (Int32 × Mm) :=
  f_X11_clauseHere_74 N l0 l1 l2 (1 : Int32) σ
def f_X11_clauseHere_24 (N : Nat) (l0 : Nat) (l1 : Int32) (t0 : Int32) (σ : Mm) : Option (Int32 × Mm) :=
  if t0 = 0 then (
    (ob 11 σ l0).bind fun _ =>
    (f_X11_isWord N l0 (1953854062 : Int64) σ).bind fun q2 =>
    f_X11_clauseHere_74 N l0 l1 t0 q2.1 q2.2) else (
    (ob 11 σ l0).bind fun _ =>
    (f_X11_isWord N l0 (1668244331 : Int64) σ).bind fun q3 =>
    if q3.1 = 0 then (
      (ob 11 q3.2 l0).bind fun _ =>
      (f_X11_isWord N l0 (1953654117 : Int64) q3.2).bind fun q5 =>
      if q5.1 = 0 then (
        (ob 11 q5.2 l0).bind fun _ =>
        (f_X11_isWord N l0 (512970880104 : Int64) q5.2).bind fun q7 =>
        if q7.1 = 0 then (
          f_X11_clauseHere_74 N l0 l1 t0 (0 : Int32) q7.2) else (
          f_X11_clauseHere_59 N l0 l1 t0 q7.2)) else (
        f_X11_clauseHere_59 N l0 l1 t0 q5.2)) else (
      f_X11_clauseHere_59 N l0 l1 t0 q3.2))
def f_X11_clauseHere (N : Nat) (l0 : Nat) (σ : Mm) : Option (Int32 × Mm) :=
  (ob 11 σ l0).bind fun _ =>
  (f_X11_see N l0 σ).bind fun q1 =>
  (gI 11 12 q1.2 l0).bind fun x2 =>
  (gI 11 15 q1.2 l0).bind fun x3 =>
  if x3 = (6 : Int32) then (
    f_X11_clauseHere_24 N l0 x2 (1 : Int32) q1.2) else (
    f_X11_clauseHere_24 N l0 x2 (0 : Int32) q1.2)
theorem mov_X11_clauseHere : MOV yX11_clauseHere M_X11_clauseHere 0 11 100 := ⟨⟨tw_107, tw_1156, ⟨by decide, by decide⟩, by decide +kernel⟩, tw_1155, tw_38, by decide, ⟨_, rfl, rfl⟩, rfl⟩
set_option maxRecDepth 4000 in
theorem s_X11_clauseHere_170 {Γ : Cn} {τ : Mm} {N : Nat} {t0 : Int32} {σ : Mm} {o : Int32 × Mm} (h : f_X11_clauseHere_170 N t0 σ = some o) : Gx Γ M_X11_clauseHere 100 τ (PI o) 0 0 170 [] [.int t0] σ := by
  unfold f_X11_clauseHere_170 at h
  obtain ⟨hz, h⟩ := of_if h
  have h := Option.some.inj h
  subst h
  exact gx_zret dX11_clauseHere_170 rfl (nar_z hz) (Nat.le_of_ble_eq_true rfl) (Nat.le_of_ble_eq_true rfl) ⟨rfl, rfl⟩
set_option maxRecDepth 4000 in
theorem s_X11_clauseHere_101 {Γ : Cn} {τ : Mm} {N : Nat} {l0 : Nat} {l1 : Int32} {l2 : Int32} {t0 : Int32} {t1 : Int32} {σ : Mm} {o : Int32 × Mm} (h : f_X11_clauseHere_101 N l0 l1 l2 t0 t1 σ = some o) : Gx Γ M_X11_clauseHere 100 τ (PI o) 0 0 101 [(0, .ref (Γ.B + pp l0)), (1, .int l1), (2, .int l2)] [.int t1, .int t0] σ := by
  unfold f_X11_clauseHere_101 at h
  refine gx_icmp_ne 111 dX11_clauseHere_101 (by decide) (fun c0 => ?_) (fun c0 => ?_)
  · rw [if_neg c0] at h
    refine gx_aload_n 0 dX11_clauseHere_111 rfl rfl ?_
    refine gx_dup dX11_clauseHere_112 rfl ?_
    obtain ⟨x2, hx2, h⟩ := bnd h
    refine gx_getI dX11_clauseHere_113 hx2 fl_X11_218 rfl ?_
    refine gx_iconst (v := (1 : Int32)) dX11_clauseHere_116 ic_1 ?_
    refine gx_iadd dX11_clauseHere_117 ?_
    obtain ⟨s3, hs3, h⟩ := bnd h
    refine gx_putI dX11_clauseHere_118 hs3 fl_X11_218 fp_X11_11_18 rfl ?_
    refine gx_iload_n 2 dX11_clauseHere_121 rfl rfl ?_
    refine gx_if_ne 130 dX11_clauseHere_122 (by decide) (fun c3 => ?_) (fun c3 => ?_)
    · rw [if_neg c3] at h
      refine gx_aload_n 0 dX11_clauseHere_130 rfl rfl ?_
      refine gx_ldc2 (v := (1668244331 : Int64)) dX11_clauseHere_131 tw_1161 ?_
      obtain ⟨_, hobq5, h⟩ := bnd h
      obtain ⟨q5, hq5, h⟩ := bnd h
      refine gx_cVI (As := [.long (1668244331 : Int64)]) (st := []) (o := l0) dX11_clauseHere_134 (c_X11_isWord hq5) mov_X11_isWord tw_1162 hobq5 rfl ⟨Nat.le_of_ble_eq_true rfl, Nat.le_of_ble_eq_true rfl⟩ (Nat.le_of_ble_eq_true rfl) ?_
      refine gx_if_eq 148 dX11_clauseHere_137 (by decide) (fun c5 => ?_) (fun c5 => ?_)
      · rw [if_pos c5] at h
        refine gx_aload_n 0 dX11_clauseHere_148 rfl rfl ?_
        refine gx_ldc2 (v := (1953654117 : Int64)) dX11_clauseHere_149 tw_1170 ?_
        obtain ⟨_, hobq7, h⟩ := bnd h
        obtain ⟨q7, hq7, h⟩ := bnd h
        refine gx_cVI (As := [.long (1953654117 : Int64)]) (st := []) (o := l0) dX11_clauseHere_152 (c_X11_isWord hq7) mov_X11_isWord tw_1162 hobq7 rfl ⟨Nat.le_of_ble_eq_true rfl, Nat.le_of_ble_eq_true rfl⟩ (Nat.le_of_ble_eq_true rfl) ?_
        refine gx_if_eq 166 dX11_clauseHere_155 (by decide) (fun c7 => ?_) (fun c7 => ?_)
        · rw [if_pos c7] at h
          refine gx_aload_n 0 dX11_clauseHere_166 rfl rfl ?_
          obtain ⟨_, hobq9, h⟩ := bnd h
          obtain ⟨q9, hq9, h⟩ := bnd h
          refine gx_cVI (As := []) (st := []) (o := l0) dX11_clauseHere_167 (c_X11_isWorthHere hq9) mov_X11_isWorthHere tw_1279 hobq9 rfl ⟨Nat.le_of_ble_eq_true rfl, Nat.le_of_ble_eq_true rfl⟩ (Nat.le_of_ble_eq_true rfl) ?_
          exact gx_sub [] rfl (s_X11_clauseHere_170  h)
        · rw [if_neg c7] at h
          refine gx_aload_n 0 dX11_clauseHere_158 rfl rfl ?_
          refine gx_iload_n 1 dX11_clauseHere_159 rfl rfl ?_
          obtain ⟨_, hobq10, h⟩ := bnd h
          obtain ⟨q10, hq10, h⟩ := bnd h
          refine gx_cVI (As := [.int l1]) (st := []) (o := l0) dX11_clauseHere_160 (c_X11_isTreeHere hq10) mov_X11_isTreeHere tw_1275 hobq10 rfl ⟨Nat.le_of_ble_eq_true rfl, Nat.le_of_ble_eq_true rfl⟩ (Nat.le_of_ble_eq_true rfl) ?_
          refine gx_goto 170 dX11_clauseHere_163 (by decide) ?_
          exact gx_sub [] rfl (s_X11_clauseHere_170  h)
      · rw [if_neg c5] at h
        refine gx_aload_n 0 dX11_clauseHere_140 rfl rfl ?_
        refine gx_iload_n 1 dX11_clauseHere_141 rfl rfl ?_
        obtain ⟨_, hobq11, h⟩ := bnd h
        obtain ⟨q11, hq11, h⟩ := bnd h
        refine gx_cVI (As := [.int l1]) (st := []) (o := l0) dX11_clauseHere_142 (c_X11_isCockHere hq11) mov_X11_isCockHere tw_1268 hobq11 rfl ⟨Nat.le_of_ble_eq_true rfl, Nat.le_of_ble_eq_true rfl⟩ (Nat.le_of_ble_eq_true rfl) ?_
        refine gx_goto 170 dX11_clauseHere_145 (by decide) ?_
        exact gx_sub [] rfl (s_X11_clauseHere_170  h)
    · rw [if_pos c3] at h
      refine gx_aload_n 0 dX11_clauseHere_125 rfl rfl ?_
      obtain ⟨_, hobq12, h⟩ := bnd h
      obtain ⟨q12, hq12, h⟩ := bnd h
      refine gx_cVI (As := []) (st := []) (o := l0) dX11_clauseHere_126 (c_X11_isTurnHere hq12) mov_X11_isTurnHere tw_1177 hobq12 rfl ⟨Nat.le_of_ble_eq_true rfl, Nat.le_of_ble_eq_true rfl⟩ (Nat.le_of_ble_eq_true rfl) ?_
      obtain ⟨hz, h⟩ := of_if h
      have h := Option.some.inj h
      subst h
      exact gx_zret dX11_clauseHere_129 rfl (nar_z hz) (Nat.le_of_ble_eq_true rfl) (Nat.le_of_ble_eq_true rfl) ⟨rfl, rfl⟩
  · rw [if_pos c0] at h
    refine gx_aload_n 0 dX11_clauseHere_104 rfl rfl ?_
    refine gx_iconst (v := (4 : Int32)) dX11_clauseHere_105 ic_4 ?_
    refine gx_iload_n 1 dX11_clauseHere_106 rfl rfl ?_
    obtain ⟨_, hobq13, h⟩ := bnd h
    obtain ⟨q13, hq13, h⟩ := bnd h
    refine gx_cVI (As := [.int (4 : Int32), .int l1]) (st := []) (o := l0) dX11_clauseHere_107 (c_X11_fails hq13) mov_X11_fails tw_1173 hobq13 rfl ⟨Nat.le_of_ble_eq_true rfl, Nat.le_of_ble_eq_true rfl⟩ (Nat.le_of_ble_eq_true rfl) ?_
    obtain ⟨hz, h⟩ := of_if h
    have h := Option.some.inj h
    subst h
    exact gx_zret dX11_clauseHere_110 rfl (nar_z hz) (Nat.le_of_ble_eq_true rfl) (Nat.le_of_ble_eq_true rfl) ⟨rfl, rfl⟩
set_option maxRecDepth 4000 in
theorem s_X11_clauseHere_74 {Γ : Cn} {τ : Mm} {N : Nat} {l0 : Nat} {l1 : Int32} {l2 : Int32} {t0 : Int32} {σ : Mm} {o : Int32 × Mm} (h : f_X11_clauseHere_74 N l0 l1 l2 t0 σ = some o) : Gx Γ M_X11_clauseHere 100 τ (PI o) 0 0 74 [(0, .ref (Γ.B + pp l0)), (1, .int l1), (2, .int l2)] [.int t0] σ := by
  unfold f_X11_clauseHere_74 at h
  refine gx_istore_n (lv' := [(3, .int t0), (0, .ref (Γ.B + pp l0)), (1, .int l1), (2, .int l2)]) dX11_clauseHere_74 rfl (Nat.le_of_ble_eq_true rfl) rfl ?_
  refine gx_iload_n 0 dX11_clauseHere_75 rfl rfl ?_
  refine gx_if_ne 86 dX11_clauseHere_76 (by decide) (fun c0 => ?_) (fun c0 => ?_)
  · rw [if_neg c0] at h
    refine gx_aload_n 1 dX11_clauseHere_86 rfl rfl ?_
    obtain ⟨x2, hx2, h⟩ := bnd h
    refine gx_getI dX11_clauseHere_87 hx2 fl_X11_218 rfl ?_
    refine gx_iload_n 3 dX11_clauseHere_90 rfl rfl ?_
    refine gx_if_eq 99 dX11_clauseHere_91 (by decide) (fun c2 => ?_) (fun c2 => ?_)
    · rw [if_pos c2] at h
      refine gx_bipush (v := (12 : Int32)) dX11_clauseHere_99 ib_12 ?_
      exact gx_sub [1, 2, 3] rfl (s_X11_clauseHere_101  h)
    · rw [if_neg c2] at h
      refine gx_bipush (v := (40 : Int32)) dX11_clauseHere_94 ib_40 ?_
      refine gx_goto 101 dX11_clauseHere_96 (by decide) ?_
      exact gx_sub [1, 2, 3] rfl (s_X11_clauseHere_101  h)
  · rw [if_pos c0] at h
    refine gx_aload_n 1 dX11_clauseHere_79 rfl rfl ?_
    refine gx_iconst (v := (0 : Int32)) dX11_clauseHere_80 ic_0 ?_
    refine gx_iload_n 2 dX11_clauseHere_81 rfl rfl ?_
    obtain ⟨_, hobq4, h⟩ := bnd h
    obtain ⟨q4, hq4, h⟩ := bnd h
    refine gx_cVI (As := [.int (0 : Int32), .int l1]) (st := []) (o := l0) dX11_clauseHere_82 (c_X11_fails hq4) mov_X11_fails tw_1173 hobq4 rfl ⟨Nat.le_of_ble_eq_true rfl, Nat.le_of_ble_eq_true rfl⟩ (Nat.le_of_ble_eq_true rfl) ?_
    obtain ⟨hz, h⟩ := of_if h
    have h := Option.some.inj h
    subst h
    exact gx_zret dX11_clauseHere_85 rfl (nar_z hz) (Nat.le_of_ble_eq_true rfl) (Nat.le_of_ble_eq_true rfl) ⟨rfl, rfl⟩
set_option maxRecDepth 4000 in
theorem s_X11_clauseHere_59 {Γ : Cn} {τ : Mm} {N : Nat} {l0 : Nat} {l1 : Int32} {l2 : Int32} {σ : Mm} {o : Int32 × Mm} (h : f_X11_clauseHere_59 N l0 l1 l2 σ = some o) : Gx Γ M_X11_clauseHere 100 τ (PI o) 0 0 59 [(0, .ref (Γ.B + pp l0)), (1, .int l1), (2, .int l2)] [] σ := by
  unfold f_X11_clauseHere_59 at h
  refine gx_iconst (v := (1 : Int32)) dX11_clauseHere_59 ic_1 ?_
  refine gx_goto 74 dX11_clauseHere_60 (by decide) ?_
  exact s_X11_clauseHere_74  h
set_option maxRecDepth 4000 in
theorem s_X11_clauseHere_24 {Γ : Cn} {τ : Mm} {N : Nat} {l0 : Nat} {l1 : Int32} {t0 : Int32} {σ : Mm} {o : Int32 × Mm} (h : f_X11_clauseHere_24 N l0 l1 t0 σ = some o) : Gx Γ M_X11_clauseHere 100 τ (PI o) 0 0 24 [(0, .ref (Γ.B + pp l0)), (1, .int l1)] [.int t0] σ := by
  unfold f_X11_clauseHere_24 at h
  refine gx_istore_n (lv' := [(2, .int t0), (0, .ref (Γ.B + pp l0)), (1, .int l1)]) dX11_clauseHere_24 rfl (Nat.le_of_ble_eq_true rfl) rfl ?_
  refine gx_iload_n 0 dX11_clauseHere_25 rfl rfl ?_
  refine gx_if_eq 67 dX11_clauseHere_26 (by decide) (fun c0 => ?_) (fun c0 => ?_)
  · rw [if_pos c0] at h
    refine gx_aload_n 1 dX11_clauseHere_67 rfl rfl ?_
    refine gx_ldc2 (v := (1953854062 : Int64)) dX11_clauseHere_68 tw_1172 ?_
    obtain ⟨_, hobq2, h⟩ := bnd h
    obtain ⟨q2, hq2, h⟩ := bnd h
    refine gx_cVI (As := [.long (1953854062 : Int64)]) (st := []) (o := l0) dX11_clauseHere_71 (c_X11_isWord hq2) mov_X11_isWord tw_1162 hobq2 rfl ⟨Nat.le_of_ble_eq_true rfl, Nat.le_of_ble_eq_true rfl⟩ (Nat.le_of_ble_eq_true rfl) ?_
    exact gx_sub [1, 2, 0] rfl (s_X11_clauseHere_74  h)
  · rw [if_neg c0] at h
    refine gx_aload_n 1 dX11_clauseHere_29 rfl rfl ?_
    refine gx_ldc2 (v := (1668244331 : Int64)) dX11_clauseHere_30 tw_1161 ?_
    obtain ⟨_, hobq3, h⟩ := bnd h
    obtain ⟨q3, hq3, h⟩ := bnd h
    refine gx_cVI (As := [.long (1668244331 : Int64)]) (st := []) (o := l0) dX11_clauseHere_33 (c_X11_isWord hq3) mov_X11_isWord tw_1162 hobq3 rfl ⟨Nat.le_of_ble_eq_true rfl, Nat.le_of_ble_eq_true rfl⟩ (Nat.le_of_ble_eq_true rfl) ?_
    refine gx_if_ne 59 dX11_clauseHere_36 (by decide) (fun c3 => ?_) (fun c3 => ?_)
    · rw [if_neg c3] at h
      exact gx_sub [1, 2, 0] rfl (s_X11_clauseHere_59  h)
    · rw [if_pos c3] at h
      refine gx_aload_n 1 dX11_clauseHere_39 rfl rfl ?_
      refine gx_ldc2 (v := (1953654117 : Int64)) dX11_clauseHere_40 tw_1170 ?_
      obtain ⟨_, hobq5, h⟩ := bnd h
      obtain ⟨q5, hq5, h⟩ := bnd h
      refine gx_cVI (As := [.long (1953654117 : Int64)]) (st := []) (o := l0) dX11_clauseHere_43 (c_X11_isWord hq5) mov_X11_isWord tw_1162 hobq5 rfl ⟨Nat.le_of_ble_eq_true rfl, Nat.le_of_ble_eq_true rfl⟩ (Nat.le_of_ble_eq_true rfl) ?_
      refine gx_if_ne 59 dX11_clauseHere_46 (by decide) (fun c5 => ?_) (fun c5 => ?_)
      · rw [if_neg c5] at h
        exact gx_sub [1, 2, 0] rfl (s_X11_clauseHere_59  h)
      · rw [if_pos c5] at h
        refine gx_aload_n 1 dX11_clauseHere_49 rfl rfl ?_
        refine gx_ldc2 (v := (512970880104 : Int64)) dX11_clauseHere_50 tw_1171 ?_
        obtain ⟨_, hobq7, h⟩ := bnd h
        obtain ⟨q7, hq7, h⟩ := bnd h
        refine gx_cVI (As := [.long (512970880104 : Int64)]) (st := []) (o := l0) dX11_clauseHere_53 (c_X11_isWord hq7) mov_X11_isWord tw_1162 hobq7 rfl ⟨Nat.le_of_ble_eq_true rfl, Nat.le_of_ble_eq_true rfl⟩ (Nat.le_of_ble_eq_true rfl) ?_
        refine gx_if_eq 63 dX11_clauseHere_56 (by decide) (fun c7 => ?_) (fun c7 => ?_)
        · rw [if_pos c7] at h
          refine gx_iconst (v := (0 : Int32)) dX11_clauseHere_63 ic_0 ?_
          refine gx_goto 74 dX11_clauseHere_64 (by decide) ?_
          exact gx_sub [1, 2, 0] rfl (s_X11_clauseHere_74  h)
        · rw [if_neg c7] at h
          exact gx_sub [1, 2, 0] rfl (s_X11_clauseHere_59  h)
set_option maxRecDepth 4000 in
theorem s_X11_clauseHere_0 {Γ : Cn} {τ : Mm} {N : Nat} {l0 : Nat} {σ : Mm} {o : Int32 × Mm} (h : f_X11_clauseHere N l0 σ = some o) : Gx Γ M_X11_clauseHere 100 τ (PI o) 0 0 0 [(0, .ref (Γ.B + pp l0))] [] σ := by
  unfold f_X11_clauseHere at h
  refine gx_aload_n 0 dX11_clauseHere_0 rfl rfl ?_
  obtain ⟨_, hobq1, h⟩ := bnd h
  obtain ⟨q1, hq1, h⟩ := bnd h
  refine gx_cVI (As := []) (st := []) (o := l0) dX11_clauseHere_1 (c_X11_see hq1) mov_X11_see tw_1157 hobq1 rfl ⟨Nat.le_of_ble_eq_true rfl, Nat.le_of_ble_eq_true rfl⟩ (Nat.le_of_ble_eq_true rfl) ?_
  refine gx_pop dX11_clauseHere_4 rfl ?_
  refine gx_aload_n 0 dX11_clauseHere_5 rfl rfl ?_
  obtain ⟨x2, hx2, h⟩ := bnd h
  refine gx_getI dX11_clauseHere_6 hx2 fl_X11_81 rfl ?_
  refine gx_istore_n (lv' := [(1, .int x2), (0, .ref (Γ.B + pp l0))]) dX11_clauseHere_9 rfl (Nat.le_of_ble_eq_true rfl) rfl ?_
  refine gx_aload_n 1 dX11_clauseHere_10 rfl rfl ?_
  obtain ⟨x3, hx3, h⟩ := bnd h
  refine gx_getI dX11_clauseHere_11 hx3 fl_X11_131 rfl ?_
  refine gx_bipush (v := (6 : Int32)) dX11_clauseHere_14 ib_6 ?_
  refine gx_icmp_ne 23 dX11_clauseHere_16 (by decide) (fun c3 => ?_) (fun c3 => ?_)
  · rw [if_neg c3] at h
    refine gx_iconst (v := (0 : Int32)) dX11_clauseHere_23 ic_0 ?_
    exact gx_sub [1, 0] rfl (s_X11_clauseHere_24  h)
  · rw [if_pos c3] at h
    refine gx_iconst (v := (1 : Int32)) dX11_clauseHere_19 ic_1 ?_
    refine gx_goto 24 dX11_clauseHere_20 (by decide) ?_
    exact gx_sub [1, 0] rfl (s_X11_clauseHere_24  h)
theorem c_X11_clauseHere {Γ : Cn} {τ : Mm} {N : Nat} {l0 : Nat} {σ : Mm} {o : Int32 × Mm} (h : f_X11_clauseHere N l0 σ = some o) : Ct Γ M_X11_clauseHere yX11_clauseHere 100 τ [.ref (Γ.B + pp l0)] σ (PI o) := ct_of (by decide) rfl (fun _ => by first | rfl | contradiction) (Nat.le_of_ble_eq_true rfl) (s_X11_clauseHere_0  h)
abbrev M_X11_readsAll : Ms := (cX11_readsAll, RX11, 2, (some .boolean), false, 0, 0, 11)
def f_X11_readsAll_135 (N : Nat) (t0 : Int32) (σ : Mm) : Option (Int32 × Mm) :=
  if t0 = 0 ∨ t0 = 1 then some (t0, σ) else none
def f_X11_readsAll_118 (N : Nat) (l0 : Nat) (σ : Mm) : Option (Int32 × Mm) :=
  (pI 11 1 σ l0 (0 : Int32)).bind fun s1 =>
  (gI 11 13 s1 l0).bind fun x2 =>
  if x2 = 0 then (
    f_X11_readsAll_135 N (1 : Int32) s1) else (
    f_X11_readsAll_135 N (0 : Int32) s1)
def f_X11_readsAll_88 (N : Nat) (l0 : Nat) (l1 : Int32) (σ : Mm) : Option (Int32 × Mm) :=
  if l1 = 0 then (
    f_X11_readsAll_118 N l0 σ) else (
    (gI 11 15 σ l0).bind fun x2 =>
    if x2 = (6 : Int32) then (
      (gI 11 7 σ l0).bind fun x4 =>
      if x4 = 0 then (
        (gI 11 12 σ l0).bind fun x6 =>
        (ob 11 σ l0).bind fun _ =>
        (f_X11_fails N l0 (0 : Int32) x6 σ).bind fun q7 =>
        f_X11_readsAll_118 N l0 q7.2) else (
        f_X11_readsAll_118 N l0 σ)) else (
      f_X11_readsAll_118 N l0 σ))
def f_X11_readsAll_66 (N : Nat) (l0 : Nat) (l1 : Int32) (σ : Mm) : Option (Int32 × Mm) :=
  if l1 = 0 then (
    f_X11_readsAll_88 N l0 l1 σ) else (
    (ob 11 σ l0).bind fun _ =>
    (f_X11_see N l0 σ).bind fun q2 =>
    if q2.1 = (-1 : Int32) then (
      f_X11_readsAll_88 N l0 l1 q2.2) else (
      (gI 11 12 q2.2 l0).bind fun x4 =>
      (ob 11 q2.2 l0).bind fun _ =>
      (f_X11_fails N l0 (0 : Int32) x4 q2.2).bind fun q5 =>
      f_X11_readsAll_88 N l0 q5.1 q5.2))
def f_X11_readsAll_35 (N : Nat) : Nat → Nat → Int32 → Mm → Option (Int32 × Mm)
  | 0, _, _, _ => none
  | n + 1, l0, l1, σ =>
      if l1 = 0 then (
        f_X11_readsAll_66 N l0 l1 σ) else (
        (ob 11 σ l0).bind fun _ =>
        (f_X11_see N l0 σ).bind fun q2 =>
        if q2.1 = (59 : Int32) then (
          (gI 11 12 q2.2 l0).bind fun x4 =>
          (pI 11 12 q2.2 l0 (x4 + (1 : Int32))).bind fun s5 =>
          (ob 11 s5 l0).bind fun _ =>
          (f_X11_clauseHere N l0 s5).bind fun q6 =>
          f_X11_readsAll_35 N n l0 q6.1 q6.2) else (
          f_X11_readsAll_66 N l0 l1 q2.2))
def f_X11_readsAll (N : Nat) (l0 : Nat) (σ : Mm) : Option (Int32 × Mm) :=
  (gN 11 4 σ l0).bind fun a1 =>
  (gI 11 15 σ l0).bind fun x2 =>
  (sI 113 σ a1 x2 (0 : Int32)).bind fun s3 =>
  (pI 11 18 s3 l0 (0 : Int32)).bind fun s4 =>
  (pI 11 12 s4 l0 (0 : Int32)).bind fun s5 =>
  (pI 11 13 s5 l0 (0 : Int32)).bind fun s6 =>
  (pI 11 16 s6 l0 (0 : Int32)).bind fun s7 =>
  (ob 11 s7 l0).bind fun _ =>
  (f_X11_clauseHere N l0 s7).bind fun q8 =>
  f_X11_readsAll_35 N N l0 q8.1 q8.2
theorem mov_X11_readsAll : MOV yX11_readsAll M_X11_readsAll 0 11 100 := ⟨⟨tw_107, tw_1152, ⟨by decide, by decide⟩, by decide +kernel⟩, tw_1151, tw_37, by decide, ⟨_, rfl, rfl⟩, rfl⟩
set_option maxRecDepth 4000 in
theorem s_X11_readsAll_135 {Γ : Cn} {τ : Mm} {N : Nat} {t0 : Int32} {σ : Mm} {o : Int32 × Mm} (h : f_X11_readsAll_135 N t0 σ = some o) : Gx Γ M_X11_readsAll 100 τ (PI o) 0 0 135 [] [.int t0] σ := by
  unfold f_X11_readsAll_135 at h
  obtain ⟨hz, h⟩ := of_if h
  have h := Option.some.inj h
  subst h
  exact gx_zret dX11_readsAll_135 rfl (nar_z hz) (Nat.le_of_ble_eq_true rfl) (Nat.le_of_ble_eq_true rfl) ⟨rfl, rfl⟩
set_option maxRecDepth 4000 in
theorem s_X11_readsAll_118 {Γ : Cn} {τ : Mm} {N : Nat} {l0 : Nat} {σ : Mm} {o : Int32 × Mm} (h : f_X11_readsAll_118 N l0 σ = some o) : Gx Γ M_X11_readsAll 100 τ (PI o) 0 0 118 [(0, .ref (Γ.B + pp l0))] [] σ := by
  unfold f_X11_readsAll_118 at h
  refine gx_aload_n 0 dX11_readsAll_118 rfl rfl ?_
  refine gx_iconst (v := (0 : Int32)) dX11_readsAll_119 ic_0 ?_
  obtain ⟨s1, hs1, h⟩ := bnd h
  refine gx_putI dX11_readsAll_120 hs1 fl_X11_70 fp_X11_11_1 rfl ?_
  refine gx_aload_n 0 dX11_readsAll_123 rfl rfl ?_
  obtain ⟨x2, hx2, h⟩ := bnd h
  refine gx_getI dX11_readsAll_124 hx2 fl_X11_78 rfl ?_
  refine gx_if_ne 134 dX11_readsAll_127 (by decide) (fun c2 => ?_) (fun c2 => ?_)
  · rw [if_neg c2] at h
    refine gx_iconst (v := (0 : Int32)) dX11_readsAll_134 ic_0 ?_
    exact gx_sub [] rfl (s_X11_readsAll_135  h)
  · rw [if_pos c2] at h
    refine gx_iconst (v := (1 : Int32)) dX11_readsAll_130 ic_1 ?_
    refine gx_goto 135 dX11_readsAll_131 (by decide) ?_
    exact gx_sub [] rfl (s_X11_readsAll_135  h)
set_option maxRecDepth 4000 in
theorem s_X11_readsAll_88 {Γ : Cn} {τ : Mm} {N : Nat} {l0 : Nat} {l1 : Int32} {σ : Mm} {o : Int32 × Mm} (h : f_X11_readsAll_88 N l0 l1 σ = some o) : Gx Γ M_X11_readsAll 100 τ (PI o) 0 0 88 [(0, .ref (Γ.B + pp l0)), (1, .int l1)] [] σ := by
  unfold f_X11_readsAll_88 at h
  refine gx_iload_n 1 dX11_readsAll_88 rfl rfl ?_
  refine gx_if_eq 118 dX11_readsAll_89 (by decide) (fun c0 => ?_) (fun c0 => ?_)
  · rw [if_pos c0] at h
    exact gx_sub [0] rfl (s_X11_readsAll_118  h)
  · rw [if_neg c0] at h
    refine gx_aload_n 0 dX11_readsAll_92 rfl rfl ?_
    obtain ⟨x2, hx2, h⟩ := bnd h
    refine gx_getI dX11_readsAll_93 hx2 fl_X11_131 rfl ?_
    refine gx_bipush (v := (6 : Int32)) dX11_readsAll_96 ib_6 ?_
    refine gx_icmp_ne 118 dX11_readsAll_98 (by decide) (fun c2 => ?_) (fun c2 => ?_)
    · rw [if_neg c2] at h
      exact gx_sub [0] rfl (s_X11_readsAll_118  h)
    · rw [if_pos c2] at h
      refine gx_aload_n 0 dX11_readsAll_101 rfl rfl ?_
      obtain ⟨x4, hx4, h⟩ := bnd h
      refine gx_getI dX11_readsAll_102 hx4 fl_X11_203 rfl ?_
      refine gx_if_ne 118 dX11_readsAll_105 (by decide) (fun c4 => ?_) (fun c4 => ?_)
      · rw [if_neg c4] at h
        exact gx_sub [0] rfl (s_X11_readsAll_118  h)
      · rw [if_pos c4] at h
        refine gx_aload_n 0 dX11_readsAll_108 rfl rfl ?_
        refine gx_iconst (v := (0 : Int32)) dX11_readsAll_109 ic_0 ?_
        refine gx_aload_n 0 dX11_readsAll_110 rfl rfl ?_
        obtain ⟨x6, hx6, h⟩ := bnd h
        refine gx_getI dX11_readsAll_111 hx6 fl_X11_81 rfl ?_
        obtain ⟨_, hobq7, h⟩ := bnd h
        obtain ⟨q7, hq7, h⟩ := bnd h
        refine gx_cVI (As := [.int (0 : Int32), .int x6]) (st := []) (o := l0) dX11_readsAll_114 (c_X11_fails hq7) mov_X11_fails tw_1173 hobq7 rfl ⟨Nat.le_of_ble_eq_true rfl, Nat.le_of_ble_eq_true rfl⟩ (Nat.le_of_ble_eq_true rfl) ?_
        refine gx_pop dX11_readsAll_117 rfl ?_
        exact gx_sub [0] rfl (s_X11_readsAll_118  h)
set_option maxRecDepth 4000 in
theorem s_X11_readsAll_66 {Γ : Cn} {τ : Mm} {N : Nat} {l0 : Nat} {l1 : Int32} {σ : Mm} {o : Int32 × Mm} (h : f_X11_readsAll_66 N l0 l1 σ = some o) : Gx Γ M_X11_readsAll 100 τ (PI o) 0 0 66 [(0, .ref (Γ.B + pp l0)), (1, .int l1)] [] σ := by
  unfold f_X11_readsAll_66 at h
  refine gx_iload_n 1 dX11_readsAll_66 rfl rfl ?_
  refine gx_if_eq 88 dX11_readsAll_67 (by decide) (fun c0 => ?_) (fun c0 => ?_)
  · rw [if_pos c0] at h
    exact s_X11_readsAll_88  h
  · rw [if_neg c0] at h
    refine gx_aload_n 0 dX11_readsAll_70 rfl rfl ?_
    obtain ⟨_, hobq2, h⟩ := bnd h
    obtain ⟨q2, hq2, h⟩ := bnd h
    refine gx_cVI (As := []) (st := []) (o := l0) dX11_readsAll_71 (c_X11_see hq2) mov_X11_see tw_1157 hobq2 rfl ⟨Nat.le_of_ble_eq_true rfl, Nat.le_of_ble_eq_true rfl⟩ (Nat.le_of_ble_eq_true rfl) ?_
    refine gx_iconst (v := (-1 : Int32)) dX11_readsAll_74 ic_m1 ?_
    refine gx_icmp_eq 88 dX11_readsAll_75 (by decide) (fun c2 => ?_) (fun c2 => ?_)
    · rw [if_pos c2] at h
      exact s_X11_readsAll_88  h
    · rw [if_neg c2] at h
      refine gx_aload_n 0 dX11_readsAll_78 rfl rfl ?_
      refine gx_iconst (v := (0 : Int32)) dX11_readsAll_79 ic_0 ?_
      refine gx_aload_n 0 dX11_readsAll_80 rfl rfl ?_
      obtain ⟨x4, hx4, h⟩ := bnd h
      refine gx_getI dX11_readsAll_81 hx4 fl_X11_81 rfl ?_
      obtain ⟨_, hobq5, h⟩ := bnd h
      obtain ⟨q5, hq5, h⟩ := bnd h
      refine gx_cVI (As := [.int (0 : Int32), .int x4]) (st := []) (o := l0) dX11_readsAll_84 (c_X11_fails hq5) mov_X11_fails tw_1173 hobq5 rfl ⟨Nat.le_of_ble_eq_true rfl, Nat.le_of_ble_eq_true rfl⟩ (Nat.le_of_ble_eq_true rfl) ?_
      refine gx_istore_n (lv' := [(1, .int q5.1), (0, .ref (Γ.B + pp l0))]) dX11_readsAll_87 rfl (Nat.le_of_ble_eq_true rfl) rfl ?_
      exact gx_sub [1, 0] rfl (s_X11_readsAll_88  h)
set_option maxRecDepth 4000 in
theorem s_X11_readsAll_35 {Γ : Cn} {τ : Mm} {N : Nat} : ∀ (n : Nat) (l0 : Nat) (l1 : Int32) (σ : Mm) (o : Int32 × Mm), f_X11_readsAll_35 N n l0 l1 σ = some o → Gx Γ M_X11_readsAll 100 τ (PI o) 0 0 35 [(0, .ref (Γ.B + pp l0)), (1, .int l1)] [] σ := by
  intro n
  induction n with
  | zero =>
    intro l0 l1 σ o h
    exact absurd h (by rw [f_X11_readsAll_35]; exact fun q => nomatch q)
  | succ n ih =>
    intro l0 l1 σ o h
    rw [f_X11_readsAll_35] at h
    refine gx_iload_n 1 dX11_readsAll_35 rfl rfl ?_
    refine gx_if_eq 66 dX11_readsAll_36 (by decide) (fun c0 => ?_) (fun c0 => ?_)
    · rw [if_pos c0] at h
      exact s_X11_readsAll_66  h
    · rw [if_neg c0] at h
      refine gx_aload_n 0 dX11_readsAll_39 rfl rfl ?_
      obtain ⟨_, hobq2, h⟩ := bnd h
      obtain ⟨q2, hq2, h⟩ := bnd h
      refine gx_cVI (As := []) (st := []) (o := l0) dX11_readsAll_40 (c_X11_see hq2) mov_X11_see tw_1157 hobq2 rfl ⟨Nat.le_of_ble_eq_true rfl, Nat.le_of_ble_eq_true rfl⟩ (Nat.le_of_ble_eq_true rfl) ?_
      refine gx_bipush (v := (59 : Int32)) dX11_readsAll_43 ib_59 ?_
      refine gx_icmp_ne 66 dX11_readsAll_45 (by decide) (fun c2 => ?_) (fun c2 => ?_)
      · rw [if_neg c2] at h
        exact s_X11_readsAll_66  h
      · rw [if_pos c2] at h
        refine gx_aload_n 0 dX11_readsAll_48 rfl rfl ?_
        refine gx_dup dX11_readsAll_49 rfl ?_
        obtain ⟨x4, hx4, h⟩ := bnd h
        refine gx_getI dX11_readsAll_50 hx4 fl_X11_81 rfl ?_
        refine gx_iconst (v := (1 : Int32)) dX11_readsAll_53 ic_1 ?_
        refine gx_iadd dX11_readsAll_54 ?_
        obtain ⟨s5, hs5, h⟩ := bnd h
        refine gx_putI dX11_readsAll_55 hs5 fl_X11_81 fp_X11_11_12 rfl ?_
        refine gx_aload_n 0 dX11_readsAll_58 rfl rfl ?_
        obtain ⟨_, hobq6, h⟩ := bnd h
        obtain ⟨q6, hq6, h⟩ := bnd h
        refine gx_cVI (As := []) (st := []) (o := l0) dX11_readsAll_59 (c_X11_clauseHere hq6) mov_X11_clauseHere tw_1153 hobq6 rfl ⟨Nat.le_of_ble_eq_true rfl, Nat.le_of_ble_eq_true rfl⟩ (Nat.le_of_ble_eq_true rfl) ?_
        refine gx_istore_n (lv' := [(1, .int q6.1), (0, .ref (Γ.B + pp l0))]) dX11_readsAll_62 rfl (Nat.le_of_ble_eq_true rfl) rfl ?_
        refine gx_goto 35 dX11_readsAll_63 (by decide) ?_
        exact gx_sub [1, 0] rfl (ih _ _ _ _ h)
set_option maxRecDepth 4000 in
theorem s_X11_readsAll_0 {Γ : Cn} {τ : Mm} {N : Nat} {l0 : Nat} {σ : Mm} {o : Int32 × Mm} (h : f_X11_readsAll N l0 σ = some o) : Gx Γ M_X11_readsAll 100 τ (PI o) 0 0 0 [(0, .ref (Γ.B + pp l0))] [] σ := by
  unfold f_X11_readsAll at h
  refine gx_aload_n 0 dX11_readsAll_0 rfl rfl ?_
  obtain ⟨a1, ha1, h⟩ := bnd h
  refine gx_getN dX11_readsAll_1 ha1 fl_X11_17 rfl ?_
  refine gx_aload_n 0 dX11_readsAll_4 rfl rfl ?_
  obtain ⟨x2, hx2, h⟩ := bnd h
  refine gx_getI dX11_readsAll_5 hx2 fl_X11_131 rfl ?_
  refine gx_iconst (v := (0 : Int32)) dX11_readsAll_8 ic_0 ?_
  obtain ⟨s3, hs3, h⟩ := bnd h
  refine gx_iast (kd := 113) dX11_readsAll_9 hs3 rfl rfl ?_
  refine gx_aload_n 0 dX11_readsAll_10 rfl rfl ?_
  refine gx_iconst (v := (0 : Int32)) dX11_readsAll_11 ic_0 ?_
  obtain ⟨s4, hs4, h⟩ := bnd h
  refine gx_putI dX11_readsAll_12 hs4 fl_X11_218 fp_X11_11_18 rfl ?_
  refine gx_aload_n 0 dX11_readsAll_15 rfl rfl ?_
  refine gx_iconst (v := (0 : Int32)) dX11_readsAll_16 ic_0 ?_
  obtain ⟨s5, hs5, h⟩ := bnd h
  refine gx_putI dX11_readsAll_17 hs5 fl_X11_81 fp_X11_11_12 rfl ?_
  refine gx_aload_n 0 dX11_readsAll_20 rfl rfl ?_
  refine gx_iconst (v := (0 : Int32)) dX11_readsAll_21 ic_0 ?_
  obtain ⟨s6, hs6, h⟩ := bnd h
  refine gx_putI dX11_readsAll_22 hs6 fl_X11_78 fp_X11_11_13 rfl ?_
  refine gx_aload_n 0 dX11_readsAll_25 rfl rfl ?_
  refine gx_iconst (v := (0 : Int32)) dX11_readsAll_26 ic_0 ?_
  obtain ⟨s7, hs7, h⟩ := bnd h
  refine gx_putI dX11_readsAll_27 hs7 fl_X11_134 fp_X11_11_16 rfl ?_
  refine gx_aload_n 0 dX11_readsAll_30 rfl rfl ?_
  obtain ⟨_, hobq8, h⟩ := bnd h
  obtain ⟨q8, hq8, h⟩ := bnd h
  refine gx_cVI (As := []) (st := []) (o := l0) dX11_readsAll_31 (c_X11_clauseHere hq8) mov_X11_clauseHere tw_1153 hobq8 rfl ⟨Nat.le_of_ble_eq_true rfl, Nat.le_of_ble_eq_true rfl⟩ (Nat.le_of_ble_eq_true rfl) ?_
  refine gx_istore_n (lv' := [(1, .int q8.1), (0, .ref (Γ.B + pp l0))]) dX11_readsAll_34 rfl (Nat.le_of_ble_eq_true rfl) rfl ?_
  exact gx_sub [1, 0] rfl (s_X11_readsAll_35  N _ _ _ _ h)
theorem c_X11_readsAll {Γ : Cn} {τ : Mm} {N : Nat} {l0 : Nat} {σ : Mm} {o : Int32 × Mm} (h : f_X11_readsAll N l0 σ = some o) : Ct Γ M_X11_readsAll yX11_readsAll 100 τ [.ref (Γ.B + pp l0)] σ (PI o) := ct_of (by decide) rfl (fun _ => by first | rfl | contradiction) (Nat.le_of_ble_eq_true rfl) (s_X11_readsAll_0  h)
abbrev M_X11_law : Ms := (cX11_law, RX11, 1, (some .int), false, 0, 0, 12)
def f_X11_law (N : Nat) (l0 : Nat) (σ : Mm) : Option (Int32 × Mm) :=
  (gI 11 2 σ l0).bind fun x1 =>
  if x1 = (6 : Int32) then (
    some ((-1 : Int32), σ)) else (
    (gI 11 2 σ l0).bind fun x3 =>
    (pI 11 15 σ l0 x3).bind fun s4 =>
    (gN 11 6 s4 l0).bind fun a5 =>
    (gI 11 15 s4 l0).bind fun x6 =>
    (sI 113 s4 a5 x6 (0 : Int32)).bind fun s7 =>
    (ob 11 s7 l0).bind fun _ =>
    (f_X11_readsAll N l0 s7).bind fun q8 =>
    if q8.1 = 0 then (
      (gI 11 13 q8.2 l0).bind fun x13 =>
      some (((-2 : Int32) - x13), q8.2)) else (
      (gI 11 2 q8.2 l0).bind fun x10 =>
      (pI 11 2 q8.2 l0 (x10 + (1 : Int32))).bind fun s11 =>
      (gI 11 2 s11 l0).bind fun x12 =>
      some ((x12 - (1 : Int32)), s11)))
theorem mov_X11_law : MOV yX11_law M_X11_law 0 11 100 := ⟨⟨tw_107, tw_1148, ⟨by decide, by decide⟩, by decide +kernel⟩, tw_1146, tw_1147, by decide, ⟨_, rfl, rfl⟩, rfl⟩
set_option maxRecDepth 4000 in
theorem s_X11_law_0 {Γ : Cn} {τ : Mm} {N : Nat} {l0 : Nat} {σ : Mm} {o : Int32 × Mm} (h : f_X11_law N l0 σ = some o) : Gx Γ M_X11_law 100 τ (PI o) 0 0 0 [(0, .ref (Γ.B + pp l0))] [] σ := by
  unfold f_X11_law at h
  refine gx_aload_n 0 dX11_law_0 rfl rfl ?_
  obtain ⟨x1, hx1, h⟩ := bnd h
  refine gx_getI dX11_law_1 hx1 fl_X11_236 rfl ?_
  refine gx_bipush (v := (6 : Int32)) dX11_law_4 ib_6 ?_
  refine gx_icmp_ne 11 dX11_law_6 (by decide) (fun c1 => ?_) (fun c1 => ?_)
  · rw [if_neg c1] at h
    refine gx_aload_n 0 dX11_law_11 rfl rfl ?_
    refine gx_aload_n 0 dX11_law_12 rfl rfl ?_
    obtain ⟨x3, hx3, h⟩ := bnd h
    refine gx_getI dX11_law_13 hx3 fl_X11_236 rfl ?_
    obtain ⟨s4, hs4, h⟩ := bnd h
    refine gx_putI dX11_law_16 hs4 fl_X11_131 fp_X11_11_15 rfl ?_
    refine gx_aload_n 0 dX11_law_19 rfl rfl ?_
    obtain ⟨a5, ha5, h⟩ := bnd h
    refine gx_getN dX11_law_20 ha5 fl_X11_23 rfl ?_
    refine gx_aload_n 0 dX11_law_23 rfl rfl ?_
    obtain ⟨x6, hx6, h⟩ := bnd h
    refine gx_getI dX11_law_24 hx6 fl_X11_131 rfl ?_
    refine gx_iconst (v := (0 : Int32)) dX11_law_27 ic_0 ?_
    obtain ⟨s7, hs7, h⟩ := bnd h
    refine gx_iast (kd := 113) dX11_law_28 hs7 rfl rfl ?_
    refine gx_aload_n 0 dX11_law_29 rfl rfl ?_
    obtain ⟨_, hobq8, h⟩ := bnd h
    obtain ⟨q8, hq8, h⟩ := bnd h
    refine gx_cVI (As := []) (st := []) (o := l0) dX11_law_30 (c_X11_readsAll hq8) mov_X11_readsAll tw_1149 hobq8 rfl ⟨Nat.le_of_ble_eq_true rfl, Nat.le_of_ble_eq_true rfl⟩ (Nat.le_of_ble_eq_true rfl) ?_
    refine gx_if_ne 44 dX11_law_33 (by decide) (fun c8 => ?_) (fun c8 => ?_)
    · rw [if_neg c8] at h
      refine gx_aload_n 0 dX11_law_44 rfl rfl ?_
      refine gx_dup dX11_law_45 rfl ?_
      obtain ⟨x10, hx10, h⟩ := bnd h
      refine gx_getI dX11_law_46 hx10 fl_X11_236 rfl ?_
      refine gx_iconst (v := (1 : Int32)) dX11_law_49 ic_1 ?_
      refine gx_iadd dX11_law_50 ?_
      obtain ⟨s11, hs11, h⟩ := bnd h
      refine gx_putI dX11_law_51 hs11 fl_X11_236 fp_X11_11_2 rfl ?_
      refine gx_aload_n 0 dX11_law_54 rfl rfl ?_
      obtain ⟨x12, hx12, h⟩ := bnd h
      refine gx_getI dX11_law_55 hx12 fl_X11_236 rfl ?_
      refine gx_iconst (v := (1 : Int32)) dX11_law_58 ic_1 ?_
      refine gx_isub dX11_law_59 ?_
      have h := Option.some.inj h
      subst h
      exact gx_iret dX11_law_60 rfl (Nat.le_of_ble_eq_true rfl) (Nat.le_of_ble_eq_true rfl) ⟨rfl, rfl⟩
    · rw [if_pos c8] at h
      refine gx_bipush (v := (-2 : Int32)) dX11_law_36 ib_m2 ?_
      refine gx_aload_n 0 dX11_law_38 rfl rfl ?_
      obtain ⟨x13, hx13, h⟩ := bnd h
      refine gx_getI dX11_law_39 hx13 fl_X11_78 rfl ?_
      refine gx_isub dX11_law_42 ?_
      have h := Option.some.inj h
      subst h
      exact gx_iret dX11_law_43 rfl (Nat.le_of_ble_eq_true rfl) (Nat.le_of_ble_eq_true rfl) ⟨rfl, rfl⟩
  · rw [if_pos c1] at h
    refine gx_iconst (v := (-1 : Int32)) dX11_law_9 ic_m1 ?_
    have h := Option.some.inj h
    subst h
    exact gx_iret dX11_law_10 rfl (Nat.le_of_ble_eq_true rfl) (Nat.le_of_ble_eq_true rfl) ⟨rfl, rfl⟩
theorem c_X11_law {Γ : Cn} {τ : Mm} {N : Nat} {l0 : Nat} {σ : Mm} {o : Int32 × Mm} (h : f_X11_law N l0 σ = some o) : Ct Γ M_X11_law yX11_law 100 τ [.ref (Γ.B + pp l0)] σ (PI o) := ct_of (by decide) rfl (fun _ => by first | rfl | contradiction) (Nat.le_of_ble_eq_true rfl) (s_X11_law_0  h)
abbrev M_X11_valley : Ms := (cX11_valley, RX11, 3, (some .int), false, 0, 0, 12)
def f_X11_valley_84 (N : Nat) (r_74 : Nat → Int32 → Mm → Option (Int32 × Mm)) : Nat → Nat → Int32 → Int32 → Mm → Option (Int32 × Mm)
  | 0, _, _, _, _ => none
  | n + 1, l0, l1, l2, σ =>
      if (6 : Int32) ≤ l2 then (
        (gN 11 24 σ l0).bind fun a2 =>
        (gN 11 9 σ l0).bind fun a3 =>
        (aI 113 σ a3 (((6 : Int32) * l1) + (5 : Int32))).bind fun x4 =>
        (sI 113 σ a2 (((4 : Int32) + ((7 : Int32) * l1)) + (6 : Int32)) x4).bind fun s5 =>
        r_74 l0 (l1 + (1 : Int32)) s5) else (
        (gN 11 24 σ l0).bind fun a6 =>
        (gN 11 9 σ l0).bind fun a7 =>
        (aI 113 σ a7 (((6 : Int32) * l1) + l2)).bind fun x8 =>
        (sI 113 σ a6 (((4 : Int32) + ((7 : Int32) * l1)) + l2) x8).bind fun s9 =>
        f_X11_valley_84 N r_74 n l0 l1 (l2 + (1 : Int32)) s9)
def f_X11_valley_163 (N : Nat) (r_153 : Nat → Int32 → Mm → Option (Int32 × Mm)) : Nat → Nat → Int32 → Int32 → Mm → Option (Int32 × Mm)
  | 0, _, _, _, _ => none
  | n + 1, l0, l1, l2, σ =>
      if (2 : Int32) ≤ l2 then (
        (gN 11 24 σ l0).bind fun a2 =>
        (sI 113 σ a2 (((88 : Int32) + ((3 : Int32) * l1)) + (2 : Int32)) (0 : Int32)).bind fun s3 =>
        r_153 l0 (l1 + (1 : Int32)) s3) else (
        (gN 11 24 σ l0).bind fun a4 =>
        (gN 11 10 σ l0).bind fun a5 =>
        (aI 113 σ a5 (((2 : Int32) * l1) + l2)).bind fun x6 =>
        (sI 113 σ a4 (((88 : Int32) + ((3 : Int32) * l1)) + l2) x6).bind fun s7 =>
        f_X11_valley_163 N r_153 n l0 l1 (l2 + (1 : Int32)) s7)
def f_X11_valley_219 (N : Nat) : Nat → Nat → Int32 → Mm → Option (Int32 × Mm)
  | 0, _, _, _ => none
  | n + 1, l0, l1, σ =>
      if (32 : Int32) ≤ l1 then (
        (gI 11 7 σ l0).bind fun x2 =>
        some (x2, σ)) else (
        (gN 11 24 σ l0).bind fun a3 =>
        (gN 11 11 σ l0).bind fun a4 =>
        (aI 113 σ a4 l1).bind fun x5 =>
        (sI 113 σ a3 ((124 : Int32) + l1) x5).bind fun s6 =>
        f_X11_valley_219 N n l0 (l1 + (1 : Int32)) s6)
def f_X11_valley_153 (N : Nat) : Nat → Nat → Int32 → Mm → Option (Int32 × Mm)
  | 0, _, _, _ => none
  | n + 1, l0, l1, σ =>
      (gI 11 8 σ l0).bind fun x1 =>
      if x1 ≤ l1 then (
        f_X11_valley_219 N N l0 (0 : Int32) σ) else (
        f_X11_valley_163 N (f_X11_valley_153 N n) N l0 l1 (0 : Int32) σ)
def f_X11_valley_74 (N : Nat) : Nat → Nat → Int32 → Mm → Option (Int32 × Mm)
  | 0, _, _, _ => none
  | n + 1, l0, l1, σ =>
      (gI 11 7 σ l0).bind fun x1 =>
      if x1 ≤ l1 then (
        f_X11_valley_153 N N l0 (0 : Int32) σ) else (
        f_X11_valley_84 N (f_X11_valley_74 N n) N l0 l1 (0 : Int32) σ)
def f_X11_valley_18 (N : Nat) : Nat → Nat → Int32 → Mm → Option (Int32 × Mm)
  | 0, _, _, _ => none
  | n + 1, l0, l1, σ =>
      if (32 : Int32) ≤ l1 then (
        (ob 11 σ l0).bind fun _ =>
        (f_X11_readsAll N l0 σ).bind fun q2 =>
        if q2.1 = 0 then (
          (gI 11 13 q2.2 l0).bind fun x10 =>
          some (((-2 : Int32) - x10), q2.2)) else (
          (gN 11 24 q2.2 l0).bind fun a4 =>
          (gI 11 7 q2.2 l0).bind fun x5 =>
          (sI 113 q2.2 a4 (0 : Int32) x5).bind fun s6 =>
          (gN 11 24 s6 l0).bind fun a7 =>
          (gI 11 8 s6 l0).bind fun x8 =>
          (sI 113 s6 a7 (1 : Int32) x8).bind fun s9 =>
          f_X11_valley_74 N N l0 (0 : Int32) s9)) else (
        (gN 11 11 σ l0).bind fun a11 =>
        (sI 113 σ a11 l1 (0 : Int32)).bind fun s12 =>
        f_X11_valley_18 N n l0 (l1 + (1 : Int32)) s12)
def f_X11_valley (N : Nat) (l0 : Nat) (σ : Mm) : Option (Int32 × Mm) :=
  (pI 11 15 σ l0 (6 : Int32)).bind fun s1 =>
  (pI 11 7 s1 l0 (0 : Int32)).bind fun s2 =>
  (pI 11 8 s2 l0 (0 : Int32)).bind fun s3 =>
  f_X11_valley_18 N N l0 (0 : Int32) s3
theorem mov_X11_valley : MOV yX11_valley M_X11_valley 0 11 100 := ⟨⟨tw_107, tw_1286, ⟨by decide, by decide⟩, by decide +kernel⟩, tw_1284, tw_1285, by decide, ⟨_, rfl, rfl⟩, rfl⟩
set_option maxRecDepth 4000 in
theorem s_X11_valley_84 {Γ : Cn} {τ : Mm} {N : Nat} {r_74 : Nat → Int32 → Mm → Option (Int32 × Mm)} (hr_74 : ∀ (l0 : Nat) (l1 : Int32) (σ : Mm) (o : Int32 × Mm), r_74 l0 l1 σ = some o → Gx Γ M_X11_valley 100 τ (PI o) 0 0 74 [(0, .ref (Γ.B + pp l0)), (1, .int l1)] [] σ) : ∀ (n : Nat) (l0 : Nat) (l1 : Int32) (l2 : Int32) (σ : Mm) (o : Int32 × Mm), f_X11_valley_84 N r_74 n l0 l1 l2 σ = some o → Gx Γ M_X11_valley 100 τ (PI o) 0 0 84 [(0, .ref (Γ.B + pp l0)), (1, .int l1), (2, .int l2)] [] σ := by
  intro n
  induction n with
  | zero =>
    intro l0 l1 l2 σ o h
    exact absurd h (by rw [f_X11_valley_84]; exact fun q => nomatch q)
  | succ n ih =>
    intro l0 l1 l2 σ o h
    rw [f_X11_valley_84] at h
    refine gx_iload_n 2 dX11_valley_84 rfl rfl ?_
    refine gx_bipush (v := (6 : Int32)) dX11_valley_85 ib_6 ?_
    refine gx_icmp_ge 120 dX11_valley_87 (by decide) (fun c0 => ?_) (fun c0 => ?_)
    · rw [if_pos c0] at h
      refine gx_aload_n 0 dX11_valley_120 rfl rfl ?_
      obtain ⟨a2, ha2, h⟩ := bnd h
      refine gx_getN dX11_valley_121 ha2 fl_X11_45 rfl ?_
      refine gx_iconst (v := (4 : Int32)) dX11_valley_124 ic_4 ?_
      refine gx_bipush (v := (7 : Int32)) dX11_valley_125 ib_7 ?_
      refine gx_iload_n 1 dX11_valley_127 rfl rfl ?_
      refine gx_imul dX11_valley_128 ?_
      refine gx_iadd dX11_valley_129 ?_
      refine gx_bipush (v := (6 : Int32)) dX11_valley_130 ib_6 ?_
      refine gx_iadd dX11_valley_132 ?_
      refine gx_aload_n 0 dX11_valley_133 rfl rfl ?_
      obtain ⟨a3, ha3, h⟩ := bnd h
      refine gx_getN dX11_valley_134 ha3 fl_X11_26 rfl ?_
      refine gx_bipush (v := (6 : Int32)) dX11_valley_137 ib_6 ?_
      refine gx_iload_n 1 dX11_valley_139 rfl rfl ?_
      refine gx_imul dX11_valley_140 ?_
      refine gx_iconst (v := (5 : Int32)) dX11_valley_141 ic_5 ?_
      refine gx_iadd dX11_valley_142 ?_
      obtain ⟨x4, hx4, h⟩ := bnd h
      refine gx_iald (kd := 113) dX11_valley_143 hx4 rfl rfl ?_
      obtain ⟨s5, hs5, h⟩ := bnd h
      refine gx_iast (kd := 113) dX11_valley_144 hs5 rfl rfl ?_
      refine gx_iinc (v := (l1 + (1 : Int32))) (lv' := [(1, .int (l1 + (1 : Int32))), (0, .ref (Γ.B + pp l0)), (2, .int l2)]) 1 dX11_valley_145 rfl (by rw [ic_1]) (Nat.le_of_ble_eq_true rfl) rfl ?_
      refine gx_goto 74 dX11_valley_148 (by decide) ?_
      exact gx_sub [1, 0] rfl (hr_74 _ _ _ _ h)
    · rw [if_neg c0] at h
      refine gx_aload_n 0 dX11_valley_90 rfl rfl ?_
      obtain ⟨a6, ha6, h⟩ := bnd h
      refine gx_getN dX11_valley_91 ha6 fl_X11_45 rfl ?_
      refine gx_iconst (v := (4 : Int32)) dX11_valley_94 ic_4 ?_
      refine gx_bipush (v := (7 : Int32)) dX11_valley_95 ib_7 ?_
      refine gx_iload_n 1 dX11_valley_97 rfl rfl ?_
      refine gx_imul dX11_valley_98 ?_
      refine gx_iadd dX11_valley_99 ?_
      refine gx_iload_n 2 dX11_valley_100 rfl rfl ?_
      refine gx_iadd dX11_valley_101 ?_
      refine gx_aload_n 0 dX11_valley_102 rfl rfl ?_
      obtain ⟨a7, ha7, h⟩ := bnd h
      refine gx_getN dX11_valley_103 ha7 fl_X11_26 rfl ?_
      refine gx_bipush (v := (6 : Int32)) dX11_valley_106 ib_6 ?_
      refine gx_iload_n 1 dX11_valley_108 rfl rfl ?_
      refine gx_imul dX11_valley_109 ?_
      refine gx_iload_n 2 dX11_valley_110 rfl rfl ?_
      refine gx_iadd dX11_valley_111 ?_
      obtain ⟨x8, hx8, h⟩ := bnd h
      refine gx_iald (kd := 113) dX11_valley_112 hx8 rfl rfl ?_
      obtain ⟨s9, hs9, h⟩ := bnd h
      refine gx_iast (kd := 113) dX11_valley_113 hs9 rfl rfl ?_
      refine gx_iinc (v := (l2 + (1 : Int32))) (lv' := [(2, .int (l2 + (1 : Int32))), (0, .ref (Γ.B + pp l0)), (1, .int l1)]) 2 dX11_valley_114 rfl (by rw [ic_1]) (Nat.le_of_ble_eq_true rfl) rfl ?_
      refine gx_goto 84 dX11_valley_117 (by decide) ?_
      exact gx_sub [1, 2, 0] rfl (ih _ _ _ _ _ h)
set_option maxRecDepth 4000 in
theorem s_X11_valley_163 {Γ : Cn} {τ : Mm} {N : Nat} {r_153 : Nat → Int32 → Mm → Option (Int32 × Mm)} (hr_153 : ∀ (l0 : Nat) (l1 : Int32) (σ : Mm) (o : Int32 × Mm), r_153 l0 l1 σ = some o → Gx Γ M_X11_valley 100 τ (PI o) 0 0 153 [(0, .ref (Γ.B + pp l0)), (1, .int l1)] [] σ) : ∀ (n : Nat) (l0 : Nat) (l1 : Int32) (l2 : Int32) (σ : Mm) (o : Int32 × Mm), f_X11_valley_163 N r_153 n l0 l1 l2 σ = some o → Gx Γ M_X11_valley 100 τ (PI o) 0 0 163 [(0, .ref (Γ.B + pp l0)), (1, .int l1), (2, .int l2)] [] σ := by
  intro n
  induction n with
  | zero =>
    intro l0 l1 l2 σ o h
    exact absurd h (by rw [f_X11_valley_163]; exact fun q => nomatch q)
  | succ n ih =>
    intro l0 l1 l2 σ o h
    rw [f_X11_valley_163] at h
    refine gx_iload_n 2 dX11_valley_163 rfl rfl ?_
    refine gx_iconst (v := (2 : Int32)) dX11_valley_164 ic_2 ?_
    refine gx_icmp_ge 197 dX11_valley_165 (by decide) (fun c0 => ?_) (fun c0 => ?_)
    · rw [if_pos c0] at h
      refine gx_aload_n 0 dX11_valley_197 rfl rfl ?_
      obtain ⟨a2, ha2, h⟩ := bnd h
      refine gx_getN dX11_valley_198 ha2 fl_X11_45 rfl ?_
      refine gx_bipush (v := (88 : Int32)) dX11_valley_201 ib_88 ?_
      refine gx_iconst (v := (3 : Int32)) dX11_valley_203 ic_3 ?_
      refine gx_iload_n 1 dX11_valley_204 rfl rfl ?_
      refine gx_imul dX11_valley_205 ?_
      refine gx_iadd dX11_valley_206 ?_
      refine gx_iconst (v := (2 : Int32)) dX11_valley_207 ic_2 ?_
      refine gx_iadd dX11_valley_208 ?_
      refine gx_iconst (v := (0 : Int32)) dX11_valley_209 ic_0 ?_
      obtain ⟨s3, hs3, h⟩ := bnd h
      refine gx_iast (kd := 113) dX11_valley_210 hs3 rfl rfl ?_
      refine gx_iinc (v := (l1 + (1 : Int32))) (lv' := [(1, .int (l1 + (1 : Int32))), (0, .ref (Γ.B + pp l0)), (2, .int l2)]) 1 dX11_valley_211 rfl (by rw [ic_1]) (Nat.le_of_ble_eq_true rfl) rfl ?_
      refine gx_goto 153 dX11_valley_214 (by decide) ?_
      exact gx_sub [1, 0] rfl (hr_153 _ _ _ _ h)
    · rw [if_neg c0] at h
      refine gx_aload_n 0 dX11_valley_168 rfl rfl ?_
      obtain ⟨a4, ha4, h⟩ := bnd h
      refine gx_getN dX11_valley_169 ha4 fl_X11_45 rfl ?_
      refine gx_bipush (v := (88 : Int32)) dX11_valley_172 ib_88 ?_
      refine gx_iconst (v := (3 : Int32)) dX11_valley_174 ic_3 ?_
      refine gx_iload_n 1 dX11_valley_175 rfl rfl ?_
      refine gx_imul dX11_valley_176 ?_
      refine gx_iadd dX11_valley_177 ?_
      refine gx_iload_n 2 dX11_valley_178 rfl rfl ?_
      refine gx_iadd dX11_valley_179 ?_
      refine gx_aload_n 0 dX11_valley_180 rfl rfl ?_
      obtain ⟨a5, ha5, h⟩ := bnd h
      refine gx_getN dX11_valley_181 ha5 fl_X11_29 rfl ?_
      refine gx_iconst (v := (2 : Int32)) dX11_valley_184 ic_2 ?_
      refine gx_iload_n 1 dX11_valley_185 rfl rfl ?_
      refine gx_imul dX11_valley_186 ?_
      refine gx_iload_n 2 dX11_valley_187 rfl rfl ?_
      refine gx_iadd dX11_valley_188 ?_
      obtain ⟨x6, hx6, h⟩ := bnd h
      refine gx_iald (kd := 113) dX11_valley_189 hx6 rfl rfl ?_
      obtain ⟨s7, hs7, h⟩ := bnd h
      refine gx_iast (kd := 113) dX11_valley_190 hs7 rfl rfl ?_
      refine gx_iinc (v := (l2 + (1 : Int32))) (lv' := [(2, .int (l2 + (1 : Int32))), (0, .ref (Γ.B + pp l0)), (1, .int l1)]) 2 dX11_valley_191 rfl (by rw [ic_1]) (Nat.le_of_ble_eq_true rfl) rfl ?_
      refine gx_goto 163 dX11_valley_194 (by decide) ?_
      exact gx_sub [1, 2, 0] rfl (ih _ _ _ _ _ h)
set_option maxRecDepth 4000 in
theorem s_X11_valley_219 {Γ : Cn} {τ : Mm} {N : Nat} : ∀ (n : Nat) (l0 : Nat) (l1 : Int32) (σ : Mm) (o : Int32 × Mm), f_X11_valley_219 N n l0 l1 σ = some o → Gx Γ M_X11_valley 100 τ (PI o) 0 0 219 [(0, .ref (Γ.B + pp l0)), (1, .int l1)] [] σ := by
  intro n
  induction n with
  | zero =>
    intro l0 l1 σ o h
    exact absurd h (by rw [f_X11_valley_219]; exact fun q => nomatch q)
  | succ n ih =>
    intro l0 l1 σ o h
    rw [f_X11_valley_219] at h
    refine gx_iload_n 1 dX11_valley_219 rfl rfl ?_
    refine gx_bipush (v := (32 : Int32)) dX11_valley_220 ib_32 ?_
    refine gx_icmp_ge 246 dX11_valley_222 (by decide) (fun c0 => ?_) (fun c0 => ?_)
    · rw [if_pos c0] at h
      refine gx_aload_n 0 dX11_valley_246 rfl rfl ?_
      obtain ⟨x2, hx2, h⟩ := bnd h
      refine gx_getI dX11_valley_247 hx2 fl_X11_203 rfl ?_
      have h := Option.some.inj h
      subst h
      exact gx_iret dX11_valley_250 rfl (Nat.le_of_ble_eq_true rfl) (Nat.le_of_ble_eq_true rfl) ⟨rfl, rfl⟩
    · rw [if_neg c0] at h
      refine gx_aload_n 0 dX11_valley_225 rfl rfl ?_
      obtain ⟨a3, ha3, h⟩ := bnd h
      refine gx_getN dX11_valley_226 ha3 fl_X11_45 rfl ?_
      refine gx_bipush (v := (124 : Int32)) dX11_valley_229 ib_124 ?_
      refine gx_iload_n 1 dX11_valley_231 rfl rfl ?_
      refine gx_iadd dX11_valley_232 ?_
      refine gx_aload_n 0 dX11_valley_233 rfl rfl ?_
      obtain ⟨a4, ha4, h⟩ := bnd h
      refine gx_getN dX11_valley_234 ha4 fl_X11_32 rfl ?_
      refine gx_iload_n 1 dX11_valley_237 rfl rfl ?_
      obtain ⟨x5, hx5, h⟩ := bnd h
      refine gx_iald (kd := 113) dX11_valley_238 hx5 rfl rfl ?_
      obtain ⟨s6, hs6, h⟩ := bnd h
      refine gx_iast (kd := 113) dX11_valley_239 hs6 rfl rfl ?_
      refine gx_iinc (v := (l1 + (1 : Int32))) (lv' := [(1, .int (l1 + (1 : Int32))), (0, .ref (Γ.B + pp l0))]) 1 dX11_valley_240 rfl (by rw [ic_1]) (Nat.le_of_ble_eq_true rfl) rfl ?_
      refine gx_goto 219 dX11_valley_243 (by decide) ?_
      exact gx_sub [1, 0] rfl (ih _ _ _ _ h)
set_option maxRecDepth 4000 in
theorem s_X11_valley_153 {Γ : Cn} {τ : Mm} {N : Nat} : ∀ (n : Nat) (l0 : Nat) (l1 : Int32) (σ : Mm) (o : Int32 × Mm), f_X11_valley_153 N n l0 l1 σ = some o → Gx Γ M_X11_valley 100 τ (PI o) 0 0 153 [(0, .ref (Γ.B + pp l0)), (1, .int l1)] [] σ := by
  intro n
  induction n with
  | zero =>
    intro l0 l1 σ o h
    exact absurd h (by rw [f_X11_valley_153]; exact fun q => nomatch q)
  | succ n ih =>
    intro l0 l1 σ o h
    rw [f_X11_valley_153] at h
    refine gx_iload_n 1 dX11_valley_153 rfl rfl ?_
    refine gx_aload_n 0 dX11_valley_154 rfl rfl ?_
    obtain ⟨x1, hx1, h⟩ := bnd h
    refine gx_getI dX11_valley_155 hx1 fl_X11_209 rfl ?_
    refine gx_icmp_ge 217 dX11_valley_158 (by decide) (fun c1 => ?_) (fun c1 => ?_)
    · rw [if_pos c1] at h
      refine gx_iconst (v := (0 : Int32)) dX11_valley_217 ic_0 ?_
      refine gx_istore_n (lv' := [(1, .int (0 : Int32)), (0, .ref (Γ.B + pp l0))]) dX11_valley_218 rfl (Nat.le_of_ble_eq_true rfl) rfl ?_
      exact gx_sub [1, 0] rfl (s_X11_valley_219  N _ _ _ _ h)
    · rw [if_neg c1] at h
      refine gx_iconst (v := (0 : Int32)) dX11_valley_161 ic_0 ?_
      refine gx_istore_n (lv' := [(2, .int (0 : Int32)), (0, .ref (Γ.B + pp l0)), (1, .int l1)]) dX11_valley_162 rfl (Nat.le_of_ble_eq_true rfl) rfl ?_
      exact gx_sub [1, 2, 0] rfl (s_X11_valley_163 ih N _ _ _ _ _ h)
set_option maxRecDepth 4000 in
theorem s_X11_valley_74 {Γ : Cn} {τ : Mm} {N : Nat} : ∀ (n : Nat) (l0 : Nat) (l1 : Int32) (σ : Mm) (o : Int32 × Mm), f_X11_valley_74 N n l0 l1 σ = some o → Gx Γ M_X11_valley 100 τ (PI o) 0 0 74 [(0, .ref (Γ.B + pp l0)), (1, .int l1)] [] σ := by
  intro n
  induction n with
  | zero =>
    intro l0 l1 σ o h
    exact absurd h (by rw [f_X11_valley_74]; exact fun q => nomatch q)
  | succ n ih =>
    intro l0 l1 σ o h
    rw [f_X11_valley_74] at h
    refine gx_iload_n 1 dX11_valley_74 rfl rfl ?_
    refine gx_aload_n 0 dX11_valley_75 rfl rfl ?_
    obtain ⟨x1, hx1, h⟩ := bnd h
    refine gx_getI dX11_valley_76 hx1 fl_X11_203 rfl ?_
    refine gx_icmp_ge 151 dX11_valley_79 (by decide) (fun c1 => ?_) (fun c1 => ?_)
    · rw [if_pos c1] at h
      refine gx_iconst (v := (0 : Int32)) dX11_valley_151 ic_0 ?_
      refine gx_istore_n (lv' := [(1, .int (0 : Int32)), (0, .ref (Γ.B + pp l0))]) dX11_valley_152 rfl (Nat.le_of_ble_eq_true rfl) rfl ?_
      exact gx_sub [1, 0] rfl (s_X11_valley_153  N _ _ _ _ h)
    · rw [if_neg c1] at h
      refine gx_iconst (v := (0 : Int32)) dX11_valley_82 ic_0 ?_
      refine gx_istore_n (lv' := [(2, .int (0 : Int32)), (0, .ref (Γ.B + pp l0)), (1, .int l1)]) dX11_valley_83 rfl (Nat.le_of_ble_eq_true rfl) rfl ?_
      exact gx_sub [1, 2, 0] rfl (s_X11_valley_84 ih N _ _ _ _ _ h)
set_option maxRecDepth 4000 in
theorem s_X11_valley_18 {Γ : Cn} {τ : Mm} {N : Nat} : ∀ (n : Nat) (l0 : Nat) (l1 : Int32) (σ : Mm) (o : Int32 × Mm), f_X11_valley_18 N n l0 l1 σ = some o → Gx Γ M_X11_valley 100 τ (PI o) 0 0 18 [(0, .ref (Γ.B + pp l0)), (1, .int l1)] [] σ := by
  intro n
  induction n with
  | zero =>
    intro l0 l1 σ o h
    exact absurd h (by rw [f_X11_valley_18]; exact fun q => nomatch q)
  | succ n ih =>
    intro l0 l1 σ o h
    rw [f_X11_valley_18] at h
    refine gx_iload_n 1 dX11_valley_18 rfl rfl ?_
    refine gx_bipush (v := (32 : Int32)) dX11_valley_19 ib_32 ?_
    refine gx_icmp_ge 37 dX11_valley_21 (by decide) (fun c0 => ?_) (fun c0 => ?_)
    · rw [if_pos c0] at h
      refine gx_aload_n 0 dX11_valley_37 rfl rfl ?_
      obtain ⟨_, hobq2, h⟩ := bnd h
      obtain ⟨q2, hq2, h⟩ := bnd h
      refine gx_cVI (As := []) (st := []) (o := l0) dX11_valley_38 (c_X11_readsAll hq2) mov_X11_readsAll tw_1149 hobq2 rfl ⟨Nat.le_of_ble_eq_true rfl, Nat.le_of_ble_eq_true rfl⟩ (Nat.le_of_ble_eq_true rfl) ?_
      refine gx_if_ne 52 dX11_valley_41 (by decide) (fun c2 => ?_) (fun c2 => ?_)
      · rw [if_neg c2] at h
        refine gx_aload_n 0 dX11_valley_52 rfl rfl ?_
        obtain ⟨a4, ha4, h⟩ := bnd h
        refine gx_getN dX11_valley_53 ha4 fl_X11_45 rfl ?_
        refine gx_iconst (v := (0 : Int32)) dX11_valley_56 ic_0 ?_
        refine gx_aload_n 0 dX11_valley_57 rfl rfl ?_
        obtain ⟨x5, hx5, h⟩ := bnd h
        refine gx_getI dX11_valley_58 hx5 fl_X11_203 rfl ?_
        obtain ⟨s6, hs6, h⟩ := bnd h
        refine gx_iast (kd := 113) dX11_valley_61 hs6 rfl rfl ?_
        refine gx_aload_n 0 dX11_valley_62 rfl rfl ?_
        obtain ⟨a7, ha7, h⟩ := bnd h
        refine gx_getN dX11_valley_63 ha7 fl_X11_45 rfl ?_
        refine gx_iconst (v := (1 : Int32)) dX11_valley_66 ic_1 ?_
        refine gx_aload_n 0 dX11_valley_67 rfl rfl ?_
        obtain ⟨x8, hx8, h⟩ := bnd h
        refine gx_getI dX11_valley_68 hx8 fl_X11_209 rfl ?_
        obtain ⟨s9, hs9, h⟩ := bnd h
        refine gx_iast (kd := 113) dX11_valley_71 hs9 rfl rfl ?_
        refine gx_iconst (v := (0 : Int32)) dX11_valley_72 ic_0 ?_
        refine gx_istore_n (lv' := [(1, .int (0 : Int32)), (0, .ref (Γ.B + pp l0))]) dX11_valley_73 rfl (Nat.le_of_ble_eq_true rfl) rfl ?_
        exact gx_sub [1, 0] rfl (s_X11_valley_74  N _ _ _ _ h)
      · rw [if_pos c2] at h
        refine gx_bipush (v := (-2 : Int32)) dX11_valley_44 ib_m2 ?_
        refine gx_aload_n 0 dX11_valley_46 rfl rfl ?_
        obtain ⟨x10, hx10, h⟩ := bnd h
        refine gx_getI dX11_valley_47 hx10 fl_X11_78 rfl ?_
        refine gx_isub dX11_valley_50 ?_
        have h := Option.some.inj h
        subst h
        exact gx_iret dX11_valley_51 rfl (Nat.le_of_ble_eq_true rfl) (Nat.le_of_ble_eq_true rfl) ⟨rfl, rfl⟩
    · rw [if_neg c0] at h
      refine gx_aload_n 0 dX11_valley_24 rfl rfl ?_
      obtain ⟨a11, ha11, h⟩ := bnd h
      refine gx_getN dX11_valley_25 ha11 fl_X11_32 rfl ?_
      refine gx_iload_n 1 dX11_valley_28 rfl rfl ?_
      refine gx_iconst (v := (0 : Int32)) dX11_valley_29 ic_0 ?_
      obtain ⟨s12, hs12, h⟩ := bnd h
      refine gx_iast (kd := 113) dX11_valley_30 hs12 rfl rfl ?_
      refine gx_iinc (v := (l1 + (1 : Int32))) (lv' := [(1, .int (l1 + (1 : Int32))), (0, .ref (Γ.B + pp l0))]) 1 dX11_valley_31 rfl (by rw [ic_1]) (Nat.le_of_ble_eq_true rfl) rfl ?_
      refine gx_goto 18 dX11_valley_34 (by decide) ?_
      exact gx_sub [1, 0] rfl (ih _ _ _ _ h)
set_option maxRecDepth 4000 in
theorem s_X11_valley_0 {Γ : Cn} {τ : Mm} {N : Nat} {l0 : Nat} {σ : Mm} {o : Int32 × Mm} (h : f_X11_valley N l0 σ = some o) : Gx Γ M_X11_valley 100 τ (PI o) 0 0 0 [(0, .ref (Γ.B + pp l0))] [] σ := by
  unfold f_X11_valley at h
  refine gx_aload_n 0 dX11_valley_0 rfl rfl ?_
  refine gx_bipush (v := (6 : Int32)) dX11_valley_1 ib_6 ?_
  obtain ⟨s1, hs1, h⟩ := bnd h
  refine gx_putI dX11_valley_3 hs1 fl_X11_131 fp_X11_11_15 rfl ?_
  refine gx_aload_n 0 dX11_valley_6 rfl rfl ?_
  refine gx_iconst (v := (0 : Int32)) dX11_valley_7 ic_0 ?_
  obtain ⟨s2, hs2, h⟩ := bnd h
  refine gx_putI dX11_valley_8 hs2 fl_X11_203 fp_X11_11_7 rfl ?_
  refine gx_aload_n 0 dX11_valley_11 rfl rfl ?_
  refine gx_iconst (v := (0 : Int32)) dX11_valley_12 ic_0 ?_
  obtain ⟨s3, hs3, h⟩ := bnd h
  refine gx_putI dX11_valley_13 hs3 fl_X11_209 fp_X11_11_8 rfl ?_
  refine gx_iconst (v := (0 : Int32)) dX11_valley_16 ic_0 ?_
  refine gx_istore_n (lv' := [(1, .int (0 : Int32)), (0, .ref (Γ.B + pp l0))]) dX11_valley_17 rfl (Nat.le_of_ble_eq_true rfl) rfl ?_
  exact gx_sub [1, 0] rfl (s_X11_valley_18  N _ _ _ _ h)
theorem c_X11_valley {Γ : Cn} {τ : Mm} {N : Nat} {l0 : Nat} {σ : Mm} {o : Int32 × Mm} (h : f_X11_valley N l0 σ = some o) : Ct Γ M_X11_valley yX11_valley 100 τ [.ref (Γ.B + pp l0)] σ (PI o) := ct_of (by decide) rfl (fun _ => by first | rfl | contradiction) (Nat.le_of_ble_eq_true rfl) (s_X11_valley_0  h)
abbrev M_X11_isLaw : Ms := (cX11_isLaw, RX11, 2, (some .boolean), false, 0, 0, 0)
def f_X11_isLaw_17 (N : Nat) (t0 : Int32) (σ : Mm) : Option (Int32 × Mm) :=
  if t0 = 0 ∨ t0 = 1 then some (t0, σ) else none
def f_X11_isLaw_16 (N : Nat) (σ : Mm) : Option (Int32 × Mm) :=
  f_X11_isLaw_17 N (0 : Int32) σ
def f_X11_isLaw (N : Nat) (l0 : Nat) (l1 : Int32) (σ : Mm) : Option (Int32 × Mm) :=
  if l1 < 0 then (
    f_X11_isLaw_16 N σ) else (
    (gI 11 2 σ l0).bind fun x2 =>
    if x2 ≤ l1 then (
      f_X11_isLaw_16 N σ) else (
      f_X11_isLaw_17 N (1 : Int32) σ))
theorem mov_X11_isLaw : MOV yX11_isLaw M_X11_isLaw 1 11 100 := ⟨⟨tw_107, tw_1346, ⟨by decide, by decide⟩, by decide +kernel⟩, tw_1345, tw_70, by decide, ⟨_, rfl, rfl⟩, rfl⟩
set_option maxRecDepth 4000 in
theorem s_X11_isLaw_17 {Γ : Cn} {τ : Mm} {N : Nat} {t0 : Int32} {σ : Mm} {o : Int32 × Mm} (h : f_X11_isLaw_17 N t0 σ = some o) : Gx Γ M_X11_isLaw 100 τ (PI o) 0 0 17 [] [.int t0] σ := by
  unfold f_X11_isLaw_17 at h
  obtain ⟨hz, h⟩ := of_if h
  have h := Option.some.inj h
  subst h
  exact gx_zret dX11_isLaw_17 rfl (nar_z hz) (Nat.le_of_ble_eq_true rfl) (Nat.le_of_ble_eq_true rfl) ⟨rfl, rfl⟩
set_option maxRecDepth 4000 in
theorem s_X11_isLaw_16 {Γ : Cn} {τ : Mm} {N : Nat} {σ : Mm} {o : Int32 × Mm} (h : f_X11_isLaw_16 N σ = some o) : Gx Γ M_X11_isLaw 100 τ (PI o) 0 0 16 [] [] σ := by
  unfold f_X11_isLaw_16 at h
  refine gx_iconst (v := (0 : Int32)) dX11_isLaw_16 ic_0 ?_
  exact s_X11_isLaw_17  h
set_option maxRecDepth 4000 in
theorem s_X11_isLaw_0 {Γ : Cn} {τ : Mm} {N : Nat} {l0 : Nat} {l1 : Int32} {σ : Mm} {o : Int32 × Mm} (h : f_X11_isLaw N l0 l1 σ = some o) : Gx Γ M_X11_isLaw 100 τ (PI o) 0 0 0 [(0, .ref (Γ.B + pp l0)), (1, .int l1)] [] σ := by
  unfold f_X11_isLaw at h
  refine gx_iload_n 1 dX11_isLaw_0 rfl rfl ?_
  refine gx_if_lt 16 dX11_isLaw_1 (by decide) (fun c0 => ?_) (fun c0 => ?_)
  · rw [if_pos c0] at h
    exact gx_sub [] rfl (s_X11_isLaw_16  h)
  · rw [if_neg c0] at h
    refine gx_iload_n 1 dX11_isLaw_4 rfl rfl ?_
    refine gx_aload_n 0 dX11_isLaw_5 rfl rfl ?_
    obtain ⟨x2, hx2, h⟩ := bnd h
    refine gx_getI dX11_isLaw_6 hx2 fl_X11_236 rfl ?_
    refine gx_icmp_ge 16 dX11_isLaw_9 (by decide) (fun c2 => ?_) (fun c2 => ?_)
    · rw [if_pos c2] at h
      exact gx_sub [] rfl (s_X11_isLaw_16  h)
    · rw [if_neg c2] at h
      refine gx_iconst (v := (1 : Int32)) dX11_isLaw_12 ic_1 ?_
      refine gx_goto 17 dX11_isLaw_13 (by decide) ?_
      exact gx_sub [] rfl (s_X11_isLaw_17  h)
theorem c_X11_isLaw {Γ : Cn} {τ : Mm} {N : Nat} {l0 : Nat} {l1 : Int32} {σ : Mm} {o : Int32 × Mm} (h : f_X11_isLaw N l0 l1 σ = some o) : Ct Γ M_X11_isLaw yX11_isLaw 100 τ [.ref (Γ.B + pp l0), .int l1] σ (PI o) := ct_of (by decide) rfl (fun _ => by first | rfl | contradiction) (Nat.le_of_ble_eq_true rfl) (s_X11_isLaw_0  h)
abbrev M_X11_push : Ms := (cX11_push, RX11, 3, none, false, 0, 0, 0)
def f_X11_push (N : Nat) (l0 : Nat) (l1 : Int64) (σ : Mm) : Option Mm :=
  (gN 11 21 σ l0).bind fun a1 =>
  (gI 11 22 σ l0).bind fun x2 =>
  (sJ 114 σ a1 x2 l1).bind fun s3 =>
  (gI 11 22 s3 l0).bind fun x4 =>
  (pI 11 22 s3 l0 (x4 + (1 : Int32))).bind fun s5 =>
  some s5
theorem mov_X11_push : MOV yX11_push M_X11_push 1 11 100 := ⟨⟨tw_107, tw_1366, ⟨by decide, by decide⟩, by decide +kernel⟩, tw_1365, tw_74, by decide, ⟨_, rfl, rfl⟩, rfl⟩
set_option maxRecDepth 4000 in
theorem s_X11_push_0 {Γ : Cn} {τ : Mm} {N : Nat} {l0 : Nat} {l1 : Int64} {σ : Mm} {o : Mm} (h : f_X11_push N l0 l1 σ = some o) : Gx Γ M_X11_push 100 τ (PV o) 0 0 0 [(0, .ref (Γ.B + pp l0)), (1, .long l1)] [] σ := by
  unfold f_X11_push at h
  refine gx_aload_n 0 dX11_push_0 rfl rfl ?_
  obtain ⟨a1, ha1, h⟩ := bnd h
  refine gx_getN dX11_push_1 ha1 fl_X11_38 rfl ?_
  refine gx_aload_n 0 dX11_push_4 rfl rfl ?_
  obtain ⟨x2, hx2, h⟩ := bnd h
  refine gx_getI dX11_push_5 hx2 fl_X11_242 rfl ?_
  refine gx_lload_n 1 dX11_push_8 rfl rfl ?_
  obtain ⟨s3, hs3, h⟩ := bnd h
  refine gx_last (kd := 114) dX11_push_9 hs3 rfl rfl ?_
  refine gx_aload_n 0 dX11_push_10 rfl rfl ?_
  refine gx_dup dX11_push_11 rfl ?_
  obtain ⟨x4, hx4, h⟩ := bnd h
  refine gx_getI dX11_push_12 hx4 fl_X11_242 rfl ?_
  refine gx_iconst (v := (1 : Int32)) dX11_push_15 ic_1 ?_
  refine gx_iadd dX11_push_16 ?_
  obtain ⟨s5, hs5, h⟩ := bnd h
  refine gx_putI dX11_push_17 hs5 fl_X11_242 fp_X11_11_22 rfl ?_
  have h := Option.some.inj h
  subst h
  exact gx_vret dX11_push_20 rfl (Nat.le_of_ble_eq_true rfl) (Nat.le_of_ble_eq_true rfl) ⟨rfl, rfl⟩
theorem c_X11_push {Γ : Cn} {τ : Mm} {N : Nat} {l0 : Nat} {l1 : Int64} {σ : Mm} {o : Mm} (h : f_X11_push N l0 l1 σ = some o) : Ct Γ M_X11_push yX11_push 100 τ [.ref (Γ.B + pp l0), .long l1] σ (PV o) := ct_of (by decide) rfl (fun _ => by first | rfl | contradiction) (Nat.le_of_ble_eq_true rfl) (s_X11_push_0  h)
abbrev M_X11_pop : Ms := (cX11_pop, RX11, 1, (some .long), false, 0, 0, 0)
def f_X11_pop (N : Nat) (l0 : Nat) (σ : Mm) : Option (Int64 × Mm) :=
  (gI 11 22 σ l0).bind fun x1 =>
  (pI 11 22 σ l0 (x1 - (1 : Int32))).bind fun s2 =>
  (gN 11 21 s2 l0).bind fun a3 =>
  (gI 11 22 s2 l0).bind fun x4 =>
  (aJ 114 s2 a3 x4).bind fun x5 =>
  some (x5, s2)
theorem mov_X11_pop : MOV yX11_pop M_X11_pop 0 11 100 := ⟨⟨tw_107, tw_1370, ⟨by decide, by decide⟩, by decide +kernel⟩, tw_1369, tw_75, by decide, ⟨_, rfl, rfl⟩, rfl⟩
set_option maxRecDepth 4000 in
theorem s_X11_pop_0 {Γ : Cn} {τ : Mm} {N : Nat} {l0 : Nat} {σ : Mm} {o : Int64 × Mm} (h : f_X11_pop N l0 σ = some o) : Gx Γ M_X11_pop 100 τ (PJ o) 0 0 0 [(0, .ref (Γ.B + pp l0))] [] σ := by
  unfold f_X11_pop at h
  refine gx_aload_n 0 dX11_pop_0 rfl rfl ?_
  refine gx_dup dX11_pop_1 rfl ?_
  obtain ⟨x1, hx1, h⟩ := bnd h
  refine gx_getI dX11_pop_2 hx1 fl_X11_242 rfl ?_
  refine gx_iconst (v := (1 : Int32)) dX11_pop_5 ic_1 ?_
  refine gx_isub dX11_pop_6 ?_
  obtain ⟨s2, hs2, h⟩ := bnd h
  refine gx_putI dX11_pop_7 hs2 fl_X11_242 fp_X11_11_22 rfl ?_
  refine gx_aload_n 0 dX11_pop_10 rfl rfl ?_
  obtain ⟨a3, ha3, h⟩ := bnd h
  refine gx_getN dX11_pop_11 ha3 fl_X11_38 rfl ?_
  refine gx_aload_n 0 dX11_pop_14 rfl rfl ?_
  obtain ⟨x4, hx4, h⟩ := bnd h
  refine gx_getI dX11_pop_15 hx4 fl_X11_242 rfl ?_
  obtain ⟨x5, hx5, h⟩ := bnd h
  refine gx_lald (kd := 114) dX11_pop_18 hx5 rfl rfl ?_
  have h := Option.some.inj h
  subst h
  exact gx_lret dX11_pop_19 rfl (Nat.le_of_ble_eq_true rfl) (Nat.le_of_ble_eq_true rfl) ⟨rfl, rfl⟩
theorem c_X11_pop {Γ : Cn} {τ : Mm} {N : Nat} {l0 : Nat} {σ : Mm} {o : Int64 × Mm} (h : f_X11_pop N l0 σ = some o) : Ct Γ M_X11_pop yX11_pop 100 τ [.ref (Γ.B + pp l0)] σ (PJ o) := ct_of (by decide) rfl (fun _ => by first | rfl | contradiction) (Nat.le_of_ble_eq_true rfl) (s_X11_pop_0  h)
abbrev M_X11_one : Ms := (cX11_one, RX11, 5, (some .long), false, 0, 0, 0)
def f_X11_one_85 (N : Nat) (t0 : Int64) (σ : Mm) : Option (Int64 × Mm) :=
  some (t0, σ)
def f_X11_one_97 (N : Nat) (t0 : Int64) (σ : Mm) : Option (Int64 × Mm) :=
  some (t0, σ)
def f_X11_one_109 (N : Nat) (t0 : Int64) (σ : Mm) : Option (Int64 × Mm) :=
  some (t0, σ)
def f_X11_one_121 (N : Nat) (t0 : Int64) (σ : Mm) : Option (Int64 × Mm) :=
  some (t0, σ)
def f_X11_one_133 (N : Nat) (t0 : Int64) (σ : Mm) : Option (Int64 × Mm) :=
  some (t0, σ)
def f_X11_one_145 (N : Nat) (t0 : Int64) (σ : Mm) : Option (Int64 × Mm) :=
  some (t0, σ)
def f_X11_one (N : Nat) (l0 : Int32) (l1 : Int64) (l3 : Int64) (σ : Mm) : Option (Int64 × Mm) :=
  if l0 = (2 : Int32) then (
    some ((l1 + l3), σ)) else
  if l0 = (3 : Int32) then (
    some ((l1 - l3), σ)) else
  if l0 = (4 : Int32) then (
    some ((l1 * l3), σ)) else
  if l0 = (5 : Int32) then (
    if (lg_cmp l3 (0 : Int64)) = 0 then (
      f_X11_one_85 N (0 : Int64) σ) else (
      if l3 = 0 then none else
      f_X11_one_85 N (l1 / l3) σ)) else
  if l0 = (6 : Int32) then (
    if 0 ≤ (lg_cmp l1 l3) then (
      f_X11_one_97 N (0 : Int64) σ) else (
      f_X11_one_97 N (1 : Int64) σ)) else
  if l0 = (7 : Int32) then (
    if 0 < (lg_cmp l1 l3) then (
      f_X11_one_109 N (0 : Int64) σ) else (
      f_X11_one_109 N (1 : Int64) σ)) else
  if l0 = (8 : Int32) then (
    if (lg_cmp l1 l3) = 0 then (
      f_X11_one_121 N (1 : Int64) σ) else (
      f_X11_one_121 N (0 : Int64) σ)) else
  if l0 = (9 : Int32) then (
    if (lg_cmp l1 l3) < 0 then (
      f_X11_one_133 N (0 : Int64) σ) else (
      f_X11_one_133 N (1 : Int64) σ)) else
  if l0 = (10 : Int32) then (
    if (lg_cmp l1 l3) ≤ 0 then (
      f_X11_one_145 N (0 : Int64) σ) else (
      f_X11_one_145 N (1 : Int64) σ)) else
  if l0 = (12 : Int32) then (
    some ((l1 &&& l3), σ)) else
  some ((l1 ||| l3), σ)
theorem mos_X11_one : MOS yX11_one M_X11_one 3 := ⟨⟨tw_107, tw_1373, ⟨by decide, by decide⟩, by decide +kernel⟩, tw_1372⟩
set_option maxRecDepth 4000 in
theorem s_X11_one_85 {Γ : Cn} {τ : Mm} {N : Nat} {t0 : Int64} {σ : Mm} {o : Int64 × Mm} (h : f_X11_one_85 N t0 σ = some o) : Gx Γ M_X11_one 100 τ (PJ o) 0 0 85 [] [.long t0] σ := by
  unfold f_X11_one_85 at h
  have h := Option.some.inj h
  subst h
  exact gx_lret dX11_one_85 rfl (Nat.le_of_ble_eq_true rfl) (Nat.le_of_ble_eq_true rfl) ⟨rfl, rfl⟩
set_option maxRecDepth 4000 in
theorem s_X11_one_97 {Γ : Cn} {τ : Mm} {N : Nat} {t0 : Int64} {σ : Mm} {o : Int64 × Mm} (h : f_X11_one_97 N t0 σ = some o) : Gx Γ M_X11_one 100 τ (PJ o) 0 0 97 [] [.long t0] σ := by
  unfold f_X11_one_97 at h
  have h := Option.some.inj h
  subst h
  exact gx_lret dX11_one_97 rfl (Nat.le_of_ble_eq_true rfl) (Nat.le_of_ble_eq_true rfl) ⟨rfl, rfl⟩
set_option maxRecDepth 4000 in
theorem s_X11_one_109 {Γ : Cn} {τ : Mm} {N : Nat} {t0 : Int64} {σ : Mm} {o : Int64 × Mm} (h : f_X11_one_109 N t0 σ = some o) : Gx Γ M_X11_one 100 τ (PJ o) 0 0 109 [] [.long t0] σ := by
  unfold f_X11_one_109 at h
  have h := Option.some.inj h
  subst h
  exact gx_lret dX11_one_109 rfl (Nat.le_of_ble_eq_true rfl) (Nat.le_of_ble_eq_true rfl) ⟨rfl, rfl⟩
set_option maxRecDepth 4000 in
theorem s_X11_one_121 {Γ : Cn} {τ : Mm} {N : Nat} {t0 : Int64} {σ : Mm} {o : Int64 × Mm} (h : f_X11_one_121 N t0 σ = some o) : Gx Γ M_X11_one 100 τ (PJ o) 0 0 121 [] [.long t0] σ := by
  unfold f_X11_one_121 at h
  have h := Option.some.inj h
  subst h
  exact gx_lret dX11_one_121 rfl (Nat.le_of_ble_eq_true rfl) (Nat.le_of_ble_eq_true rfl) ⟨rfl, rfl⟩
set_option maxRecDepth 4000 in
theorem s_X11_one_133 {Γ : Cn} {τ : Mm} {N : Nat} {t0 : Int64} {σ : Mm} {o : Int64 × Mm} (h : f_X11_one_133 N t0 σ = some o) : Gx Γ M_X11_one 100 τ (PJ o) 0 0 133 [] [.long t0] σ := by
  unfold f_X11_one_133 at h
  have h := Option.some.inj h
  subst h
  exact gx_lret dX11_one_133 rfl (Nat.le_of_ble_eq_true rfl) (Nat.le_of_ble_eq_true rfl) ⟨rfl, rfl⟩
set_option maxRecDepth 4000 in
theorem s_X11_one_145 {Γ : Cn} {τ : Mm} {N : Nat} {t0 : Int64} {σ : Mm} {o : Int64 × Mm} (h : f_X11_one_145 N t0 σ = some o) : Gx Γ M_X11_one 100 τ (PJ o) 0 0 145 [] [.long t0] σ := by
  unfold f_X11_one_145 at h
  have h := Option.some.inj h
  subst h
  exact gx_lret dX11_one_145 rfl (Nat.le_of_ble_eq_true rfl) (Nat.le_of_ble_eq_true rfl) ⟨rfl, rfl⟩
set_option maxRecDepth 4000 in
theorem s_X11_one_0 {Γ : Cn} {τ : Mm} {N : Nat} {l0 : Int32} {l1 : Int64} {l3 : Int64} {σ : Mm} {o : Int64 × Mm} (h : f_X11_one N l0 l1 l3 σ = some o) : Gx Γ M_X11_one 100 τ (PJ o) 0 0 0 [(0, .int l0), (1, .long l1), (3, .long l3)] [] σ := by
  unfold f_X11_one at h
  refine gx_iload_n 0 dX11_one_0 rfl rfl ?_
  by_cases c1 : l0 = (2 : Int32)
  · rw [if_pos c1] at h
    refine gx_tIn 60 dX11_one_1 (by rw [c1]; decide) (by rw [c1]; decide) (by rw [c1]; rfl) (by decide) ?_
    refine gx_lload_n 1 dX11_one_60 rfl rfl ?_
    refine gx_lload_n 2 dX11_one_61 rfl rfl ?_
    refine gx_ladd dX11_one_62 ?_
    have h := Option.some.inj h
    subst h
    exact gx_lret dX11_one_63 rfl (Nat.le_of_ble_eq_true rfl) (Nat.le_of_ble_eq_true rfl) ⟨rfl, rfl⟩
  rw [if_neg c1] at h
  by_cases c2 : l0 = (3 : Int32)
  · rw [if_pos c2] at h
    refine gx_tIn 64 dX11_one_1 (by rw [c2]; decide) (by rw [c2]; decide) (by rw [c2]; rfl) (by decide) ?_
    refine gx_lload_n 1 dX11_one_64 rfl rfl ?_
    refine gx_lload_n 2 dX11_one_65 rfl rfl ?_
    refine gx_lsub dX11_one_66 ?_
    have h := Option.some.inj h
    subst h
    exact gx_lret dX11_one_67 rfl (Nat.le_of_ble_eq_true rfl) (Nat.le_of_ble_eq_true rfl) ⟨rfl, rfl⟩
  rw [if_neg c2] at h
  by_cases c3 : l0 = (4 : Int32)
  · rw [if_pos c3] at h
    refine gx_tIn 68 dX11_one_1 (by rw [c3]; decide) (by rw [c3]; decide) (by rw [c3]; rfl) (by decide) ?_
    refine gx_lload_n 1 dX11_one_68 rfl rfl ?_
    refine gx_lload_n 2 dX11_one_69 rfl rfl ?_
    refine gx_lmul dX11_one_70 ?_
    have h := Option.some.inj h
    subst h
    exact gx_lret dX11_one_71 rfl (Nat.le_of_ble_eq_true rfl) (Nat.le_of_ble_eq_true rfl) ⟨rfl, rfl⟩
  rw [if_neg c3] at h
  by_cases c4 : l0 = (5 : Int32)
  · rw [if_pos c4] at h
    refine gx_tIn 72 dX11_one_1 (by rw [c4]; decide) (by rw [c4]; decide) (by rw [c4]; rfl) (by decide) ?_
    refine gx_lload_n 2 dX11_one_72 rfl rfl ?_
    refine gx_lconst (v := (0 : Int64)) dX11_one_73 (by decide) ?_
    refine gx_lcmp dX11_one_74 ?_
    refine gx_if_ne 82 dX11_one_75 (by decide) (fun c5 => ?_) (fun c5 => ?_)
    · rw [if_neg c5] at h
      refine gx_lload_n 1 dX11_one_82 rfl rfl ?_
      refine gx_lload_n 2 dX11_one_83 rfl rfl ?_
      obtain ⟨c6, h⟩ := of_ifn h
      refine gx_ldiv dX11_one_84 c6 ?_
      exact gx_sub [] rfl (s_X11_one_85  h)
    · rw [if_pos c5] at h
      refine gx_lconst (v := (0 : Int64)) dX11_one_78 (by decide) ?_
      refine gx_goto 85 dX11_one_79 (by decide) ?_
      exact gx_sub [] rfl (s_X11_one_85  h)
  rw [if_neg c4] at h
  by_cases c7 : l0 = (6 : Int32)
  · rw [if_pos c7] at h
    refine gx_tIn 86 dX11_one_1 (by rw [c7]; decide) (by rw [c7]; decide) (by rw [c7]; rfl) (by decide) ?_
    refine gx_lload_n 1 dX11_one_86 rfl rfl ?_
    refine gx_lload_n 2 dX11_one_87 rfl rfl ?_
    refine gx_lcmp dX11_one_88 ?_
    refine gx_if_ge 96 dX11_one_89 (by decide) (fun c8 => ?_) (fun c8 => ?_)
    · rw [if_pos c8] at h
      refine gx_lconst (v := (0 : Int64)) dX11_one_96 (by decide) ?_
      exact gx_sub [] rfl (s_X11_one_97  h)
    · rw [if_neg c8] at h
      refine gx_lconst (v := (1 : Int64)) dX11_one_92 (by decide) ?_
      refine gx_goto 97 dX11_one_93 (by decide) ?_
      exact gx_sub [] rfl (s_X11_one_97  h)
  rw [if_neg c7] at h
  by_cases c9 : l0 = (7 : Int32)
  · rw [if_pos c9] at h
    refine gx_tIn 98 dX11_one_1 (by rw [c9]; decide) (by rw [c9]; decide) (by rw [c9]; rfl) (by decide) ?_
    refine gx_lload_n 1 dX11_one_98 rfl rfl ?_
    refine gx_lload_n 2 dX11_one_99 rfl rfl ?_
    refine gx_lcmp dX11_one_100 ?_
    refine gx_if_gt 108 dX11_one_101 (by decide) (fun c10 => ?_) (fun c10 => ?_)
    · rw [if_pos c10] at h
      refine gx_lconst (v := (0 : Int64)) dX11_one_108 (by decide) ?_
      exact gx_sub [] rfl (s_X11_one_109  h)
    · rw [if_neg c10] at h
      refine gx_lconst (v := (1 : Int64)) dX11_one_104 (by decide) ?_
      refine gx_goto 109 dX11_one_105 (by decide) ?_
      exact gx_sub [] rfl (s_X11_one_109  h)
  rw [if_neg c9] at h
  by_cases c11 : l0 = (8 : Int32)
  · rw [if_pos c11] at h
    refine gx_tIn 110 dX11_one_1 (by rw [c11]; decide) (by rw [c11]; decide) (by rw [c11]; rfl) (by decide) ?_
    refine gx_lload_n 1 dX11_one_110 rfl rfl ?_
    refine gx_lload_n 2 dX11_one_111 rfl rfl ?_
    refine gx_lcmp dX11_one_112 ?_
    refine gx_if_ne 120 dX11_one_113 (by decide) (fun c12 => ?_) (fun c12 => ?_)
    · rw [if_neg c12] at h
      refine gx_lconst (v := (0 : Int64)) dX11_one_120 (by decide) ?_
      exact gx_sub [] rfl (s_X11_one_121  h)
    · rw [if_pos c12] at h
      refine gx_lconst (v := (1 : Int64)) dX11_one_116 (by decide) ?_
      refine gx_goto 121 dX11_one_117 (by decide) ?_
      exact gx_sub [] rfl (s_X11_one_121  h)
  rw [if_neg c11] at h
  by_cases c13 : l0 = (9 : Int32)
  · rw [if_pos c13] at h
    refine gx_tIn 122 dX11_one_1 (by rw [c13]; decide) (by rw [c13]; decide) (by rw [c13]; rfl) (by decide) ?_
    refine gx_lload_n 1 dX11_one_122 rfl rfl ?_
    refine gx_lload_n 2 dX11_one_123 rfl rfl ?_
    refine gx_lcmp dX11_one_124 ?_
    refine gx_if_lt 132 dX11_one_125 (by decide) (fun c14 => ?_) (fun c14 => ?_)
    · rw [if_pos c14] at h
      refine gx_lconst (v := (0 : Int64)) dX11_one_132 (by decide) ?_
      exact gx_sub [] rfl (s_X11_one_133  h)
    · rw [if_neg c14] at h
      refine gx_lconst (v := (1 : Int64)) dX11_one_128 (by decide) ?_
      refine gx_goto 133 dX11_one_129 (by decide) ?_
      exact gx_sub [] rfl (s_X11_one_133  h)
  rw [if_neg c13] at h
  by_cases c15 : l0 = (10 : Int32)
  · rw [if_pos c15] at h
    refine gx_tIn 134 dX11_one_1 (by rw [c15]; decide) (by rw [c15]; decide) (by rw [c15]; rfl) (by decide) ?_
    refine gx_lload_n 1 dX11_one_134 rfl rfl ?_
    refine gx_lload_n 2 dX11_one_135 rfl rfl ?_
    refine gx_lcmp dX11_one_136 ?_
    refine gx_if_le 144 dX11_one_137 (by decide) (fun c16 => ?_) (fun c16 => ?_)
    · rw [if_pos c16] at h
      refine gx_lconst (v := (0 : Int64)) dX11_one_144 (by decide) ?_
      exact gx_sub [] rfl (s_X11_one_145  h)
    · rw [if_neg c16] at h
      refine gx_lconst (v := (1 : Int64)) dX11_one_140 (by decide) ?_
      refine gx_goto 145 dX11_one_141 (by decide) ?_
      exact gx_sub [] rfl (s_X11_one_145  h)
  rw [if_neg c15] at h
  by_cases c17 : l0 = (12 : Int32)
  · rw [if_pos c17] at h
    refine gx_tIn 146 dX11_one_1 (by rw [c17]; decide) (by rw [c17]; decide) (by rw [c17]; rfl) (by decide) ?_
    refine gx_lload_n 1 dX11_one_146 rfl rfl ?_
    refine gx_lload_n 2 dX11_one_147 rfl rfl ?_
    refine gx_land dX11_one_148 ?_
    have h := Option.some.inj h
    subst h
    exact gx_lret dX11_one_149 rfl (Nat.le_of_ble_eq_true rfl) (Nat.le_of_ble_eq_true rfl) ⟨rfl, rfl⟩
  rw [if_neg c17] at h
  have K19 : Gx Γ M_X11_one 100 τ (PJ o) 0 0 150 [(0, .int l0), (1, .long l1), (3, .long l3)] [] σ := by
    refine gx_lload_n 1 dX11_one_150 rfl rfl ?_
    refine gx_lload_n 2 dX11_one_151 rfl rfl ?_
    refine gx_lor dX11_one_152 ?_
    have h := Option.some.inj h
    subst h
    exact gx_lret dX11_one_153 rfl (Nat.le_of_ble_eq_true rfl) (Nat.le_of_ble_eq_true rfl) ⟨rfl, rfl⟩
  by_cases hr : l0.toInt < (2) ∨ (12) < l0.toInt
  · exact gx_tOut 150 dX11_one_1 hr (by decide) K19
  · obtain ⟨j, hj, hx⟩ := sw_in hr
    match j, hj, hx with
    | 0, _, hx => exact absurd hx c1
    | 1, _, hx => exact absurd hx c2
    | 2, _, hx => exact absurd hx c3
    | 3, _, hx => exact absurd hx c4
    | 4, _, hx => exact absurd hx c7
    | 5, _, hx => exact absurd hx c9
    | 6, _, hx => exact absurd hx c11
    | 7, _, hx => exact absurd hx c13
    | 8, _, hx => exact absurd hx c15
    | 9, _, hx => exact gx_tIn 150 dX11_one_1 (by rw [hx]; decide) (by rw [hx]; decide) (by rw [hx]; rfl) (by decide) K19
    | 10, _, hx => exact absurd hx c17
    | j + 11, hj, _ => exact absurd hj (by omega)
theorem c_X11_one {Γ : Cn} {τ : Mm} {N : Nat} {l0 : Int32} {l1 : Int64} {l3 : Int64} {σ : Mm} {o : Int64 × Mm} (h : f_X11_one N l0 l1 l3 σ = some o) : Ct Γ M_X11_one yX11_one 100 τ [.int l0, .long l1, .long l3] σ (PJ o) := ct_of (by decide) rfl (fun _ => by first | rfl | contradiction) (Nat.le_of_ble_eq_true rfl) (s_X11_one_0  h)
