abbrev M_X11_strength : Ms := (cX11_strength, RX11, 1, (some .int), false, 0, 0, 0)
def f_X11_strength_31 (N : Nat) (t0 : Int32) (σ : Mm) : Option (Int32 × Mm) :=
  some (t0, σ)
def f_X11_strength (N : Nat) (l0 : Int32) (σ : Mm) : Option (Int32 × Mm) :=
  if l0 = (13 : Int32) then (
    f_X11_strength_31 N (1 : Int32) σ) else (
    if l0 = (12 : Int32) then (
      f_X11_strength_31 N (2 : Int32) σ) else (
      if l0 = (11 : Int32) then (
        f_X11_strength_31 N (3 : Int32) σ) else (
        f_X11_strength_31 N (0 : Int32) σ)))
theorem mos_X11_strength : MOS yX11_strength M_X11_strength 1 := ⟨⟨tw_107, tw_1261, ⟨by decide, by decide⟩, by decide +kernel⟩, tw_1260⟩
set_option maxRecDepth 4000 in
theorem s_X11_strength_31 {Γ : Cn} {τ : Mm} {N : Nat} {t0 : Int32} {σ : Mm} {o : Int32 × Mm} (h : f_X11_strength_31 N t0 σ = some o) : Gx Γ M_X11_strength 100 τ (PI o) 0 0 31 [] [.int t0] σ := by
  unfold f_X11_strength_31 at h
  have h := Option.some.inj h
  subst h
  exact gx_iret dX11_strength_31 rfl (Nat.le_of_ble_eq_true rfl) (Nat.le_of_ble_eq_true rfl) ⟨rfl, rfl⟩
set_option maxRecDepth 4000 in
theorem s_X11_strength_0 {Γ : Cn} {τ : Mm} {N : Nat} {l0 : Int32} {σ : Mm} {o : Int32 × Mm} (h : f_X11_strength N l0 σ = some o) : Gx Γ M_X11_strength 100 τ (PI o) 0 0 0 [(0, .int l0)] [] σ := by
  unfold f_X11_strength at h
  refine gx_iload_n 0 dX11_strength_0 rfl rfl ?_
  refine gx_bipush (v := (13 : Int32)) dX11_strength_1 ib_13 ?_
  refine gx_icmp_ne 10 dX11_strength_3 (by decide) (fun c0 => ?_) (fun c0 => ?_)
  · rw [if_neg c0] at h
    refine gx_iload_n 0 dX11_strength_10 rfl rfl ?_
    refine gx_bipush (v := (12 : Int32)) dX11_strength_11 ib_12 ?_
    refine gx_icmp_ne 20 dX11_strength_13 (by decide) (fun c1 => ?_) (fun c1 => ?_)
    · rw [if_neg c1] at h
      refine gx_iload_n 0 dX11_strength_20 rfl rfl ?_
      refine gx_bipush (v := (11 : Int32)) dX11_strength_21 ib_11 ?_
      refine gx_icmp_ne 30 dX11_strength_23 (by decide) (fun c2 => ?_) (fun c2 => ?_)
      · rw [if_neg c2] at h
        refine gx_iconst (v := (0 : Int32)) dX11_strength_30 ic_0 ?_
        exact gx_sub [] rfl (s_X11_strength_31  h)
      · rw [if_pos c2] at h
        refine gx_iconst (v := (3 : Int32)) dX11_strength_26 ic_3 ?_
        refine gx_goto 31 dX11_strength_27 (by decide) ?_
        exact gx_sub [] rfl (s_X11_strength_31  h)
    · rw [if_pos c1] at h
      refine gx_iconst (v := (2 : Int32)) dX11_strength_16 ic_2 ?_
      refine gx_goto 31 dX11_strength_17 (by decide) ?_
      exact gx_sub [] rfl (s_X11_strength_31  h)
  · rw [if_pos c0] at h
    refine gx_iconst (v := (1 : Int32)) dX11_strength_6 ic_1 ?_
    refine gx_goto 31 dX11_strength_7 (by decide) ?_
    exact gx_sub [] rfl (s_X11_strength_31  h)
theorem c_X11_strength {Γ : Cn} {τ : Mm} {N : Nat} {l0 : Int32} {σ : Mm} {o : Int32 × Mm} (h : f_X11_strength N l0 σ = some o) : Ct Γ M_X11_strength yX11_strength 100 τ [.int l0] σ (PI o) := ct_of (by decide) rfl (fun _ => by first | rfl | contradiction) (Nat.le_of_ble_eq_true rfl) (s_X11_strength_0  h)
abbrev M_X11_settles : Ms := (cX11_settles, RX11, 2, none, false, 0, 0, 1)
def f_X11_settles_76 (N : Nat) (σ : Mm) : Option Mm :=
  some σ
def f_X11_settles_0 (N : Nat) : Nat → Nat → Int32 → Mm → Option Mm
  | 0, _, _, _ => none
  | n + 1, l0, l1, σ =>
      (gI 11 20 σ l0).bind fun x1 =>
      if x1 ≤ 0 then (
        f_X11_settles_76 N σ) else (
        (gN 11 19 σ l0).bind fun a3 =>
        (gI 11 20 σ l0).bind fun x4 =>
        (aI 113 σ a3 (x4 - (1 : Int32))).bind fun x5 =>
        (f_X11_strength N x5 σ).bind fun q6 =>
        if q6.1 < l1 then (
          f_X11_settles_76 N q6.2) else (
          (gI 11 20 q6.2 l0).bind fun x8 =>
          (pI 11 20 q6.2 l0 (x8 - (1 : Int32))).bind fun s9 =>
          (gN 11 19 s9 l0).bind fun a10 =>
          (gI 11 20 s9 l0).bind fun x11 =>
          (aI 113 s9 a10 x11).bind fun x12 =>
          (ob 11 s9 l0).bind fun _ =>
          (f_X11_puts N l0 x12 (0 : Int32) s9).bind fun q13 =>
          (gN 11 19 q13 l0).bind fun a14 =>
          (gI 11 20 q13 l0).bind fun x15 =>
          (aI 113 q13 a14 x15).bind fun x16 =>
          if x16 = (11 : Int32) then (
            (gI 11 17 q13 l0).bind fun x18 =>
            (pI 11 17 q13 l0 (x18 - (1 : Int32))).bind fun s19 =>
            f_X11_settles_0 N n l0 l1 s19) else (
            f_X11_settles_0 N n l0 l1 q13)))
def f_X11_settles (N : Nat) (l0 : Nat) (l1 : Int32) (σ : Mm) : Option Mm := f_X11_settles_0 N N l0 l1 σ
theorem mov_X11_settles : MOV yX11_settles M_X11_settles 1 11 100 := ⟨⟨tw_107, tw_1258, ⟨by decide, by decide⟩, by decide +kernel⟩, tw_1257, tw_59, by decide, ⟨_, rfl, rfl⟩, rfl⟩
set_option maxRecDepth 4000 in
theorem s_X11_settles_76 {Γ : Cn} {τ : Mm} {N : Nat} {σ : Mm} {o : Mm} (h : f_X11_settles_76 N σ = some o) : Gx Γ M_X11_settles 100 τ (PV o) 0 0 76 [] [] σ := by
  unfold f_X11_settles_76 at h
  have h := Option.some.inj h
  subst h
  exact gx_vret dX11_settles_76 rfl (Nat.le_of_ble_eq_true rfl) (Nat.le_of_ble_eq_true rfl) ⟨rfl, rfl⟩
set_option maxRecDepth 4000 in
theorem s_X11_settles_0 {Γ : Cn} {τ : Mm} {N : Nat} : ∀ (n : Nat) (l0 : Nat) (l1 : Int32) (σ : Mm) (o : Mm), f_X11_settles_0 N n l0 l1 σ = some o → Gx Γ M_X11_settles 100 τ (PV o) 0 0 0 [(0, .ref (Γ.B + pp l0)), (1, .int l1)] [] σ := by
  intro n
  induction n with
  | zero =>
    intro l0 l1 σ o h
    exact absurd h (by rw [f_X11_settles_0]; exact fun q => nomatch q)
  | succ n ih =>
    intro l0 l1 σ o h
    rw [f_X11_settles_0] at h
    refine gx_aload_n 0 dX11_settles_0 rfl rfl ?_
    obtain ⟨x1, hx1, h⟩ := bnd h
    refine gx_getI dX11_settles_1 hx1 fl_X11_140 rfl ?_
    refine gx_if_le 76 dX11_settles_4 (by decide) (fun c1 => ?_) (fun c1 => ?_)
    · rw [if_pos c1] at h
      exact gx_sub [] rfl (s_X11_settles_76  h)
    · rw [if_neg c1] at h
      refine gx_aload_n 0 dX11_settles_7 rfl rfl ?_
      obtain ⟨a3, ha3, h⟩ := bnd h
      refine gx_getN dX11_settles_8 ha3 fl_X11_35 rfl ?_
      refine gx_aload_n 0 dX11_settles_11 rfl rfl ?_
      obtain ⟨x4, hx4, h⟩ := bnd h
      refine gx_getI dX11_settles_12 hx4 fl_X11_140 rfl ?_
      refine gx_iconst (v := (1 : Int32)) dX11_settles_15 ic_1 ?_
      refine gx_isub dX11_settles_16 ?_
      obtain ⟨x5, hx5, h⟩ := bnd h
      refine gx_iald (kd := 113) dX11_settles_17 hx5 rfl rfl ?_
      obtain ⟨q6, hq6, h⟩ := bnd h
      refine gx_cSI (As := [.int x5]) (st := []) dX11_settles_18 (c_X11_strength hq6) mos_X11_strength tw_1259 rfl ⟨Nat.le_of_ble_eq_true rfl, Nat.le_of_ble_eq_true rfl⟩ (Nat.le_of_ble_eq_true rfl) ?_
      refine gx_iload_n 1 dX11_settles_21 rfl rfl ?_
      refine gx_icmp_lt 76 dX11_settles_22 (by decide) (fun c6 => ?_) (fun c6 => ?_)
      · rw [if_pos c6] at h
        exact gx_sub [] rfl (s_X11_settles_76  h)
      · rw [if_neg c6] at h
        refine gx_aload_n 0 dX11_settles_25 rfl rfl ?_
        refine gx_dup dX11_settles_26 rfl ?_
        obtain ⟨x8, hx8, h⟩ := bnd h
        refine gx_getI dX11_settles_27 hx8 fl_X11_140 rfl ?_
        refine gx_iconst (v := (1 : Int32)) dX11_settles_30 ic_1 ?_
        refine gx_isub dX11_settles_31 ?_
        obtain ⟨s9, hs9, h⟩ := bnd h
        refine gx_putI dX11_settles_32 hs9 fl_X11_140 fp_X11_11_20 rfl ?_
        refine gx_aload_n 0 dX11_settles_35 rfl rfl ?_
        refine gx_aload_n 0 dX11_settles_36 rfl rfl ?_
        obtain ⟨a10, ha10, h⟩ := bnd h
        refine gx_getN dX11_settles_37 ha10 fl_X11_35 rfl ?_
        refine gx_aload_n 0 dX11_settles_40 rfl rfl ?_
        obtain ⟨x11, hx11, h⟩ := bnd h
        refine gx_getI dX11_settles_41 hx11 fl_X11_140 rfl ?_
        obtain ⟨x12, hx12, h⟩ := bnd h
        refine gx_iald (kd := 113) dX11_settles_44 hx12 rfl rfl ?_
        refine gx_iconst (v := (0 : Int32)) dX11_settles_45 ic_0 ?_
        obtain ⟨_, hobq13, h⟩ := bnd h
        obtain ⟨q13, hq13, h⟩ := bnd h
        refine gx_cVV (As := [.int x12, .int (0 : Int32)]) (st := []) (o := l0) dX11_settles_46 (c_X11_puts hq13) mov_X11_puts tw_1213 hobq13 rfl ⟨Nat.le_of_ble_eq_true rfl, Nat.le_of_ble_eq_true rfl⟩ (Nat.le_of_ble_eq_true rfl) ?_
        refine gx_aload_n 0 dX11_settles_49 rfl rfl ?_
        obtain ⟨a14, ha14, h⟩ := bnd h
        refine gx_getN dX11_settles_50 ha14 fl_X11_35 rfl ?_
        refine gx_aload_n 0 dX11_settles_53 rfl rfl ?_
        obtain ⟨x15, hx15, h⟩ := bnd h
        refine gx_getI dX11_settles_54 hx15 fl_X11_140 rfl ?_
        obtain ⟨x16, hx16, h⟩ := bnd h
        refine gx_iald (kd := 113) dX11_settles_57 hx16 rfl rfl ?_
        refine gx_bipush (v := (11 : Int32)) dX11_settles_58 ib_11 ?_
        refine gx_icmp_ne 0 dX11_settles_60 (by decide) (fun c16 => ?_) (fun c16 => ?_)
        · rw [if_neg c16] at h
          exact ih _ _ _ _ h
        · rw [if_pos c16] at h
          refine gx_aload_n 0 dX11_settles_63 rfl rfl ?_
          refine gx_dup dX11_settles_64 rfl ?_
          obtain ⟨x18, hx18, h⟩ := bnd h
          refine gx_getI dX11_settles_65 hx18 fl_X11_137 rfl ?_
          refine gx_iconst (v := (1 : Int32)) dX11_settles_68 ic_1 ?_
          refine gx_isub dX11_settles_69 ?_
          obtain ⟨s19, hs19, h⟩ := bnd h
          refine gx_putI dX11_settles_70 hs19 fl_X11_137 fp_X11_11_17 rfl ?_
          refine gx_goto 0 dX11_settles_73 (by decide) ?_
          exact ih _ _ _ _ h
theorem c_X11_settles {Γ : Cn} {τ : Mm} {N : Nat} {l0 : Nat} {l1 : Int32} {σ : Mm} {o : Mm} (h : f_X11_settles N l0 l1 σ = some o) : Ct Γ M_X11_settles yX11_settles 100 τ [.ref (Γ.B + pp l0), .int l1] σ (PV o) := ct_of (by decide) rfl (fun _ => by first | rfl | contradiction) (Nat.le_of_ble_eq_true rfl) (gx_sub [0, 1] rfl (s_X11_settles_0  N _ _ _ _ h))
abbrev M_X11_value : Ms := (cX11_value, RX11, 3, (some .boolean), false, 0, 0, 3)
def f_X11_value_39 (N : Nat) (σ : Mm) : Option (Int32 × Mm) :=
  some ((0 : Int32), σ)
def f_X11_value (N : Nat) (l0 : Nat) (σ : Mm) : Option (Int32 × Mm) :=
  (ob 11 σ l0).bind fun _ =>
  (f_X11_see N l0 σ).bind fun q1 =>
  (gI 11 12 q1.2 l0).bind fun x2 =>
  (gI 11 12 q1.2 l0).bind fun x3 =>
  (ob 11 q1.2 l0).bind fun _ =>
  (f_X11_isDigit N l0 x3 q1.2).bind fun q4 =>
  if q4.1 = 0 then (
    (ob 11 q4.2 l0).bind fun _ =>
    (f_X11_wordHere N l0 q4.2).bind fun q6 =>
    if 0 ≤ q6.1 then (
      (ob 11 q6.2 l0).bind fun _ =>
      (f_X11_makes N l0 x2 q6.2).bind fun q8 =>
      if q8.1 = 0 then (
        some ((0 : Int32), q8.2)) else (
        (ob 11 q8.2 l0).bind fun _ =>
        (f_X11_passWord N l0 q8.2).bind fun q10 =>
        (ob 11 q10 l0).bind fun _ =>
        (f_X11_puts N l0 (1 : Int32) q6.1 q10).bind fun q11 =>
        some ((1 : Int32), q11))) else (
      (ob 11 q6.2 l0).bind fun _ =>
      (f_X11_fails N l0 (0 : Int32) x2 q6.2).bind fun q12 =>
      if q12.1 = 0 ∨ q12.1 = 1 then some (q12.1, q12.2) else none)) else (
    (ob 11 q4.2 l0).bind fun _ =>
    (f_X11_numberHere N l0 (0 : Int32) (99999 : Int32) q4.2).bind fun q13 =>
    if q13.1 = 0 then (
      f_X11_value_39 N q13.2) else (
      (ob 11 q13.2 l0).bind fun _ =>
      (f_X11_makes N l0 x2 q13.2).bind fun q15 =>
      if q15.1 = 0 then (
        f_X11_value_39 N q15.2) else (
        (gI 11 14 q15.2 l0).bind fun x17 =>
        (ob 11 q15.2 l0).bind fun _ =>
        (f_X11_puts N l0 (0 : Int32) x17 q15.2).bind fun q18 =>
        some ((1 : Int32), q18))))
theorem mov_X11_value : MOV yX11_value M_X11_value 0 11 100 := ⟨⟨tw_107, tw_1196, ⟨by decide, by decide⟩, by decide +kernel⟩, tw_1195, tw_47, by decide, ⟨_, rfl, rfl⟩, rfl⟩
set_option maxRecDepth 4000 in
theorem s_X11_value_39 {Γ : Cn} {τ : Mm} {N : Nat} {σ : Mm} {o : Int32 × Mm} (h : f_X11_value_39 N σ = some o) : Gx Γ M_X11_value 100 τ (PI o) 0 0 39 [] [] σ := by
  unfold f_X11_value_39 at h
  refine gx_iconst (v := (0 : Int32)) dX11_value_39 ic_0 ?_
  have h := Option.some.inj h
  subst h
  exact gx_zret dX11_value_40 rfl rfl (Nat.le_of_ble_eq_true rfl) (Nat.le_of_ble_eq_true rfl) ⟨rfl, rfl⟩
set_option maxRecDepth 4000 in
theorem s_X11_value_0 {Γ : Cn} {τ : Mm} {N : Nat} {l0 : Nat} {σ : Mm} {o : Int32 × Mm} (h : f_X11_value N l0 σ = some o) : Gx Γ M_X11_value 100 τ (PI o) 0 0 0 [(0, .ref (Γ.B + pp l0))] [] σ := by
  unfold f_X11_value at h
  refine gx_aload_n 0 dX11_value_0 rfl rfl ?_
  obtain ⟨_, hobq1, h⟩ := bnd h
  obtain ⟨q1, hq1, h⟩ := bnd h
  refine gx_cVI (As := []) (st := []) (o := l0) dX11_value_1 (c_X11_see hq1) mov_X11_see tw_1157 hobq1 rfl ⟨Nat.le_of_ble_eq_true rfl, Nat.le_of_ble_eq_true rfl⟩ (Nat.le_of_ble_eq_true rfl) ?_
  refine gx_pop dX11_value_4 rfl ?_
  refine gx_aload_n 0 dX11_value_5 rfl rfl ?_
  obtain ⟨x2, hx2, h⟩ := bnd h
  refine gx_getI dX11_value_6 hx2 fl_X11_81 rfl ?_
  refine gx_istore_n (lv' := [(1, .int x2), (0, .ref (Γ.B + pp l0))]) dX11_value_9 rfl (Nat.le_of_ble_eq_true rfl) rfl ?_
  refine gx_aload_n 1 dX11_value_10 rfl rfl ?_
  refine gx_aload_n 1 dX11_value_11 rfl rfl ?_
  obtain ⟨x3, hx3, h⟩ := bnd h
  refine gx_getI dX11_value_12 hx3 fl_X11_81 rfl ?_
  obtain ⟨_, hobq4, h⟩ := bnd h
  obtain ⟨q4, hq4, h⟩ := bnd h
  refine gx_cVI (As := [.int x3]) (st := []) (o := l0) dX11_value_15 (c_X11_isDigit hq4) mov_X11_isDigit tw_1197 hobq4 rfl ⟨Nat.le_of_ble_eq_true rfl, Nat.le_of_ble_eq_true rfl⟩ (Nat.le_of_ble_eq_true rfl) ?_
  refine gx_if_eq 52 dX11_value_18 (by decide) (fun c4 => ?_) (fun c4 => ?_)
  · rw [if_pos c4] at h
    refine gx_aload_n 1 dX11_value_52 rfl rfl ?_
    obtain ⟨_, hobq6, h⟩ := bnd h
    obtain ⟨q6, hq6, h⟩ := bnd h
    refine gx_cVI (As := []) (st := []) (o := l0) dX11_value_53 (c_X11_wordHere hq6) mov_X11_wordHere tw_1217 hobq6 rfl ⟨Nat.le_of_ble_eq_true rfl, Nat.le_of_ble_eq_true rfl⟩ (Nat.le_of_ble_eq_true rfl) ?_
    refine gx_istore_n (lv' := [(2, .int q6.1), (1, .int x2), (0, .ref (Γ.B + pp l0))]) dX11_value_56 rfl (Nat.le_of_ble_eq_true rfl) rfl ?_
    refine gx_iload_n 0 dX11_value_57 rfl rfl ?_
    refine gx_if_ge 68 dX11_value_58 (by decide) (fun c6 => ?_) (fun c6 => ?_)
    · rw [if_pos c6] at h
      refine gx_aload_n 2 dX11_value_68 rfl rfl ?_
      refine gx_iload_n 1 dX11_value_69 rfl rfl ?_
      obtain ⟨_, hobq8, h⟩ := bnd h
      obtain ⟨q8, hq8, h⟩ := bnd h
      refine gx_cVI (As := [.int x2]) (st := []) (o := l0) dX11_value_70 (c_X11_makes hq8) mov_X11_makes tw_1209 hobq8 rfl ⟨Nat.le_of_ble_eq_true rfl, Nat.le_of_ble_eq_true rfl⟩ (Nat.le_of_ble_eq_true rfl) ?_
      refine gx_if_ne 78 dX11_value_73 (by decide) (fun c8 => ?_) (fun c8 => ?_)
      · rw [if_neg c8] at h
        refine gx_aload_n 2 dX11_value_78 rfl rfl ?_
        obtain ⟨_, hobq10, h⟩ := bnd h
        obtain ⟨q10, hq10, h⟩ := bnd h
        refine gx_cVV (As := []) (st := []) (o := l0) dX11_value_79 (c_X11_passWord hq10) mov_X11_passWord tw_1181 hobq10 rfl ⟨Nat.le_of_ble_eq_true rfl, Nat.le_of_ble_eq_true rfl⟩ (Nat.le_of_ble_eq_true rfl) ?_
        refine gx_aload_n 2 dX11_value_82 rfl rfl ?_
        refine gx_iconst (v := (1 : Int32)) dX11_value_83 ic_1 ?_
        refine gx_iload_n 0 dX11_value_84 rfl rfl ?_
        obtain ⟨_, hobq11, h⟩ := bnd h
        obtain ⟨q11, hq11, h⟩ := bnd h
        refine gx_cVV (As := [.int (1 : Int32), .int q6.1]) (st := []) (o := l0) dX11_value_85 (c_X11_puts hq11) mov_X11_puts tw_1213 hobq11 rfl ⟨Nat.le_of_ble_eq_true rfl, Nat.le_of_ble_eq_true rfl⟩ (Nat.le_of_ble_eq_true rfl) ?_
        refine gx_iconst (v := (1 : Int32)) dX11_value_88 ic_1 ?_
        have h := Option.some.inj h
        subst h
        exact gx_zret dX11_value_89 rfl rfl (Nat.le_of_ble_eq_true rfl) (Nat.le_of_ble_eq_true rfl) ⟨rfl, rfl⟩
      · rw [if_pos c8] at h
        refine gx_iconst (v := (0 : Int32)) dX11_value_76 ic_0 ?_
        have h := Option.some.inj h
        subst h
        exact gx_zret dX11_value_77 rfl rfl (Nat.le_of_ble_eq_true rfl) (Nat.le_of_ble_eq_true rfl) ⟨rfl, rfl⟩
    · rw [if_neg c6] at h
      refine gx_aload_n 2 dX11_value_61 rfl rfl ?_
      refine gx_iconst (v := (0 : Int32)) dX11_value_62 ic_0 ?_
      refine gx_iload_n 1 dX11_value_63 rfl rfl ?_
      obtain ⟨_, hobq12, h⟩ := bnd h
      obtain ⟨q12, hq12, h⟩ := bnd h
      refine gx_cVI (As := [.int (0 : Int32), .int x2]) (st := []) (o := l0) dX11_value_64 (c_X11_fails hq12) mov_X11_fails tw_1173 hobq12 rfl ⟨Nat.le_of_ble_eq_true rfl, Nat.le_of_ble_eq_true rfl⟩ (Nat.le_of_ble_eq_true rfl) ?_
      obtain ⟨hz, h⟩ := of_if h
      have h := Option.some.inj h
      subst h
      exact gx_zret dX11_value_67 rfl (nar_z hz) (Nat.le_of_ble_eq_true rfl) (Nat.le_of_ble_eq_true rfl) ⟨rfl, rfl⟩
  · rw [if_neg c4] at h
    refine gx_aload_n 1 dX11_value_21 rfl rfl ?_
    refine gx_iconst (v := (0 : Int32)) dX11_value_22 ic_0 ?_
    refine gx_ldc (v := (99999 : Int32)) dX11_value_23 tw_1201 ?_
    obtain ⟨_, hobq13, h⟩ := bnd h
    obtain ⟨q13, hq13, h⟩ := bnd h
    refine gx_cVI (As := [.int (0 : Int32), .int (99999 : Int32)]) (st := []) (o := l0) dX11_value_25 (c_X11_numberHere hq13) mov_X11_numberHere tw_1202 hobq13 rfl ⟨Nat.le_of_ble_eq_true rfl, Nat.le_of_ble_eq_true rfl⟩ (Nat.le_of_ble_eq_true rfl) ?_
    refine gx_if_eq 39 dX11_value_28 (by decide) (fun c13 => ?_) (fun c13 => ?_)
    · rw [if_pos c13] at h
      exact gx_sub [] rfl (s_X11_value_39  h)
    · rw [if_neg c13] at h
      refine gx_aload_n 1 dX11_value_31 rfl rfl ?_
      refine gx_iload_n 0 dX11_value_32 rfl rfl ?_
      obtain ⟨_, hobq15, h⟩ := bnd h
      obtain ⟨q15, hq15, h⟩ := bnd h
      refine gx_cVI (As := [.int x2]) (st := []) (o := l0) dX11_value_33 (c_X11_makes hq15) mov_X11_makes tw_1209 hobq15 rfl ⟨Nat.le_of_ble_eq_true rfl, Nat.le_of_ble_eq_true rfl⟩ (Nat.le_of_ble_eq_true rfl) ?_
      refine gx_if_ne 41 dX11_value_36 (by decide) (fun c15 => ?_) (fun c15 => ?_)
      · rw [if_neg c15] at h
        refine gx_aload_n 1 dX11_value_41 rfl rfl ?_
        refine gx_iconst (v := (0 : Int32)) dX11_value_42 ic_0 ?_
        refine gx_aload_n 1 dX11_value_43 rfl rfl ?_
        obtain ⟨x17, hx17, h⟩ := bnd h
        refine gx_getI dX11_value_44 hx17 fl_X11_106 rfl ?_
        obtain ⟨_, hobq18, h⟩ := bnd h
        obtain ⟨q18, hq18, h⟩ := bnd h
        refine gx_cVV (As := [.int (0 : Int32), .int x17]) (st := []) (o := l0) dX11_value_47 (c_X11_puts hq18) mov_X11_puts tw_1213 hobq18 rfl ⟨Nat.le_of_ble_eq_true rfl, Nat.le_of_ble_eq_true rfl⟩ (Nat.le_of_ble_eq_true rfl) ?_
        refine gx_iconst (v := (1 : Int32)) dX11_value_50 ic_1 ?_
        have h := Option.some.inj h
        subst h
        exact gx_zret dX11_value_51 rfl rfl (Nat.le_of_ble_eq_true rfl) (Nat.le_of_ble_eq_true rfl) ⟨rfl, rfl⟩
      · rw [if_pos c15] at h
        exact gx_sub [] rfl (s_X11_value_39  h)
theorem c_X11_value {Γ : Cn} {τ : Mm} {N : Nat} {l0 : Nat} {σ : Mm} {o : Int32 × Mm} (h : f_X11_value N l0 σ = some o) : Ct Γ M_X11_value yX11_value 100 τ [.ref (Γ.B + pp l0)] σ (PI o) := ct_of (by decide) rfl (fun _ => by first | rfl | contradiction) (Nat.le_of_ble_eq_true rfl) (s_X11_value_0  h)
abbrev M_X11_term : Ms := (cX11_term, RX11, 2, (some .boolean), false, 0, 0, 4)
def f_X11_term_46 (N : Nat) (r_9 : Nat → Mm → Option (Int32 × Mm)) (l0 : Nat) (t0 : Int32) (σ : Mm) : Option (Int32 × Mm) :=
  (gI 11 12 σ l0).bind fun x1 =>
  (pI 11 12 σ l0 (x1 + (1 : Int32))).bind fun s2 =>
  (ob 11 s2 l0).bind fun _ =>
  (f_X11_value N l0 s2).bind fun q3 =>
  if q3.1 = 0 then (
    some ((0 : Int32), q3.2)) else (
    (ob 11 q3.2 l0).bind fun _ =>
    (f_X11_puts N l0 t0 (0 : Int32) q3.2).bind fun q5 =>
    r_9 l0 q5)
def f_X11_term_27 (N : Nat) (r_9 : Nat → Mm → Option (Int32 × Mm)) (l0 : Nat) (σ : Mm) : Option (Int32 × Mm) :=
  (gN 11 0 σ l0).bind fun a1 =>
  (gI 11 12 σ l0).bind fun x2 =>
  (aI 112 σ a1 x2).bind fun x3 =>
  if x3 = (42 : Int32) then (
    f_X11_term_46 N r_9 l0 (4 : Int32) σ) else (
    f_X11_term_46 N r_9 l0 (5 : Int32) σ)
def f_X11_term_9 (N : Nat) : Nat → Nat → Mm → Option (Int32 × Mm)
  | 0, _, _ => none
  | n + 1, l0, σ =>
      (ob 11 σ l0).bind fun _ =>
      (f_X11_see N l0 σ).bind fun q1 =>
      if q1.1 = (42 : Int32) then (
        f_X11_term_27 N (f_X11_term_9 N n) l0 q1.2) else (
        (ob 11 q1.2 l0).bind fun _ =>
        (f_X11_see N l0 q1.2).bind fun q3 =>
        if q3.1 = (47 : Int32) then (
          f_X11_term_27 N (f_X11_term_9 N n) l0 q3.2) else (
          some ((1 : Int32), q3.2)))
def f_X11_term (N : Nat) (l0 : Nat) (σ : Mm) : Option (Int32 × Mm) :=
  (ob 11 σ l0).bind fun _ =>
  (f_X11_value N l0 σ).bind fun q1 =>
  if q1.1 = 0 then (
    some ((0 : Int32), q1.2)) else (
    f_X11_term_9 N N l0 q1.2)
theorem mov_X11_term : MOV yX11_term M_X11_term 0 11 100 := ⟨⟨tw_107, tw_1192, ⟨by decide, by decide⟩, by decide +kernel⟩, tw_1191, tw_46, by decide, ⟨_, rfl, rfl⟩, rfl⟩
set_option maxRecDepth 4000 in
theorem s_X11_term_46 {Γ : Cn} {τ : Mm} {N : Nat} {r_9 : Nat → Mm → Option (Int32 × Mm)} (hr_9 : ∀ (l0 : Nat) (σ : Mm) (o : Int32 × Mm), r_9 l0 σ = some o → Gx Γ M_X11_term 100 τ (PI o) 0 0 9 [(0, .ref (Γ.B + pp l0))] [] σ) {l0 : Nat} {t0 : Int32} {σ : Mm} {o : Int32 × Mm} (h : f_X11_term_46 N r_9 l0 t0 σ = some o) : Gx Γ M_X11_term 100 τ (PI o) 0 0 46 [(0, .ref (Γ.B + pp l0))] [.int t0] σ := by
  unfold f_X11_term_46 at h
  refine gx_istore_n (lv' := [(1, .int t0), (0, .ref (Γ.B + pp l0))]) dX11_term_46 rfl (Nat.le_of_ble_eq_true rfl) rfl ?_
  refine gx_aload_n 1 dX11_term_47 rfl rfl ?_
  refine gx_dup dX11_term_48 rfl ?_
  obtain ⟨x1, hx1, h⟩ := bnd h
  refine gx_getI dX11_term_49 hx1 fl_X11_81 rfl ?_
  refine gx_iconst (v := (1 : Int32)) dX11_term_52 ic_1 ?_
  refine gx_iadd dX11_term_53 ?_
  obtain ⟨s2, hs2, h⟩ := bnd h
  refine gx_putI dX11_term_54 hs2 fl_X11_81 fp_X11_11_12 rfl ?_
  refine gx_aload_n 1 dX11_term_57 rfl rfl ?_
  obtain ⟨_, hobq3, h⟩ := bnd h
  obtain ⟨q3, hq3, h⟩ := bnd h
  refine gx_cVI (As := []) (st := []) (o := l0) dX11_term_58 (c_X11_value hq3) mov_X11_value tw_1193 hobq3 rfl ⟨Nat.le_of_ble_eq_true rfl, Nat.le_of_ble_eq_true rfl⟩ (Nat.le_of_ble_eq_true rfl) ?_
  refine gx_if_ne 66 dX11_term_61 (by decide) (fun c3 => ?_) (fun c3 => ?_)
  · rw [if_neg c3] at h
    refine gx_aload_n 1 dX11_term_66 rfl rfl ?_
    refine gx_iload_n 0 dX11_term_67 rfl rfl ?_
    refine gx_iconst (v := (0 : Int32)) dX11_term_68 ic_0 ?_
    obtain ⟨_, hobq5, h⟩ := bnd h
    obtain ⟨q5, hq5, h⟩ := bnd h
    refine gx_cVV (As := [.int t0, .int (0 : Int32)]) (st := []) (o := l0) dX11_term_69 (c_X11_puts hq5) mov_X11_puts tw_1213 hobq5 rfl ⟨Nat.le_of_ble_eq_true rfl, Nat.le_of_ble_eq_true rfl⟩ (Nat.le_of_ble_eq_true rfl) ?_
    refine gx_goto 9 dX11_term_72 (by decide) ?_
    exact gx_sub [1] rfl (hr_9 _ _ _ h)
  · rw [if_pos c3] at h
    refine gx_iconst (v := (0 : Int32)) dX11_term_64 ic_0 ?_
    have h := Option.some.inj h
    subst h
    exact gx_zret dX11_term_65 rfl rfl (Nat.le_of_ble_eq_true rfl) (Nat.le_of_ble_eq_true rfl) ⟨rfl, rfl⟩
set_option maxRecDepth 4000 in
theorem s_X11_term_27 {Γ : Cn} {τ : Mm} {N : Nat} {r_9 : Nat → Mm → Option (Int32 × Mm)} (hr_9 : ∀ (l0 : Nat) (σ : Mm) (o : Int32 × Mm), r_9 l0 σ = some o → Gx Γ M_X11_term 100 τ (PI o) 0 0 9 [(0, .ref (Γ.B + pp l0))] [] σ) {l0 : Nat} {σ : Mm} {o : Int32 × Mm} (h : f_X11_term_27 N r_9 l0 σ = some o) : Gx Γ M_X11_term 100 τ (PI o) 0 0 27 [(0, .ref (Γ.B + pp l0))] [] σ := by
  unfold f_X11_term_27 at h
  refine gx_aload_n 0 dX11_term_27 rfl rfl ?_
  obtain ⟨a1, ha1, h⟩ := bnd h
  refine gx_getN dX11_term_28 ha1 fl_X11_7 rfl ?_
  refine gx_aload_n 0 dX11_term_31 rfl rfl ?_
  obtain ⟨x2, hx2, h⟩ := bnd h
  refine gx_getI dX11_term_32 hx2 fl_X11_81 rfl ?_
  obtain ⟨x3, hx3, h⟩ := bnd h
  refine gx_bald (kd := 112) dX11_term_35 hx3 rfl rfl ?_
  refine gx_bipush (v := (42 : Int32)) dX11_term_36 ib_42 ?_
  refine gx_icmp_ne 45 dX11_term_38 (by decide) (fun c3 => ?_) (fun c3 => ?_)
  · rw [if_neg c3] at h
    refine gx_iconst (v := (5 : Int32)) dX11_term_45 ic_5 ?_
    exact s_X11_term_46 hr_9 h
  · rw [if_pos c3] at h
    refine gx_iconst (v := (4 : Int32)) dX11_term_41 ic_4 ?_
    refine gx_goto 46 dX11_term_42 (by decide) ?_
    exact s_X11_term_46 hr_9 h
set_option maxRecDepth 4000 in
theorem s_X11_term_9 {Γ : Cn} {τ : Mm} {N : Nat} : ∀ (n : Nat) (l0 : Nat) (σ : Mm) (o : Int32 × Mm), f_X11_term_9 N n l0 σ = some o → Gx Γ M_X11_term 100 τ (PI o) 0 0 9 [(0, .ref (Γ.B + pp l0))] [] σ := by
  intro n
  induction n with
  | zero =>
    intro l0 σ o h
    exact absurd h (by rw [f_X11_term_9]; exact fun q => nomatch q)
  | succ n ih =>
    intro l0 σ o h
    rw [f_X11_term_9] at h
    refine gx_aload_n 0 dX11_term_9 rfl rfl ?_
    obtain ⟨_, hobq1, h⟩ := bnd h
    obtain ⟨q1, hq1, h⟩ := bnd h
    refine gx_cVI (As := []) (st := []) (o := l0) dX11_term_10 (c_X11_see hq1) mov_X11_see tw_1157 hobq1 rfl ⟨Nat.le_of_ble_eq_true rfl, Nat.le_of_ble_eq_true rfl⟩ (Nat.le_of_ble_eq_true rfl) ?_
    refine gx_bipush (v := (42 : Int32)) dX11_term_13 ib_42 ?_
    refine gx_icmp_eq 27 dX11_term_15 (by decide) (fun c1 => ?_) (fun c1 => ?_)
    · rw [if_pos c1] at h
      exact s_X11_term_27 ih h
    · rw [if_neg c1] at h
      refine gx_aload_n 0 dX11_term_18 rfl rfl ?_
      obtain ⟨_, hobq3, h⟩ := bnd h
      obtain ⟨q3, hq3, h⟩ := bnd h
      refine gx_cVI (As := []) (st := []) (o := l0) dX11_term_19 (c_X11_see hq3) mov_X11_see tw_1157 hobq3 rfl ⟨Nat.le_of_ble_eq_true rfl, Nat.le_of_ble_eq_true rfl⟩ (Nat.le_of_ble_eq_true rfl) ?_
      refine gx_bipush (v := (47 : Int32)) dX11_term_22 ib_47 ?_
      refine gx_icmp_ne 75 dX11_term_24 (by decide) (fun c3 => ?_) (fun c3 => ?_)
      · rw [if_neg c3] at h
        refine gx_iconst (v := (1 : Int32)) dX11_term_75 ic_1 ?_
        have h := Option.some.inj h
        subst h
        exact gx_zret dX11_term_76 rfl rfl (Nat.le_of_ble_eq_true rfl) (Nat.le_of_ble_eq_true rfl) ⟨rfl, rfl⟩
      · rw [if_pos c3] at h
        exact s_X11_term_27 ih h
set_option maxRecDepth 4000 in
theorem s_X11_term_0 {Γ : Cn} {τ : Mm} {N : Nat} {l0 : Nat} {σ : Mm} {o : Int32 × Mm} (h : f_X11_term N l0 σ = some o) : Gx Γ M_X11_term 100 τ (PI o) 0 0 0 [(0, .ref (Γ.B + pp l0))] [] σ := by
  unfold f_X11_term at h
  refine gx_aload_n 0 dX11_term_0 rfl rfl ?_
  obtain ⟨_, hobq1, h⟩ := bnd h
  obtain ⟨q1, hq1, h⟩ := bnd h
  refine gx_cVI (As := []) (st := []) (o := l0) dX11_term_1 (c_X11_value hq1) mov_X11_value tw_1193 hobq1 rfl ⟨Nat.le_of_ble_eq_true rfl, Nat.le_of_ble_eq_true rfl⟩ (Nat.le_of_ble_eq_true rfl) ?_
  refine gx_if_ne 9 dX11_term_4 (by decide) (fun c1 => ?_) (fun c1 => ?_)
  · rw [if_neg c1] at h
    exact s_X11_term_9  N _ _ _ h
  · rw [if_pos c1] at h
    refine gx_iconst (v := (0 : Int32)) dX11_term_7 ic_0 ?_
    have h := Option.some.inj h
    subst h
    exact gx_zret dX11_term_8 rfl rfl (Nat.le_of_ble_eq_true rfl) (Nat.le_of_ble_eq_true rfl) ⟨rfl, rfl⟩
theorem c_X11_term {Γ : Cn} {τ : Mm} {N : Nat} {l0 : Nat} {σ : Mm} {o : Int32 × Mm} (h : f_X11_term N l0 σ = some o) : Ct Γ M_X11_term yX11_term 100 τ [.ref (Γ.B + pp l0)] σ (PI o) := ct_of (by decide) rfl (fun _ => by first | rfl | contradiction) (Nat.le_of_ble_eq_true rfl) (s_X11_term_0  h)
abbrev M_X11_sum : Ms := (cX11_sum, RX11, 2, (some .boolean), false, 0, 0, 5)
def f_X11_sum_46 (N : Nat) (r_9 : Nat → Mm → Option (Int32 × Mm)) (l0 : Nat) (t0 : Int32) (σ : Mm) : Option (Int32 × Mm) :=
  (gI 11 12 σ l0).bind fun x1 =>
  (pI 11 12 σ l0 (x1 + (1 : Int32))).bind fun s2 =>
  (ob 11 s2 l0).bind fun _ =>
  (f_X11_term N l0 s2).bind fun q3 =>
  if q3.1 = 0 then (
    some ((0 : Int32), q3.2)) else (
    (ob 11 q3.2 l0).bind fun _ =>
    (f_X11_puts N l0 t0 (0 : Int32) q3.2).bind fun q5 =>
    r_9 l0 q5)
def f_X11_sum_27 (N : Nat) (r_9 : Nat → Mm → Option (Int32 × Mm)) (l0 : Nat) (σ : Mm) : Option (Int32 × Mm) :=
  (gN 11 0 σ l0).bind fun a1 =>
  (gI 11 12 σ l0).bind fun x2 =>
  (aI 112 σ a1 x2).bind fun x3 =>
  if x3 = (43 : Int32) then (
    f_X11_sum_46 N r_9 l0 (2 : Int32) σ) else (
    f_X11_sum_46 N r_9 l0 (3 : Int32) σ)
def f_X11_sum_9 (N : Nat) : Nat → Nat → Mm → Option (Int32 × Mm)
  | 0, _, _ => none
  | n + 1, l0, σ =>
      (ob 11 σ l0).bind fun _ =>
      (f_X11_see N l0 σ).bind fun q1 =>
      if q1.1 = (43 : Int32) then (
        f_X11_sum_27 N (f_X11_sum_9 N n) l0 q1.2) else (
        (ob 11 q1.2 l0).bind fun _ =>
        (f_X11_see N l0 q1.2).bind fun q3 =>
        if q3.1 = (45 : Int32) then (
          f_X11_sum_27 N (f_X11_sum_9 N n) l0 q3.2) else (
          some ((1 : Int32), q3.2)))
def f_X11_sum (N : Nat) (l0 : Nat) (σ : Mm) : Option (Int32 × Mm) :=
  (ob 11 σ l0).bind fun _ =>
  (f_X11_term N l0 σ).bind fun q1 =>
  if q1.1 = 0 then (
    some ((0 : Int32), q1.2)) else (
    f_X11_sum_9 N N l0 q1.2)
theorem mov_X11_sum : MOV yX11_sum M_X11_sum 0 11 100 := ⟨⟨tw_107, tw_1188, ⟨by decide, by decide⟩, by decide +kernel⟩, tw_1187, tw_45, by decide, ⟨_, rfl, rfl⟩, rfl⟩
set_option maxRecDepth 4000 in
theorem s_X11_sum_46 {Γ : Cn} {τ : Mm} {N : Nat} {r_9 : Nat → Mm → Option (Int32 × Mm)} (hr_9 : ∀ (l0 : Nat) (σ : Mm) (o : Int32 × Mm), r_9 l0 σ = some o → Gx Γ M_X11_sum 100 τ (PI o) 0 0 9 [(0, .ref (Γ.B + pp l0))] [] σ) {l0 : Nat} {t0 : Int32} {σ : Mm} {o : Int32 × Mm} (h : f_X11_sum_46 N r_9 l0 t0 σ = some o) : Gx Γ M_X11_sum 100 τ (PI o) 0 0 46 [(0, .ref (Γ.B + pp l0))] [.int t0] σ := by
  unfold f_X11_sum_46 at h
  refine gx_istore_n (lv' := [(1, .int t0), (0, .ref (Γ.B + pp l0))]) dX11_sum_46 rfl (Nat.le_of_ble_eq_true rfl) rfl ?_
  refine gx_aload_n 1 dX11_sum_47 rfl rfl ?_
  refine gx_dup dX11_sum_48 rfl ?_
  obtain ⟨x1, hx1, h⟩ := bnd h
  refine gx_getI dX11_sum_49 hx1 fl_X11_81 rfl ?_
  refine gx_iconst (v := (1 : Int32)) dX11_sum_52 ic_1 ?_
  refine gx_iadd dX11_sum_53 ?_
  obtain ⟨s2, hs2, h⟩ := bnd h
  refine gx_putI dX11_sum_54 hs2 fl_X11_81 fp_X11_11_12 rfl ?_
  refine gx_aload_n 1 dX11_sum_57 rfl rfl ?_
  obtain ⟨_, hobq3, h⟩ := bnd h
  obtain ⟨q3, hq3, h⟩ := bnd h
  refine gx_cVI (As := []) (st := []) (o := l0) dX11_sum_58 (c_X11_term hq3) mov_X11_term tw_1189 hobq3 rfl ⟨Nat.le_of_ble_eq_true rfl, Nat.le_of_ble_eq_true rfl⟩ (Nat.le_of_ble_eq_true rfl) ?_
  refine gx_if_ne 66 dX11_sum_61 (by decide) (fun c3 => ?_) (fun c3 => ?_)
  · rw [if_neg c3] at h
    refine gx_aload_n 1 dX11_sum_66 rfl rfl ?_
    refine gx_iload_n 0 dX11_sum_67 rfl rfl ?_
    refine gx_iconst (v := (0 : Int32)) dX11_sum_68 ic_0 ?_
    obtain ⟨_, hobq5, h⟩ := bnd h
    obtain ⟨q5, hq5, h⟩ := bnd h
    refine gx_cVV (As := [.int t0, .int (0 : Int32)]) (st := []) (o := l0) dX11_sum_69 (c_X11_puts hq5) mov_X11_puts tw_1213 hobq5 rfl ⟨Nat.le_of_ble_eq_true rfl, Nat.le_of_ble_eq_true rfl⟩ (Nat.le_of_ble_eq_true rfl) ?_
    refine gx_goto 9 dX11_sum_72 (by decide) ?_
    exact gx_sub [1] rfl (hr_9 _ _ _ h)
  · rw [if_pos c3] at h
    refine gx_iconst (v := (0 : Int32)) dX11_sum_64 ic_0 ?_
    have h := Option.some.inj h
    subst h
    exact gx_zret dX11_sum_65 rfl rfl (Nat.le_of_ble_eq_true rfl) (Nat.le_of_ble_eq_true rfl) ⟨rfl, rfl⟩
set_option maxRecDepth 4000 in
theorem s_X11_sum_27 {Γ : Cn} {τ : Mm} {N : Nat} {r_9 : Nat → Mm → Option (Int32 × Mm)} (hr_9 : ∀ (l0 : Nat) (σ : Mm) (o : Int32 × Mm), r_9 l0 σ = some o → Gx Γ M_X11_sum 100 τ (PI o) 0 0 9 [(0, .ref (Γ.B + pp l0))] [] σ) {l0 : Nat} {σ : Mm} {o : Int32 × Mm} (h : f_X11_sum_27 N r_9 l0 σ = some o) : Gx Γ M_X11_sum 100 τ (PI o) 0 0 27 [(0, .ref (Γ.B + pp l0))] [] σ := by
  unfold f_X11_sum_27 at h
  refine gx_aload_n 0 dX11_sum_27 rfl rfl ?_
  obtain ⟨a1, ha1, h⟩ := bnd h
  refine gx_getN dX11_sum_28 ha1 fl_X11_7 rfl ?_
  refine gx_aload_n 0 dX11_sum_31 rfl rfl ?_
  obtain ⟨x2, hx2, h⟩ := bnd h
  refine gx_getI dX11_sum_32 hx2 fl_X11_81 rfl ?_
  obtain ⟨x3, hx3, h⟩ := bnd h
  refine gx_bald (kd := 112) dX11_sum_35 hx3 rfl rfl ?_
  refine gx_bipush (v := (43 : Int32)) dX11_sum_36 ib_43 ?_
  refine gx_icmp_ne 45 dX11_sum_38 (by decide) (fun c3 => ?_) (fun c3 => ?_)
  · rw [if_neg c3] at h
    refine gx_iconst (v := (3 : Int32)) dX11_sum_45 ic_3 ?_
    exact s_X11_sum_46 hr_9 h
  · rw [if_pos c3] at h
    refine gx_iconst (v := (2 : Int32)) dX11_sum_41 ic_2 ?_
    refine gx_goto 46 dX11_sum_42 (by decide) ?_
    exact s_X11_sum_46 hr_9 h
set_option maxRecDepth 4000 in
theorem s_X11_sum_9 {Γ : Cn} {τ : Mm} {N : Nat} : ∀ (n : Nat) (l0 : Nat) (σ : Mm) (o : Int32 × Mm), f_X11_sum_9 N n l0 σ = some o → Gx Γ M_X11_sum 100 τ (PI o) 0 0 9 [(0, .ref (Γ.B + pp l0))] [] σ := by
  intro n
  induction n with
  | zero =>
    intro l0 σ o h
    exact absurd h (by rw [f_X11_sum_9]; exact fun q => nomatch q)
  | succ n ih =>
    intro l0 σ o h
    rw [f_X11_sum_9] at h
    refine gx_aload_n 0 dX11_sum_9 rfl rfl ?_
    obtain ⟨_, hobq1, h⟩ := bnd h
    obtain ⟨q1, hq1, h⟩ := bnd h
    refine gx_cVI (As := []) (st := []) (o := l0) dX11_sum_10 (c_X11_see hq1) mov_X11_see tw_1157 hobq1 rfl ⟨Nat.le_of_ble_eq_true rfl, Nat.le_of_ble_eq_true rfl⟩ (Nat.le_of_ble_eq_true rfl) ?_
    refine gx_bipush (v := (43 : Int32)) dX11_sum_13 ib_43 ?_
    refine gx_icmp_eq 27 dX11_sum_15 (by decide) (fun c1 => ?_) (fun c1 => ?_)
    · rw [if_pos c1] at h
      exact s_X11_sum_27 ih h
    · rw [if_neg c1] at h
      refine gx_aload_n 0 dX11_sum_18 rfl rfl ?_
      obtain ⟨_, hobq3, h⟩ := bnd h
      obtain ⟨q3, hq3, h⟩ := bnd h
      refine gx_cVI (As := []) (st := []) (o := l0) dX11_sum_19 (c_X11_see hq3) mov_X11_see tw_1157 hobq3 rfl ⟨Nat.le_of_ble_eq_true rfl, Nat.le_of_ble_eq_true rfl⟩ (Nat.le_of_ble_eq_true rfl) ?_
      refine gx_bipush (v := (45 : Int32)) dX11_sum_22 ib_45 ?_
      refine gx_icmp_ne 75 dX11_sum_24 (by decide) (fun c3 => ?_) (fun c3 => ?_)
      · rw [if_neg c3] at h
        refine gx_iconst (v := (1 : Int32)) dX11_sum_75 ic_1 ?_
        have h := Option.some.inj h
        subst h
        exact gx_zret dX11_sum_76 rfl rfl (Nat.le_of_ble_eq_true rfl) (Nat.le_of_ble_eq_true rfl) ⟨rfl, rfl⟩
      · rw [if_pos c3] at h
        exact s_X11_sum_27 ih h
set_option maxRecDepth 4000 in
theorem s_X11_sum_0 {Γ : Cn} {τ : Mm} {N : Nat} {l0 : Nat} {σ : Mm} {o : Int32 × Mm} (h : f_X11_sum N l0 σ = some o) : Gx Γ M_X11_sum 100 τ (PI o) 0 0 0 [(0, .ref (Γ.B + pp l0))] [] σ := by
  unfold f_X11_sum at h
  refine gx_aload_n 0 dX11_sum_0 rfl rfl ?_
  obtain ⟨_, hobq1, h⟩ := bnd h
  obtain ⟨q1, hq1, h⟩ := bnd h
  refine gx_cVI (As := []) (st := []) (o := l0) dX11_sum_1 (c_X11_term hq1) mov_X11_term tw_1189 hobq1 rfl ⟨Nat.le_of_ble_eq_true rfl, Nat.le_of_ble_eq_true rfl⟩ (Nat.le_of_ble_eq_true rfl) ?_
  refine gx_if_ne 9 dX11_sum_4 (by decide) (fun c1 => ?_) (fun c1 => ?_)
  · rw [if_neg c1] at h
    exact s_X11_sum_9  N _ _ _ h
  · rw [if_pos c1] at h
    refine gx_iconst (v := (0 : Int32)) dX11_sum_7 ic_0 ?_
    have h := Option.some.inj h
    subst h
    exact gx_zret dX11_sum_8 rfl rfl (Nat.le_of_ble_eq_true rfl) (Nat.le_of_ble_eq_true rfl) ⟨rfl, rfl⟩
theorem c_X11_sum {Γ : Cn} {τ : Mm} {N : Nat} {l0 : Nat} {σ : Mm} {o : Int32 × Mm} (h : f_X11_sum N l0 σ = some o) : Ct Γ M_X11_sum yX11_sum 100 τ [.ref (Γ.B + pp l0)] σ (PI o) := ct_of (by decide) rfl (fun _ => by first | rfl | contradiction) (Nat.le_of_ble_eq_true rfl) (s_X11_sum_0  h)
abbrev M_X11_compare : Ms := (cX11_compare, RX11, 5, (some .boolean), false, 0, 0, 6)
def f_X11_compare_152 (N : Nat) (l0 : Nat) (t0 : Int32) (σ : Mm) : Option (Int32 × Mm) :=
  (ob 11 σ l0).bind fun _ =>
  (f_X11_sum N l0 σ).bind fun q1 =>
  if q1.1 = 0 then (
    some ((0 : Int32), q1.2)) else (
    (ob 11 q1.2 l0).bind fun _ =>
    (f_X11_puts N l0 ((6 : Int32) + t0) (0 : Int32) q1.2).bind fun q3 =>
    some ((1 : Int32), q3))
def f_X11_compare_105 (N : Nat) (l0 : Nat) (l1 : Int32) (l2 : Int32) (l3 : Int32) (σ : Mm) : Option (Int32 × Mm) :=
  (ob 11 σ l0).bind fun _ =>
  (f_X11_makes N l0 l2 σ).bind fun q1 =>
  if q1.1 = 0 then (
    some ((0 : Int32), q1.2)) else (
    if l1 = (60 : Int32) then (
      if l3 = 0 then (
        f_X11_compare_152 N l0 (0 : Int32) q1.2) else (
        f_X11_compare_152 N l0 (1 : Int32) q1.2)) else (
      if l1 = (61 : Int32) then (
        f_X11_compare_152 N l0 (2 : Int32) q1.2) else (
        if l3 = 0 then (
          f_X11_compare_152 N l0 (4 : Int32) q1.2) else (
          f_X11_compare_152 N l0 (3 : Int32) q1.2))))
def f_X11_compare_90 (N : Nat) (l0 : Nat) (l1 : Int32) (l2 : Int32) (t0 : Int32) (σ : Mm) : Option (Int32 × Mm) :=
  if t0 = 0 then (
    f_X11_compare_105 N l0 l1 l2 t0 σ) else (
    (gI 11 12 σ l0).bind fun x2 =>
    (pI 11 12 σ l0 (x2 + (1 : Int32))).bind fun s3 =>
    f_X11_compare_105 N l0 l1 l2 t0 s3)
def f_X11_compare_89 (N : Nat) (l0 : Nat) (l1 : Int32) (l2 : Int32) (σ : Mm) : Option (Int32 × Mm) :=
  f_X11_compare_90 N l0 l1 l2 (0 : Int32) σ
def f_X11_compare_44 (N : Nat) (l0 : Nat) (l1 : Int32) (l2 : Int32) (σ : Mm) : Option (Int32 × Mm) :=
  (gI 11 12 σ l0).bind fun x1 =>
  (pI 11 12 σ l0 (x1 + (1 : Int32))).bind fun s2 =>
  if l1 = (61 : Int32) then (
    f_X11_compare_89 N l0 l1 l2 s2) else (
    (gI 11 12 s2 l0).bind fun x4 =>
    (gI 11 1 s2 l0).bind fun x5 =>
    if x5 ≤ x4 then (
      f_X11_compare_89 N l0 l1 l2 s2) else (
      (gN 11 0 s2 l0).bind fun a7 =>
      (gI 11 12 s2 l0).bind fun x8 =>
      (aI 112 s2 a7 x8).bind fun x9 =>
      if x9 = (61 : Int32) then (
        f_X11_compare_90 N l0 l1 l2 (1 : Int32) s2) else (
        f_X11_compare_89 N l0 l1 l2 s2)))
def f_X11_compare (N : Nat) (l0 : Nat) (σ : Mm) : Option (Int32 × Mm) :=
  (ob 11 σ l0).bind fun _ =>
  (f_X11_sum N l0 σ).bind fun q1 =>
  if q1.1 = 0 then (
    some ((0 : Int32), q1.2)) else (
    (ob 11 q1.2 l0).bind fun _ =>
    (f_X11_see N l0 q1.2).bind fun q3 =>
    (gI 11 12 q3.2 l0).bind fun x4 =>
    if q3.1 = (60 : Int32) then (
      f_X11_compare_44 N l0 q3.1 x4 q3.2) else (
      if q3.1 = (61 : Int32) then (
        f_X11_compare_44 N l0 q3.1 x4 q3.2) else (
        if q3.1 = (62 : Int32) then (
          f_X11_compare_44 N l0 q3.1 x4 q3.2) else (
          (ob 11 q3.2 l0).bind fun _ =>
          (f_X11_fails N l0 (0 : Int32) x4 q3.2).bind fun q8 =>
          if q8.1 = 0 ∨ q8.1 = 1 then some (q8.1, q8.2) else none))))
theorem mov_X11_compare : MOV yX11_compare M_X11_compare 0 11 100 := ⟨⟨tw_107, tw_1250, ⟨by decide, by decide⟩, by decide +kernel⟩, tw_1249, tw_57, by decide, ⟨_, rfl, rfl⟩, rfl⟩
set_option maxRecDepth 4000 in
theorem s_X11_compare_152 {Γ : Cn} {τ : Mm} {N : Nat} {l0 : Nat} {t0 : Int32} {σ : Mm} {o : Int32 × Mm} (h : f_X11_compare_152 N l0 t0 σ = some o) : Gx Γ M_X11_compare 100 τ (PI o) 0 0 152 [(0, .ref (Γ.B + pp l0))] [.int t0] σ := by
  unfold f_X11_compare_152 at h
  refine gx_istore (lv' := [(4, .int t0), (0, .ref (Γ.B + pp l0))]) dX11_compare_152 (Nat.le_of_ble_eq_true rfl) rfl ?_
  refine gx_aload_n 1 dX11_compare_154 rfl rfl ?_
  obtain ⟨_, hobq1, h⟩ := bnd h
  obtain ⟨q1, hq1, h⟩ := bnd h
  refine gx_cVI (As := []) (st := []) (o := l0) dX11_compare_155 (c_X11_sum hq1) mov_X11_sum tw_1185 hobq1 rfl ⟨Nat.le_of_ble_eq_true rfl, Nat.le_of_ble_eq_true rfl⟩ (Nat.le_of_ble_eq_true rfl) ?_
  refine gx_if_ne 163 dX11_compare_158 (by decide) (fun c1 => ?_) (fun c1 => ?_)
  · rw [if_neg c1] at h
    refine gx_aload_n 1 dX11_compare_163 rfl rfl ?_
    refine gx_bipush (v := (6 : Int32)) dX11_compare_164 ib_6 ?_
    refine gx_iload 0 dX11_compare_166 rfl ?_
    refine gx_iadd dX11_compare_168 ?_
    refine gx_iconst (v := (0 : Int32)) dX11_compare_169 ic_0 ?_
    obtain ⟨_, hobq3, h⟩ := bnd h
    obtain ⟨q3, hq3, h⟩ := bnd h
    refine gx_cVV (As := [.int ((6 : Int32) + t0), .int (0 : Int32)]) (st := []) (o := l0) dX11_compare_170 (c_X11_puts hq3) mov_X11_puts tw_1213 hobq3 rfl ⟨Nat.le_of_ble_eq_true rfl, Nat.le_of_ble_eq_true rfl⟩ (Nat.le_of_ble_eq_true rfl) ?_
    refine gx_iconst (v := (1 : Int32)) dX11_compare_173 ic_1 ?_
    have h := Option.some.inj h
    subst h
    exact gx_zret dX11_compare_174 rfl rfl (Nat.le_of_ble_eq_true rfl) (Nat.le_of_ble_eq_true rfl) ⟨rfl, rfl⟩
  · rw [if_pos c1] at h
    refine gx_iconst (v := (0 : Int32)) dX11_compare_161 ic_0 ?_
    have h := Option.some.inj h
    subst h
    exact gx_zret dX11_compare_162 rfl rfl (Nat.le_of_ble_eq_true rfl) (Nat.le_of_ble_eq_true rfl) ⟨rfl, rfl⟩
set_option maxRecDepth 4000 in
theorem s_X11_compare_105 {Γ : Cn} {τ : Mm} {N : Nat} {l0 : Nat} {l1 : Int32} {l2 : Int32} {l3 : Int32} {σ : Mm} {o : Int32 × Mm} (h : f_X11_compare_105 N l0 l1 l2 l3 σ = some o) : Gx Γ M_X11_compare 100 τ (PI o) 0 0 105 [(0, .ref (Γ.B + pp l0)), (1, .int l1), (2, .int l2), (3, .int l3)] [] σ := by
  unfold f_X11_compare_105 at h
  refine gx_aload_n 0 dX11_compare_105 rfl rfl ?_
  refine gx_iload_n 2 dX11_compare_106 rfl rfl ?_
  obtain ⟨_, hobq1, h⟩ := bnd h
  obtain ⟨q1, hq1, h⟩ := bnd h
  refine gx_cVI (As := [.int l2]) (st := []) (o := l0) dX11_compare_107 (c_X11_makes hq1) mov_X11_makes tw_1209 hobq1 rfl ⟨Nat.le_of_ble_eq_true rfl, Nat.le_of_ble_eq_true rfl⟩ (Nat.le_of_ble_eq_true rfl) ?_
  refine gx_if_ne 115 dX11_compare_110 (by decide) (fun c1 => ?_) (fun c1 => ?_)
  · rw [if_neg c1] at h
    refine gx_iload_n 1 dX11_compare_115 rfl rfl ?_
    refine gx_bipush (v := (60 : Int32)) dX11_compare_116 ib_60 ?_
    refine gx_icmp_ne 133 dX11_compare_118 (by decide) (fun c2 => ?_) (fun c2 => ?_)
    · rw [if_neg c2] at h
      refine gx_iload_n 1 dX11_compare_133 rfl rfl ?_
      refine gx_bipush (v := (61 : Int32)) dX11_compare_134 ib_61 ?_
      refine gx_icmp_ne 143 dX11_compare_136 (by decide) (fun c3 => ?_) (fun c3 => ?_)
      · rw [if_neg c3] at h
        refine gx_iload_n 3 dX11_compare_143 rfl rfl ?_
        refine gx_if_eq 151 dX11_compare_144 (by decide) (fun c4 => ?_) (fun c4 => ?_)
        · rw [if_pos c4] at h
          refine gx_iconst (v := (4 : Int32)) dX11_compare_151 ic_4 ?_
          exact gx_sub [0] rfl (s_X11_compare_152  h)
        · rw [if_neg c4] at h
          refine gx_iconst (v := (3 : Int32)) dX11_compare_147 ic_3 ?_
          refine gx_goto 152 dX11_compare_148 (by decide) ?_
          exact gx_sub [0] rfl (s_X11_compare_152  h)
      · rw [if_pos c3] at h
        refine gx_iconst (v := (2 : Int32)) dX11_compare_139 ic_2 ?_
        refine gx_goto 152 dX11_compare_140 (by decide) ?_
        exact gx_sub [0] rfl (s_X11_compare_152  h)
    · rw [if_pos c2] at h
      refine gx_iload_n 3 dX11_compare_121 rfl rfl ?_
      refine gx_if_eq 129 dX11_compare_122 (by decide) (fun c5 => ?_) (fun c5 => ?_)
      · rw [if_pos c5] at h
        refine gx_iconst (v := (0 : Int32)) dX11_compare_129 ic_0 ?_
        refine gx_goto 152 dX11_compare_130 (by decide) ?_
        exact gx_sub [0] rfl (s_X11_compare_152  h)
      · rw [if_neg c5] at h
        refine gx_iconst (v := (1 : Int32)) dX11_compare_125 ic_1 ?_
        refine gx_goto 152 dX11_compare_126 (by decide) ?_
        exact gx_sub [0] rfl (s_X11_compare_152  h)
  · rw [if_pos c1] at h
    refine gx_iconst (v := (0 : Int32)) dX11_compare_113 ic_0 ?_
    have h := Option.some.inj h
    subst h
    exact gx_zret dX11_compare_114 rfl rfl (Nat.le_of_ble_eq_true rfl) (Nat.le_of_ble_eq_true rfl) ⟨rfl, rfl⟩
set_option maxRecDepth 4000 in
theorem s_X11_compare_90 {Γ : Cn} {τ : Mm} {N : Nat} {l0 : Nat} {l1 : Int32} {l2 : Int32} {t0 : Int32} {σ : Mm} {o : Int32 × Mm} (h : f_X11_compare_90 N l0 l1 l2 t0 σ = some o) : Gx Γ M_X11_compare 100 τ (PI o) 0 0 90 [(0, .ref (Γ.B + pp l0)), (1, .int l1), (2, .int l2)] [.int t0] σ := by
  unfold f_X11_compare_90 at h
  refine gx_istore_n (lv' := [(3, .int t0), (0, .ref (Γ.B + pp l0)), (1, .int l1), (2, .int l2)]) dX11_compare_90 rfl (Nat.le_of_ble_eq_true rfl) rfl ?_
  refine gx_iload_n 0 dX11_compare_91 rfl rfl ?_
  refine gx_if_eq 105 dX11_compare_92 (by decide) (fun c0 => ?_) (fun c0 => ?_)
  · rw [if_pos c0] at h
    exact gx_sub [1, 2, 3, 0] rfl (s_X11_compare_105  h)
  · rw [if_neg c0] at h
    refine gx_aload_n 1 dX11_compare_95 rfl rfl ?_
    refine gx_dup dX11_compare_96 rfl ?_
    obtain ⟨x2, hx2, h⟩ := bnd h
    refine gx_getI dX11_compare_97 hx2 fl_X11_81 rfl ?_
    refine gx_iconst (v := (1 : Int32)) dX11_compare_100 ic_1 ?_
    refine gx_iadd dX11_compare_101 ?_
    obtain ⟨s3, hs3, h⟩ := bnd h
    refine gx_putI dX11_compare_102 hs3 fl_X11_81 fp_X11_11_12 rfl ?_
    exact gx_sub [1, 2, 3, 0] rfl (s_X11_compare_105  h)
set_option maxRecDepth 4000 in
theorem s_X11_compare_89 {Γ : Cn} {τ : Mm} {N : Nat} {l0 : Nat} {l1 : Int32} {l2 : Int32} {σ : Mm} {o : Int32 × Mm} (h : f_X11_compare_89 N l0 l1 l2 σ = some o) : Gx Γ M_X11_compare 100 τ (PI o) 0 0 89 [(0, .ref (Γ.B + pp l0)), (1, .int l1), (2, .int l2)] [] σ := by
  unfold f_X11_compare_89 at h
  refine gx_iconst (v := (0 : Int32)) dX11_compare_89 ic_0 ?_
  exact s_X11_compare_90  h
set_option maxRecDepth 4000 in
theorem s_X11_compare_44 {Γ : Cn} {τ : Mm} {N : Nat} {l0 : Nat} {l1 : Int32} {l2 : Int32} {σ : Mm} {o : Int32 × Mm} (h : f_X11_compare_44 N l0 l1 l2 σ = some o) : Gx Γ M_X11_compare 100 τ (PI o) 0 0 44 [(0, .ref (Γ.B + pp l0)), (1, .int l1), (2, .int l2)] [] σ := by
  unfold f_X11_compare_44 at h
  refine gx_aload_n 0 dX11_compare_44 rfl rfl ?_
  refine gx_dup dX11_compare_45 rfl ?_
  obtain ⟨x1, hx1, h⟩ := bnd h
  refine gx_getI dX11_compare_46 hx1 fl_X11_81 rfl ?_
  refine gx_iconst (v := (1 : Int32)) dX11_compare_49 ic_1 ?_
  refine gx_iadd dX11_compare_50 ?_
  obtain ⟨s2, hs2, h⟩ := bnd h
  refine gx_putI dX11_compare_51 hs2 fl_X11_81 fp_X11_11_12 rfl ?_
  refine gx_iload_n 1 dX11_compare_54 rfl rfl ?_
  refine gx_bipush (v := (61 : Int32)) dX11_compare_55 ib_61 ?_
  refine gx_icmp_eq 89 dX11_compare_57 (by decide) (fun c2 => ?_) (fun c2 => ?_)
  · rw [if_pos c2] at h
    exact s_X11_compare_89  h
  · rw [if_neg c2] at h
    refine gx_aload_n 0 dX11_compare_60 rfl rfl ?_
    obtain ⟨x4, hx4, h⟩ := bnd h
    refine gx_getI dX11_compare_61 hx4 fl_X11_81 rfl ?_
    refine gx_aload_n 0 dX11_compare_64 rfl rfl ?_
    obtain ⟨x5, hx5, h⟩ := bnd h
    refine gx_getI dX11_compare_65 hx5 fl_X11_70 rfl ?_
    refine gx_icmp_ge 89 dX11_compare_68 (by decide) (fun c5 => ?_) (fun c5 => ?_)
    · rw [if_pos c5] at h
      exact s_X11_compare_89  h
    · rw [if_neg c5] at h
      refine gx_aload_n 0 dX11_compare_71 rfl rfl ?_
      obtain ⟨a7, ha7, h⟩ := bnd h
      refine gx_getN dX11_compare_72 ha7 fl_X11_7 rfl ?_
      refine gx_aload_n 0 dX11_compare_75 rfl rfl ?_
      obtain ⟨x8, hx8, h⟩ := bnd h
      refine gx_getI dX11_compare_76 hx8 fl_X11_81 rfl ?_
      obtain ⟨x9, hx9, h⟩ := bnd h
      refine gx_bald (kd := 112) dX11_compare_79 hx9 rfl rfl ?_
      refine gx_bipush (v := (61 : Int32)) dX11_compare_80 ib_61 ?_
      refine gx_icmp_ne 89 dX11_compare_82 (by decide) (fun c9 => ?_) (fun c9 => ?_)
      · rw [if_neg c9] at h
        exact s_X11_compare_89  h
      · rw [if_pos c9] at h
        refine gx_iconst (v := (1 : Int32)) dX11_compare_85 ic_1 ?_
        refine gx_goto 90 dX11_compare_86 (by decide) ?_
        exact s_X11_compare_90  h
set_option maxRecDepth 4000 in
theorem s_X11_compare_0 {Γ : Cn} {τ : Mm} {N : Nat} {l0 : Nat} {σ : Mm} {o : Int32 × Mm} (h : f_X11_compare N l0 σ = some o) : Gx Γ M_X11_compare 100 τ (PI o) 0 0 0 [(0, .ref (Γ.B + pp l0))] [] σ := by
  unfold f_X11_compare at h
  refine gx_aload_n 0 dX11_compare_0 rfl rfl ?_
  obtain ⟨_, hobq1, h⟩ := bnd h
  obtain ⟨q1, hq1, h⟩ := bnd h
  refine gx_cVI (As := []) (st := []) (o := l0) dX11_compare_1 (c_X11_sum hq1) mov_X11_sum tw_1185 hobq1 rfl ⟨Nat.le_of_ble_eq_true rfl, Nat.le_of_ble_eq_true rfl⟩ (Nat.le_of_ble_eq_true rfl) ?_
  refine gx_if_ne 9 dX11_compare_4 (by decide) (fun c1 => ?_) (fun c1 => ?_)
  · rw [if_neg c1] at h
    refine gx_aload_n 0 dX11_compare_9 rfl rfl ?_
    obtain ⟨_, hobq3, h⟩ := bnd h
    obtain ⟨q3, hq3, h⟩ := bnd h
    refine gx_cVI (As := []) (st := []) (o := l0) dX11_compare_10 (c_X11_see hq3) mov_X11_see tw_1157 hobq3 rfl ⟨Nat.le_of_ble_eq_true rfl, Nat.le_of_ble_eq_true rfl⟩ (Nat.le_of_ble_eq_true rfl) ?_
    refine gx_istore_n (lv' := [(1, .int q3.1), (0, .ref (Γ.B + pp l0))]) dX11_compare_13 rfl (Nat.le_of_ble_eq_true rfl) rfl ?_
    refine gx_aload_n 1 dX11_compare_14 rfl rfl ?_
    obtain ⟨x4, hx4, h⟩ := bnd h
    refine gx_getI dX11_compare_15 hx4 fl_X11_81 rfl ?_
    refine gx_istore_n (lv' := [(2, .int x4), (1, .int q3.1), (0, .ref (Γ.B + pp l0))]) dX11_compare_18 rfl (Nat.le_of_ble_eq_true rfl) rfl ?_
    refine gx_iload_n 1 dX11_compare_19 rfl rfl ?_
    refine gx_bipush (v := (60 : Int32)) dX11_compare_20 ib_60 ?_
    refine gx_icmp_eq 44 dX11_compare_22 (by decide) (fun c4 => ?_) (fun c4 => ?_)
    · rw [if_pos c4] at h
      exact gx_sub [2, 1, 0] rfl (s_X11_compare_44  h)
    · rw [if_neg c4] at h
      refine gx_iload_n 1 dX11_compare_25 rfl rfl ?_
      refine gx_bipush (v := (61 : Int32)) dX11_compare_26 ib_61 ?_
      refine gx_icmp_eq 44 dX11_compare_28 (by decide) (fun c5 => ?_) (fun c5 => ?_)
      · rw [if_pos c5] at h
        exact gx_sub [2, 1, 0] rfl (s_X11_compare_44  h)
      · rw [if_neg c5] at h
        refine gx_iload_n 1 dX11_compare_31 rfl rfl ?_
        refine gx_bipush (v := (62 : Int32)) dX11_compare_32 ib_62 ?_
        refine gx_icmp_eq 44 dX11_compare_34 (by decide) (fun c6 => ?_) (fun c6 => ?_)
        · rw [if_pos c6] at h
          exact gx_sub [2, 1, 0] rfl (s_X11_compare_44  h)
        · rw [if_neg c6] at h
          refine gx_aload_n 2 dX11_compare_37 rfl rfl ?_
          refine gx_iconst (v := (0 : Int32)) dX11_compare_38 ic_0 ?_
          refine gx_iload_n 0 dX11_compare_39 rfl rfl ?_
          obtain ⟨_, hobq8, h⟩ := bnd h
          obtain ⟨q8, hq8, h⟩ := bnd h
          refine gx_cVI (As := [.int (0 : Int32), .int x4]) (st := []) (o := l0) dX11_compare_40 (c_X11_fails hq8) mov_X11_fails tw_1173 hobq8 rfl ⟨Nat.le_of_ble_eq_true rfl, Nat.le_of_ble_eq_true rfl⟩ (Nat.le_of_ble_eq_true rfl) ?_
          obtain ⟨hz, h⟩ := of_if h
          have h := Option.some.inj h
          subst h
          exact gx_zret dX11_compare_43 rfl (nar_z hz) (Nat.le_of_ble_eq_true rfl) (Nat.le_of_ble_eq_true rfl) ⟨rfl, rfl⟩
  · rw [if_pos c1] at h
    refine gx_iconst (v := (0 : Int32)) dX11_compare_7 ic_0 ?_
    have h := Option.some.inj h
    subst h
    exact gx_zret dX11_compare_8 rfl rfl (Nat.le_of_ble_eq_true rfl) (Nat.le_of_ble_eq_true rfl) ⟨rfl, rfl⟩
theorem c_X11_compare {Γ : Cn} {τ : Mm} {N : Nat} {l0 : Nat} {σ : Mm} {o : Int32 × Mm} (h : f_X11_compare N l0 σ = some o) : Ct Γ M_X11_compare yX11_compare 100 τ [.ref (Γ.B + pp l0)] σ (PI o) := ct_of (by decide) rfl (fun _ => by first | rfl | contradiction) (Nat.le_of_ble_eq_true rfl) (s_X11_compare_0  h)
abbrev M_X11_fact : Ms := (cX11_fact, RX11, 3, (some .boolean), false, 0, 0, 7)
def f_X11_fact_72 (N : Nat) (r_2 : Nat → Int32 → Mm → Option (Int32 × Mm)) (l0 : Nat) (l1 : Int32) (σ : Mm) : Option (Int32 × Mm) :=
  r_2 l0 l1 σ
def f_X11_fact_2 (N : Nat) : Nat → Nat → Int32 → Mm → Option (Int32 × Mm)
  | 0, _, _, _ => none
  | n + 1, l0, l1, σ =>
      if l1 = 0 then (
        (ob 11 σ l0).bind fun _ =>
        (f_X11_compare N l0 σ).bind fun q2 =>
        if q2.1 = 0 ∨ q2.1 = 1 then some (q2.1, q2.2) else none) else (
        (ob 11 σ l0).bind fun _ =>
        (f_X11_see N l0 σ).bind fun q3 =>
        (ob 11 q3.2 l0).bind fun _ =>
        (f_X11_isWord N l0 (7237492 : Int64) q3.2).bind fun q4 =>
        if q4.1 = 0 then (
          if q3.1 = (91 : Int32) then (
            (ob 11 q4.2 l0).bind fun _ =>
            (f_X11_opens N l0 (91 : Int32) q4.2).bind fun q7 =>
            if q7.1 = 0 then (
              some ((0 : Int32), q7.2)) else (
              (gI 11 12 q7.2 l0).bind fun x9 =>
              (pI 11 12 q7.2 l0 (x9 + (1 : Int32))).bind fun s10 =>
              f_X11_fact_72 N (f_X11_fact_2 N n) l0 (1 : Int32) s10)) else (
            f_X11_fact_72 N (f_X11_fact_2 N n) l0 (0 : Int32) q4.2)) else (
          (ob 11 q4.2 l0).bind fun _ =>
          (f_X11_opens N l0 (11 : Int32) q4.2).bind fun q11 =>
          if q11.1 = 0 then (
            some ((0 : Int32), q11.2)) else (
            (ob 11 q11.2 l0).bind fun _ =>
            (f_X11_passWord N l0 q11.2).bind fun q13 =>
            f_X11_fact_72 N (f_X11_fact_2 N n) l0 (1 : Int32) q13)))
def f_X11_fact (N : Nat) (l0 : Nat) (σ : Mm) : Option (Int32 × Mm) :=
  f_X11_fact_2 N N l0 (1 : Int32) σ
theorem mov_X11_fact : MOV yX11_fact M_X11_fact 0 11 100 := ⟨⟨tw_107, tw_1241, ⟨by decide, by decide⟩, by decide +kernel⟩, tw_1240, tw_55, by decide, ⟨_, rfl, rfl⟩, rfl⟩
set_option maxRecDepth 4000 in
theorem s_X11_fact_72 {Γ : Cn} {τ : Mm} {N : Nat} {r_2 : Nat → Int32 → Mm → Option (Int32 × Mm)} (hr_2 : ∀ (l0 : Nat) (l1 : Int32) (σ : Mm) (o : Int32 × Mm), r_2 l0 l1 σ = some o → Gx Γ M_X11_fact 100 τ (PI o) 0 0 2 [(0, .ref (Γ.B + pp l0)), (1, .int l1)] [] σ) {l0 : Nat} {l1 : Int32} {σ : Mm} {o : Int32 × Mm} (h : f_X11_fact_72 N r_2 l0 l1 σ = some o) : Gx Γ M_X11_fact 100 τ (PI o) 0 0 72 [(0, .ref (Γ.B + pp l0)), (1, .int l1)] [] σ := by
  unfold f_X11_fact_72 at h
  refine gx_goto 2 dX11_fact_72 (by decide) ?_
  exact hr_2 _ _ _ _ h
set_option maxRecDepth 4000 in
theorem s_X11_fact_2 {Γ : Cn} {τ : Mm} {N : Nat} : ∀ (n : Nat) (l0 : Nat) (l1 : Int32) (σ : Mm) (o : Int32 × Mm), f_X11_fact_2 N n l0 l1 σ = some o → Gx Γ M_X11_fact 100 τ (PI o) 0 0 2 [(0, .ref (Γ.B + pp l0)), (1, .int l1)] [] σ := by
  intro n
  induction n with
  | zero =>
    intro l0 l1 σ o h
    exact absurd h (by rw [f_X11_fact_2]; exact fun q => nomatch q)
  | succ n ih =>
    intro l0 l1 σ o h
    rw [f_X11_fact_2] at h
    refine gx_iload_n 1 dX11_fact_2 rfl rfl ?_
    refine gx_if_eq 75 dX11_fact_3 (by decide) (fun c0 => ?_) (fun c0 => ?_)
    · rw [if_pos c0] at h
      refine gx_aload_n 0 dX11_fact_75 rfl rfl ?_
      obtain ⟨_, hobq2, h⟩ := bnd h
      obtain ⟨q2, hq2, h⟩ := bnd h
      refine gx_cVI (As := []) (st := []) (o := l0) dX11_fact_76 (c_X11_compare hq2) mov_X11_compare tw_1247 hobq2 rfl ⟨Nat.le_of_ble_eq_true rfl, Nat.le_of_ble_eq_true rfl⟩ (Nat.le_of_ble_eq_true rfl) ?_
      obtain ⟨hz, h⟩ := of_if h
      have h := Option.some.inj h
      subst h
      exact gx_zret dX11_fact_79 rfl (nar_z hz) (Nat.le_of_ble_eq_true rfl) (Nat.le_of_ble_eq_true rfl) ⟨rfl, rfl⟩
    · rw [if_neg c0] at h
      refine gx_iconst (v := (0 : Int32)) dX11_fact_6 ic_0 ?_
      refine gx_istore_n (lv' := [(1, .int (0 : Int32)), (0, .ref (Γ.B + pp l0))]) dX11_fact_7 rfl (Nat.le_of_ble_eq_true rfl) rfl ?_
      refine gx_aload_n 1 dX11_fact_8 rfl rfl ?_
      obtain ⟨_, hobq3, h⟩ := bnd h
      obtain ⟨q3, hq3, h⟩ := bnd h
      refine gx_cVI (As := []) (st := []) (o := l0) dX11_fact_9 (c_X11_see hq3) mov_X11_see tw_1157 hobq3 rfl ⟨Nat.le_of_ble_eq_true rfl, Nat.le_of_ble_eq_true rfl⟩ (Nat.le_of_ble_eq_true rfl) ?_
      refine gx_istore_n (lv' := [(2, .int q3.1), (1, .int (0 : Int32)), (0, .ref (Γ.B + pp l0))]) dX11_fact_12 rfl (Nat.le_of_ble_eq_true rfl) rfl ?_
      refine gx_aload_n 2 dX11_fact_13 rfl rfl ?_
      refine gx_ldc2 (v := (7237492 : Int64)) dX11_fact_14 tw_1242 ?_
      obtain ⟨_, hobq4, h⟩ := bnd h
      obtain ⟨q4, hq4, h⟩ := bnd h
      refine gx_cVI (As := [.long (7237492 : Int64)]) (st := []) (o := l0) dX11_fact_17 (c_X11_isWord hq4) mov_X11_isWord tw_1162 hobq4 rfl ⟨Nat.le_of_ble_eq_true rfl, Nat.le_of_ble_eq_true rfl⟩ (Nat.le_of_ble_eq_true rfl) ?_
      refine gx_if_eq 43 dX11_fact_20 (by decide) (fun c4 => ?_) (fun c4 => ?_)
      · rw [if_pos c4] at h
        refine gx_iload_n 0 dX11_fact_43 rfl rfl ?_
        refine gx_bipush (v := (91 : Int32)) dX11_fact_44 ib_91 ?_
        refine gx_icmp_ne 72 dX11_fact_46 (by decide) (fun c5 => ?_) (fun c5 => ?_)
        · rw [if_neg c5] at h
          exact gx_sub [2, 1] rfl (s_X11_fact_72 ih h)
        · rw [if_pos c5] at h
          refine gx_aload_n 2 dX11_fact_49 rfl rfl ?_
          refine gx_bipush (v := (91 : Int32)) dX11_fact_50 ib_91 ?_
          obtain ⟨_, hobq7, h⟩ := bnd h
          obtain ⟨q7, hq7, h⟩ := bnd h
          refine gx_cVI (As := [.int (91 : Int32)]) (st := []) (o := l0) dX11_fact_52 (c_X11_opens hq7) mov_X11_opens tw_1243 hobq7 rfl ⟨Nat.le_of_ble_eq_true rfl, Nat.le_of_ble_eq_true rfl⟩ (Nat.le_of_ble_eq_true rfl) ?_
          refine gx_if_ne 60 dX11_fact_55 (by decide) (fun c7 => ?_) (fun c7 => ?_)
          · rw [if_neg c7] at h
            refine gx_aload_n 2 dX11_fact_60 rfl rfl ?_
            refine gx_dup dX11_fact_61 rfl ?_
            obtain ⟨x9, hx9, h⟩ := bnd h
            refine gx_getI dX11_fact_62 hx9 fl_X11_81 rfl ?_
            refine gx_iconst (v := (1 : Int32)) dX11_fact_65 ic_1 ?_
            refine gx_iadd dX11_fact_66 ?_
            obtain ⟨s10, hs10, h⟩ := bnd h
            refine gx_putI dX11_fact_67 hs10 fl_X11_81 fp_X11_11_12 rfl ?_
            refine gx_iconst (v := (1 : Int32)) dX11_fact_70 ic_1 ?_
            refine gx_istore_n (lv' := [(1, .int (1 : Int32)), (2, .int q3.1), (0, .ref (Γ.B + pp l0))]) dX11_fact_71 rfl (Nat.le_of_ble_eq_true rfl) rfl ?_
            exact gx_sub [2, 0] rfl (s_X11_fact_72 ih h)
          · rw [if_pos c7] at h
            refine gx_iconst (v := (0 : Int32)) dX11_fact_58 ic_0 ?_
            have h := Option.some.inj h
            subst h
            exact gx_zret dX11_fact_59 rfl rfl (Nat.le_of_ble_eq_true rfl) (Nat.le_of_ble_eq_true rfl) ⟨rfl, rfl⟩
      · rw [if_neg c4] at h
        refine gx_aload_n 2 dX11_fact_23 rfl rfl ?_
        refine gx_bipush (v := (11 : Int32)) dX11_fact_24 ib_11 ?_
        obtain ⟨_, hobq11, h⟩ := bnd h
        obtain ⟨q11, hq11, h⟩ := bnd h
        refine gx_cVI (As := [.int (11 : Int32)]) (st := []) (o := l0) dX11_fact_26 (c_X11_opens hq11) mov_X11_opens tw_1243 hobq11 rfl ⟨Nat.le_of_ble_eq_true rfl, Nat.le_of_ble_eq_true rfl⟩ (Nat.le_of_ble_eq_true rfl) ?_
        refine gx_if_ne 34 dX11_fact_29 (by decide) (fun c11 => ?_) (fun c11 => ?_)
        · rw [if_neg c11] at h
          refine gx_aload_n 2 dX11_fact_34 rfl rfl ?_
          obtain ⟨_, hobq13, h⟩ := bnd h
          obtain ⟨q13, hq13, h⟩ := bnd h
          refine gx_cVV (As := []) (st := []) (o := l0) dX11_fact_35 (c_X11_passWord hq13) mov_X11_passWord tw_1181 hobq13 rfl ⟨Nat.le_of_ble_eq_true rfl, Nat.le_of_ble_eq_true rfl⟩ (Nat.le_of_ble_eq_true rfl) ?_
          refine gx_iconst (v := (1 : Int32)) dX11_fact_38 ic_1 ?_
          refine gx_istore_n (lv' := [(1, .int (1 : Int32)), (2, .int q3.1), (0, .ref (Γ.B + pp l0))]) dX11_fact_39 rfl (Nat.le_of_ble_eq_true rfl) rfl ?_
          refine gx_goto 72 dX11_fact_40 (by decide) ?_
          exact gx_sub [2, 0] rfl (s_X11_fact_72 ih h)
        · rw [if_pos c11] at h
          refine gx_iconst (v := (0 : Int32)) dX11_fact_32 ic_0 ?_
          have h := Option.some.inj h
          subst h
          exact gx_zret dX11_fact_33 rfl rfl (Nat.le_of_ble_eq_true rfl) (Nat.le_of_ble_eq_true rfl) ⟨rfl, rfl⟩
set_option maxRecDepth 4000 in
theorem s_X11_fact_0 {Γ : Cn} {τ : Mm} {N : Nat} {l0 : Nat} {σ : Mm} {o : Int32 × Mm} (h : f_X11_fact N l0 σ = some o) : Gx Γ M_X11_fact 100 τ (PI o) 0 0 0 [(0, .ref (Γ.B + pp l0))] [] σ := by
  unfold f_X11_fact at h
  refine gx_iconst (v := (1 : Int32)) dX11_fact_0 ic_1 ?_
  refine gx_istore_n (lv' := [(1, .int (1 : Int32)), (0, .ref (Γ.B + pp l0))]) dX11_fact_1 rfl (Nat.le_of_ble_eq_true rfl) rfl ?_
  exact gx_sub [1, 0] rfl (s_X11_fact_2  N _ _ _ _ h)
theorem c_X11_fact {Γ : Cn} {τ : Mm} {N : Nat} {l0 : Nat} {σ : Mm} {o : Int32 × Mm} (h : f_X11_fact N l0 σ = some o) : Ct Γ M_X11_fact yX11_fact 100 τ [.ref (Γ.B + pp l0)] σ (PI o) := ct_of (by decide) rfl (fun _ => by first | rfl | contradiction) (Nat.le_of_ble_eq_true rfl) (s_X11_fact_0  h)
abbrev M_X11_isInside : Ms := (cX11_isInside, RX11, 2, (some .boolean), false, 0, 0, 0)
def f_X11_isInside_2 (N : Nat) : Nat → Nat → Int32 → Mm → Option (Int32 × Mm)
  | 0, _, _, _ => none
  | n + 1, l0, l1, σ =>
      (gI 11 20 σ l0).bind fun x1 =>
      if x1 ≤ l1 then (
        some ((0 : Int32), σ)) else (
        (gN 11 19 σ l0).bind fun a3 =>
        (aI 113 σ a3 l1).bind fun x4 =>
        if x4 = (91 : Int32) then (
          some ((1 : Int32), σ)) else (
          f_X11_isInside_2 N n l0 (l1 + (1 : Int32)) σ))
def f_X11_isInside (N : Nat) (l0 : Nat) (σ : Mm) : Option (Int32 × Mm) :=
  f_X11_isInside_2 N N l0 (0 : Int32) σ
theorem mov_X11_isInside : MOV yX11_isInside M_X11_isInside 0 11 100 := ⟨⟨tw_107, tw_1265, ⟨by decide, by decide⟩, by decide +kernel⟩, tw_1264, tw_60, by decide, ⟨_, rfl, rfl⟩, rfl⟩
set_option maxRecDepth 4000 in
theorem s_X11_isInside_2 {Γ : Cn} {τ : Mm} {N : Nat} : ∀ (n : Nat) (l0 : Nat) (l1 : Int32) (σ : Mm) (o : Int32 × Mm), f_X11_isInside_2 N n l0 l1 σ = some o → Gx Γ M_X11_isInside 100 τ (PI o) 0 0 2 [(0, .ref (Γ.B + pp l0)), (1, .int l1)] [] σ := by
  intro n
  induction n with
  | zero =>
    intro l0 l1 σ o h
    exact absurd h (by rw [f_X11_isInside_2]; exact fun q => nomatch q)
  | succ n ih =>
    intro l0 l1 σ o h
    rw [f_X11_isInside_2] at h
    refine gx_iload_n 1 dX11_isInside_2 rfl rfl ?_
    refine gx_aload_n 0 dX11_isInside_3 rfl rfl ?_
    obtain ⟨x1, hx1, h⟩ := bnd h
    refine gx_getI dX11_isInside_4 hx1 fl_X11_140 rfl ?_
    refine gx_icmp_ge 29 dX11_isInside_7 (by decide) (fun c1 => ?_) (fun c1 => ?_)
    · rw [if_pos c1] at h
      refine gx_iconst (v := (0 : Int32)) dX11_isInside_29 ic_0 ?_
      have h := Option.some.inj h
      subst h
      exact gx_zret dX11_isInside_30 rfl rfl (Nat.le_of_ble_eq_true rfl) (Nat.le_of_ble_eq_true rfl) ⟨rfl, rfl⟩
    · rw [if_neg c1] at h
      refine gx_aload_n 0 dX11_isInside_10 rfl rfl ?_
      obtain ⟨a3, ha3, h⟩ := bnd h
      refine gx_getN dX11_isInside_11 ha3 fl_X11_35 rfl ?_
      refine gx_iload_n 1 dX11_isInside_14 rfl rfl ?_
      obtain ⟨x4, hx4, h⟩ := bnd h
      refine gx_iald (kd := 113) dX11_isInside_15 hx4 rfl rfl ?_
      refine gx_bipush (v := (91 : Int32)) dX11_isInside_16 ib_91 ?_
      refine gx_icmp_ne 23 dX11_isInside_18 (by decide) (fun c4 => ?_) (fun c4 => ?_)
      · rw [if_neg c4] at h
        refine gx_iinc (v := (l1 + (1 : Int32))) (lv' := [(1, .int (l1 + (1 : Int32))), (0, .ref (Γ.B + pp l0))]) 1 dX11_isInside_23 rfl (by rw [ic_1]) (Nat.le_of_ble_eq_true rfl) rfl ?_
        refine gx_goto 2 dX11_isInside_26 (by decide) ?_
        exact gx_sub [1, 0] rfl (ih _ _ _ _ h)
      · rw [if_pos c4] at h
        refine gx_iconst (v := (1 : Int32)) dX11_isInside_21 ic_1 ?_
        have h := Option.some.inj h
        subst h
        exact gx_zret dX11_isInside_22 rfl rfl (Nat.le_of_ble_eq_true rfl) (Nat.le_of_ble_eq_true rfl) ⟨rfl, rfl⟩
set_option maxRecDepth 4000 in
theorem s_X11_isInside_0 {Γ : Cn} {τ : Mm} {N : Nat} {l0 : Nat} {σ : Mm} {o : Int32 × Mm} (h : f_X11_isInside N l0 σ = some o) : Gx Γ M_X11_isInside 100 τ (PI o) 0 0 0 [(0, .ref (Γ.B + pp l0))] [] σ := by
  unfold f_X11_isInside at h
  refine gx_iconst (v := (0 : Int32)) dX11_isInside_0 ic_0 ?_
  refine gx_istore_n (lv' := [(1, .int (0 : Int32)), (0, .ref (Γ.B + pp l0))]) dX11_isInside_1 rfl (Nat.le_of_ble_eq_true rfl) rfl ?_
  exact gx_sub [1, 0] rfl (s_X11_isInside_2  N _ _ _ _ h)
theorem c_X11_isInside {Γ : Cn} {τ : Mm} {N : Nat} {l0 : Nat} {σ : Mm} {o : Int32 × Mm} (h : f_X11_isInside N l0 σ = some o) : Ct Γ M_X11_isInside yX11_isInside 100 τ [.ref (Γ.B + pp l0)] σ (PI o) := ct_of (by decide) rfl (fun _ => by first | rfl | contradiction) (Nat.le_of_ble_eq_true rfl) (s_X11_isInside_0  h)
abbrev M_X11_closes : Ms := (cX11_closes, RX11, 1, none, false, 0, 0, 2)
def f_X11_closes_64 (N : Nat) (σ : Mm) : Option Mm :=
  some σ
def f_X11_closes_5 (N : Nat) : Nat → Nat → Mm → Option Mm
  | 0, _, _ => none
  | n + 1, l0, σ =>
      (ob 11 σ l0).bind fun _ =>
      (f_X11_see N l0 σ).bind fun q1 =>
      if q1.1 = (93 : Int32) then (
        (ob 11 q1.2 l0).bind fun _ =>
        (f_X11_isInside N l0 q1.2).bind fun q3 =>
        if q3.1 = 0 then (
          f_X11_closes_64 N q3.2) else (
          (ob 11 q3.2 l0).bind fun _ =>
          (f_X11_settles N l0 (1 : Int32) q3.2).bind fun q5 =>
          (gI 11 20 q5 l0).bind fun x6 =>
          (pI 11 20 q5 l0 (x6 - (1 : Int32))).bind fun s7 =>
          (gI 11 17 s7 l0).bind fun x8 =>
          (pI 11 17 s7 l0 (x8 - (1 : Int32))).bind fun s9 =>
          (gI 11 12 s9 l0).bind fun x10 =>
          (pI 11 12 s9 l0 (x10 + (1 : Int32))).bind fun s11 =>
          (ob 11 s11 l0).bind fun _ =>
          (f_X11_settles N l0 (3 : Int32) s11).bind fun q12 =>
          f_X11_closes_5 N n l0 q12)) else (
        f_X11_closes_64 N q1.2)
def f_X11_closes (N : Nat) (l0 : Nat) (σ : Mm) : Option Mm :=
  (ob 11 σ l0).bind fun _ =>
  (f_X11_settles N l0 (3 : Int32) σ).bind fun q1 =>
  f_X11_closes_5 N N l0 q1
theorem mov_X11_closes : MOV yX11_closes M_X11_closes 0 11 100 := ⟨⟨tw_107, tw_1254, ⟨by decide, by decide⟩, by decide +kernel⟩, tw_1253, tw_58, by decide, ⟨_, rfl, rfl⟩, rfl⟩
set_option maxRecDepth 4000 in
theorem s_X11_closes_64 {Γ : Cn} {τ : Mm} {N : Nat} {σ : Mm} {o : Mm} (h : f_X11_closes_64 N σ = some o) : Gx Γ M_X11_closes 100 τ (PV o) 0 0 64 [] [] σ := by
  unfold f_X11_closes_64 at h
  have h := Option.some.inj h
  subst h
  exact gx_vret dX11_closes_64 rfl (Nat.le_of_ble_eq_true rfl) (Nat.le_of_ble_eq_true rfl) ⟨rfl, rfl⟩
set_option maxRecDepth 4000 in
theorem s_X11_closes_5 {Γ : Cn} {τ : Mm} {N : Nat} : ∀ (n : Nat) (l0 : Nat) (σ : Mm) (o : Mm), f_X11_closes_5 N n l0 σ = some o → Gx Γ M_X11_closes 100 τ (PV o) 0 0 5 [(0, .ref (Γ.B + pp l0))] [] σ := by
  intro n
  induction n with
  | zero =>
    intro l0 σ o h
    exact absurd h (by rw [f_X11_closes_5]; exact fun q => nomatch q)
  | succ n ih =>
    intro l0 σ o h
    rw [f_X11_closes_5] at h
    refine gx_aload_n 0 dX11_closes_5 rfl rfl ?_
    obtain ⟨_, hobq1, h⟩ := bnd h
    obtain ⟨q1, hq1, h⟩ := bnd h
    refine gx_cVI (As := []) (st := []) (o := l0) dX11_closes_6 (c_X11_see hq1) mov_X11_see tw_1157 hobq1 rfl ⟨Nat.le_of_ble_eq_true rfl, Nat.le_of_ble_eq_true rfl⟩ (Nat.le_of_ble_eq_true rfl) ?_
    refine gx_bipush (v := (93 : Int32)) dX11_closes_9 ib_93 ?_
    refine gx_icmp_ne 64 dX11_closes_11 (by decide) (fun c1 => ?_) (fun c1 => ?_)
    · rw [if_neg c1] at h
      exact gx_sub [] rfl (s_X11_closes_64  h)
    · rw [if_pos c1] at h
      refine gx_aload_n 0 dX11_closes_14 rfl rfl ?_
      obtain ⟨_, hobq3, h⟩ := bnd h
      obtain ⟨q3, hq3, h⟩ := bnd h
      refine gx_cVI (As := []) (st := []) (o := l0) dX11_closes_15 (c_X11_isInside hq3) mov_X11_isInside tw_1262 hobq3 rfl ⟨Nat.le_of_ble_eq_true rfl, Nat.le_of_ble_eq_true rfl⟩ (Nat.le_of_ble_eq_true rfl) ?_
      refine gx_if_eq 64 dX11_closes_18 (by decide) (fun c3 => ?_) (fun c3 => ?_)
      · rw [if_pos c3] at h
        exact gx_sub [] rfl (s_X11_closes_64  h)
      · rw [if_neg c3] at h
        refine gx_aload_n 0 dX11_closes_21 rfl rfl ?_
        refine gx_iconst (v := (1 : Int32)) dX11_closes_22 ic_1 ?_
        obtain ⟨_, hobq5, h⟩ := bnd h
        obtain ⟨q5, hq5, h⟩ := bnd h
        refine gx_cVV (As := [.int (1 : Int32)]) (st := []) (o := l0) dX11_closes_23 (c_X11_settles hq5) mov_X11_settles tw_1255 hobq5 rfl ⟨Nat.le_of_ble_eq_true rfl, Nat.le_of_ble_eq_true rfl⟩ (Nat.le_of_ble_eq_true rfl) ?_
        refine gx_aload_n 0 dX11_closes_26 rfl rfl ?_
        refine gx_dup dX11_closes_27 rfl ?_
        obtain ⟨x6, hx6, h⟩ := bnd h
        refine gx_getI dX11_closes_28 hx6 fl_X11_140 rfl ?_
        refine gx_iconst (v := (1 : Int32)) dX11_closes_31 ic_1 ?_
        refine gx_isub dX11_closes_32 ?_
        obtain ⟨s7, hs7, h⟩ := bnd h
        refine gx_putI dX11_closes_33 hs7 fl_X11_140 fp_X11_11_20 rfl ?_
        refine gx_aload_n 0 dX11_closes_36 rfl rfl ?_
        refine gx_dup dX11_closes_37 rfl ?_
        obtain ⟨x8, hx8, h⟩ := bnd h
        refine gx_getI dX11_closes_38 hx8 fl_X11_137 rfl ?_
        refine gx_iconst (v := (1 : Int32)) dX11_closes_41 ic_1 ?_
        refine gx_isub dX11_closes_42 ?_
        obtain ⟨s9, hs9, h⟩ := bnd h
        refine gx_putI dX11_closes_43 hs9 fl_X11_137 fp_X11_11_17 rfl ?_
        refine gx_aload_n 0 dX11_closes_46 rfl rfl ?_
        refine gx_dup dX11_closes_47 rfl ?_
        obtain ⟨x10, hx10, h⟩ := bnd h
        refine gx_getI dX11_closes_48 hx10 fl_X11_81 rfl ?_
        refine gx_iconst (v := (1 : Int32)) dX11_closes_51 ic_1 ?_
        refine gx_iadd dX11_closes_52 ?_
        obtain ⟨s11, hs11, h⟩ := bnd h
        refine gx_putI dX11_closes_53 hs11 fl_X11_81 fp_X11_11_12 rfl ?_
        refine gx_aload_n 0 dX11_closes_56 rfl rfl ?_
        refine gx_iconst (v := (3 : Int32)) dX11_closes_57 ic_3 ?_
        obtain ⟨_, hobq12, h⟩ := bnd h
        obtain ⟨q12, hq12, h⟩ := bnd h
        refine gx_cVV (As := [.int (3 : Int32)]) (st := []) (o := l0) dX11_closes_58 (c_X11_settles hq12) mov_X11_settles tw_1255 hobq12 rfl ⟨Nat.le_of_ble_eq_true rfl, Nat.le_of_ble_eq_true rfl⟩ (Nat.le_of_ble_eq_true rfl) ?_
        refine gx_goto 5 dX11_closes_61 (by decide) ?_
        exact ih _ _ _ h
set_option maxRecDepth 4000 in
theorem s_X11_closes_0 {Γ : Cn} {τ : Mm} {N : Nat} {l0 : Nat} {σ : Mm} {o : Mm} (h : f_X11_closes N l0 σ = some o) : Gx Γ M_X11_closes 100 τ (PV o) 0 0 0 [(0, .ref (Γ.B + pp l0))] [] σ := by
  unfold f_X11_closes at h
  refine gx_aload_n 0 dX11_closes_0 rfl rfl ?_
  refine gx_iconst (v := (3 : Int32)) dX11_closes_1 ic_3 ?_
  obtain ⟨_, hobq1, h⟩ := bnd h
  obtain ⟨q1, hq1, h⟩ := bnd h
  refine gx_cVV (As := [.int (3 : Int32)]) (st := []) (o := l0) dX11_closes_2 (c_X11_settles hq1) mov_X11_settles tw_1255 hobq1 rfl ⟨Nat.le_of_ble_eq_true rfl, Nat.le_of_ble_eq_true rfl⟩ (Nat.le_of_ble_eq_true rfl) ?_
  exact s_X11_closes_5  N _ _ _ h
theorem c_X11_closes {Γ : Cn} {τ : Mm} {N : Nat} {l0 : Nat} {σ : Mm} {o : Mm} (h : f_X11_closes N l0 σ = some o) : Ct Γ M_X11_closes yX11_closes 100 τ [.ref (Γ.B + pp l0)] σ (PV o) := ct_of (by decide) rfl (fun _ => by first | rfl | contradiction) (Nat.le_of_ble_eq_true rfl) (s_X11_closes_0  h)
abbrev M_X11_tested : Ms := (cX11_tested, RX11, 3, (some .boolean), false, 0, 0, 8)
def f_X11_tested_76 (N : Nat) (r_12 : Nat → Int32 → Mm → Option (Int32 × Mm)) (l0 : Nat) (l1 : Int32) (t0 : Int32) (σ : Mm) : Option (Int32 × Mm) :=
  (ob 11 σ l0).bind fun _ =>
  (f_X11_passWord N l0 σ).bind fun q1 =>
  (f_X11_strength N t0 q1).bind fun q2 =>
  (ob 11 q2.2 l0).bind fun _ =>
  (f_X11_settles N l0 q2.1 q2.2).bind fun q3 =>
  (gN 11 19 q3 l0).bind fun a4 =>
  (gI 11 20 q3 l0).bind fun x5 =>
  (sI 113 q3 a4 x5 t0).bind fun s6 =>
  (gI 11 20 s6 l0).bind fun x7 =>
  (pI 11 20 s6 l0 (x7 + (1 : Int32))).bind fun s8 =>
  r_12 l0 l1 s8
def f_X11_tested_54 (N : Nat) (r_12 : Nat → Int32 → Mm → Option (Int32 × Mm)) (l0 : Nat) (t0 : Int32) (σ : Mm) : Option (Int32 × Mm) :=
  if t0 = 0 then (
    r_12 l0 t0 σ) else (
    (ob 11 σ l0).bind fun _ =>
    (f_X11_isWord N l0 (6385252 : Int64) σ).bind fun q2 =>
    if q2.1 = 0 then (
      f_X11_tested_76 N r_12 l0 t0 (13 : Int32) q2.2) else (
      f_X11_tested_76 N r_12 l0 t0 (12 : Int32) q2.2))
def f_X11_tested_49 (N : Nat) (r_12 : Nat → Int32 → Mm → Option (Int32 × Mm)) (l0 : Nat) (σ : Mm) : Option (Int32 × Mm) :=
  f_X11_tested_54 N r_12 l0 (1 : Int32) σ
def f_X11_tested_12 (N : Nat) : Nat → Nat → Int32 → Mm → Option (Int32 × Mm)
  | 0, _, _, _ => none
  | n + 1, l0, l1, σ =>
      if l1 = 0 then (
        (ob 11 σ l0).bind fun _ =>
        (f_X11_isInside N l0 σ).bind fun q2 =>
        if q2.1 = 0 then (
          (ob 11 q2.2 l0).bind fun _ =>
          (f_X11_settles N l0 (1 : Int32) q2.2).bind fun q4 =>
          some ((1 : Int32), q4)) else (
          (ob 11 q2.2 l0).bind fun _ =>
          (f_X11_see N l0 q2.2).bind fun q5 =>
          (gI 11 12 q5.2 l0).bind fun x6 =>
          (ob 11 q5.2 l0).bind fun _ =>
          (f_X11_fails N l0 (0 : Int32) x6 q5.2).bind fun q7 =>
          if q7.1 = 0 ∨ q7.1 = 1 then some (q7.1, q7.2) else none)) else (
        (ob 11 σ l0).bind fun _ =>
        (f_X11_fact N l0 σ).bind fun q8 =>
        if q8.1 = 0 then (
          some ((0 : Int32), q8.2)) else (
          (ob 11 q8.2 l0).bind fun _ =>
          (f_X11_closes N l0 q8.2).bind fun q10 =>
          (ob 11 q10 l0).bind fun _ =>
          (f_X11_isWord N l0 (6385252 : Int64) q10).bind fun q11 =>
          if q11.1 = 0 then (
            (ob 11 q11.2 l0).bind fun _ =>
            (f_X11_isWord N l0 (28530 : Int64) q11.2).bind fun q13 =>
            if q13.1 = 0 then (
              f_X11_tested_54 N (f_X11_tested_12 N n) l0 (0 : Int32) q13.2) else (
              f_X11_tested_49 N (f_X11_tested_12 N n) l0 q13.2)) else (
            f_X11_tested_49 N (f_X11_tested_12 N n) l0 q11.2)))
def f_X11_tested (N : Nat) (l0 : Nat) (σ : Mm) : Option (Int32 × Mm) :=
  (pI 11 20 σ l0 (0 : Int32)).bind fun s1 =>
  (pI 11 17 s1 l0 (0 : Int32)).bind fun s2 =>
  f_X11_tested_12 N N l0 (1 : Int32) s2
theorem mov_X11_tested : MOV yX11_tested M_X11_tested 0 11 100 := ⟨⟨tw_107, tw_1237, ⟨by decide, by decide⟩, by decide +kernel⟩, tw_1236, tw_54, by decide, ⟨_, rfl, rfl⟩, rfl⟩
set_option maxRecDepth 4000 in
theorem s_X11_tested_76 {Γ : Cn} {τ : Mm} {N : Nat} {r_12 : Nat → Int32 → Mm → Option (Int32 × Mm)} (hr_12 : ∀ (l0 : Nat) (l1 : Int32) (σ : Mm) (o : Int32 × Mm), r_12 l0 l1 σ = some o → Gx Γ M_X11_tested 100 τ (PI o) 0 0 12 [(0, .ref (Γ.B + pp l0)), (1, .int l1)] [] σ) {l0 : Nat} {l1 : Int32} {t0 : Int32} {σ : Mm} {o : Int32 × Mm} (h : f_X11_tested_76 N r_12 l0 l1 t0 σ = some o) : Gx Γ M_X11_tested 100 τ (PI o) 0 0 76 [(0, .ref (Γ.B + pp l0)), (1, .int l1)] [.int t0] σ := by
  unfold f_X11_tested_76 at h
  refine gx_istore_n (lv' := [(2, .int t0), (0, .ref (Γ.B + pp l0)), (1, .int l1)]) dX11_tested_76 rfl (Nat.le_of_ble_eq_true rfl) rfl ?_
  refine gx_aload_n 1 dX11_tested_77 rfl rfl ?_
  obtain ⟨_, hobq1, h⟩ := bnd h
  obtain ⟨q1, hq1, h⟩ := bnd h
  refine gx_cVV (As := []) (st := []) (o := l0) dX11_tested_78 (c_X11_passWord hq1) mov_X11_passWord tw_1181 hobq1 rfl ⟨Nat.le_of_ble_eq_true rfl, Nat.le_of_ble_eq_true rfl⟩ (Nat.le_of_ble_eq_true rfl) ?_
  refine gx_aload_n 1 dX11_tested_81 rfl rfl ?_
  refine gx_iload_n 0 dX11_tested_82 rfl rfl ?_
  obtain ⟨q2, hq2, h⟩ := bnd h
  refine gx_cSI (As := [.int t0]) (st := [.ref (Γ.B + pp l0)]) dX11_tested_83 (c_X11_strength hq2) mos_X11_strength tw_1259 rfl ⟨Nat.le_of_ble_eq_true rfl, Nat.le_of_ble_eq_true rfl⟩ (Nat.le_of_ble_eq_true rfl) ?_
  obtain ⟨_, hobq3, h⟩ := bnd h
  obtain ⟨q3, hq3, h⟩ := bnd h
  refine gx_cVV (As := [.int q2.1]) (st := []) (o := l0) dX11_tested_86 (c_X11_settles hq3) mov_X11_settles tw_1255 hobq3 rfl ⟨Nat.le_of_ble_eq_true rfl, Nat.le_of_ble_eq_true rfl⟩ (Nat.le_of_ble_eq_true rfl) ?_
  refine gx_aload_n 1 dX11_tested_89 rfl rfl ?_
  obtain ⟨a4, ha4, h⟩ := bnd h
  refine gx_getN dX11_tested_90 ha4 fl_X11_35 rfl ?_
  refine gx_aload_n 1 dX11_tested_93 rfl rfl ?_
  obtain ⟨x5, hx5, h⟩ := bnd h
  refine gx_getI dX11_tested_94 hx5 fl_X11_140 rfl ?_
  refine gx_iload_n 0 dX11_tested_97 rfl rfl ?_
  obtain ⟨s6, hs6, h⟩ := bnd h
  refine gx_iast (kd := 113) dX11_tested_98 hs6 rfl rfl ?_
  refine gx_aload_n 1 dX11_tested_99 rfl rfl ?_
  refine gx_dup dX11_tested_100 rfl ?_
  obtain ⟨x7, hx7, h⟩ := bnd h
  refine gx_getI dX11_tested_101 hx7 fl_X11_140 rfl ?_
  refine gx_iconst (v := (1 : Int32)) dX11_tested_104 ic_1 ?_
  refine gx_iadd dX11_tested_105 ?_
  obtain ⟨s8, hs8, h⟩ := bnd h
  refine gx_putI dX11_tested_106 hs8 fl_X11_140 fp_X11_11_20 rfl ?_
  refine gx_goto 12 dX11_tested_109 (by decide) ?_
  exact gx_sub [1, 2] rfl (hr_12 _ _ _ _ h)
set_option maxRecDepth 4000 in
theorem s_X11_tested_54 {Γ : Cn} {τ : Mm} {N : Nat} {r_12 : Nat → Int32 → Mm → Option (Int32 × Mm)} (hr_12 : ∀ (l0 : Nat) (l1 : Int32) (σ : Mm) (o : Int32 × Mm), r_12 l0 l1 σ = some o → Gx Γ M_X11_tested 100 τ (PI o) 0 0 12 [(0, .ref (Γ.B + pp l0)), (1, .int l1)] [] σ) {l0 : Nat} {t0 : Int32} {σ : Mm} {o : Int32 × Mm} (h : f_X11_tested_54 N r_12 l0 t0 σ = some o) : Gx Γ M_X11_tested 100 τ (PI o) 0 0 54 [(0, .ref (Γ.B + pp l0))] [.int t0] σ := by
  unfold f_X11_tested_54 at h
  refine gx_istore_n (lv' := [(1, .int t0), (0, .ref (Γ.B + pp l0))]) dX11_tested_54 rfl (Nat.le_of_ble_eq_true rfl) rfl ?_
  refine gx_iload_n 0 dX11_tested_55 rfl rfl ?_
  refine gx_if_eq 12 dX11_tested_56 (by decide) (fun c0 => ?_) (fun c0 => ?_)
  · rw [if_pos c0] at h
    exact gx_sub [1, 0] rfl (hr_12 _ _ _ _ h)
  · rw [if_neg c0] at h
    refine gx_aload_n 1 dX11_tested_59 rfl rfl ?_
    refine gx_ldc2 (v := (6385252 : Int64)) dX11_tested_60 tw_1266 ?_
    obtain ⟨_, hobq2, h⟩ := bnd h
    obtain ⟨q2, hq2, h⟩ := bnd h
    refine gx_cVI (As := [.long (6385252 : Int64)]) (st := []) (o := l0) dX11_tested_63 (c_X11_isWord hq2) mov_X11_isWord tw_1162 hobq2 rfl ⟨Nat.le_of_ble_eq_true rfl, Nat.le_of_ble_eq_true rfl⟩ (Nat.le_of_ble_eq_true rfl) ?_
    refine gx_if_eq 74 dX11_tested_66 (by decide) (fun c2 => ?_) (fun c2 => ?_)
    · rw [if_pos c2] at h
      refine gx_bipush (v := (13 : Int32)) dX11_tested_74 ib_13 ?_
      exact gx_sub [1, 0] rfl (s_X11_tested_76 hr_12 h)
    · rw [if_neg c2] at h
      refine gx_bipush (v := (12 : Int32)) dX11_tested_69 ib_12 ?_
      refine gx_goto 76 dX11_tested_71 (by decide) ?_
      exact gx_sub [1, 0] rfl (s_X11_tested_76 hr_12 h)
set_option maxRecDepth 4000 in
theorem s_X11_tested_49 {Γ : Cn} {τ : Mm} {N : Nat} {r_12 : Nat → Int32 → Mm → Option (Int32 × Mm)} (hr_12 : ∀ (l0 : Nat) (l1 : Int32) (σ : Mm) (o : Int32 × Mm), r_12 l0 l1 σ = some o → Gx Γ M_X11_tested 100 τ (PI o) 0 0 12 [(0, .ref (Γ.B + pp l0)), (1, .int l1)] [] σ) {l0 : Nat} {σ : Mm} {o : Int32 × Mm} (h : f_X11_tested_49 N r_12 l0 σ = some o) : Gx Γ M_X11_tested 100 τ (PI o) 0 0 49 [(0, .ref (Γ.B + pp l0))] [] σ := by
  unfold f_X11_tested_49 at h
  refine gx_iconst (v := (1 : Int32)) dX11_tested_49 ic_1 ?_
  refine gx_goto 54 dX11_tested_50 (by decide) ?_
  exact s_X11_tested_54 hr_12 h
set_option maxRecDepth 4000 in
theorem s_X11_tested_12 {Γ : Cn} {τ : Mm} {N : Nat} : ∀ (n : Nat) (l0 : Nat) (l1 : Int32) (σ : Mm) (o : Int32 × Mm), f_X11_tested_12 N n l0 l1 σ = some o → Gx Γ M_X11_tested 100 τ (PI o) 0 0 12 [(0, .ref (Γ.B + pp l0)), (1, .int l1)] [] σ := by
  intro n
  induction n with
  | zero =>
    intro l0 l1 σ o h
    exact absurd h (by rw [f_X11_tested_12]; exact fun q => nomatch q)
  | succ n ih =>
    intro l0 l1 σ o h
    rw [f_X11_tested_12] at h
    refine gx_iload_n 1 dX11_tested_12 rfl rfl ?_
    refine gx_if_eq 112 dX11_tested_13 (by decide) (fun c0 => ?_) (fun c0 => ?_)
    · rw [if_pos c0] at h
      refine gx_aload_n 0 dX11_tested_112 rfl rfl ?_
      obtain ⟨_, hobq2, h⟩ := bnd h
      obtain ⟨q2, hq2, h⟩ := bnd h
      refine gx_cVI (As := []) (st := []) (o := l0) dX11_tested_113 (c_X11_isInside hq2) mov_X11_isInside tw_1262 hobq2 rfl ⟨Nat.le_of_ble_eq_true rfl, Nat.le_of_ble_eq_true rfl⟩ (Nat.le_of_ble_eq_true rfl) ?_
      refine gx_if_eq 134 dX11_tested_116 (by decide) (fun c2 => ?_) (fun c2 => ?_)
      · rw [if_pos c2] at h
        refine gx_aload_n 0 dX11_tested_134 rfl rfl ?_
        refine gx_iconst (v := (1 : Int32)) dX11_tested_135 ic_1 ?_
        obtain ⟨_, hobq4, h⟩ := bnd h
        obtain ⟨q4, hq4, h⟩ := bnd h
        refine gx_cVV (As := [.int (1 : Int32)]) (st := []) (o := l0) dX11_tested_136 (c_X11_settles hq4) mov_X11_settles tw_1255 hobq4 rfl ⟨Nat.le_of_ble_eq_true rfl, Nat.le_of_ble_eq_true rfl⟩ (Nat.le_of_ble_eq_true rfl) ?_
        refine gx_iconst (v := (1 : Int32)) dX11_tested_139 ic_1 ?_
        have h := Option.some.inj h
        subst h
        exact gx_zret dX11_tested_140 rfl rfl (Nat.le_of_ble_eq_true rfl) (Nat.le_of_ble_eq_true rfl) ⟨rfl, rfl⟩
      · rw [if_neg c2] at h
        refine gx_aload_n 0 dX11_tested_119 rfl rfl ?_
        obtain ⟨_, hobq5, h⟩ := bnd h
        obtain ⟨q5, hq5, h⟩ := bnd h
        refine gx_cVI (As := []) (st := []) (o := l0) dX11_tested_120 (c_X11_see hq5) mov_X11_see tw_1157 hobq5 rfl ⟨Nat.le_of_ble_eq_true rfl, Nat.le_of_ble_eq_true rfl⟩ (Nat.le_of_ble_eq_true rfl) ?_
        refine gx_pop dX11_tested_123 rfl ?_
        refine gx_aload_n 0 dX11_tested_124 rfl rfl ?_
        refine gx_iconst (v := (0 : Int32)) dX11_tested_125 ic_0 ?_
        refine gx_aload_n 0 dX11_tested_126 rfl rfl ?_
        obtain ⟨x6, hx6, h⟩ := bnd h
        refine gx_getI dX11_tested_127 hx6 fl_X11_81 rfl ?_
        obtain ⟨_, hobq7, h⟩ := bnd h
        obtain ⟨q7, hq7, h⟩ := bnd h
        refine gx_cVI (As := [.int (0 : Int32), .int x6]) (st := []) (o := l0) dX11_tested_130 (c_X11_fails hq7) mov_X11_fails tw_1173 hobq7 rfl ⟨Nat.le_of_ble_eq_true rfl, Nat.le_of_ble_eq_true rfl⟩ (Nat.le_of_ble_eq_true rfl) ?_
        obtain ⟨hz, h⟩ := of_if h
        have h := Option.some.inj h
        subst h
        exact gx_zret dX11_tested_133 rfl (nar_z hz) (Nat.le_of_ble_eq_true rfl) (Nat.le_of_ble_eq_true rfl) ⟨rfl, rfl⟩
    · rw [if_neg c0] at h
      refine gx_aload_n 0 dX11_tested_16 rfl rfl ?_
      obtain ⟨_, hobq8, h⟩ := bnd h
      obtain ⟨q8, hq8, h⟩ := bnd h
      refine gx_cVI (As := []) (st := []) (o := l0) dX11_tested_17 (c_X11_fact hq8) mov_X11_fact tw_1238 hobq8 rfl ⟨Nat.le_of_ble_eq_true rfl, Nat.le_of_ble_eq_true rfl⟩ (Nat.le_of_ble_eq_true rfl) ?_
      refine gx_if_ne 25 dX11_tested_20 (by decide) (fun c8 => ?_) (fun c8 => ?_)
      · rw [if_neg c8] at h
        refine gx_aload_n 0 dX11_tested_25 rfl rfl ?_
        obtain ⟨_, hobq10, h⟩ := bnd h
        obtain ⟨q10, hq10, h⟩ := bnd h
        refine gx_cVV (As := []) (st := []) (o := l0) dX11_tested_26 (c_X11_closes hq10) mov_X11_closes tw_1251 hobq10 rfl ⟨Nat.le_of_ble_eq_true rfl, Nat.le_of_ble_eq_true rfl⟩ (Nat.le_of_ble_eq_true rfl) ?_
        refine gx_aload_n 0 dX11_tested_29 rfl rfl ?_
        refine gx_ldc2 (v := (6385252 : Int64)) dX11_tested_30 tw_1266 ?_
        obtain ⟨_, hobq11, h⟩ := bnd h
        obtain ⟨q11, hq11, h⟩ := bnd h
        refine gx_cVI (As := [.long (6385252 : Int64)]) (st := []) (o := l0) dX11_tested_33 (c_X11_isWord hq11) mov_X11_isWord tw_1162 hobq11 rfl ⟨Nat.le_of_ble_eq_true rfl, Nat.le_of_ble_eq_true rfl⟩ (Nat.le_of_ble_eq_true rfl) ?_
        refine gx_if_ne 49 dX11_tested_36 (by decide) (fun c11 => ?_) (fun c11 => ?_)
        · rw [if_neg c11] at h
          exact gx_sub [0] rfl (s_X11_tested_49 ih h)
        · rw [if_pos c11] at h
          refine gx_aload_n 0 dX11_tested_39 rfl rfl ?_
          refine gx_ldc2 (v := (28530 : Int64)) dX11_tested_40 tw_1267 ?_
          obtain ⟨_, hobq13, h⟩ := bnd h
          obtain ⟨q13, hq13, h⟩ := bnd h
          refine gx_cVI (As := [.long (28530 : Int64)]) (st := []) (o := l0) dX11_tested_43 (c_X11_isWord hq13) mov_X11_isWord tw_1162 hobq13 rfl ⟨Nat.le_of_ble_eq_true rfl, Nat.le_of_ble_eq_true rfl⟩ (Nat.le_of_ble_eq_true rfl) ?_
          refine gx_if_eq 53 dX11_tested_46 (by decide) (fun c13 => ?_) (fun c13 => ?_)
          · rw [if_pos c13] at h
            refine gx_iconst (v := (0 : Int32)) dX11_tested_53 ic_0 ?_
            exact gx_sub [0] rfl (s_X11_tested_54 ih h)
          · rw [if_neg c13] at h
            exact gx_sub [0] rfl (s_X11_tested_49 ih h)
      · rw [if_pos c8] at h
        refine gx_iconst (v := (0 : Int32)) dX11_tested_23 ic_0 ?_
        have h := Option.some.inj h
        subst h
        exact gx_zret dX11_tested_24 rfl rfl (Nat.le_of_ble_eq_true rfl) (Nat.le_of_ble_eq_true rfl) ⟨rfl, rfl⟩
set_option maxRecDepth 4000 in
theorem s_X11_tested_0 {Γ : Cn} {τ : Mm} {N : Nat} {l0 : Nat} {σ : Mm} {o : Int32 × Mm} (h : f_X11_tested N l0 σ = some o) : Gx Γ M_X11_tested 100 τ (PI o) 0 0 0 [(0, .ref (Γ.B + pp l0))] [] σ := by
  unfold f_X11_tested at h
  refine gx_aload_n 0 dX11_tested_0 rfl rfl ?_
  refine gx_iconst (v := (0 : Int32)) dX11_tested_1 ic_0 ?_
  obtain ⟨s1, hs1, h⟩ := bnd h
  refine gx_putI dX11_tested_2 hs1 fl_X11_140 fp_X11_11_20 rfl ?_
  refine gx_aload_n 0 dX11_tested_5 rfl rfl ?_
  refine gx_iconst (v := (0 : Int32)) dX11_tested_6 ic_0 ?_
  obtain ⟨s2, hs2, h⟩ := bnd h
  refine gx_putI dX11_tested_7 hs2 fl_X11_137 fp_X11_11_17 rfl ?_
  refine gx_iconst (v := (1 : Int32)) dX11_tested_10 ic_1 ?_
  refine gx_istore_n (lv' := [(1, .int (1 : Int32)), (0, .ref (Γ.B + pp l0))]) dX11_tested_11 rfl (Nat.le_of_ble_eq_true rfl) rfl ?_
  exact gx_sub [1, 0] rfl (s_X11_tested_12  N _ _ _ _ h)
theorem c_X11_tested {Γ : Cn} {τ : Mm} {N : Nat} {l0 : Nat} {σ : Mm} {o : Int32 × Mm} (h : f_X11_tested N l0 σ = some o) : Ct Γ M_X11_tested yX11_tested 100 τ [.ref (Γ.B + pp l0)] σ (PI o) := ct_of (by decide) rfl (fun _ => by first | rfl | contradiction) (Nat.le_of_ble_eq_true rfl) (s_X11_tested_0  h)
abbrev M_X11_isTurnHere : Ms := (cX11_isTurnHere, RX11, 2, (some .boolean), false, 0, 0, 9)
def f_X11_isTurnHere_110 (N : Nat) (l0 : Nat) (l1 : Int32) (σ : Mm) : Option (Int32 × Mm) :=
  (gN 11 5 σ l0).bind fun a1 =>
  (gN 11 4 σ l0).bind fun a2 =>
  (gI 11 15 σ l0).bind fun x3 =>
  (aI 113 σ a2 x3).bind fun x4 =>
  (sI 113 σ a1 (l1 + (3 : Int32)) x4).bind fun s5 =>
  (gN 11 6 s5 l0).bind fun a6 =>
  (gI 11 15 s5 l0).bind fun x7 =>
  (aI 113 s5 a6 x7).bind fun x8 =>
  (sI 113 s5 a6 x7 (x8 + (1 : Int32))).bind fun s9 =>
  some ((1 : Int32), s9)
def f_X11_isTurnHere (N : Nat) (l0 : Nat) (σ : Mm) : Option (Int32 × Mm) :=
  (ob 11 σ l0).bind fun _ =>
  (f_X11_passWord N l0 σ).bind fun q1 =>
  (gI 11 15 q1 l0).bind fun x2 =>
  (gN 11 6 q1 l0).bind fun a3 =>
  (gI 11 15 q1 l0).bind fun x4 =>
  (aI 113 q1 a3 x4).bind fun x5 =>
  (gN 11 5 q1 l0).bind fun a6 =>
  (gN 11 4 q1 l0).bind fun a7 =>
  (gI 11 15 q1 l0).bind fun x8 =>
  (aI 113 q1 a7 x8).bind fun x9 =>
  (sI 113 q1 a6 (((48 : Int32) * x2) + ((4 : Int32) * x5)) x9).bind fun s10 =>
  (ob 11 s10 l0).bind fun _ =>
  (f_X11_sum N l0 s10).bind fun q11 =>
  if q11.1 = 0 then (
    some ((0 : Int32), q11.2)) else (
    (gN 11 5 q11.2 l0).bind fun a13 =>
    (gN 11 4 q11.2 l0).bind fun a14 =>
    (gI 11 15 q11.2 l0).bind fun x15 =>
    (aI 113 q11.2 a14 x15).bind fun x16 =>
    (sI 113 q11.2 a13 ((((48 : Int32) * x2) + ((4 : Int32) * x5)) + (1 : Int32)) x16).bind fun s17 =>
    (gN 11 5 s17 l0).bind fun a18 =>
    (sI 113 s17 a18 ((((48 : Int32) * x2) + ((4 : Int32) * x5)) + (2 : Int32)) (-1 : Int32)).bind fun s19 =>
    (ob 11 s19 l0).bind fun _ =>
    (f_X11_takesWord N l0 (26982 : Int64) s19).bind fun q20 =>
    if q20.1 = 0 then (
      f_X11_isTurnHere_110 N l0 (((48 : Int32) * x2) + ((4 : Int32) * x5)) q20.2) else (
      (gN 11 5 q20.2 l0).bind fun a22 =>
      (gN 11 4 q20.2 l0).bind fun a23 =>
      (gI 11 15 q20.2 l0).bind fun x24 =>
      (aI 113 q20.2 a23 x24).bind fun x25 =>
      (sI 113 q20.2 a22 ((((48 : Int32) * x2) + ((4 : Int32) * x5)) + (2 : Int32)) x25).bind fun s26 =>
      (ob 11 s26 l0).bind fun _ =>
      (f_X11_tested N l0 s26).bind fun q27 =>
      if q27.1 = 0 then (
        some ((0 : Int32), q27.2)) else (
        f_X11_isTurnHere_110 N l0 (((48 : Int32) * x2) + ((4 : Int32) * x5)) q27.2)))
theorem mov_X11_isTurnHere : MOV yX11_isTurnHere M_X11_isTurnHere 0 11 100 := ⟨⟨tw_107, tw_1180, ⟨by decide, by decide⟩, by decide +kernel⟩, tw_1179, tw_43, by decide, ⟨_, rfl, rfl⟩, rfl⟩
set_option maxRecDepth 4000 in
theorem s_X11_isTurnHere_110 {Γ : Cn} {τ : Mm} {N : Nat} {l0 : Nat} {l1 : Int32} {σ : Mm} {o : Int32 × Mm} (h : f_X11_isTurnHere_110 N l0 l1 σ = some o) : Gx Γ M_X11_isTurnHere 100 τ (PI o) 0 0 110 [(0, .ref (Γ.B + pp l0)), (1, .int l1)] [] σ := by
  unfold f_X11_isTurnHere_110 at h
  refine gx_aload_n 0 dX11_isTurnHere_110 rfl rfl ?_
  obtain ⟨a1, ha1, h⟩ := bnd h
  refine gx_getN dX11_isTurnHere_111 ha1 fl_X11_20 rfl ?_
  refine gx_iload_n 1 dX11_isTurnHere_114 rfl rfl ?_
  refine gx_iconst (v := (3 : Int32)) dX11_isTurnHere_115 ic_3 ?_
  refine gx_iadd dX11_isTurnHere_116 ?_
  refine gx_aload_n 0 dX11_isTurnHere_117 rfl rfl ?_
  obtain ⟨a2, ha2, h⟩ := bnd h
  refine gx_getN dX11_isTurnHere_118 ha2 fl_X11_17 rfl ?_
  refine gx_aload_n 0 dX11_isTurnHere_121 rfl rfl ?_
  obtain ⟨x3, hx3, h⟩ := bnd h
  refine gx_getI dX11_isTurnHere_122 hx3 fl_X11_131 rfl ?_
  obtain ⟨x4, hx4, h⟩ := bnd h
  refine gx_iald (kd := 113) dX11_isTurnHere_125 hx4 rfl rfl ?_
  obtain ⟨s5, hs5, h⟩ := bnd h
  refine gx_iast (kd := 113) dX11_isTurnHere_126 hs5 rfl rfl ?_
  refine gx_aload_n 0 dX11_isTurnHere_127 rfl rfl ?_
  obtain ⟨a6, ha6, h⟩ := bnd h
  refine gx_getN dX11_isTurnHere_128 ha6 fl_X11_23 rfl ?_
  refine gx_aload_n 0 dX11_isTurnHere_131 rfl rfl ?_
  obtain ⟨x7, hx7, h⟩ := bnd h
  refine gx_getI dX11_isTurnHere_132 hx7 fl_X11_131 rfl ?_
  refine gx_dup2 dX11_isTurnHere_135 rfl rfl ?_
  obtain ⟨x8, hx8, h⟩ := bnd h
  refine gx_iald (kd := 113) dX11_isTurnHere_136 hx8 rfl rfl ?_
  refine gx_iconst (v := (1 : Int32)) dX11_isTurnHere_137 ic_1 ?_
  refine gx_iadd dX11_isTurnHere_138 ?_
  obtain ⟨s9, hs9, h⟩ := bnd h
  refine gx_iast (kd := 113) dX11_isTurnHere_139 hs9 rfl rfl ?_
  refine gx_iconst (v := (1 : Int32)) dX11_isTurnHere_140 ic_1 ?_
  have h := Option.some.inj h
  subst h
  exact gx_zret dX11_isTurnHere_141 rfl rfl (Nat.le_of_ble_eq_true rfl) (Nat.le_of_ble_eq_true rfl) ⟨rfl, rfl⟩
set_option maxRecDepth 4000 in
theorem s_X11_isTurnHere_0 {Γ : Cn} {τ : Mm} {N : Nat} {l0 : Nat} {σ : Mm} {o : Int32 × Mm} (h : f_X11_isTurnHere N l0 σ = some o) : Gx Γ M_X11_isTurnHere 100 τ (PI o) 0 0 0 [(0, .ref (Γ.B + pp l0))] [] σ := by
  unfold f_X11_isTurnHere at h
  refine gx_aload_n 0 dX11_isTurnHere_0 rfl rfl ?_
  obtain ⟨_, hobq1, h⟩ := bnd h
  obtain ⟨q1, hq1, h⟩ := bnd h
  refine gx_cVV (As := []) (st := []) (o := l0) dX11_isTurnHere_1 (c_X11_passWord hq1) mov_X11_passWord tw_1181 hobq1 rfl ⟨Nat.le_of_ble_eq_true rfl, Nat.le_of_ble_eq_true rfl⟩ (Nat.le_of_ble_eq_true rfl) ?_
  refine gx_bipush (v := (48 : Int32)) dX11_isTurnHere_4 ib_48 ?_
  refine gx_aload_n 0 dX11_isTurnHere_6 rfl rfl ?_
  obtain ⟨x2, hx2, h⟩ := bnd h
  refine gx_getI dX11_isTurnHere_7 hx2 fl_X11_131 rfl ?_
  refine gx_imul dX11_isTurnHere_10 ?_
  refine gx_iconst (v := (4 : Int32)) dX11_isTurnHere_11 ic_4 ?_
  refine gx_aload_n 0 dX11_isTurnHere_12 rfl rfl ?_
  obtain ⟨a3, ha3, h⟩ := bnd h
  refine gx_getN dX11_isTurnHere_13 ha3 fl_X11_23 rfl ?_
  refine gx_aload_n 0 dX11_isTurnHere_16 rfl rfl ?_
  obtain ⟨x4, hx4, h⟩ := bnd h
  refine gx_getI dX11_isTurnHere_17 hx4 fl_X11_131 rfl ?_
  obtain ⟨x5, hx5, h⟩ := bnd h
  refine gx_iald (kd := 113) dX11_isTurnHere_20 hx5 rfl rfl ?_
  refine gx_imul dX11_isTurnHere_21 ?_
  refine gx_iadd dX11_isTurnHere_22 ?_
  refine gx_istore_n (lv' := [(1, .int (((48 : Int32) * x2) + ((4 : Int32) * x5))), (0, .ref (Γ.B + pp l0))]) dX11_isTurnHere_23 rfl (Nat.le_of_ble_eq_true rfl) rfl ?_
  refine gx_aload_n 1 dX11_isTurnHere_24 rfl rfl ?_
  obtain ⟨a6, ha6, h⟩ := bnd h
  refine gx_getN dX11_isTurnHere_25 ha6 fl_X11_20 rfl ?_
  refine gx_iload_n 0 dX11_isTurnHere_28 rfl rfl ?_
  refine gx_aload_n 1 dX11_isTurnHere_29 rfl rfl ?_
  obtain ⟨a7, ha7, h⟩ := bnd h
  refine gx_getN dX11_isTurnHere_30 ha7 fl_X11_17 rfl ?_
  refine gx_aload_n 1 dX11_isTurnHere_33 rfl rfl ?_
  obtain ⟨x8, hx8, h⟩ := bnd h
  refine gx_getI dX11_isTurnHere_34 hx8 fl_X11_131 rfl ?_
  obtain ⟨x9, hx9, h⟩ := bnd h
  refine gx_iald (kd := 113) dX11_isTurnHere_37 hx9 rfl rfl ?_
  obtain ⟨s10, hs10, h⟩ := bnd h
  refine gx_iast (kd := 113) dX11_isTurnHere_38 hs10 rfl rfl ?_
  refine gx_aload_n 1 dX11_isTurnHere_39 rfl rfl ?_
  obtain ⟨_, hobq11, h⟩ := bnd h
  obtain ⟨q11, hq11, h⟩ := bnd h
  refine gx_cVI (As := []) (st := []) (o := l0) dX11_isTurnHere_40 (c_X11_sum hq11) mov_X11_sum tw_1185 hobq11 rfl ⟨Nat.le_of_ble_eq_true rfl, Nat.le_of_ble_eq_true rfl⟩ (Nat.le_of_ble_eq_true rfl) ?_
  refine gx_if_ne 48 dX11_isTurnHere_43 (by decide) (fun c11 => ?_) (fun c11 => ?_)
  · rw [if_neg c11] at h
    refine gx_aload_n 1 dX11_isTurnHere_48 rfl rfl ?_
    obtain ⟨a13, ha13, h⟩ := bnd h
    refine gx_getN dX11_isTurnHere_49 ha13 fl_X11_20 rfl ?_
    refine gx_iload_n 0 dX11_isTurnHere_52 rfl rfl ?_
    refine gx_iconst (v := (1 : Int32)) dX11_isTurnHere_53 ic_1 ?_
    refine gx_iadd dX11_isTurnHere_54 ?_
    refine gx_aload_n 1 dX11_isTurnHere_55 rfl rfl ?_
    obtain ⟨a14, ha14, h⟩ := bnd h
    refine gx_getN dX11_isTurnHere_56 ha14 fl_X11_17 rfl ?_
    refine gx_aload_n 1 dX11_isTurnHere_59 rfl rfl ?_
    obtain ⟨x15, hx15, h⟩ := bnd h
    refine gx_getI dX11_isTurnHere_60 hx15 fl_X11_131 rfl ?_
    obtain ⟨x16, hx16, h⟩ := bnd h
    refine gx_iald (kd := 113) dX11_isTurnHere_63 hx16 rfl rfl ?_
    obtain ⟨s17, hs17, h⟩ := bnd h
    refine gx_iast (kd := 113) dX11_isTurnHere_64 hs17 rfl rfl ?_
    refine gx_aload_n 1 dX11_isTurnHere_65 rfl rfl ?_
    obtain ⟨a18, ha18, h⟩ := bnd h
    refine gx_getN dX11_isTurnHere_66 ha18 fl_X11_20 rfl ?_
    refine gx_iload_n 0 dX11_isTurnHere_69 rfl rfl ?_
    refine gx_iconst (v := (2 : Int32)) dX11_isTurnHere_70 ic_2 ?_
    refine gx_iadd dX11_isTurnHere_71 ?_
    refine gx_iconst (v := (-1 : Int32)) dX11_isTurnHere_72 ic_m1 ?_
    obtain ⟨s19, hs19, h⟩ := bnd h
    refine gx_iast (kd := 113) dX11_isTurnHere_73 hs19 rfl rfl ?_
    refine gx_aload_n 1 dX11_isTurnHere_74 rfl rfl ?_
    refine gx_ldc2 (v := (26982 : Int64)) dX11_isTurnHere_75 tw_1229 ?_
    obtain ⟨_, hobq20, h⟩ := bnd h
    obtain ⟨q20, hq20, h⟩ := bnd h
    refine gx_cVI (As := [.long (26982 : Int64)]) (st := []) (o := l0) dX11_isTurnHere_78 (c_X11_takesWord hq20) mov_X11_takesWord tw_1230 hobq20 rfl ⟨Nat.le_of_ble_eq_true rfl, Nat.le_of_ble_eq_true rfl⟩ (Nat.le_of_ble_eq_true rfl) ?_
    refine gx_if_eq 110 dX11_isTurnHere_81 (by decide) (fun c20 => ?_) (fun c20 => ?_)
    · rw [if_pos c20] at h
      exact gx_sub [1, 0] rfl (s_X11_isTurnHere_110  h)
    · rw [if_neg c20] at h
      refine gx_aload_n 1 dX11_isTurnHere_84 rfl rfl ?_
      obtain ⟨a22, ha22, h⟩ := bnd h
      refine gx_getN dX11_isTurnHere_85 ha22 fl_X11_20 rfl ?_
      refine gx_iload_n 0 dX11_isTurnHere_88 rfl rfl ?_
      refine gx_iconst (v := (2 : Int32)) dX11_isTurnHere_89 ic_2 ?_
      refine gx_iadd dX11_isTurnHere_90 ?_
      refine gx_aload_n 1 dX11_isTurnHere_91 rfl rfl ?_
      obtain ⟨a23, ha23, h⟩ := bnd h
      refine gx_getN dX11_isTurnHere_92 ha23 fl_X11_17 rfl ?_
      refine gx_aload_n 1 dX11_isTurnHere_95 rfl rfl ?_
      obtain ⟨x24, hx24, h⟩ := bnd h
      refine gx_getI dX11_isTurnHere_96 hx24 fl_X11_131 rfl ?_
      obtain ⟨x25, hx25, h⟩ := bnd h
      refine gx_iald (kd := 113) dX11_isTurnHere_99 hx25 rfl rfl ?_
      obtain ⟨s26, hs26, h⟩ := bnd h
      refine gx_iast (kd := 113) dX11_isTurnHere_100 hs26 rfl rfl ?_
      refine gx_aload_n 1 dX11_isTurnHere_101 rfl rfl ?_
      obtain ⟨_, hobq27, h⟩ := bnd h
      obtain ⟨q27, hq27, h⟩ := bnd h
      refine gx_cVI (As := []) (st := []) (o := l0) dX11_isTurnHere_102 (c_X11_tested hq27) mov_X11_tested tw_1234 hobq27 rfl ⟨Nat.le_of_ble_eq_true rfl, Nat.le_of_ble_eq_true rfl⟩ (Nat.le_of_ble_eq_true rfl) ?_
      refine gx_if_ne 110 dX11_isTurnHere_105 (by decide) (fun c27 => ?_) (fun c27 => ?_)
      · rw [if_neg c27] at h
        exact gx_sub [1, 0] rfl (s_X11_isTurnHere_110  h)
      · rw [if_pos c27] at h
        refine gx_iconst (v := (0 : Int32)) dX11_isTurnHere_108 ic_0 ?_
        have h := Option.some.inj h
        subst h
        exact gx_zret dX11_isTurnHere_109 rfl rfl (Nat.le_of_ble_eq_true rfl) (Nat.le_of_ble_eq_true rfl) ⟨rfl, rfl⟩
  · rw [if_pos c11] at h
    refine gx_iconst (v := (0 : Int32)) dX11_isTurnHere_46 ic_0 ?_
    have h := Option.some.inj h
    subst h
    exact gx_zret dX11_isTurnHere_47 rfl rfl (Nat.le_of_ble_eq_true rfl) (Nat.le_of_ble_eq_true rfl) ⟨rfl, rfl⟩
theorem c_X11_isTurnHere {Γ : Cn} {τ : Mm} {N : Nat} {l0 : Nat} {σ : Mm} {o : Int32 × Mm} (h : f_X11_isTurnHere N l0 σ = some o) : Ct Γ M_X11_isTurnHere yX11_isTurnHere 100 τ [.ref (Γ.B + pp l0)] σ (PI o) := ct_of (by decide) rfl (fun _ => by first | rfl | contradiction) (Nat.le_of_ble_eq_true rfl) (s_X11_isTurnHere_0  h)
abbrev M_X11_mostOf : Ms := (cX11_mostOf, RX11, 1, (some .int), false, 0, 0, 0)
def f_X11_mostOf_31 (N : Nat) (t0 : Int32) (σ : Mm) : Option (Int32 × Mm) :=
  some (t0, σ)
def f_X11_mostOf (N : Nat) (l0 : Int32) (σ : Mm) : Option (Int32 × Mm) :=
  if (3 : Int32) ≤ l0 then (
    if l0 = (3 : Int32) then (
      f_X11_mostOf_31 N (99 : Int32) σ) else (
      if l0 = (4 : Int32) then (
        f_X11_mostOf_31 N (3 : Int32) σ) else (
        f_X11_mostOf_31 N (7 : Int32) σ))) else (
    f_X11_mostOf_31 N (9 : Int32) σ)
theorem mos_X11_mostOf : MOS yX11_mostOf M_X11_mostOf 1 := ⟨⟨tw_107, tw_1274, ⟨by decide, by decide⟩, by decide +kernel⟩, tw_1273⟩
set_option maxRecDepth 4000 in
theorem s_X11_mostOf_31 {Γ : Cn} {τ : Mm} {N : Nat} {t0 : Int32} {σ : Mm} {o : Int32 × Mm} (h : f_X11_mostOf_31 N t0 σ = some o) : Gx Γ M_X11_mostOf 100 τ (PI o) 0 0 31 [] [.int t0] σ := by
  unfold f_X11_mostOf_31 at h
  have h := Option.some.inj h
  subst h
  exact gx_iret dX11_mostOf_31 rfl (Nat.le_of_ble_eq_true rfl) (Nat.le_of_ble_eq_true rfl) ⟨rfl, rfl⟩
set_option maxRecDepth 4000 in
theorem s_X11_mostOf_0 {Γ : Cn} {τ : Mm} {N : Nat} {l0 : Int32} {σ : Mm} {o : Int32 × Mm} (h : f_X11_mostOf N l0 σ = some o) : Gx Γ M_X11_mostOf 100 τ (PI o) 0 0 0 [(0, .int l0)] [] σ := by
  unfold f_X11_mostOf at h
  refine gx_iload_n 0 dX11_mostOf_0 rfl rfl ?_
  refine gx_iconst (v := (3 : Int32)) dX11_mostOf_1 ic_3 ?_
  refine gx_icmp_ge 10 dX11_mostOf_2 (by decide) (fun c0 => ?_) (fun c0 => ?_)
  · rw [if_pos c0] at h
    refine gx_iload_n 0 dX11_mostOf_10 rfl rfl ?_
    refine gx_iconst (v := (3 : Int32)) dX11_mostOf_11 ic_3 ?_
    refine gx_icmp_ne 20 dX11_mostOf_12 (by decide) (fun c1 => ?_) (fun c1 => ?_)
    · rw [if_neg c1] at h
      refine gx_iload_n 0 dX11_mostOf_20 rfl rfl ?_
      refine gx_iconst (v := (4 : Int32)) dX11_mostOf_21 ic_4 ?_
      refine gx_icmp_ne 29 dX11_mostOf_22 (by decide) (fun c2 => ?_) (fun c2 => ?_)
      · rw [if_neg c2] at h
        refine gx_bipush (v := (7 : Int32)) dX11_mostOf_29 ib_7 ?_
        exact gx_sub [] rfl (s_X11_mostOf_31  h)
      · rw [if_pos c2] at h
        refine gx_iconst (v := (3 : Int32)) dX11_mostOf_25 ic_3 ?_
        refine gx_goto 31 dX11_mostOf_26 (by decide) ?_
        exact gx_sub [] rfl (s_X11_mostOf_31  h)
    · rw [if_pos c1] at h
      refine gx_bipush (v := (99 : Int32)) dX11_mostOf_15 ib_99 ?_
      refine gx_goto 31 dX11_mostOf_17 (by decide) ?_
      exact gx_sub [] rfl (s_X11_mostOf_31  h)
  · rw [if_neg c0] at h
    refine gx_bipush (v := (9 : Int32)) dX11_mostOf_5 ib_9 ?_
    refine gx_goto 31 dX11_mostOf_7 (by decide) ?_
    exact gx_sub [] rfl (s_X11_mostOf_31  h)
theorem c_X11_mostOf {Γ : Cn} {τ : Mm} {N : Nat} {l0 : Int32} {σ : Mm} {o : Int32 × Mm} (h : f_X11_mostOf N l0 σ = some o) : Ct Γ M_X11_mostOf yX11_mostOf 100 τ [.int l0] σ (PI o) := ct_of (by decide) rfl (fun _ => by first | rfl | contradiction) (Nat.le_of_ble_eq_true rfl) (s_X11_mostOf_0  h)
