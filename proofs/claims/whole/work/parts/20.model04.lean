abbrev M_X11_bend : Ms := (cX11_bend, RX11, 4, (some .int), false, 0, 0, 2)
def f_X11_bend_15 (N : Nat) (σ : Mm) : Option (Int32 × Mm) :=
  some ((-1 : Int32), σ)
def f_X11_bend (N : Nat) (l0 : Nat) (l1 : Int32) (l2 : Int32) (σ : Mm) : Option (Int32 × Mm) :=
  (ob 11 σ l0).bind fun _ =>
  (f_X11_isCock N l0 l1 σ).bind fun q1 =>
  if q1.1 = 0 then (
    f_X11_bend_15 N q1.2) else (
    (f_X11_isPoint N l2 q1.2).bind fun q3 =>
    if q3.1 = 0 then (
      f_X11_bend_15 N q3.2) else (
      (ob 11 q3.2 l0).bind fun _ =>
      (f_X11_cockOf N l0 l1 (5 : Int32) q3.2).bind fun q5 =>
      (ob 11 q5.2 l0).bind fun _ =>
      (f_X11_bendCost N l0 l1 q5.1 l2 q5.2).bind fun q6 =>
      (gN 11 24 q6.2 l0).bind fun a7 =>
      (sI 113 q6.2 a7 (((4 : Int32) + ((7 : Int32) * l1)) + (5 : Int32)) l2).bind fun s8 =>
      some (q6.1, s8)))
theorem mov_X11_bend : MOV yX11_bend M_X11_bend 2 11 100 := ⟨⟨tw_107, tw_1377, ⟨by decide, by decide⟩, by decide +kernel⟩, tw_1375, tw_1376, by decide, ⟨_, rfl, rfl⟩, rfl⟩
set_option maxRecDepth 4000 in
theorem s_X11_bend_15 {Γ : Cn} {τ : Mm} {N : Nat} {σ : Mm} {o : Int32 × Mm} (h : f_X11_bend_15 N σ = some o) : Gx Γ M_X11_bend 100 τ (PI o) 0 0 15 [] [] σ := by
  unfold f_X11_bend_15 at h
  refine gx_iconst (v := (-1 : Int32)) dX11_bend_15 ic_m1 ?_
  have h := Option.some.inj h
  subst h
  exact gx_iret dX11_bend_16 rfl (Nat.le_of_ble_eq_true rfl) (Nat.le_of_ble_eq_true rfl) ⟨rfl, rfl⟩
set_option maxRecDepth 4000 in
theorem s_X11_bend_0 {Γ : Cn} {τ : Mm} {N : Nat} {l0 : Nat} {l1 : Int32} {l2 : Int32} {σ : Mm} {o : Int32 × Mm} (h : f_X11_bend N l0 l1 l2 σ = some o) : Gx Γ M_X11_bend 100 τ (PI o) 0 0 0 [(0, .ref (Γ.B + pp l0)), (1, .int l1), (2, .int l2)] [] σ := by
  unfold f_X11_bend at h
  refine gx_aload_n 0 dX11_bend_0 rfl rfl ?_
  refine gx_iload_n 1 dX11_bend_1 rfl rfl ?_
  obtain ⟨_, hobq1, h⟩ := bnd h
  obtain ⟨q1, hq1, h⟩ := bnd h
  refine gx_cVI (As := [.int l1]) (st := []) (o := l0) dX11_bend_2 (c_X11_isCock hq1) mov_X11_isCock tw_1291 hobq1 rfl ⟨Nat.le_of_ble_eq_true rfl, Nat.le_of_ble_eq_true rfl⟩ (Nat.le_of_ble_eq_true rfl) ?_
  refine gx_if_eq 15 dX11_bend_5 (by decide) (fun c1 => ?_) (fun c1 => ?_)
  · rw [if_pos c1] at h
    exact gx_sub [] rfl (s_X11_bend_15  h)
  · rw [if_neg c1] at h
    refine gx_iload_n 2 dX11_bend_8 rfl rfl ?_
    obtain ⟨q3, hq3, h⟩ := bnd h
    refine gx_cSI (As := [.int l2]) (st := []) dX11_bend_9 (c_X11_isPoint hq3) mos_X11_isPoint tw_1318 rfl ⟨Nat.le_of_ble_eq_true rfl, Nat.le_of_ble_eq_true rfl⟩ (Nat.le_of_ble_eq_true rfl) ?_
    refine gx_if_ne 17 dX11_bend_12 (by decide) (fun c3 => ?_) (fun c3 => ?_)
    · rw [if_neg c3] at h
      refine gx_aload_n 0 dX11_bend_17 rfl rfl ?_
      refine gx_iload_n 1 dX11_bend_18 rfl rfl ?_
      refine gx_aload_n 0 dX11_bend_19 rfl rfl ?_
      refine gx_iload_n 1 dX11_bend_20 rfl rfl ?_
      refine gx_iconst (v := (5 : Int32)) dX11_bend_21 ic_5 ?_
      obtain ⟨_, hobq5, h⟩ := bnd h
      obtain ⟨q5, hq5, h⟩ := bnd h
      refine gx_cVI (As := [.int l1, .int (5 : Int32)]) (st := [.int l1, .ref (Γ.B + pp l0)]) (o := l0) dX11_bend_22 (c_X11_cockOf hq5) mov_X11_cockOf tw_1296 hobq5 rfl ⟨Nat.le_of_ble_eq_true rfl, Nat.le_of_ble_eq_true rfl⟩ (Nat.le_of_ble_eq_true rfl) ?_
      refine gx_iload_n 2 dX11_bend_25 rfl rfl ?_
      obtain ⟨_, hobq6, h⟩ := bnd h
      obtain ⟨q6, hq6, h⟩ := bnd h
      refine gx_cVI (As := [.int l1, .int q5.1, .int l2]) (st := []) (o := l0) dX11_bend_26 (c_X11_bendCost hq6) mov_X11_bendCost tw_1378 hobq6 rfl ⟨Nat.le_of_ble_eq_true rfl, Nat.le_of_ble_eq_true rfl⟩ (Nat.le_of_ble_eq_true rfl) ?_
      refine gx_istore_n (lv' := [(3, .int q6.1), (0, .ref (Γ.B + pp l0)), (1, .int l1), (2, .int l2)]) dX11_bend_29 rfl (Nat.le_of_ble_eq_true rfl) rfl ?_
      refine gx_aload_n 1 dX11_bend_30 rfl rfl ?_
      obtain ⟨a7, ha7, h⟩ := bnd h
      refine gx_getN dX11_bend_31 ha7 fl_X11_45 rfl ?_
      refine gx_iconst (v := (4 : Int32)) dX11_bend_34 ic_4 ?_
      refine gx_bipush (v := (7 : Int32)) dX11_bend_35 ib_7 ?_
      refine gx_iload_n 2 dX11_bend_37 rfl rfl ?_
      refine gx_imul dX11_bend_38 ?_
      refine gx_iadd dX11_bend_39 ?_
      refine gx_iconst (v := (5 : Int32)) dX11_bend_40 ic_5 ?_
      refine gx_iadd dX11_bend_41 ?_
      refine gx_iload_n 3 dX11_bend_42 rfl rfl ?_
      obtain ⟨s8, hs8, h⟩ := bnd h
      refine gx_iast (kd := 113) dX11_bend_43 hs8 rfl rfl ?_
      refine gx_iload_n 0 dX11_bend_44 rfl rfl ?_
      have h := Option.some.inj h
      subst h
      exact gx_iret dX11_bend_45 rfl (Nat.le_of_ble_eq_true rfl) (Nat.le_of_ble_eq_true rfl) ⟨rfl, rfl⟩
    · rw [if_pos c3] at h
      exact gx_sub [] rfl (s_X11_bend_15  h)
theorem c_X11_bend {Γ : Cn} {τ : Mm} {N : Nat} {l0 : Nat} {l1 : Int32} {l2 : Int32} {σ : Mm} {o : Int32 × Mm} (h : f_X11_bend N l0 l1 l2 σ = some o) : Ct Γ M_X11_bend yX11_bend 100 τ [.ref (Γ.B + pp l0), .int l1, .int l2] σ (PI o) := ct_of (by decide) rfl (fun _ => by first | rfl | contradiction) (Nat.le_of_ble_eq_true rfl) (s_X11_bend_0  h)
abbrev M_X11_rusts : Ms := (cX11_rusts, RX11, 4, (some .int), false, 0, 0, 1)
def f_X11_rusts_20 (N : Nat) (σ : Mm) : Option (Int32 × Mm) :=
  some ((-1 : Int32), σ)
def f_X11_rusts (N : Nat) (l0 : Nat) (l1 : Int32) (l2 : Int32) (σ : Mm) : Option (Int32 × Mm) :=
  (ob 11 σ l0).bind fun _ =>
  (f_X11_isCock N l0 l1 σ).bind fun q1 =>
  if q1.1 = 0 then (
    f_X11_rusts_20 N q1.2) else (
    (f_X11_in N (Int32.toInt64 l2) (0 : Int64) (9 : Int64) q1.2).bind fun q3 =>
    if q3.1 = 0 then (
      f_X11_rusts_20 N q3.2) else (
      (ob 11 q3.2 l0).bind fun _ =>
      (f_X11_cockOf N l0 l1 (2 : Int32) q3.2).bind fun q5 =>
      (gN 11 24 q5.2 l0).bind fun a6 =>
      (sI 113 q5.2 a6 (((4 : Int32) + ((7 : Int32) * l1)) + (2 : Int32)) l2).bind fun s7 =>
      some (q5.1, s7)))
theorem mov_X11_rusts : MOV yX11_rusts M_X11_rusts 2 11 100 := ⟨⟨tw_107, tw_1389, ⟨by decide, by decide⟩, by decide +kernel⟩, tw_1387, tw_1388, by decide, ⟨_, rfl, rfl⟩, rfl⟩
set_option maxRecDepth 4000 in
theorem s_X11_rusts_20 {Γ : Cn} {τ : Mm} {N : Nat} {σ : Mm} {o : Int32 × Mm} (h : f_X11_rusts_20 N σ = some o) : Gx Γ M_X11_rusts 100 τ (PI o) 0 0 20 [] [] σ := by
  unfold f_X11_rusts_20 at h
  refine gx_iconst (v := (-1 : Int32)) dX11_rusts_20 ic_m1 ?_
  have h := Option.some.inj h
  subst h
  exact gx_iret dX11_rusts_21 rfl (Nat.le_of_ble_eq_true rfl) (Nat.le_of_ble_eq_true rfl) ⟨rfl, rfl⟩
set_option maxRecDepth 4000 in
theorem s_X11_rusts_0 {Γ : Cn} {τ : Mm} {N : Nat} {l0 : Nat} {l1 : Int32} {l2 : Int32} {σ : Mm} {o : Int32 × Mm} (h : f_X11_rusts N l0 l1 l2 σ = some o) : Gx Γ M_X11_rusts 100 τ (PI o) 0 0 0 [(0, .ref (Γ.B + pp l0)), (1, .int l1), (2, .int l2)] [] σ := by
  unfold f_X11_rusts at h
  refine gx_aload_n 0 dX11_rusts_0 rfl rfl ?_
  refine gx_iload_n 1 dX11_rusts_1 rfl rfl ?_
  obtain ⟨_, hobq1, h⟩ := bnd h
  obtain ⟨q1, hq1, h⟩ := bnd h
  refine gx_cVI (As := [.int l1]) (st := []) (o := l0) dX11_rusts_2 (c_X11_isCock hq1) mov_X11_isCock tw_1291 hobq1 rfl ⟨Nat.le_of_ble_eq_true rfl, Nat.le_of_ble_eq_true rfl⟩ (Nat.le_of_ble_eq_true rfl) ?_
  refine gx_if_eq 20 dX11_rusts_5 (by decide) (fun c1 => ?_) (fun c1 => ?_)
  · rw [if_pos c1] at h
    exact gx_sub [] rfl (s_X11_rusts_20  h)
  · rw [if_neg c1] at h
    refine gx_iload_n 2 dX11_rusts_8 rfl rfl ?_
    refine gx_i2l dX11_rusts_9 ?_
    refine gx_lconst (v := (0 : Int64)) dX11_rusts_10 (by decide) ?_
    refine gx_ldc2 (v := (9 : Int64)) dX11_rusts_11 tw_1390 ?_
    obtain ⟨q3, hq3, h⟩ := bnd h
    refine gx_cSI (As := [.long (Int32.toInt64 l2), .long (0 : Int64), .long (9 : Int64)]) (st := []) dX11_rusts_14 (c_X11_in hq3) mos_X11_in tw_1206 rfl ⟨Nat.le_of_ble_eq_true rfl, Nat.le_of_ble_eq_true rfl⟩ (Nat.le_of_ble_eq_true rfl) ?_
    refine gx_if_ne 22 dX11_rusts_17 (by decide) (fun c3 => ?_) (fun c3 => ?_)
    · rw [if_neg c3] at h
      refine gx_aload_n 0 dX11_rusts_22 rfl rfl ?_
      refine gx_iload_n 1 dX11_rusts_23 rfl rfl ?_
      refine gx_iconst (v := (2 : Int32)) dX11_rusts_24 ic_2 ?_
      obtain ⟨_, hobq5, h⟩ := bnd h
      obtain ⟨q5, hq5, h⟩ := bnd h
      refine gx_cVI (As := [.int l1, .int (2 : Int32)]) (st := []) (o := l0) dX11_rusts_25 (c_X11_cockOf hq5) mov_X11_cockOf tw_1296 hobq5 rfl ⟨Nat.le_of_ble_eq_true rfl, Nat.le_of_ble_eq_true rfl⟩ (Nat.le_of_ble_eq_true rfl) ?_
      refine gx_istore_n (lv' := [(3, .int q5.1), (0, .ref (Γ.B + pp l0)), (1, .int l1), (2, .int l2)]) dX11_rusts_28 rfl (Nat.le_of_ble_eq_true rfl) rfl ?_
      refine gx_aload_n 1 dX11_rusts_29 rfl rfl ?_
      obtain ⟨a6, ha6, h⟩ := bnd h
      refine gx_getN dX11_rusts_30 ha6 fl_X11_45 rfl ?_
      refine gx_iconst (v := (4 : Int32)) dX11_rusts_33 ic_4 ?_
      refine gx_bipush (v := (7 : Int32)) dX11_rusts_34 ib_7 ?_
      refine gx_iload_n 2 dX11_rusts_36 rfl rfl ?_
      refine gx_imul dX11_rusts_37 ?_
      refine gx_iadd dX11_rusts_38 ?_
      refine gx_iconst (v := (2 : Int32)) dX11_rusts_39 ic_2 ?_
      refine gx_iadd dX11_rusts_40 ?_
      refine gx_iload_n 3 dX11_rusts_41 rfl rfl ?_
      obtain ⟨s7, hs7, h⟩ := bnd h
      refine gx_iast (kd := 113) dX11_rusts_42 hs7 rfl rfl ?_
      refine gx_iload_n 0 dX11_rusts_43 rfl rfl ?_
      have h := Option.some.inj h
      subst h
      exact gx_iret dX11_rusts_44 rfl (Nat.le_of_ble_eq_true rfl) (Nat.le_of_ble_eq_true rfl) ⟨rfl, rfl⟩
    · rw [if_pos c3] at h
      exact gx_sub [] rfl (s_X11_rusts_20  h)
theorem c_X11_rusts {Γ : Cn} {τ : Mm} {N : Nat} {l0 : Nat} {l1 : Int32} {l2 : Int32} {σ : Mm} {o : Int32 × Mm} (h : f_X11_rusts N l0 l1 l2 σ = some o) : Ct Γ M_X11_rusts yX11_rusts 100 τ [.ref (Γ.B + pp l0), .int l1, .int l2] σ (PI o) := ct_of (by decide) rfl (fun _ => by first | rfl | contradiction) (Nat.le_of_ble_eq_true rfl) (s_X11_rusts_0  h)
abbrev M_X11_oil : Ms := (cX11_oil, RX11, 2, (some .int), false, 0, 0, 2)
def f_X11_oil (N : Nat) (l0 : Nat) (l1 : Int32) (σ : Mm) : Option (Int32 × Mm) :=
  (ob 11 σ l0).bind fun _ =>
  (f_X11_rusts N l0 l1 (0 : Int32) σ).bind fun q1 =>
  some (q1.1, q1.2)
theorem mov_X11_oil : MOV yX11_oil M_X11_oil 1 11 100 := ⟨⟨tw_107, tw_1385, ⟨by decide, by decide⟩, by decide +kernel⟩, tw_1383, tw_1384, by decide, ⟨_, rfl, rfl⟩, rfl⟩
set_option maxRecDepth 4000 in
theorem s_X11_oil_0 {Γ : Cn} {τ : Mm} {N : Nat} {l0 : Nat} {l1 : Int32} {σ : Mm} {o : Int32 × Mm} (h : f_X11_oil N l0 l1 σ = some o) : Gx Γ M_X11_oil 100 τ (PI o) 0 0 0 [(0, .ref (Γ.B + pp l0)), (1, .int l1)] [] σ := by
  unfold f_X11_oil at h
  refine gx_aload_n 0 dX11_oil_0 rfl rfl ?_
  refine gx_iload_n 1 dX11_oil_1 rfl rfl ?_
  refine gx_iconst (v := (0 : Int32)) dX11_oil_2 ic_0 ?_
  obtain ⟨_, hobq1, h⟩ := bnd h
  obtain ⟨q1, hq1, h⟩ := bnd h
  refine gx_cVI (As := [.int l1, .int (0 : Int32)]) (st := []) (o := l0) dX11_oil_3 (c_X11_rusts hq1) mov_X11_rusts tw_1386 hobq1 rfl ⟨Nat.le_of_ble_eq_true rfl, Nat.le_of_ble_eq_true rfl⟩ (Nat.le_of_ble_eq_true rfl) ?_
  have h := Option.some.inj h
  subst h
  exact gx_iret dX11_oil_6 rfl (Nat.le_of_ble_eq_true rfl) (Nat.le_of_ble_eq_true rfl) ⟨rfl, rfl⟩
theorem c_X11_oil {Γ : Cn} {τ : Mm} {N : Nat} {l0 : Nat} {l1 : Int32} {σ : Mm} {o : Int32 × Mm} (h : f_X11_oil N l0 l1 σ = some o) : Ct Γ M_X11_oil yX11_oil 100 τ [.ref (Γ.B + pp l0), .int l1] σ (PI o) := ct_of (by decide) rfl (fun _ => by first | rfl | contradiction) (Nat.le_of_ble_eq_true rfl) (s_X11_oil_0  h)
abbrev M_X11_fell : Ms := (cX11_fell, RX11, 3, (some .boolean), false, 0, 0, 1)
def f_X11_fell_27 (N : Nat) (σ : Mm) : Option (Int32 × Mm) :=
  some ((0 : Int32), σ)
def f_X11_fell_50 (N : Nat) (t0 : Nat) (t1 : Int32) (t2 : Int32) (σ : Mm) : Option (Int32 × Mm) :=
  (sI 113 σ t0 t1 t2).bind fun s1 =>
  some ((1 : Int32), s1)
def f_X11_fell_23 (N : Nat) (l0 : Nat) (l1 : Int32) (l2 : Int32) (t0 : Int32) (σ : Mm) : Option (Int32 × Mm) :=
  if t0 = l2 then (
    f_X11_fell_27 N σ) else (
    (gN 11 24 σ l0).bind fun a2 =>
    if l2 = 0 then (
      f_X11_fell_50 N a2 (((88 : Int32) + ((3 : Int32) * l1)) + (2 : Int32)) (0 : Int32) σ) else (
      f_X11_fell_50 N a2 (((88 : Int32) + ((3 : Int32) * l1)) + (2 : Int32)) (1 : Int32) σ))
def f_X11_fell (N : Nat) (l0 : Nat) (l1 : Int32) (l2 : Int32) (σ : Mm) : Option (Int32 × Mm) :=
  (ob 11 σ l0).bind fun _ =>
  (f_X11_isTree N l0 l1 σ).bind fun q1 =>
  if q1.1 = 0 then (
    f_X11_fell_27 N q1.2) else (
    (ob 11 q1.2 l0).bind fun _ =>
    (f_X11_treeOf N l0 l1 (2 : Int32) q1.2).bind fun q3 =>
    if q3.1 = (1 : Int32) then (
      f_X11_fell_23 N l0 l1 l2 (1 : Int32) q3.2) else (
      f_X11_fell_23 N l0 l1 l2 (0 : Int32) q3.2))
theorem mov_X11_fell : MOV yX11_fell M_X11_fell 2 11 100 := ⟨⟨tw_107, tw_1395, ⟨by decide, by decide⟩, by decide +kernel⟩, tw_1393, tw_1394, by decide, ⟨_, rfl, rfl⟩, rfl⟩
set_option maxRecDepth 4000 in
theorem s_X11_fell_27 {Γ : Cn} {τ : Mm} {N : Nat} {σ : Mm} {o : Int32 × Mm} (h : f_X11_fell_27 N σ = some o) : Gx Γ M_X11_fell 100 τ (PI o) 0 0 27 [] [] σ := by
  unfold f_X11_fell_27 at h
  refine gx_iconst (v := (0 : Int32)) dX11_fell_27 ic_0 ?_
  have h := Option.some.inj h
  subst h
  exact gx_zret dX11_fell_28 rfl rfl (Nat.le_of_ble_eq_true rfl) (Nat.le_of_ble_eq_true rfl) ⟨rfl, rfl⟩
set_option maxRecDepth 4000 in
theorem s_X11_fell_50 {Γ : Cn} {τ : Mm} {N : Nat} {t0 : Nat} {t1 : Int32} {t2 : Int32} {σ : Mm} {o : Int32 × Mm} (h : f_X11_fell_50 N t0 t1 t2 σ = some o) : Gx Γ M_X11_fell 100 τ (PI o) 0 0 50 [] [.int t2, .int t1, .ref (Γ.B + pp t0)] σ := by
  unfold f_X11_fell_50 at h
  obtain ⟨s1, hs1, h⟩ := bnd h
  refine gx_iast (kd := 113) dX11_fell_50 hs1 rfl rfl ?_
  refine gx_iconst (v := (1 : Int32)) dX11_fell_51 ic_1 ?_
  have h := Option.some.inj h
  subst h
  exact gx_zret dX11_fell_52 rfl rfl (Nat.le_of_ble_eq_true rfl) (Nat.le_of_ble_eq_true rfl) ⟨rfl, rfl⟩
set_option maxRecDepth 4000 in
theorem s_X11_fell_23 {Γ : Cn} {τ : Mm} {N : Nat} {l0 : Nat} {l1 : Int32} {l2 : Int32} {t0 : Int32} {σ : Mm} {o : Int32 × Mm} (h : f_X11_fell_23 N l0 l1 l2 t0 σ = some o) : Gx Γ M_X11_fell 100 τ (PI o) 0 0 23 [(0, .ref (Γ.B + pp l0)), (1, .int l1), (2, .int l2)] [.int t0] σ := by
  unfold f_X11_fell_23 at h
  refine gx_iload_n 2 dX11_fell_23 rfl rfl ?_
  refine gx_icmp_ne 29 dX11_fell_24 (by decide) (fun c0 => ?_) (fun c0 => ?_)
  · rw [if_neg c0] at h
    refine gx_aload_n 0 dX11_fell_29 rfl rfl ?_
    obtain ⟨a2, ha2, h⟩ := bnd h
    refine gx_getN dX11_fell_30 ha2 fl_X11_45 rfl ?_
    refine gx_bipush (v := (88 : Int32)) dX11_fell_33 ib_88 ?_
    refine gx_iconst (v := (3 : Int32)) dX11_fell_35 ic_3 ?_
    refine gx_iload_n 1 dX11_fell_36 rfl rfl ?_
    refine gx_imul dX11_fell_37 ?_
    refine gx_iadd dX11_fell_38 ?_
    refine gx_iconst (v := (2 : Int32)) dX11_fell_39 ic_2 ?_
    refine gx_iadd dX11_fell_40 ?_
    refine gx_iload_n 2 dX11_fell_41 rfl rfl ?_
    refine gx_if_eq 49 dX11_fell_42 (by decide) (fun c2 => ?_) (fun c2 => ?_)
    · rw [if_pos c2] at h
      refine gx_iconst (v := (0 : Int32)) dX11_fell_49 ic_0 ?_
      exact gx_sub [] rfl (s_X11_fell_50  h)
    · rw [if_neg c2] at h
      refine gx_iconst (v := (1 : Int32)) dX11_fell_45 ic_1 ?_
      refine gx_goto 50 dX11_fell_46 (by decide) ?_
      exact gx_sub [] rfl (s_X11_fell_50  h)
  · rw [if_pos c0] at h
    exact gx_sub [] rfl (s_X11_fell_27  h)
set_option maxRecDepth 4000 in
theorem s_X11_fell_0 {Γ : Cn} {τ : Mm} {N : Nat} {l0 : Nat} {l1 : Int32} {l2 : Int32} {σ : Mm} {o : Int32 × Mm} (h : f_X11_fell N l0 l1 l2 σ = some o) : Gx Γ M_X11_fell 100 τ (PI o) 0 0 0 [(0, .ref (Γ.B + pp l0)), (1, .int l1), (2, .int l2)] [] σ := by
  unfold f_X11_fell at h
  refine gx_aload_n 0 dX11_fell_0 rfl rfl ?_
  refine gx_iload_n 1 dX11_fell_1 rfl rfl ?_
  obtain ⟨_, hobq1, h⟩ := bnd h
  obtain ⟨q1, hq1, h⟩ := bnd h
  refine gx_cVI (As := [.int l1]) (st := []) (o := l0) dX11_fell_2 (c_X11_isTree hq1) mov_X11_isTree tw_1304 hobq1 rfl ⟨Nat.le_of_ble_eq_true rfl, Nat.le_of_ble_eq_true rfl⟩ (Nat.le_of_ble_eq_true rfl) ?_
  refine gx_if_eq 27 dX11_fell_5 (by decide) (fun c1 => ?_) (fun c1 => ?_)
  · rw [if_pos c1] at h
    exact gx_sub [] rfl (s_X11_fell_27  h)
  · rw [if_neg c1] at h
    refine gx_aload_n 0 dX11_fell_8 rfl rfl ?_
    refine gx_iload_n 1 dX11_fell_9 rfl rfl ?_
    refine gx_iconst (v := (2 : Int32)) dX11_fell_10 ic_2 ?_
    obtain ⟨_, hobq3, h⟩ := bnd h
    obtain ⟨q3, hq3, h⟩ := bnd h
    refine gx_cVI (As := [.int l1, .int (2 : Int32)]) (st := []) (o := l0) dX11_fell_11 (c_X11_treeOf hq3) mov_X11_treeOf tw_1309 hobq3 rfl ⟨Nat.le_of_ble_eq_true rfl, Nat.le_of_ble_eq_true rfl⟩ (Nat.le_of_ble_eq_true rfl) ?_
    refine gx_iconst (v := (1 : Int32)) dX11_fell_14 ic_1 ?_
    refine gx_icmp_ne 22 dX11_fell_15 (by decide) (fun c3 => ?_) (fun c3 => ?_)
    · rw [if_neg c3] at h
      refine gx_iconst (v := (0 : Int32)) dX11_fell_22 ic_0 ?_
      exact s_X11_fell_23  h
    · rw [if_pos c3] at h
      refine gx_iconst (v := (1 : Int32)) dX11_fell_18 ic_1 ?_
      refine gx_goto 23 dX11_fell_19 (by decide) ?_
      exact s_X11_fell_23  h
theorem c_X11_fell {Γ : Cn} {τ : Mm} {N : Nat} {l0 : Nat} {l1 : Int32} {l2 : Int32} {σ : Mm} {o : Int32 × Mm} (h : f_X11_fell N l0 l1 l2 σ = some o) : Ct Γ M_X11_fell yX11_fell 100 τ [.ref (Γ.B + pp l0), .int l1, .int l2] σ (PI o) := ct_of (by decide) rfl (fun _ => by first | rfl | contradiction) (Nat.le_of_ble_eq_true rfl) (s_X11_fell_0  h)
abbrev M_X11_morning : Ms := (cX11_morning, RX11, 3, (some .int), false, 0, 0, 1)
def f_X11_morning_36 (N : Nat) (r_4 : Nat → Int32 → Int32 → Mm → Option (Int32 × Mm)) (l0 : Nat) (l2 : Int32) (t0 : Int32) (t1 : Int32) (σ : Mm) : Option (Int32 × Mm) :=
  (gN 11 24 σ l0).bind fun a1 =>
  (ob 11 σ l0).bind fun _ =>
  (f_X11_cockOf N l0 l2 (5 : Int32) σ).bind fun q2 =>
  (sI 113 q2.2 a1 (((4 : Int32) + ((7 : Int32) * l2)) + (6 : Int32)) q2.1).bind fun s3 =>
  r_4 l0 (t0 + t1) (l2 + (1 : Int32)) s3
def f_X11_morning_4 (N : Nat) : Nat → Nat → Int32 → Int32 → Mm → Option (Int32 × Mm)
  | 0, _, _, _, _ => none
  | n + 1, l0, l1, l2, σ =>
      (gN 11 24 σ l0).bind fun a1 =>
      (aI 113 σ a1 (0 : Int32)).bind fun x2 =>
      if x2 ≤ l2 then (
        some (l1, σ)) else (
        (ob 11 σ l0).bind fun _ =>
        (f_X11_cockOf N l0 l2 (5 : Int32) σ).bind fun q4 =>
        (ob 11 q4.2 l0).bind fun _ =>
        (f_X11_cockOf N l0 l2 (6 : Int32) q4.2).bind fun q5 =>
        if q4.1 = q5.1 then (
          f_X11_morning_36 N (f_X11_morning_4 N n) l0 l2 l1 (0 : Int32) q5.2) else (
          f_X11_morning_36 N (f_X11_morning_4 N n) l0 l2 l1 (1 : Int32) q5.2))
def f_X11_morning (N : Nat) (l0 : Nat) (σ : Mm) : Option (Int32 × Mm) :=
  f_X11_morning_4 N N l0 (0 : Int32) (0 : Int32) σ
theorem mov_X11_morning : MOV yX11_morning M_X11_morning 0 11 100 := ⟨⟨tw_107, tw_1399, ⟨by decide, by decide⟩, by decide +kernel⟩, tw_1397, tw_1398, by decide, ⟨_, rfl, rfl⟩, rfl⟩
set_option maxRecDepth 4000 in
theorem s_X11_morning_36 {Γ : Cn} {τ : Mm} {N : Nat} {r_4 : Nat → Int32 → Int32 → Mm → Option (Int32 × Mm)} (hr_4 : ∀ (l0 : Nat) (l1 : Int32) (l2 : Int32) (σ : Mm) (o : Int32 × Mm), r_4 l0 l1 l2 σ = some o → Gx Γ M_X11_morning 100 τ (PI o) 0 0 4 [(0, .ref (Γ.B + pp l0)), (1, .int l1), (2, .int l2)] [] σ) {l0 : Nat} {l2 : Int32} {t0 : Int32} {t1 : Int32} {σ : Mm} {o : Int32 × Mm} (h : f_X11_morning_36 N r_4 l0 l2 t0 t1 σ = some o) : Gx Γ M_X11_morning 100 τ (PI o) 0 0 36 [(0, .ref (Γ.B + pp l0)), (2, .int l2)] [.int t1, .int t0] σ := by
  unfold f_X11_morning_36 at h
  refine gx_iadd dX11_morning_36 ?_
  refine gx_istore_n (lv' := [(1, .int (t0 + t1)), (0, .ref (Γ.B + pp l0)), (2, .int l2)]) dX11_morning_37 rfl (Nat.le_of_ble_eq_true rfl) rfl ?_
  refine gx_aload_n 1 dX11_morning_38 rfl rfl ?_
  obtain ⟨a1, ha1, h⟩ := bnd h
  refine gx_getN dX11_morning_39 ha1 fl_X11_45 rfl ?_
  refine gx_iconst (v := (4 : Int32)) dX11_morning_42 ic_4 ?_
  refine gx_bipush (v := (7 : Int32)) dX11_morning_43 ib_7 ?_
  refine gx_iload_n 2 dX11_morning_45 rfl rfl ?_
  refine gx_imul dX11_morning_46 ?_
  refine gx_iadd dX11_morning_47 ?_
  refine gx_bipush (v := (6 : Int32)) dX11_morning_48 ib_6 ?_
  refine gx_iadd dX11_morning_50 ?_
  refine gx_aload_n 1 dX11_morning_51 rfl rfl ?_
  refine gx_iload_n 2 dX11_morning_52 rfl rfl ?_
  refine gx_iconst (v := (5 : Int32)) dX11_morning_53 ic_5 ?_
  obtain ⟨_, hobq2, h⟩ := bnd h
  obtain ⟨q2, hq2, h⟩ := bnd h
  refine gx_cVI (As := [.int l2, .int (5 : Int32)]) (st := [.int (((4 : Int32) + ((7 : Int32) * l2)) + (6 : Int32)), .ref (Γ.B + pp a1)]) (o := l0) dX11_morning_54 (c_X11_cockOf hq2) mov_X11_cockOf tw_1296 hobq2 rfl ⟨Nat.le_of_ble_eq_true rfl, Nat.le_of_ble_eq_true rfl⟩ (Nat.le_of_ble_eq_true rfl) ?_
  obtain ⟨s3, hs3, h⟩ := bnd h
  refine gx_iast (kd := 113) dX11_morning_57 hs3 rfl rfl ?_
  refine gx_iinc (v := (l2 + (1 : Int32))) (lv' := [(2, .int (l2 + (1 : Int32))), (1, .int (t0 + t1)), (0, .ref (Γ.B + pp l0))]) 2 dX11_morning_58 rfl (by rw [ic_1]) (Nat.le_of_ble_eq_true rfl) rfl ?_
  refine gx_goto 4 dX11_morning_61 (by decide) ?_
  exact gx_sub [2, 1, 0] rfl (hr_4 _ _ _ _ _ h)
set_option maxRecDepth 4000 in
theorem s_X11_morning_4 {Γ : Cn} {τ : Mm} {N : Nat} : ∀ (n : Nat) (l0 : Nat) (l1 : Int32) (l2 : Int32) (σ : Mm) (o : Int32 × Mm), f_X11_morning_4 N n l0 l1 l2 σ = some o → Gx Γ M_X11_morning 100 τ (PI o) 0 0 4 [(0, .ref (Γ.B + pp l0)), (1, .int l1), (2, .int l2)] [] σ := by
  intro n
  induction n with
  | zero =>
    intro l0 l1 l2 σ o h
    exact absurd h (by rw [f_X11_morning_4]; exact fun q => nomatch q)
  | succ n ih =>
    intro l0 l1 l2 σ o h
    rw [f_X11_morning_4] at h
    refine gx_iload_n 2 dX11_morning_4 rfl rfl ?_
    refine gx_aload_n 0 dX11_morning_5 rfl rfl ?_
    obtain ⟨a1, ha1, h⟩ := bnd h
    refine gx_getN dX11_morning_6 ha1 fl_X11_45 rfl ?_
    refine gx_iconst (v := (0 : Int32)) dX11_morning_9 ic_0 ?_
    obtain ⟨x2, hx2, h⟩ := bnd h
    refine gx_iald (kd := 113) dX11_morning_10 hx2 rfl rfl ?_
    refine gx_icmp_ge 64 dX11_morning_11 (by decide) (fun c2 => ?_) (fun c2 => ?_)
    · rw [if_pos c2] at h
      refine gx_iload_n 1 dX11_morning_64 rfl rfl ?_
      have h := Option.some.inj h
      subst h
      exact gx_iret dX11_morning_65 rfl (Nat.le_of_ble_eq_true rfl) (Nat.le_of_ble_eq_true rfl) ⟨rfl, rfl⟩
    · rw [if_neg c2] at h
      refine gx_iload_n 1 dX11_morning_14 rfl rfl ?_
      refine gx_aload_n 0 dX11_morning_15 rfl rfl ?_
      refine gx_iload_n 2 dX11_morning_16 rfl rfl ?_
      refine gx_iconst (v := (5 : Int32)) dX11_morning_17 ic_5 ?_
      obtain ⟨_, hobq4, h⟩ := bnd h
      obtain ⟨q4, hq4, h⟩ := bnd h
      refine gx_cVI (As := [.int l2, .int (5 : Int32)]) (st := [.int l1]) (o := l0) dX11_morning_18 (c_X11_cockOf hq4) mov_X11_cockOf tw_1296 hobq4 rfl ⟨Nat.le_of_ble_eq_true rfl, Nat.le_of_ble_eq_true rfl⟩ (Nat.le_of_ble_eq_true rfl) ?_
      refine gx_aload_n 0 dX11_morning_21 rfl rfl ?_
      refine gx_iload_n 2 dX11_morning_22 rfl rfl ?_
      refine gx_bipush (v := (6 : Int32)) dX11_morning_23 ib_6 ?_
      obtain ⟨_, hobq5, h⟩ := bnd h
      obtain ⟨q5, hq5, h⟩ := bnd h
      refine gx_cVI (As := [.int l2, .int (6 : Int32)]) (st := [.int q4.1, .int l1]) (o := l0) dX11_morning_25 (c_X11_cockOf hq5) mov_X11_cockOf tw_1296 hobq5 rfl ⟨Nat.le_of_ble_eq_true rfl, Nat.le_of_ble_eq_true rfl⟩ (Nat.le_of_ble_eq_true rfl) ?_
      refine gx_icmp_ne 35 dX11_morning_28 (by decide) (fun c5 => ?_) (fun c5 => ?_)
      · rw [if_neg c5] at h
        refine gx_iconst (v := (1 : Int32)) dX11_morning_35 ic_1 ?_
        exact gx_sub [0, 2] rfl (s_X11_morning_36 ih h)
      · rw [if_pos c5] at h
        refine gx_iconst (v := (0 : Int32)) dX11_morning_31 ic_0 ?_
        refine gx_goto 36 dX11_morning_32 (by decide) ?_
        exact gx_sub [0, 2] rfl (s_X11_morning_36 ih h)
set_option maxRecDepth 4000 in
theorem s_X11_morning_0 {Γ : Cn} {τ : Mm} {N : Nat} {l0 : Nat} {σ : Mm} {o : Int32 × Mm} (h : f_X11_morning N l0 σ = some o) : Gx Γ M_X11_morning 100 τ (PI o) 0 0 0 [(0, .ref (Γ.B + pp l0))] [] σ := by
  unfold f_X11_morning at h
  refine gx_iconst (v := (0 : Int32)) dX11_morning_0 ic_0 ?_
  refine gx_istore_n (lv' := [(1, .int (0 : Int32)), (0, .ref (Γ.B + pp l0))]) dX11_morning_1 rfl (Nat.le_of_ble_eq_true rfl) rfl ?_
  refine gx_iconst (v := (0 : Int32)) dX11_morning_2 ic_0 ?_
  refine gx_istore_n (lv' := [(2, .int (0 : Int32)), (1, .int (0 : Int32)), (0, .ref (Γ.B + pp l0))]) dX11_morning_3 rfl (Nat.le_of_ble_eq_true rfl) rfl ?_
  exact gx_sub [2, 1, 0] rfl (s_X11_morning_4  N _ _ _ _ _ h)
theorem c_X11_morning {Γ : Cn} {τ : Mm} {N : Nat} {l0 : Nat} {σ : Mm} {o : Int32 × Mm} (h : f_X11_morning N l0 σ = some o) : Ct Γ M_X11_morning yX11_morning 100 τ [.ref (Γ.B + pp l0)] σ (PI o) := ct_of (by decide) rfl (fun _ => by first | rfl | contradiction) (Nat.le_of_ble_eq_true rfl) (s_X11_morning_0  h)
abbrev M_X11_asTheyAre : Ms := (cX11_asTheyAre, RX11, 2, none, false, 0, 0, 1)
def f_X11_asTheyAre_2 (N : Nat) : Nat → Nat → Int32 → Mm → Option Mm
  | 0, _, _, _ => none
  | n + 1, l0, l1, σ =>
      (gN 11 24 σ l0).bind fun a1 =>
      (aI 113 σ a1 (0 : Int32)).bind fun x2 =>
      if x2 ≤ l1 then (
        some σ) else (
        (gN 11 25 σ l0).bind fun a4 =>
        (ob 11 σ l0).bind fun _ =>
        (f_X11_cockOf N l0 l1 (5 : Int32) σ).bind fun q5 =>
        (sI 113 q5.2 a4 l1 q5.1).bind fun s6 =>
        f_X11_asTheyAre_2 N n l0 (l1 + (1 : Int32)) s6)
def f_X11_asTheyAre (N : Nat) (l0 : Nat) (σ : Mm) : Option Mm :=
  f_X11_asTheyAre_2 N N l0 (0 : Int32) σ
theorem mov_X11_asTheyAre : MOV yX11_asTheyAre M_X11_asTheyAre 0 11 100 := ⟨⟨tw_107, tw_1410, ⟨by decide, by decide⟩, by decide +kernel⟩, tw_1409, tw_77, by decide, ⟨_, rfl, rfl⟩, rfl⟩
set_option maxRecDepth 4000 in
theorem s_X11_asTheyAre_2 {Γ : Cn} {τ : Mm} {N : Nat} : ∀ (n : Nat) (l0 : Nat) (l1 : Int32) (σ : Mm) (o : Mm), f_X11_asTheyAre_2 N n l0 l1 σ = some o → Gx Γ M_X11_asTheyAre 100 τ (PV o) 0 0 2 [(0, .ref (Γ.B + pp l0)), (1, .int l1)] [] σ := by
  intro n
  induction n with
  | zero =>
    intro l0 l1 σ o h
    exact absurd h (by rw [f_X11_asTheyAre_2]; exact fun q => nomatch q)
  | succ n ih =>
    intro l0 l1 σ o h
    rw [f_X11_asTheyAre_2] at h
    refine gx_iload_n 1 dX11_asTheyAre_2 rfl rfl ?_
    refine gx_aload_n 0 dX11_asTheyAre_3 rfl rfl ?_
    obtain ⟨a1, ha1, h⟩ := bnd h
    refine gx_getN dX11_asTheyAre_4 ha1 fl_X11_45 rfl ?_
    refine gx_iconst (v := (0 : Int32)) dX11_asTheyAre_7 ic_0 ?_
    obtain ⟨x2, hx2, h⟩ := bnd h
    refine gx_iald (kd := 113) dX11_asTheyAre_8 hx2 rfl rfl ?_
    refine gx_icmp_ge 30 dX11_asTheyAre_9 (by decide) (fun c2 => ?_) (fun c2 => ?_)
    · rw [if_pos c2] at h
      have h := Option.some.inj h
      subst h
      exact gx_vret dX11_asTheyAre_30 rfl (Nat.le_of_ble_eq_true rfl) (Nat.le_of_ble_eq_true rfl) ⟨rfl, rfl⟩
    · rw [if_neg c2] at h
      refine gx_aload_n 0 dX11_asTheyAre_12 rfl rfl ?_
      obtain ⟨a4, ha4, h⟩ := bnd h
      refine gx_getN dX11_asTheyAre_13 ha4 fl_X11_48 rfl ?_
      refine gx_iload_n 1 dX11_asTheyAre_16 rfl rfl ?_
      refine gx_aload_n 0 dX11_asTheyAre_17 rfl rfl ?_
      refine gx_iload_n 1 dX11_asTheyAre_18 rfl rfl ?_
      refine gx_iconst (v := (5 : Int32)) dX11_asTheyAre_19 ic_5 ?_
      obtain ⟨_, hobq5, h⟩ := bnd h
      obtain ⟨q5, hq5, h⟩ := bnd h
      refine gx_cVI (As := [.int l1, .int (5 : Int32)]) (st := [.int l1, .ref (Γ.B + pp a4)]) (o := l0) dX11_asTheyAre_20 (c_X11_cockOf hq5) mov_X11_cockOf tw_1296 hobq5 rfl ⟨Nat.le_of_ble_eq_true rfl, Nat.le_of_ble_eq_true rfl⟩ (Nat.le_of_ble_eq_true rfl) ?_
      obtain ⟨s6, hs6, h⟩ := bnd h
      refine gx_iast (kd := 113) dX11_asTheyAre_23 hs6 rfl rfl ?_
      refine gx_iinc (v := (l1 + (1 : Int32))) (lv' := [(1, .int (l1 + (1 : Int32))), (0, .ref (Γ.B + pp l0))]) 1 dX11_asTheyAre_24 rfl (by rw [ic_1]) (Nat.le_of_ble_eq_true rfl) rfl ?_
      refine gx_goto 2 dX11_asTheyAre_27 (by decide) ?_
      exact gx_sub [1, 0] rfl (ih _ _ _ _ h)
set_option maxRecDepth 4000 in
theorem s_X11_asTheyAre_0 {Γ : Cn} {τ : Mm} {N : Nat} {l0 : Nat} {σ : Mm} {o : Mm} (h : f_X11_asTheyAre N l0 σ = some o) : Gx Γ M_X11_asTheyAre 100 τ (PV o) 0 0 0 [(0, .ref (Γ.B + pp l0))] [] σ := by
  unfold f_X11_asTheyAre at h
  refine gx_iconst (v := (0 : Int32)) dX11_asTheyAre_0 ic_0 ?_
  refine gx_istore_n (lv' := [(1, .int (0 : Int32)), (0, .ref (Γ.B + pp l0))]) dX11_asTheyAre_1 rfl (Nat.le_of_ble_eq_true rfl) rfl ?_
  exact gx_sub [1, 0] rfl (s_X11_asTheyAre_2  N _ _ _ _ h)
theorem c_X11_asTheyAre {Γ : Cn} {τ : Mm} {N : Nat} {l0 : Nat} {σ : Mm} {o : Mm} (h : f_X11_asTheyAre N l0 σ = some o) : Ct Γ M_X11_asTheyAre yX11_asTheyAre 100 τ [.ref (Γ.B + pp l0)] σ (PV o) := ct_of (by decide) rfl (fun _ => by first | rfl | contradiction) (Nat.le_of_ble_eq_true rfl) (s_X11_asTheyAre_0  h)
abbrev M_X11_counts : Ms := (cX11_counts, RX11, 3, none, false, 0, 0, 1)
def f_X11_counts_61 (N : Nat) (r_23 : Nat → Int32 → Int32 → Mm → Option Mm) (l0 : Nat) (l1 : Int32) (l2 : Int32) (t0 : Nat) (t1 : Int32) (t2 : Int32) (t3 : Int32) (σ : Mm) : Option Mm :=
  (sI 113 σ t0 t1 (t2 + t3)).bind fun s1 =>
  r_23 l0 l1 (l2 + (1 : Int32)) s1
def f_X11_counts_23 (N : Nat) : Nat → Nat → Int32 → Int32 → Mm → Option Mm
  | 0, _, _, _, _ => none
  | n + 1, l0, l1, l2, σ =>
      (gN 11 24 σ l0).bind fun a1 =>
      (aI 113 σ a1 (0 : Int32)).bind fun x2 =>
      if x2 ≤ l2 then (
        some σ) else (
        (gN 11 26 σ l0).bind fun a4 =>
        (gN 11 25 σ l0).bind fun a5 =>
        (aI 113 σ a5 l2).bind fun x6 =>
        (aI 113 σ a4 x6).bind fun x7 =>
        if l1 = 0 then (
          f_X11_counts_61 N (f_X11_counts_23 N n) l0 l1 l2 a4 x6 x7 (1 : Int32) σ) else (
          (ob 11 σ l0).bind fun _ =>
          (f_X11_cockOf N l0 l2 (3 : Int32) σ).bind fun q9 =>
          f_X11_counts_61 N (f_X11_counts_23 N n) l0 l1 l2 a4 x6 x7 (q9.1 + (1 : Int32)) q9.2))
def f_X11_counts_2 (N : Nat) : Nat → Nat → Int32 → Int32 → Mm → Option Mm
  | 0, _, _, _, _ => none
  | n + 1, l0, l1, l2, σ =>
      if (8 : Int32) ≤ l2 then (
        f_X11_counts_23 N N l0 l1 (0 : Int32) σ) else (
        (gN 11 26 σ l0).bind fun a2 =>
        (sI 113 σ a2 l2 (0 : Int32)).bind fun s3 =>
        f_X11_counts_2 N n l0 l1 (l2 + (1 : Int32)) s3)
def f_X11_counts (N : Nat) (l0 : Nat) (l1 : Int32) (σ : Mm) : Option Mm :=
  f_X11_counts_2 N N l0 l1 (0 : Int32) σ
theorem mov_X11_counts : MOV yX11_counts M_X11_counts 1 11 100 := ⟨⟨tw_107, tw_1422, ⟨by decide, by decide⟩, by decide +kernel⟩, tw_1421, tw_80, by decide, ⟨_, rfl, rfl⟩, rfl⟩
set_option maxRecDepth 4000 in
theorem s_X11_counts_61 {Γ : Cn} {τ : Mm} {N : Nat} {r_23 : Nat → Int32 → Int32 → Mm → Option Mm} (hr_23 : ∀ (l0 : Nat) (l1 : Int32) (l2 : Int32) (σ : Mm) (o : Mm), r_23 l0 l1 l2 σ = some o → Gx Γ M_X11_counts 100 τ (PV o) 0 0 23 [(0, .ref (Γ.B + pp l0)), (1, .int l1), (2, .int l2)] [] σ) {l0 : Nat} {l1 : Int32} {l2 : Int32} {t0 : Nat} {t1 : Int32} {t2 : Int32} {t3 : Int32} {σ : Mm} {o : Mm} (h : f_X11_counts_61 N r_23 l0 l1 l2 t0 t1 t2 t3 σ = some o) : Gx Γ M_X11_counts 100 τ (PV o) 0 0 61 [(0, .ref (Γ.B + pp l0)), (1, .int l1), (2, .int l2)] [.int t3, .int t2, .int t1, .ref (Γ.B + pp t0)] σ := by
  unfold f_X11_counts_61 at h
  refine gx_iadd dX11_counts_61 ?_
  obtain ⟨s1, hs1, h⟩ := bnd h
  refine gx_iast (kd := 113) dX11_counts_62 hs1 rfl rfl ?_
  refine gx_iinc (v := (l2 + (1 : Int32))) (lv' := [(2, .int (l2 + (1 : Int32))), (0, .ref (Γ.B + pp l0)), (1, .int l1)]) 2 dX11_counts_63 rfl (by rw [ic_1]) (Nat.le_of_ble_eq_true rfl) rfl ?_
  refine gx_goto 23 dX11_counts_66 (by decide) ?_
  exact gx_sub [1, 2, 0] rfl (hr_23 _ _ _ _ _ h)
set_option maxRecDepth 4000 in
theorem s_X11_counts_23 {Γ : Cn} {τ : Mm} {N : Nat} : ∀ (n : Nat) (l0 : Nat) (l1 : Int32) (l2 : Int32) (σ : Mm) (o : Mm), f_X11_counts_23 N n l0 l1 l2 σ = some o → Gx Γ M_X11_counts 100 τ (PV o) 0 0 23 [(0, .ref (Γ.B + pp l0)), (1, .int l1), (2, .int l2)] [] σ := by
  intro n
  induction n with
  | zero =>
    intro l0 l1 l2 σ o h
    exact absurd h (by rw [f_X11_counts_23]; exact fun q => nomatch q)
  | succ n ih =>
    intro l0 l1 l2 σ o h
    rw [f_X11_counts_23] at h
    refine gx_iload_n 2 dX11_counts_23 rfl rfl ?_
    refine gx_aload_n 0 dX11_counts_24 rfl rfl ?_
    obtain ⟨a1, ha1, h⟩ := bnd h
    refine gx_getN dX11_counts_25 ha1 fl_X11_45 rfl ?_
    refine gx_iconst (v := (0 : Int32)) dX11_counts_28 ic_0 ?_
    obtain ⟨x2, hx2, h⟩ := bnd h
    refine gx_iald (kd := 113) dX11_counts_29 hx2 rfl rfl ?_
    refine gx_icmp_ge 69 dX11_counts_30 (by decide) (fun c2 => ?_) (fun c2 => ?_)
    · rw [if_pos c2] at h
      have h := Option.some.inj h
      subst h
      exact gx_vret dX11_counts_69 rfl (Nat.le_of_ble_eq_true rfl) (Nat.le_of_ble_eq_true rfl) ⟨rfl, rfl⟩
    · rw [if_neg c2] at h
      refine gx_aload_n 0 dX11_counts_33 rfl rfl ?_
      obtain ⟨a4, ha4, h⟩ := bnd h
      refine gx_getN dX11_counts_34 ha4 fl_X11_51 rfl ?_
      refine gx_aload_n 0 dX11_counts_37 rfl rfl ?_
      obtain ⟨a5, ha5, h⟩ := bnd h
      refine gx_getN dX11_counts_38 ha5 fl_X11_48 rfl ?_
      refine gx_iload_n 2 dX11_counts_41 rfl rfl ?_
      obtain ⟨x6, hx6, h⟩ := bnd h
      refine gx_iald (kd := 113) dX11_counts_42 hx6 rfl rfl ?_
      refine gx_dup2 dX11_counts_43 rfl rfl ?_
      obtain ⟨x7, hx7, h⟩ := bnd h
      refine gx_iald (kd := 113) dX11_counts_44 hx7 rfl rfl ?_
      refine gx_iload_n 1 dX11_counts_45 rfl rfl ?_
      refine gx_if_eq 60 dX11_counts_46 (by decide) (fun c7 => ?_) (fun c7 => ?_)
      · rw [if_pos c7] at h
        refine gx_iconst (v := (1 : Int32)) dX11_counts_60 ic_1 ?_
        exact s_X11_counts_61 ih h
      · rw [if_neg c7] at h
        refine gx_aload_n 0 dX11_counts_49 rfl rfl ?_
        refine gx_iload_n 2 dX11_counts_50 rfl rfl ?_
        refine gx_iconst (v := (3 : Int32)) dX11_counts_51 ic_3 ?_
        obtain ⟨_, hobq9, h⟩ := bnd h
        obtain ⟨q9, hq9, h⟩ := bnd h
        refine gx_cVI (As := [.int l2, .int (3 : Int32)]) (st := [.int x7, .int x6, .ref (Γ.B + pp a4)]) (o := l0) dX11_counts_52 (c_X11_cockOf hq9) mov_X11_cockOf tw_1296 hobq9 rfl ⟨Nat.le_of_ble_eq_true rfl, Nat.le_of_ble_eq_true rfl⟩ (Nat.le_of_ble_eq_true rfl) ?_
        refine gx_iconst (v := (1 : Int32)) dX11_counts_55 ic_1 ?_
        refine gx_iadd dX11_counts_56 ?_
        refine gx_goto 61 dX11_counts_57 (by decide) ?_
        exact s_X11_counts_61 ih h
set_option maxRecDepth 4000 in
theorem s_X11_counts_2 {Γ : Cn} {τ : Mm} {N : Nat} : ∀ (n : Nat) (l0 : Nat) (l1 : Int32) (l2 : Int32) (σ : Mm) (o : Mm), f_X11_counts_2 N n l0 l1 l2 σ = some o → Gx Γ M_X11_counts 100 τ (PV o) 0 0 2 [(0, .ref (Γ.B + pp l0)), (1, .int l1), (2, .int l2)] [] σ := by
  intro n
  induction n with
  | zero =>
    intro l0 l1 l2 σ o h
    exact absurd h (by rw [f_X11_counts_2]; exact fun q => nomatch q)
  | succ n ih =>
    intro l0 l1 l2 σ o h
    rw [f_X11_counts_2] at h
    refine gx_iload_n 2 dX11_counts_2 rfl rfl ?_
    refine gx_bipush (v := (8 : Int32)) dX11_counts_3 ib_8 ?_
    refine gx_icmp_ge 21 dX11_counts_5 (by decide) (fun c0 => ?_) (fun c0 => ?_)
    · rw [if_pos c0] at h
      refine gx_iconst (v := (0 : Int32)) dX11_counts_21 ic_0 ?_
      refine gx_istore_n (lv' := [(2, .int (0 : Int32)), (0, .ref (Γ.B + pp l0)), (1, .int l1)]) dX11_counts_22 rfl (Nat.le_of_ble_eq_true rfl) rfl ?_
      exact gx_sub [1, 2, 0] rfl (s_X11_counts_23  N _ _ _ _ _ h)
    · rw [if_neg c0] at h
      refine gx_aload_n 0 dX11_counts_8 rfl rfl ?_
      obtain ⟨a2, ha2, h⟩ := bnd h
      refine gx_getN dX11_counts_9 ha2 fl_X11_51 rfl ?_
      refine gx_iload_n 2 dX11_counts_12 rfl rfl ?_
      refine gx_iconst (v := (0 : Int32)) dX11_counts_13 ic_0 ?_
      obtain ⟨s3, hs3, h⟩ := bnd h
      refine gx_iast (kd := 113) dX11_counts_14 hs3 rfl rfl ?_
      refine gx_iinc (v := (l2 + (1 : Int32))) (lv' := [(2, .int (l2 + (1 : Int32))), (0, .ref (Γ.B + pp l0)), (1, .int l1)]) 2 dX11_counts_15 rfl (by rw [ic_1]) (Nat.le_of_ble_eq_true rfl) rfl ?_
      refine gx_goto 2 dX11_counts_18 (by decide) ?_
      exact gx_sub [1, 2, 0] rfl (ih _ _ _ _ _ h)
set_option maxRecDepth 4000 in
theorem s_X11_counts_0 {Γ : Cn} {τ : Mm} {N : Nat} {l0 : Nat} {l1 : Int32} {σ : Mm} {o : Mm} (h : f_X11_counts N l0 l1 σ = some o) : Gx Γ M_X11_counts 100 τ (PV o) 0 0 0 [(0, .ref (Γ.B + pp l0)), (1, .int l1)] [] σ := by
  unfold f_X11_counts at h
  refine gx_iconst (v := (0 : Int32)) dX11_counts_0 ic_0 ?_
  refine gx_istore_n (lv' := [(2, .int (0 : Int32)), (0, .ref (Γ.B + pp l0)), (1, .int l1)]) dX11_counts_1 rfl (Nat.le_of_ble_eq_true rfl) rfl ?_
  exact gx_sub [1, 2, 0] rfl (s_X11_counts_2  N _ _ _ _ _ h)
theorem c_X11_counts {Γ : Cn} {τ : Mm} {N : Nat} {l0 : Nat} {l1 : Int32} {σ : Mm} {o : Mm} (h : f_X11_counts N l0 l1 σ = some o) : Ct Γ M_X11_counts yX11_counts 100 τ [.ref (Γ.B + pp l0), .int l1] σ (PV o) := ct_of (by decide) rfl (fun _ => by first | rfl | contradiction) (Nat.le_of_ble_eq_true rfl) (s_X11_counts_0  h)
abbrev M_X11_greatest : Ms := (cX11_greatest, RX11, 3, (some .int), false, 0, 0, 0)
def f_X11_greatest_30 (N : Nat) (r_4 : Nat → Int32 → Int32 → Mm → Option (Int32 × Mm)) (l0 : Nat) (l2 : Int32) (t0 : Int32) (σ : Mm) : Option (Int32 × Mm) :=
  r_4 l0 t0 (l2 + (1 : Int32)) σ
def f_X11_greatest_4 (N : Nat) : Nat → Nat → Int32 → Int32 → Mm → Option (Int32 × Mm)
  | 0, _, _, _, _ => none
  | n + 1, l0, l1, l2, σ =>
      if (8 : Int32) ≤ l2 then (
        some (l1, σ)) else (
        (gN 11 26 σ l0).bind fun a2 =>
        (aI 113 σ a2 l2).bind fun x3 =>
        if x3 ≤ l1 then (
          f_X11_greatest_30 N (f_X11_greatest_4 N n) l0 l2 l1 σ) else (
          (gN 11 26 σ l0).bind fun a5 =>
          (aI 113 σ a5 l2).bind fun x6 =>
          f_X11_greatest_30 N (f_X11_greatest_4 N n) l0 l2 x6 σ))
def f_X11_greatest (N : Nat) (l0 : Nat) (σ : Mm) : Option (Int32 × Mm) :=
  f_X11_greatest_4 N N l0 (0 : Int32) (0 : Int32) σ
theorem mov_X11_greatest : MOV yX11_greatest M_X11_greatest 0 11 100 := ⟨⟨tw_107, tw_1426, ⟨by decide, by decide⟩, by decide +kernel⟩, tw_1425, tw_81, by decide, ⟨_, rfl, rfl⟩, rfl⟩
set_option maxRecDepth 4000 in
theorem s_X11_greatest_30 {Γ : Cn} {τ : Mm} {N : Nat} {r_4 : Nat → Int32 → Int32 → Mm → Option (Int32 × Mm)} (hr_4 : ∀ (l0 : Nat) (l1 : Int32) (l2 : Int32) (σ : Mm) (o : Int32 × Mm), r_4 l0 l1 l2 σ = some o → Gx Γ M_X11_greatest 100 τ (PI o) 0 0 4 [(0, .ref (Γ.B + pp l0)), (1, .int l1), (2, .int l2)] [] σ) {l0 : Nat} {l2 : Int32} {t0 : Int32} {σ : Mm} {o : Int32 × Mm} (h : f_X11_greatest_30 N r_4 l0 l2 t0 σ = some o) : Gx Γ M_X11_greatest 100 τ (PI o) 0 0 30 [(0, .ref (Γ.B + pp l0)), (2, .int l2)] [.int t0] σ := by
  unfold f_X11_greatest_30 at h
  refine gx_istore_n (lv' := [(1, .int t0), (0, .ref (Γ.B + pp l0)), (2, .int l2)]) dX11_greatest_30 rfl (Nat.le_of_ble_eq_true rfl) rfl ?_
  refine gx_iinc (v := (l2 + (1 : Int32))) (lv' := [(2, .int (l2 + (1 : Int32))), (1, .int t0), (0, .ref (Γ.B + pp l0))]) 2 dX11_greatest_31 rfl (by rw [ic_1]) (Nat.le_of_ble_eq_true rfl) rfl ?_
  refine gx_goto 4 dX11_greatest_34 (by decide) ?_
  exact gx_sub [2, 1, 0] rfl (hr_4 _ _ _ _ _ h)
set_option maxRecDepth 4000 in
theorem s_X11_greatest_4 {Γ : Cn} {τ : Mm} {N : Nat} : ∀ (n : Nat) (l0 : Nat) (l1 : Int32) (l2 : Int32) (σ : Mm) (o : Int32 × Mm), f_X11_greatest_4 N n l0 l1 l2 σ = some o → Gx Γ M_X11_greatest 100 τ (PI o) 0 0 4 [(0, .ref (Γ.B + pp l0)), (1, .int l1), (2, .int l2)] [] σ := by
  intro n
  induction n with
  | zero =>
    intro l0 l1 l2 σ o h
    exact absurd h (by rw [f_X11_greatest_4]; exact fun q => nomatch q)
  | succ n ih =>
    intro l0 l1 l2 σ o h
    rw [f_X11_greatest_4] at h
    refine gx_iload_n 2 dX11_greatest_4 rfl rfl ?_
    refine gx_bipush (v := (8 : Int32)) dX11_greatest_5 ib_8 ?_
    refine gx_icmp_ge 37 dX11_greatest_7 (by decide) (fun c0 => ?_) (fun c0 => ?_)
    · rw [if_pos c0] at h
      refine gx_iload_n 1 dX11_greatest_37 rfl rfl ?_
      have h := Option.some.inj h
      subst h
      exact gx_iret dX11_greatest_38 rfl (Nat.le_of_ble_eq_true rfl) (Nat.le_of_ble_eq_true rfl) ⟨rfl, rfl⟩
    · rw [if_neg c0] at h
      refine gx_aload_n 0 dX11_greatest_10 rfl rfl ?_
      obtain ⟨a2, ha2, h⟩ := bnd h
      refine gx_getN dX11_greatest_11 ha2 fl_X11_51 rfl ?_
      refine gx_iload_n 2 dX11_greatest_14 rfl rfl ?_
      obtain ⟨x3, hx3, h⟩ := bnd h
      refine gx_iald (kd := 113) dX11_greatest_15 hx3 rfl rfl ?_
      refine gx_iload_n 1 dX11_greatest_16 rfl rfl ?_
      refine gx_icmp_le 29 dX11_greatest_17 (by decide) (fun c3 => ?_) (fun c3 => ?_)
      · rw [if_pos c3] at h
        refine gx_iload_n 1 dX11_greatest_29 rfl rfl ?_
        exact gx_sub [0, 2] rfl (s_X11_greatest_30 ih h)
      · rw [if_neg c3] at h
        refine gx_aload_n 0 dX11_greatest_20 rfl rfl ?_
        obtain ⟨a5, ha5, h⟩ := bnd h
        refine gx_getN dX11_greatest_21 ha5 fl_X11_51 rfl ?_
        refine gx_iload_n 2 dX11_greatest_24 rfl rfl ?_
        obtain ⟨x6, hx6, h⟩ := bnd h
        refine gx_iald (kd := 113) dX11_greatest_25 hx6 rfl rfl ?_
        refine gx_goto 30 dX11_greatest_26 (by decide) ?_
        exact gx_sub [0, 2] rfl (s_X11_greatest_30 ih h)
set_option maxRecDepth 4000 in
theorem s_X11_greatest_0 {Γ : Cn} {τ : Mm} {N : Nat} {l0 : Nat} {σ : Mm} {o : Int32 × Mm} (h : f_X11_greatest N l0 σ = some o) : Gx Γ M_X11_greatest 100 τ (PI o) 0 0 0 [(0, .ref (Γ.B + pp l0))] [] σ := by
  unfold f_X11_greatest at h
  refine gx_iconst (v := (0 : Int32)) dX11_greatest_0 ic_0 ?_
  refine gx_istore_n (lv' := [(1, .int (0 : Int32)), (0, .ref (Γ.B + pp l0))]) dX11_greatest_1 rfl (Nat.le_of_ble_eq_true rfl) rfl ?_
  refine gx_iconst (v := (0 : Int32)) dX11_greatest_2 ic_0 ?_
  refine gx_istore_n (lv' := [(2, .int (0 : Int32)), (1, .int (0 : Int32)), (0, .ref (Γ.B + pp l0))]) dX11_greatest_3 rfl (Nat.le_of_ble_eq_true rfl) rfl ?_
  exact gx_sub [2, 1, 0] rfl (s_X11_greatest_4  N _ _ _ _ _ h)
theorem c_X11_greatest {Γ : Cn} {τ : Mm} {N : Nat} {l0 : Nat} {σ : Mm} {o : Int32 × Mm} (h : f_X11_greatest N l0 σ = some o) : Ct Γ M_X11_greatest yX11_greatest 100 τ [.ref (Γ.B + pp l0)] σ (PI o) := ct_of (by decide) rfl (fun _ => by first | rfl | contradiction) (Nat.le_of_ble_eq_true rfl) (s_X11_greatest_0  h)
abbrev M_X11_byMost : Ms := (cX11_byMost, RX11, 5, (some .int), false, 0, 0, 2)
def f_X11_byMost_65 (N : Nat) (r_15 : Nat → Int32 → Int32 → Int32 → Mm → Option (Int32 × Mm)) (l0 : Nat) (l2 : Int32) (l3 : Int32) (l4 : Int32) (σ : Mm) : Option (Int32 × Mm) :=
  r_15 l0 l2 l3 (l4 + (1 : Int32)) σ
def f_X11_byMost_62 (N : Nat) (r_15 : Nat → Int32 → Int32 → Int32 → Mm → Option (Int32 × Mm)) (l0 : Nat) (l2 : Int32) (l4 : Int32) (σ : Mm) : Option (Int32 × Mm) :=
  f_X11_byMost_65 N r_15 l0 l2 l4 l4 σ
def f_X11_byMost_15 (N : Nat) : Nat → Nat → Int32 → Int32 → Int32 → Mm → Option (Int32 × Mm)
  | 0, _, _, _, _, _ => none
  | n + 1, l0, l2, l3, l4, σ =>
      (gN 11 24 σ l0).bind fun a1 =>
      (aI 113 σ a1 (0 : Int32)).bind fun x2 =>
      if x2 ≤ l4 then (
        (gN 11 25 σ l0).bind fun a4 =>
        (aI 113 σ a4 l3).bind fun x5 =>
        some (x5, σ)) else (
        (gN 11 26 σ l0).bind fun a6 =>
        (gN 11 25 σ l0).bind fun a7 =>
        (aI 113 σ a7 l4).bind fun x8 =>
        (aI 113 σ a6 x8).bind fun x9 =>
        if x9 = l2 then (
          if l3 < 0 then (
            f_X11_byMost_62 N (f_X11_byMost_15 N n) l0 l2 l4 σ) else (
            (ob 11 σ l0).bind fun _ =>
            (f_X11_cockOf N l0 l4 (3 : Int32) σ).bind fun q12 =>
            (ob 11 q12.2 l0).bind fun _ =>
            (f_X11_cockOf N l0 l3 (3 : Int32) q12.2).bind fun q13 =>
            if q12.1 ≤ q13.1 then (
              f_X11_byMost_65 N (f_X11_byMost_15 N n) l0 l2 l3 l4 q13.2) else (
              f_X11_byMost_62 N (f_X11_byMost_15 N n) l0 l2 l4 q13.2))) else (
          f_X11_byMost_65 N (f_X11_byMost_15 N n) l0 l2 l3 l4 σ))
def f_X11_byMost (N : Nat) (l0 : Nat) (l1 : Int32) (σ : Mm) : Option (Int32 × Mm) :=
  (ob 11 σ l0).bind fun _ =>
  (f_X11_counts N l0 l1 σ).bind fun q1 =>
  (ob 11 q1 l0).bind fun _ =>
  (f_X11_greatest N l0 q1).bind fun q2 =>
  f_X11_byMost_15 N N l0 q2.1 (-1 : Int32) (0 : Int32) q2.2
theorem mov_X11_byMost : MOV yX11_byMost M_X11_byMost 1 11 100 := ⟨⟨tw_107, tw_1418, ⟨by decide, by decide⟩, by decide +kernel⟩, tw_1417, tw_79, by decide, ⟨_, rfl, rfl⟩, rfl⟩
set_option maxRecDepth 4000 in
theorem s_X11_byMost_65 {Γ : Cn} {τ : Mm} {N : Nat} {r_15 : Nat → Int32 → Int32 → Int32 → Mm → Option (Int32 × Mm)} (hr_15 : ∀ (l0 : Nat) (l2 : Int32) (l3 : Int32) (l4 : Int32) (σ : Mm) (o : Int32 × Mm), r_15 l0 l2 l3 l4 σ = some o → Gx Γ M_X11_byMost 100 τ (PI o) 0 0 15 [(0, .ref (Γ.B + pp l0)), (2, .int l2), (3, .int l3), (4, .int l4)] [] σ) {l0 : Nat} {l2 : Int32} {l3 : Int32} {l4 : Int32} {σ : Mm} {o : Int32 × Mm} (h : f_X11_byMost_65 N r_15 l0 l2 l3 l4 σ = some o) : Gx Γ M_X11_byMost 100 τ (PI o) 0 0 65 [(0, .ref (Γ.B + pp l0)), (2, .int l2), (3, .int l3), (4, .int l4)] [] σ := by
  unfold f_X11_byMost_65 at h
  refine gx_iinc (v := (l4 + (1 : Int32))) (lv' := [(4, .int (l4 + (1 : Int32))), (0, .ref (Γ.B + pp l0)), (2, .int l2), (3, .int l3)]) 3 dX11_byMost_65 rfl (by rw [ic_1]) (Nat.le_of_ble_eq_true rfl) rfl ?_
  refine gx_goto 15 dX11_byMost_68 (by decide) ?_
  exact gx_sub [1, 2, 3, 0] rfl (hr_15 _ _ _ _ _ _ h)
set_option maxRecDepth 4000 in
theorem s_X11_byMost_62 {Γ : Cn} {τ : Mm} {N : Nat} {r_15 : Nat → Int32 → Int32 → Int32 → Mm → Option (Int32 × Mm)} (hr_15 : ∀ (l0 : Nat) (l2 : Int32) (l3 : Int32) (l4 : Int32) (σ : Mm) (o : Int32 × Mm), r_15 l0 l2 l3 l4 σ = some o → Gx Γ M_X11_byMost 100 τ (PI o) 0 0 15 [(0, .ref (Γ.B + pp l0)), (2, .int l2), (3, .int l3), (4, .int l4)] [] σ) {l0 : Nat} {l2 : Int32} {l4 : Int32} {σ : Mm} {o : Int32 × Mm} (h : f_X11_byMost_62 N r_15 l0 l2 l4 σ = some o) : Gx Γ M_X11_byMost 100 τ (PI o) 0 0 62 [(0, .ref (Γ.B + pp l0)), (2, .int l2), (4, .int l4)] [] σ := by
  unfold f_X11_byMost_62 at h
  refine gx_iload 2 dX11_byMost_62 rfl ?_
  refine gx_istore_n (lv' := [(3, .int l4), (0, .ref (Γ.B + pp l0)), (2, .int l2), (4, .int l4)]) dX11_byMost_64 rfl (Nat.le_of_ble_eq_true rfl) rfl ?_
  exact gx_sub [1, 2, 0, 3] rfl (s_X11_byMost_65 hr_15 h)
set_option maxRecDepth 4000 in
theorem s_X11_byMost_15 {Γ : Cn} {τ : Mm} {N : Nat} : ∀ (n : Nat) (l0 : Nat) (l2 : Int32) (l3 : Int32) (l4 : Int32) (σ : Mm) (o : Int32 × Mm), f_X11_byMost_15 N n l0 l2 l3 l4 σ = some o → Gx Γ M_X11_byMost 100 τ (PI o) 0 0 15 [(0, .ref (Γ.B + pp l0)), (2, .int l2), (3, .int l3), (4, .int l4)] [] σ := by
  intro n
  induction n with
  | zero =>
    intro l0 l2 l3 l4 σ o h
    exact absurd h (by rw [f_X11_byMost_15]; exact fun q => nomatch q)
  | succ n ih =>
    intro l0 l2 l3 l4 σ o h
    rw [f_X11_byMost_15] at h
    refine gx_iload 3 dX11_byMost_15 rfl ?_
    refine gx_aload_n 0 dX11_byMost_17 rfl rfl ?_
    obtain ⟨a1, ha1, h⟩ := bnd h
    refine gx_getN dX11_byMost_18 ha1 fl_X11_45 rfl ?_
    refine gx_iconst (v := (0 : Int32)) dX11_byMost_21 ic_0 ?_
    obtain ⟨x2, hx2, h⟩ := bnd h
    refine gx_iald (kd := 113) dX11_byMost_22 hx2 rfl rfl ?_
    refine gx_icmp_ge 71 dX11_byMost_23 (by decide) (fun c2 => ?_) (fun c2 => ?_)
    · rw [if_pos c2] at h
      refine gx_aload_n 0 dX11_byMost_71 rfl rfl ?_
      obtain ⟨a4, ha4, h⟩ := bnd h
      refine gx_getN dX11_byMost_72 ha4 fl_X11_48 rfl ?_
      refine gx_iload_n 2 dX11_byMost_75 rfl rfl ?_
      obtain ⟨x5, hx5, h⟩ := bnd h
      refine gx_iald (kd := 113) dX11_byMost_76 hx5 rfl rfl ?_
      have h := Option.some.inj h
      subst h
      exact gx_iret dX11_byMost_77 rfl (Nat.le_of_ble_eq_true rfl) (Nat.le_of_ble_eq_true rfl) ⟨rfl, rfl⟩
    · rw [if_neg c2] at h
      refine gx_aload_n 0 dX11_byMost_26 rfl rfl ?_
      obtain ⟨a6, ha6, h⟩ := bnd h
      refine gx_getN dX11_byMost_27 ha6 fl_X11_51 rfl ?_
      refine gx_aload_n 0 dX11_byMost_30 rfl rfl ?_
      obtain ⟨a7, ha7, h⟩ := bnd h
      refine gx_getN dX11_byMost_31 ha7 fl_X11_48 rfl ?_
      refine gx_iload 3 dX11_byMost_34 rfl ?_
      obtain ⟨x8, hx8, h⟩ := bnd h
      refine gx_iald (kd := 113) dX11_byMost_36 hx8 rfl rfl ?_
      obtain ⟨x9, hx9, h⟩ := bnd h
      refine gx_iald (kd := 113) dX11_byMost_37 hx9 rfl rfl ?_
      refine gx_iload_n 1 dX11_byMost_38 rfl rfl ?_
      refine gx_icmp_ne 65 dX11_byMost_39 (by decide) (fun c9 => ?_) (fun c9 => ?_)
      · rw [if_neg c9] at h
        exact s_X11_byMost_65 ih h
      · rw [if_pos c9] at h
        refine gx_iload_n 2 dX11_byMost_42 rfl rfl ?_
        refine gx_if_lt 62 dX11_byMost_43 (by decide) (fun c10 => ?_) (fun c10 => ?_)
        · rw [if_pos c10] at h
          exact gx_sub [0, 1, 3] rfl (s_X11_byMost_62 ih h)
        · rw [if_neg c10] at h
          refine gx_aload_n 0 dX11_byMost_46 rfl rfl ?_
          refine gx_iload 3 dX11_byMost_47 rfl ?_
          refine gx_iconst (v := (3 : Int32)) dX11_byMost_49 ic_3 ?_
          obtain ⟨_, hobq12, h⟩ := bnd h
          obtain ⟨q12, hq12, h⟩ := bnd h
          refine gx_cVI (As := [.int l4, .int (3 : Int32)]) (st := []) (o := l0) dX11_byMost_50 (c_X11_cockOf hq12) mov_X11_cockOf tw_1296 hobq12 rfl ⟨Nat.le_of_ble_eq_true rfl, Nat.le_of_ble_eq_true rfl⟩ (Nat.le_of_ble_eq_true rfl) ?_
          refine gx_aload_n 0 dX11_byMost_53 rfl rfl ?_
          refine gx_iload_n 2 dX11_byMost_54 rfl rfl ?_
          refine gx_iconst (v := (3 : Int32)) dX11_byMost_55 ic_3 ?_
          obtain ⟨_, hobq13, h⟩ := bnd h
          obtain ⟨q13, hq13, h⟩ := bnd h
          refine gx_cVI (As := [.int l3, .int (3 : Int32)]) (st := [.int q12.1]) (o := l0) dX11_byMost_56 (c_X11_cockOf hq13) mov_X11_cockOf tw_1296 hobq13 rfl ⟨Nat.le_of_ble_eq_true rfl, Nat.le_of_ble_eq_true rfl⟩ (Nat.le_of_ble_eq_true rfl) ?_
          refine gx_icmp_le 65 dX11_byMost_59 (by decide) (fun c13 => ?_) (fun c13 => ?_)
          · rw [if_pos c13] at h
            exact s_X11_byMost_65 ih h
          · rw [if_neg c13] at h
            exact gx_sub [0, 1, 3] rfl (s_X11_byMost_62 ih h)
set_option maxRecDepth 4000 in
theorem s_X11_byMost_0 {Γ : Cn} {τ : Mm} {N : Nat} {l0 : Nat} {l1 : Int32} {σ : Mm} {o : Int32 × Mm} (h : f_X11_byMost N l0 l1 σ = some o) : Gx Γ M_X11_byMost 100 τ (PI o) 0 0 0 [(0, .ref (Γ.B + pp l0)), (1, .int l1)] [] σ := by
  unfold f_X11_byMost at h
  refine gx_aload_n 0 dX11_byMost_0 rfl rfl ?_
  refine gx_iload_n 1 dX11_byMost_1 rfl rfl ?_
  obtain ⟨_, hobq1, h⟩ := bnd h
  obtain ⟨q1, hq1, h⟩ := bnd h
  refine gx_cVV (As := [.int l1]) (st := []) (o := l0) dX11_byMost_2 (c_X11_counts hq1) mov_X11_counts tw_1419 hobq1 rfl ⟨Nat.le_of_ble_eq_true rfl, Nat.le_of_ble_eq_true rfl⟩ (Nat.le_of_ble_eq_true rfl) ?_
  refine gx_aload_n 0 dX11_byMost_5 rfl rfl ?_
  obtain ⟨_, hobq2, h⟩ := bnd h
  obtain ⟨q2, hq2, h⟩ := bnd h
  refine gx_cVI (As := []) (st := []) (o := l0) dX11_byMost_6 (c_X11_greatest hq2) mov_X11_greatest tw_1423 hobq2 rfl ⟨Nat.le_of_ble_eq_true rfl, Nat.le_of_ble_eq_true rfl⟩ (Nat.le_of_ble_eq_true rfl) ?_
  refine gx_istore_n (lv' := [(2, .int q2.1), (0, .ref (Γ.B + pp l0)), (1, .int l1)]) dX11_byMost_9 rfl (Nat.le_of_ble_eq_true rfl) rfl ?_
  refine gx_iconst (v := (-1 : Int32)) dX11_byMost_10 ic_m1 ?_
  refine gx_istore_n (lv' := [(3, .int (-1 : Int32)), (2, .int q2.1), (0, .ref (Γ.B + pp l0)), (1, .int l1)]) dX11_byMost_11 rfl (Nat.le_of_ble_eq_true rfl) rfl ?_
  refine gx_iconst (v := (0 : Int32)) dX11_byMost_12 ic_0 ?_
  refine gx_istore (lv' := [(4, .int (0 : Int32)), (3, .int (-1 : Int32)), (2, .int q2.1), (0, .ref (Γ.B + pp l0)), (1, .int l1)]) dX11_byMost_13 (Nat.le_of_ble_eq_true rfl) rfl ?_
  exact gx_sub [3, 2, 1, 0] rfl (s_X11_byMost_15  N _ _ _ _ _ _ h)
theorem c_X11_byMost {Γ : Cn} {τ : Mm} {N : Nat} {l0 : Nat} {l1 : Int32} {σ : Mm} {o : Int32 × Mm} (h : f_X11_byMost N l0 l1 σ = some o) : Ct Γ M_X11_byMost yX11_byMost 100 τ [.ref (Γ.B + pp l0), .int l1] σ (PI o) := ct_of (by decide) rfl (fun _ => by first | rfl | contradiction) (Nat.le_of_ble_eq_true rfl) (s_X11_byMost_0  h)
abbrev M_X11_byMiddle : Ms := (cX11_byMiddle, RX11, 4, (some .int), false, 0, 0, 2)
def f_X11_byMiddle_40 (N : Nat) : Nat → Nat → Int32 → Int32 → Int32 → Mm → Option (Int32 × Mm)
  | 0, _, _, _, _, _ => none
  | n + 1, l0, l1, l2, l3, σ =>
      if l1 < l3 then (
        some (l2, σ)) else (
        (gN 11 26 σ l0).bind fun a2 =>
        (aI 113 σ a2 (l2 + (1 : Int32))).bind fun x3 =>
        f_X11_byMiddle_40 N n l0 l1 (l2 + (1 : Int32)) (l3 + x3) σ)
def f_X11_byMiddle_29 (N : Nat) (l0 : Nat) (t0 : Int32) (t1 : Int32) (σ : Mm) : Option (Int32 × Mm) :=
  (gN 11 26 σ l0).bind fun a1 =>
  (aI 113 σ a1 (0 : Int32)).bind fun x2 =>
  f_X11_byMiddle_40 N N l0 (t0 - t1) (0 : Int32) x2 σ
def f_X11_byMiddle (N : Nat) (l0 : Nat) (σ : Mm) : Option (Int32 × Mm) :=
  (ob 11 σ l0).bind fun _ =>
  (f_X11_counts N l0 (0 : Int32) σ).bind fun q1 =>
  (gN 11 24 q1 l0).bind fun a2 =>
  (aI 113 q1 a2 (0 : Int32)).bind fun x3 =>
  if (2 : Int32) = 0 then none else
  (gN 11 24 q1 l0).bind fun a5 =>
  (aI 113 q1 a5 (0 : Int32)).bind fun x6 =>
  if (2 : Int32) = 0 then none else
  if (x6 - x6 / (2 : Int32) * (2 : Int32)) = 0 then (
    f_X11_byMiddle_29 N l0 (x3 / (2 : Int32)) (1 : Int32) q1) else (
    f_X11_byMiddle_29 N l0 (x3 / (2 : Int32)) (0 : Int32) q1)
theorem mov_X11_byMiddle : MOV yX11_byMiddle M_X11_byMiddle 0 11 100 := ⟨⟨tw_107, tw_1430, ⟨by decide, by decide⟩, by decide +kernel⟩, tw_1429, tw_82, by decide, ⟨_, rfl, rfl⟩, rfl⟩
set_option maxRecDepth 4000 in
theorem s_X11_byMiddle_40 {Γ : Cn} {τ : Mm} {N : Nat} : ∀ (n : Nat) (l0 : Nat) (l1 : Int32) (l2 : Int32) (l3 : Int32) (σ : Mm) (o : Int32 × Mm), f_X11_byMiddle_40 N n l0 l1 l2 l3 σ = some o → Gx Γ M_X11_byMiddle 100 τ (PI o) 0 0 40 [(0, .ref (Γ.B + pp l0)), (1, .int l1), (2, .int l2), (3, .int l3)] [] σ := by
  intro n
  induction n with
  | zero =>
    intro l0 l1 l2 l3 σ o h
    exact absurd h (by rw [f_X11_byMiddle_40]; exact fun q => nomatch q)
  | succ n ih =>
    intro l0 l1 l2 l3 σ o h
    rw [f_X11_byMiddle_40] at h
    refine gx_iload_n 3 dX11_byMiddle_40 rfl rfl ?_
    refine gx_iload_n 1 dX11_byMiddle_41 rfl rfl ?_
    refine gx_icmp_gt 60 dX11_byMiddle_42 (by decide) (fun c0 => ?_) (fun c0 => ?_)
    · rw [if_pos c0] at h
      refine gx_iload_n 2 dX11_byMiddle_60 rfl rfl ?_
      have h := Option.some.inj h
      subst h
      exact gx_iret dX11_byMiddle_61 rfl (Nat.le_of_ble_eq_true rfl) (Nat.le_of_ble_eq_true rfl) ⟨rfl, rfl⟩
    · rw [if_neg c0] at h
      refine gx_iinc (v := (l2 + (1 : Int32))) (lv' := [(2, .int (l2 + (1 : Int32))), (0, .ref (Γ.B + pp l0)), (1, .int l1), (3, .int l3)]) 2 dX11_byMiddle_45 rfl (by rw [ic_1]) (Nat.le_of_ble_eq_true rfl) rfl ?_
      refine gx_iload_n 3 dX11_byMiddle_48 rfl rfl ?_
      refine gx_aload_n 1 dX11_byMiddle_49 rfl rfl ?_
      obtain ⟨a2, ha2, h⟩ := bnd h
      refine gx_getN dX11_byMiddle_50 ha2 fl_X11_51 rfl ?_
      refine gx_iload_n 0 dX11_byMiddle_53 rfl rfl ?_
      obtain ⟨x3, hx3, h⟩ := bnd h
      refine gx_iald (kd := 113) dX11_byMiddle_54 hx3 rfl rfl ?_
      refine gx_iadd dX11_byMiddle_55 ?_
      refine gx_istore_n (lv' := [(3, .int (l3 + x3)), (2, .int (l2 + (1 : Int32))), (0, .ref (Γ.B + pp l0)), (1, .int l1)]) dX11_byMiddle_56 rfl (Nat.le_of_ble_eq_true rfl) rfl ?_
      refine gx_goto 40 dX11_byMiddle_57 (by decide) ?_
      exact gx_sub [2, 3, 1, 0] rfl (ih _ _ _ _ _ _ h)
set_option maxRecDepth 4000 in
theorem s_X11_byMiddle_29 {Γ : Cn} {τ : Mm} {N : Nat} {l0 : Nat} {t0 : Int32} {t1 : Int32} {σ : Mm} {o : Int32 × Mm} (h : f_X11_byMiddle_29 N l0 t0 t1 σ = some o) : Gx Γ M_X11_byMiddle 100 τ (PI o) 0 0 29 [(0, .ref (Γ.B + pp l0))] [.int t1, .int t0] σ := by
  unfold f_X11_byMiddle_29 at h
  refine gx_isub dX11_byMiddle_29 ?_
  refine gx_istore_n (lv' := [(1, .int (t0 - t1)), (0, .ref (Γ.B + pp l0))]) dX11_byMiddle_30 rfl (Nat.le_of_ble_eq_true rfl) rfl ?_
  refine gx_iconst (v := (0 : Int32)) dX11_byMiddle_31 ic_0 ?_
  refine gx_istore_n (lv' := [(2, .int (0 : Int32)), (1, .int (t0 - t1)), (0, .ref (Γ.B + pp l0))]) dX11_byMiddle_32 rfl (Nat.le_of_ble_eq_true rfl) rfl ?_
  refine gx_aload_n 2 dX11_byMiddle_33 rfl rfl ?_
  obtain ⟨a1, ha1, h⟩ := bnd h
  refine gx_getN dX11_byMiddle_34 ha1 fl_X11_51 rfl ?_
  refine gx_iconst (v := (0 : Int32)) dX11_byMiddle_37 ic_0 ?_
  obtain ⟨x2, hx2, h⟩ := bnd h
  refine gx_iald (kd := 113) dX11_byMiddle_38 hx2 rfl rfl ?_
  refine gx_istore_n (lv' := [(3, .int x2), (2, .int (0 : Int32)), (1, .int (t0 - t1)), (0, .ref (Γ.B + pp l0))]) dX11_byMiddle_39 rfl (Nat.le_of_ble_eq_true rfl) rfl ?_
  exact gx_sub [3, 2, 1, 0] rfl (s_X11_byMiddle_40  N _ _ _ _ _ _ h)
set_option maxRecDepth 4000 in
theorem s_X11_byMiddle_0 {Γ : Cn} {τ : Mm} {N : Nat} {l0 : Nat} {σ : Mm} {o : Int32 × Mm} (h : f_X11_byMiddle N l0 σ = some o) : Gx Γ M_X11_byMiddle 100 τ (PI o) 0 0 0 [(0, .ref (Γ.B + pp l0))] [] σ := by
  unfold f_X11_byMiddle at h
  refine gx_aload_n 0 dX11_byMiddle_0 rfl rfl ?_
  refine gx_iconst (v := (0 : Int32)) dX11_byMiddle_1 ic_0 ?_
  obtain ⟨_, hobq1, h⟩ := bnd h
  obtain ⟨q1, hq1, h⟩ := bnd h
  refine gx_cVV (As := [.int (0 : Int32)]) (st := []) (o := l0) dX11_byMiddle_2 (c_X11_counts hq1) mov_X11_counts tw_1419 hobq1 rfl ⟨Nat.le_of_ble_eq_true rfl, Nat.le_of_ble_eq_true rfl⟩ (Nat.le_of_ble_eq_true rfl) ?_
  refine gx_aload_n 0 dX11_byMiddle_5 rfl rfl ?_
  obtain ⟨a2, ha2, h⟩ := bnd h
  refine gx_getN dX11_byMiddle_6 ha2 fl_X11_45 rfl ?_
  refine gx_iconst (v := (0 : Int32)) dX11_byMiddle_9 ic_0 ?_
  obtain ⟨x3, hx3, h⟩ := bnd h
  refine gx_iald (kd := 113) dX11_byMiddle_10 hx3 rfl rfl ?_
  refine gx_iconst (v := (2 : Int32)) dX11_byMiddle_11 ic_2 ?_
  obtain ⟨c3, h⟩ := of_ifn h
  refine gx_idiv dX11_byMiddle_12 c3 ?_
  refine gx_aload_n 0 dX11_byMiddle_13 rfl rfl ?_
  obtain ⟨a5, ha5, h⟩ := bnd h
  refine gx_getN dX11_byMiddle_14 ha5 fl_X11_45 rfl ?_
  refine gx_iconst (v := (0 : Int32)) dX11_byMiddle_17 ic_0 ?_
  obtain ⟨x6, hx6, h⟩ := bnd h
  refine gx_iald (kd := 113) dX11_byMiddle_18 hx6 rfl rfl ?_
  refine gx_iconst (v := (2 : Int32)) dX11_byMiddle_19 ic_2 ?_
  obtain ⟨c6, h⟩ := of_ifn h
  refine gx_irem dX11_byMiddle_20 c6 ?_
  refine gx_if_ne 28 dX11_byMiddle_21 (by decide) (fun c7 => ?_) (fun c7 => ?_)
  · rw [if_neg c7] at h
    refine gx_iconst (v := (0 : Int32)) dX11_byMiddle_28 ic_0 ?_
    exact s_X11_byMiddle_29  h
  · rw [if_pos c7] at h
    refine gx_iconst (v := (1 : Int32)) dX11_byMiddle_24 ic_1 ?_
    refine gx_goto 29 dX11_byMiddle_25 (by decide) ?_
    exact s_X11_byMiddle_29  h
theorem c_X11_byMiddle {Γ : Cn} {τ : Mm} {N : Nat} {l0 : Nat} {σ : Mm} {o : Int32 × Mm} (h : f_X11_byMiddle N l0 σ = some o) : Ct Γ M_X11_byMiddle yX11_byMiddle 100 τ [.ref (Γ.B + pp l0)] σ (PI o) := ct_of (by decide) rfl (fun _ => by first | rfl | contradiction) (Nat.le_of_ble_eq_true rfl) (s_X11_byMiddle_0  h)
abbrev M_X11_worst : Ms := (cX11_worst, RX11, 3, (some .int), false, 0, 0, 0)
def f_X11_worst_40 (N : Nat) (r_4 : Nat → Int32 → Int32 → Mm → Option (Int32 × Mm)) (l0 : Nat) (l1 : Int32) (l2 : Int32) (σ : Mm) : Option (Int32 × Mm) :=
  r_4 l0 l1 (l2 + (1 : Int32)) σ
def f_X11_worst_38 (N : Nat) (r_4 : Nat → Int32 → Int32 → Mm → Option (Int32 × Mm)) (l0 : Nat) (l2 : Int32) (σ : Mm) : Option (Int32 × Mm) :=
  f_X11_worst_40 N r_4 l0 l2 l2 σ
def f_X11_worst_4 (N : Nat) : Nat → Nat → Int32 → Int32 → Mm → Option (Int32 × Mm)
  | 0, _, _, _, _ => none
  | n + 1, l0, l1, l2, σ =>
      if (8 : Int32) ≤ l2 then (
        some (l1, σ)) else (
        (gN 11 26 σ l0).bind fun a2 =>
        (aI 113 σ a2 l2).bind fun x3 =>
        if x3 ≤ 0 then (
          f_X11_worst_40 N (f_X11_worst_4 N n) l0 l1 l2 σ) else (
          if l1 < 0 then (
            f_X11_worst_38 N (f_X11_worst_4 N n) l0 l2 σ) else (
            (gN 11 26 σ l0).bind fun a6 =>
            (aI 113 σ a6 l2).bind fun x7 =>
            (gN 11 26 σ l0).bind fun a8 =>
            (aI 113 σ a8 l1).bind fun x9 =>
            if x9 < x7 then (
              f_X11_worst_40 N (f_X11_worst_4 N n) l0 l1 l2 σ) else (
              f_X11_worst_38 N (f_X11_worst_4 N n) l0 l2 σ))))
def f_X11_worst (N : Nat) (l0 : Nat) (σ : Mm) : Option (Int32 × Mm) :=
  f_X11_worst_4 N N l0 (-1 : Int32) (0 : Int32) σ
theorem mov_X11_worst : MOV yX11_worst M_X11_worst 0 11 100 := ⟨⟨tw_107, tw_1442, ⟨by decide, by decide⟩, by decide +kernel⟩, tw_1441, tw_85, by decide, ⟨_, rfl, rfl⟩, rfl⟩
set_option maxRecDepth 4000 in
theorem s_X11_worst_40 {Γ : Cn} {τ : Mm} {N : Nat} {r_4 : Nat → Int32 → Int32 → Mm → Option (Int32 × Mm)} (hr_4 : ∀ (l0 : Nat) (l1 : Int32) (l2 : Int32) (σ : Mm) (o : Int32 × Mm), r_4 l0 l1 l2 σ = some o → Gx Γ M_X11_worst 100 τ (PI o) 0 0 4 [(0, .ref (Γ.B + pp l0)), (1, .int l1), (2, .int l2)] [] σ) {l0 : Nat} {l1 : Int32} {l2 : Int32} {σ : Mm} {o : Int32 × Mm} (h : f_X11_worst_40 N r_4 l0 l1 l2 σ = some o) : Gx Γ M_X11_worst 100 τ (PI o) 0 0 40 [(0, .ref (Γ.B + pp l0)), (1, .int l1), (2, .int l2)] [] σ := by
  unfold f_X11_worst_40 at h
  refine gx_iinc (v := (l2 + (1 : Int32))) (lv' := [(2, .int (l2 + (1 : Int32))), (0, .ref (Γ.B + pp l0)), (1, .int l1)]) 2 dX11_worst_40 rfl (by rw [ic_1]) (Nat.le_of_ble_eq_true rfl) rfl ?_
  refine gx_goto 4 dX11_worst_43 (by decide) ?_
  exact gx_sub [1, 2, 0] rfl (hr_4 _ _ _ _ _ h)
set_option maxRecDepth 4000 in
theorem s_X11_worst_38 {Γ : Cn} {τ : Mm} {N : Nat} {r_4 : Nat → Int32 → Int32 → Mm → Option (Int32 × Mm)} (hr_4 : ∀ (l0 : Nat) (l1 : Int32) (l2 : Int32) (σ : Mm) (o : Int32 × Mm), r_4 l0 l1 l2 σ = some o → Gx Γ M_X11_worst 100 τ (PI o) 0 0 4 [(0, .ref (Γ.B + pp l0)), (1, .int l1), (2, .int l2)] [] σ) {l0 : Nat} {l2 : Int32} {σ : Mm} {o : Int32 × Mm} (h : f_X11_worst_38 N r_4 l0 l2 σ = some o) : Gx Γ M_X11_worst 100 τ (PI o) 0 0 38 [(0, .ref (Γ.B + pp l0)), (2, .int l2)] [] σ := by
  unfold f_X11_worst_38 at h
  refine gx_iload_n 1 dX11_worst_38 rfl rfl ?_
  refine gx_istore_n (lv' := [(1, .int l2), (0, .ref (Γ.B + pp l0)), (2, .int l2)]) dX11_worst_39 rfl (Nat.le_of_ble_eq_true rfl) rfl ?_
  exact gx_sub [1, 0, 2] rfl (s_X11_worst_40 hr_4 h)
set_option maxRecDepth 4000 in
theorem s_X11_worst_4 {Γ : Cn} {τ : Mm} {N : Nat} : ∀ (n : Nat) (l0 : Nat) (l1 : Int32) (l2 : Int32) (σ : Mm) (o : Int32 × Mm), f_X11_worst_4 N n l0 l1 l2 σ = some o → Gx Γ M_X11_worst 100 τ (PI o) 0 0 4 [(0, .ref (Γ.B + pp l0)), (1, .int l1), (2, .int l2)] [] σ := by
  intro n
  induction n with
  | zero =>
    intro l0 l1 l2 σ o h
    exact absurd h (by rw [f_X11_worst_4]; exact fun q => nomatch q)
  | succ n ih =>
    intro l0 l1 l2 σ o h
    rw [f_X11_worst_4] at h
    refine gx_iload_n 2 dX11_worst_4 rfl rfl ?_
    refine gx_bipush (v := (8 : Int32)) dX11_worst_5 ib_8 ?_
    refine gx_icmp_ge 46 dX11_worst_7 (by decide) (fun c0 => ?_) (fun c0 => ?_)
    · rw [if_pos c0] at h
      refine gx_iload_n 1 dX11_worst_46 rfl rfl ?_
      have h := Option.some.inj h
      subst h
      exact gx_iret dX11_worst_47 rfl (Nat.le_of_ble_eq_true rfl) (Nat.le_of_ble_eq_true rfl) ⟨rfl, rfl⟩
    · rw [if_neg c0] at h
      refine gx_aload_n 0 dX11_worst_10 rfl rfl ?_
      obtain ⟨a2, ha2, h⟩ := bnd h
      refine gx_getN dX11_worst_11 ha2 fl_X11_51 rfl ?_
      refine gx_iload_n 2 dX11_worst_14 rfl rfl ?_
      obtain ⟨x3, hx3, h⟩ := bnd h
      refine gx_iald (kd := 113) dX11_worst_15 hx3 rfl rfl ?_
      refine gx_if_le 40 dX11_worst_16 (by decide) (fun c3 => ?_) (fun c3 => ?_)
      · rw [if_pos c3] at h
        exact s_X11_worst_40 ih h
      · rw [if_neg c3] at h
        refine gx_iload_n 1 dX11_worst_19 rfl rfl ?_
        refine gx_if_lt 38 dX11_worst_20 (by decide) (fun c4 => ?_) (fun c4 => ?_)
        · rw [if_pos c4] at h
          exact gx_sub [0, 2] rfl (s_X11_worst_38 ih h)
        · rw [if_neg c4] at h
          refine gx_aload_n 0 dX11_worst_23 rfl rfl ?_
          obtain ⟨a6, ha6, h⟩ := bnd h
          refine gx_getN dX11_worst_24 ha6 fl_X11_51 rfl ?_
          refine gx_iload_n 2 dX11_worst_27 rfl rfl ?_
          obtain ⟨x7, hx7, h⟩ := bnd h
          refine gx_iald (kd := 113) dX11_worst_28 hx7 rfl rfl ?_
          refine gx_aload_n 0 dX11_worst_29 rfl rfl ?_
          obtain ⟨a8, ha8, h⟩ := bnd h
          refine gx_getN dX11_worst_30 ha8 fl_X11_51 rfl ?_
          refine gx_iload_n 1 dX11_worst_33 rfl rfl ?_
          obtain ⟨x9, hx9, h⟩ := bnd h
          refine gx_iald (kd := 113) dX11_worst_34 hx9 rfl rfl ?_
          refine gx_icmp_gt 40 dX11_worst_35 (by decide) (fun c9 => ?_) (fun c9 => ?_)
          · rw [if_pos c9] at h
            exact s_X11_worst_40 ih h
          · rw [if_neg c9] at h
            exact gx_sub [0, 2] rfl (s_X11_worst_38 ih h)
set_option maxRecDepth 4000 in
theorem s_X11_worst_0 {Γ : Cn} {τ : Mm} {N : Nat} {l0 : Nat} {σ : Mm} {o : Int32 × Mm} (h : f_X11_worst N l0 σ = some o) : Gx Γ M_X11_worst 100 τ (PI o) 0 0 0 [(0, .ref (Γ.B + pp l0))] [] σ := by
  unfold f_X11_worst at h
  refine gx_iconst (v := (-1 : Int32)) dX11_worst_0 ic_m1 ?_
  refine gx_istore_n (lv' := [(1, .int (-1 : Int32)), (0, .ref (Γ.B + pp l0))]) dX11_worst_1 rfl (Nat.le_of_ble_eq_true rfl) rfl ?_
  refine gx_iconst (v := (0 : Int32)) dX11_worst_2 ic_0 ?_
  refine gx_istore_n (lv' := [(2, .int (0 : Int32)), (1, .int (-1 : Int32)), (0, .ref (Γ.B + pp l0))]) dX11_worst_3 rfl (Nat.le_of_ble_eq_true rfl) rfl ?_
  exact gx_sub [2, 1, 0] rfl (s_X11_worst_4  N _ _ _ _ _ h)
theorem c_X11_worst {Γ : Cn} {τ : Mm} {N : Nat} {l0 : Nat} {σ : Mm} {o : Int32 × Mm} (h : f_X11_worst N l0 σ = some o) : Ct Γ M_X11_worst yX11_worst 100 τ [.ref (Γ.B + pp l0)] σ (PI o) := ct_of (by decide) rfl (fun _ => by first | rfl | contradiction) (Nat.le_of_ble_eq_true rfl) (s_X11_worst_0  h)
abbrev M_X11_nearest : Ms := (cX11_nearest, RX11, 3, (some .int), false, 0, 0, 0)
def f_X11_nearest_2 (N : Nat) : Nat → Nat → Int32 → Int32 → Mm → Option (Int32 × Mm)
  | 0, _, _, _, _ => none
  | n + 1, l0, l1, l2, σ =>
      if (5 : Int32) ≤ l2 then (
        some (l1, σ)) else (
        (gN 11 26 σ l0).bind fun a2 =>
        (aI 113 σ a2 ((l1 + l2) &&& (7 : Int32))).bind fun x3 =>
        if x3 ≤ 0 then (
          (gN 11 26 σ l0).bind fun a5 =>
          (aI 113 σ a5 ((l1 - l2) &&& (7 : Int32))).bind fun x6 =>
          if x6 ≤ 0 then (
            f_X11_nearest_2 N n l0 l1 (l2 + (1 : Int32)) σ) else (
            some (((l1 - l2) &&& (7 : Int32)), σ))) else (
          some (((l1 + l2) &&& (7 : Int32)), σ)))
def f_X11_nearest (N : Nat) (l0 : Nat) (l1 : Int32) (σ : Mm) : Option (Int32 × Mm) :=
  f_X11_nearest_2 N N l0 l1 (1 : Int32) σ
theorem mov_X11_nearest : MOV yX11_nearest M_X11_nearest 1 11 100 := ⟨⟨tw_107, tw_1446, ⟨by decide, by decide⟩, by decide +kernel⟩, tw_1445, tw_86, by decide, ⟨_, rfl, rfl⟩, rfl⟩
set_option maxRecDepth 4000 in
theorem s_X11_nearest_2 {Γ : Cn} {τ : Mm} {N : Nat} : ∀ (n : Nat) (l0 : Nat) (l1 : Int32) (l2 : Int32) (σ : Mm) (o : Int32 × Mm), f_X11_nearest_2 N n l0 l1 l2 σ = some o → Gx Γ M_X11_nearest 100 τ (PI o) 0 0 2 [(0, .ref (Γ.B + pp l0)), (1, .int l1), (2, .int l2)] [] σ := by
  intro n
  induction n with
  | zero =>
    intro l0 l1 l2 σ o h
    exact absurd h (by rw [f_X11_nearest_2]; exact fun q => nomatch q)
  | succ n ih =>
    intro l0 l1 l2 σ o h
    rw [f_X11_nearest_2] at h
    refine gx_iload_n 2 dX11_nearest_2 rfl rfl ?_
    refine gx_iconst (v := (5 : Int32)) dX11_nearest_3 ic_5 ?_
    refine gx_icmp_ge 55 dX11_nearest_4 (by decide) (fun c0 => ?_) (fun c0 => ?_)
    · rw [if_pos c0] at h
      refine gx_iload_n 1 dX11_nearest_55 rfl rfl ?_
      have h := Option.some.inj h
      subst h
      exact gx_iret dX11_nearest_56 rfl (Nat.le_of_ble_eq_true rfl) (Nat.le_of_ble_eq_true rfl) ⟨rfl, rfl⟩
    · rw [if_neg c0] at h
      refine gx_aload_n 0 dX11_nearest_7 rfl rfl ?_
      obtain ⟨a2, ha2, h⟩ := bnd h
      refine gx_getN dX11_nearest_8 ha2 fl_X11_51 rfl ?_
      refine gx_iload_n 1 dX11_nearest_11 rfl rfl ?_
      refine gx_iload_n 2 dX11_nearest_12 rfl rfl ?_
      refine gx_iadd dX11_nearest_13 ?_
      refine gx_bipush (v := (7 : Int32)) dX11_nearest_14 ib_7 ?_
      refine gx_iand dX11_nearest_16 ?_
      obtain ⟨x3, hx3, h⟩ := bnd h
      refine gx_iald (kd := 113) dX11_nearest_17 hx3 rfl rfl ?_
      refine gx_if_le 28 dX11_nearest_18 (by decide) (fun c3 => ?_) (fun c3 => ?_)
      · rw [if_pos c3] at h
        refine gx_aload_n 0 dX11_nearest_28 rfl rfl ?_
        obtain ⟨a5, ha5, h⟩ := bnd h
        refine gx_getN dX11_nearest_29 ha5 fl_X11_51 rfl ?_
        refine gx_iload_n 1 dX11_nearest_32 rfl rfl ?_
        refine gx_iload_n 2 dX11_nearest_33 rfl rfl ?_
        refine gx_isub dX11_nearest_34 ?_
        refine gx_bipush (v := (7 : Int32)) dX11_nearest_35 ib_7 ?_
        refine gx_iand dX11_nearest_37 ?_
        obtain ⟨x6, hx6, h⟩ := bnd h
        refine gx_iald (kd := 113) dX11_nearest_38 hx6 rfl rfl ?_
        refine gx_if_le 49 dX11_nearest_39 (by decide) (fun c6 => ?_) (fun c6 => ?_)
        · rw [if_pos c6] at h
          refine gx_iinc (v := (l2 + (1 : Int32))) (lv' := [(2, .int (l2 + (1 : Int32))), (0, .ref (Γ.B + pp l0)), (1, .int l1)]) 2 dX11_nearest_49 rfl (by rw [ic_1]) (Nat.le_of_ble_eq_true rfl) rfl ?_
          refine gx_goto 2 dX11_nearest_52 (by decide) ?_
          exact gx_sub [1, 2, 0] rfl (ih _ _ _ _ _ h)
        · rw [if_neg c6] at h
          refine gx_iload_n 1 dX11_nearest_42 rfl rfl ?_
          refine gx_iload_n 2 dX11_nearest_43 rfl rfl ?_
          refine gx_isub dX11_nearest_44 ?_
          refine gx_bipush (v := (7 : Int32)) dX11_nearest_45 ib_7 ?_
          refine gx_iand dX11_nearest_47 ?_
          have h := Option.some.inj h
          subst h
          exact gx_iret dX11_nearest_48 rfl (Nat.le_of_ble_eq_true rfl) (Nat.le_of_ble_eq_true rfl) ⟨rfl, rfl⟩
      · rw [if_neg c3] at h
        refine gx_iload_n 1 dX11_nearest_21 rfl rfl ?_
        refine gx_iload_n 2 dX11_nearest_22 rfl rfl ?_
        refine gx_iadd dX11_nearest_23 ?_
        refine gx_bipush (v := (7 : Int32)) dX11_nearest_24 ib_7 ?_
        refine gx_iand dX11_nearest_26 ?_
        have h := Option.some.inj h
        subst h
        exact gx_iret dX11_nearest_27 rfl (Nat.le_of_ble_eq_true rfl) (Nat.le_of_ble_eq_true rfl) ⟨rfl, rfl⟩
set_option maxRecDepth 4000 in
theorem s_X11_nearest_0 {Γ : Cn} {τ : Mm} {N : Nat} {l0 : Nat} {l1 : Int32} {σ : Mm} {o : Int32 × Mm} (h : f_X11_nearest N l0 l1 σ = some o) : Gx Γ M_X11_nearest 100 τ (PI o) 0 0 0 [(0, .ref (Γ.B + pp l0)), (1, .int l1)] [] σ := by
  unfold f_X11_nearest at h
  refine gx_iconst (v := (1 : Int32)) dX11_nearest_0 ic_1 ?_
  refine gx_istore_n (lv' := [(2, .int (1 : Int32)), (0, .ref (Γ.B + pp l0)), (1, .int l1)]) dX11_nearest_1 rfl (Nat.le_of_ble_eq_true rfl) rfl ?_
  exact gx_sub [1, 2, 0] rfl (s_X11_nearest_2  N _ _ _ _ _ h)
theorem c_X11_nearest {Γ : Cn} {τ : Mm} {N : Nat} {l0 : Nat} {l1 : Int32} {σ : Mm} {o : Int32 × Mm} (h : f_X11_nearest N l0 l1 σ = some o) : Ct Γ M_X11_nearest yX11_nearest 100 τ [.ref (Γ.B + pp l0), .int l1] σ (PI o) := ct_of (by decide) rfl (fun _ => by first | rfl | contradiction) (Nat.le_of_ble_eq_true rfl) (s_X11_nearest_0  h)
abbrev M_X11_pointsSaid : Ms := (cX11_pointsSaid, RX11, 3, (some .int), false, 0, 0, 0)
def f_X11_pointsSaid_25 (N : Nat) (r_4 : Nat → Int32 → Int32 → Mm → Option (Int32 × Mm)) (l0 : Nat) (l2 : Int32) (t0 : Int32) (t1 : Int32) (σ : Mm) : Option (Int32 × Mm) :=
  r_4 l0 (t0 + t1) (l2 + (1 : Int32)) σ
def f_X11_pointsSaid_4 (N : Nat) : Nat → Nat → Int32 → Int32 → Mm → Option (Int32 × Mm)
  | 0, _, _, _, _ => none
  | n + 1, l0, l1, l2, σ =>
      if (8 : Int32) ≤ l2 then (
        some (l1, σ)) else (
        (gN 11 26 σ l0).bind fun a2 =>
        (aI 113 σ a2 l2).bind fun x3 =>
        if x3 ≤ 0 then (
          f_X11_pointsSaid_25 N (f_X11_pointsSaid_4 N n) l0 l2 l1 (0 : Int32) σ) else (
          f_X11_pointsSaid_25 N (f_X11_pointsSaid_4 N n) l0 l2 l1 (1 : Int32) σ))
def f_X11_pointsSaid (N : Nat) (l0 : Nat) (σ : Mm) : Option (Int32 × Mm) :=
  f_X11_pointsSaid_4 N N l0 (0 : Int32) (0 : Int32) σ
theorem mov_X11_pointsSaid : MOV yX11_pointsSaid M_X11_pointsSaid 0 11 100 := ⟨⟨tw_107, tw_1438, ⟨by decide, by decide⟩, by decide +kernel⟩, tw_1437, tw_84, by decide, ⟨_, rfl, rfl⟩, rfl⟩
set_option maxRecDepth 4000 in
theorem s_X11_pointsSaid_25 {Γ : Cn} {τ : Mm} {N : Nat} {r_4 : Nat → Int32 → Int32 → Mm → Option (Int32 × Mm)} (hr_4 : ∀ (l0 : Nat) (l1 : Int32) (l2 : Int32) (σ : Mm) (o : Int32 × Mm), r_4 l0 l1 l2 σ = some o → Gx Γ M_X11_pointsSaid 100 τ (PI o) 0 0 4 [(0, .ref (Γ.B + pp l0)), (1, .int l1), (2, .int l2)] [] σ) {l0 : Nat} {l2 : Int32} {t0 : Int32} {t1 : Int32} {σ : Mm} {o : Int32 × Mm} (h : f_X11_pointsSaid_25 N r_4 l0 l2 t0 t1 σ = some o) : Gx Γ M_X11_pointsSaid 100 τ (PI o) 0 0 25 [(0, .ref (Γ.B + pp l0)), (2, .int l2)] [.int t1, .int t0] σ := by
  unfold f_X11_pointsSaid_25 at h
  refine gx_iadd dX11_pointsSaid_25 ?_
  refine gx_istore_n (lv' := [(1, .int (t0 + t1)), (0, .ref (Γ.B + pp l0)), (2, .int l2)]) dX11_pointsSaid_26 rfl (Nat.le_of_ble_eq_true rfl) rfl ?_
  refine gx_iinc (v := (l2 + (1 : Int32))) (lv' := [(2, .int (l2 + (1 : Int32))), (1, .int (t0 + t1)), (0, .ref (Γ.B + pp l0))]) 2 dX11_pointsSaid_27 rfl (by rw [ic_1]) (Nat.le_of_ble_eq_true rfl) rfl ?_
  refine gx_goto 4 dX11_pointsSaid_30 (by decide) ?_
  exact gx_sub [2, 1, 0] rfl (hr_4 _ _ _ _ _ h)
set_option maxRecDepth 4000 in
theorem s_X11_pointsSaid_4 {Γ : Cn} {τ : Mm} {N : Nat} : ∀ (n : Nat) (l0 : Nat) (l1 : Int32) (l2 : Int32) (σ : Mm) (o : Int32 × Mm), f_X11_pointsSaid_4 N n l0 l1 l2 σ = some o → Gx Γ M_X11_pointsSaid 100 τ (PI o) 0 0 4 [(0, .ref (Γ.B + pp l0)), (1, .int l1), (2, .int l2)] [] σ := by
  intro n
  induction n with
  | zero =>
    intro l0 l1 l2 σ o h
    exact absurd h (by rw [f_X11_pointsSaid_4]; exact fun q => nomatch q)
  | succ n ih =>
    intro l0 l1 l2 σ o h
    rw [f_X11_pointsSaid_4] at h
    refine gx_iload_n 2 dX11_pointsSaid_4 rfl rfl ?_
    refine gx_bipush (v := (8 : Int32)) dX11_pointsSaid_5 ib_8 ?_
    refine gx_icmp_ge 33 dX11_pointsSaid_7 (by decide) (fun c0 => ?_) (fun c0 => ?_)
    · rw [if_pos c0] at h
      refine gx_iload_n 1 dX11_pointsSaid_33 rfl rfl ?_
      have h := Option.some.inj h
      subst h
      exact gx_iret dX11_pointsSaid_34 rfl (Nat.le_of_ble_eq_true rfl) (Nat.le_of_ble_eq_true rfl) ⟨rfl, rfl⟩
    · rw [if_neg c0] at h
      refine gx_iload_n 1 dX11_pointsSaid_10 rfl rfl ?_
      refine gx_aload_n 0 dX11_pointsSaid_11 rfl rfl ?_
      obtain ⟨a2, ha2, h⟩ := bnd h
      refine gx_getN dX11_pointsSaid_12 ha2 fl_X11_51 rfl ?_
      refine gx_iload_n 2 dX11_pointsSaid_15 rfl rfl ?_
      obtain ⟨x3, hx3, h⟩ := bnd h
      refine gx_iald (kd := 113) dX11_pointsSaid_16 hx3 rfl rfl ?_
      refine gx_if_le 24 dX11_pointsSaid_17 (by decide) (fun c3 => ?_) (fun c3 => ?_)
      · rw [if_pos c3] at h
        refine gx_iconst (v := (0 : Int32)) dX11_pointsSaid_24 ic_0 ?_
        exact gx_sub [0, 2] rfl (s_X11_pointsSaid_25 ih h)
      · rw [if_neg c3] at h
        refine gx_iconst (v := (1 : Int32)) dX11_pointsSaid_20 ic_1 ?_
        refine gx_goto 25 dX11_pointsSaid_21 (by decide) ?_
        exact gx_sub [0, 2] rfl (s_X11_pointsSaid_25 ih h)
set_option maxRecDepth 4000 in
theorem s_X11_pointsSaid_0 {Γ : Cn} {τ : Mm} {N : Nat} {l0 : Nat} {σ : Mm} {o : Int32 × Mm} (h : f_X11_pointsSaid N l0 σ = some o) : Gx Γ M_X11_pointsSaid 100 τ (PI o) 0 0 0 [(0, .ref (Γ.B + pp l0))] [] σ := by
  unfold f_X11_pointsSaid at h
  refine gx_iconst (v := (0 : Int32)) dX11_pointsSaid_0 ic_0 ?_
  refine gx_istore_n (lv' := [(1, .int (0 : Int32)), (0, .ref (Γ.B + pp l0))]) dX11_pointsSaid_1 rfl (Nat.le_of_ble_eq_true rfl) rfl ?_
  refine gx_iconst (v := (0 : Int32)) dX11_pointsSaid_2 ic_0 ?_
  refine gx_istore_n (lv' := [(2, .int (0 : Int32)), (1, .int (0 : Int32)), (0, .ref (Γ.B + pp l0))]) dX11_pointsSaid_3 rfl (Nat.le_of_ble_eq_true rfl) rfl ?_
  exact gx_sub [2, 1, 0] rfl (s_X11_pointsSaid_4  N _ _ _ _ _ h)
theorem c_X11_pointsSaid {Γ : Cn} {τ : Mm} {N : Nat} {l0 : Nat} {σ : Mm} {o : Int32 × Mm} (h : f_X11_pointsSaid N l0 σ = some o) : Ct Γ M_X11_pointsSaid yX11_pointsSaid 100 τ [.ref (Γ.B + pp l0)] σ (PI o) := ct_of (by decide) rfl (fun _ => by first | rfl | contradiction) (Nat.le_of_ble_eq_true rfl) (s_X11_pointsSaid_0  h)
abbrev M_X11_byStriking : Ms := (cX11_byStriking, RX11, 3, (some .int), false, 0, 0, 2)
def f_X11_byStriking_66 (N : Nat) : Nat → Nat → Int32 → Mm → Option (Int32 × Mm)
  | 0, _, _, _ => none
  | n + 1, l0, l1, σ =>
      (gN 11 26 σ l0).bind fun a1 =>
      (aI 113 σ a1 l1).bind fun x2 =>
      (ob 11 σ l0).bind fun _ =>
      (f_X11_greatest N l0 σ).bind fun q3 =>
      if x2 = q3.1 then (
        some (l1, q3.2)) else (
        f_X11_byStriking_66 N n l0 (l1 + (1 : Int32)) q3.2)
def f_X11_byStriking_64 (N : Nat) (l0 : Nat) (σ : Mm) : Option (Int32 × Mm) :=
  f_X11_byStriking_66 N N l0 (0 : Int32) σ
def f_X11_byStriking_5 (N : Nat) : Nat → Nat → Mm → Option (Int32 × Mm)
  | 0, _, _ => none
  | n + 1, l0, σ =>
      (ob 11 σ l0).bind fun _ =>
      (f_X11_pointsSaid N l0 σ).bind fun q1 =>
      if q1.1 ≤ (1 : Int32) then (
        f_X11_byStriking_64 N l0 q1.2) else (
        (ob 11 q1.2 l0).bind fun _ =>
        (f_X11_greatest N l0 q1.2).bind fun q3 =>
        (gN 11 24 q3.2 l0).bind fun a4 =>
        (aI 113 q3.2 a4 (0 : Int32)).bind fun x5 =>
        if x5 < ((2 : Int32) * q3.1) then (
          f_X11_byStriking_64 N l0 q3.2) else (
          (ob 11 q3.2 l0).bind fun _ =>
          (f_X11_worst N l0 q3.2).bind fun q7 =>
          (ob 11 q7.2 l0).bind fun _ =>
          (f_X11_nearest N l0 q7.1 q7.2).bind fun q8 =>
          (gN 11 26 q8.2 l0).bind fun a9 =>
          (aI 113 q8.2 a9 q8.1).bind fun x10 =>
          (gN 11 26 q8.2 l0).bind fun a11 =>
          (aI 113 q8.2 a11 q7.1).bind fun x12 =>
          (sI 113 q8.2 a9 q8.1 (x10 + x12)).bind fun s13 =>
          (gN 11 26 s13 l0).bind fun a14 =>
          (sI 113 s13 a14 q7.1 (0 : Int32)).bind fun s15 =>
          f_X11_byStriking_5 N n l0 s15))
def f_X11_byStriking (N : Nat) (l0 : Nat) (σ : Mm) : Option (Int32 × Mm) :=
  (ob 11 σ l0).bind fun _ =>
  (f_X11_counts N l0 (0 : Int32) σ).bind fun q1 =>
  f_X11_byStriking_5 N N l0 q1
theorem mov_X11_byStriking : MOV yX11_byStriking M_X11_byStriking 0 11 100 := ⟨⟨tw_107, tw_1434, ⟨by decide, by decide⟩, by decide +kernel⟩, tw_1433, tw_83, by decide, ⟨_, rfl, rfl⟩, rfl⟩
set_option maxRecDepth 4000 in
theorem s_X11_byStriking_66 {Γ : Cn} {τ : Mm} {N : Nat} : ∀ (n : Nat) (l0 : Nat) (l1 : Int32) (σ : Mm) (o : Int32 × Mm), f_X11_byStriking_66 N n l0 l1 σ = some o → Gx Γ M_X11_byStriking 100 τ (PI o) 0 0 66 [(0, .ref (Γ.B + pp l0)), (1, .int l1)] [] σ := by
  intro n
  induction n with
  | zero =>
    intro l0 l1 σ o h
    exact absurd h (by rw [f_X11_byStriking_66]; exact fun q => nomatch q)
  | succ n ih =>
    intro l0 l1 σ o h
    rw [f_X11_byStriking_66] at h
    refine gx_aload_n 0 dX11_byStriking_66 rfl rfl ?_
    obtain ⟨a1, ha1, h⟩ := bnd h
    refine gx_getN dX11_byStriking_67 ha1 fl_X11_51 rfl ?_
    refine gx_iload_n 1 dX11_byStriking_70 rfl rfl ?_
    obtain ⟨x2, hx2, h⟩ := bnd h
    refine gx_iald (kd := 113) dX11_byStriking_71 hx2 rfl rfl ?_
    refine gx_aload_n 0 dX11_byStriking_72 rfl rfl ?_
    obtain ⟨_, hobq3, h⟩ := bnd h
    obtain ⟨q3, hq3, h⟩ := bnd h
    refine gx_cVI (As := []) (st := [.int x2]) (o := l0) dX11_byStriking_73 (c_X11_greatest hq3) mov_X11_greatest tw_1423 hobq3 rfl ⟨Nat.le_of_ble_eq_true rfl, Nat.le_of_ble_eq_true rfl⟩ (Nat.le_of_ble_eq_true rfl) ?_
    refine gx_icmp_eq 85 dX11_byStriking_76 (by decide) (fun c3 => ?_) (fun c3 => ?_)
    · rw [if_pos c3] at h
      refine gx_iload_n 1 dX11_byStriking_85 rfl rfl ?_
      have h := Option.some.inj h
      subst h
      exact gx_iret dX11_byStriking_86 rfl (Nat.le_of_ble_eq_true rfl) (Nat.le_of_ble_eq_true rfl) ⟨rfl, rfl⟩
    · rw [if_neg c3] at h
      refine gx_iinc (v := (l1 + (1 : Int32))) (lv' := [(1, .int (l1 + (1 : Int32))), (0, .ref (Γ.B + pp l0))]) 1 dX11_byStriking_79 rfl (by rw [ic_1]) (Nat.le_of_ble_eq_true rfl) rfl ?_
      refine gx_goto 66 dX11_byStriking_82 (by decide) ?_
      exact gx_sub [1, 0] rfl (ih _ _ _ _ h)
set_option maxRecDepth 4000 in
theorem s_X11_byStriking_64 {Γ : Cn} {τ : Mm} {N : Nat} {l0 : Nat} {σ : Mm} {o : Int32 × Mm} (h : f_X11_byStriking_64 N l0 σ = some o) : Gx Γ M_X11_byStriking 100 τ (PI o) 0 0 64 [(0, .ref (Γ.B + pp l0))] [] σ := by
  unfold f_X11_byStriking_64 at h
  refine gx_iconst (v := (0 : Int32)) dX11_byStriking_64 ic_0 ?_
  refine gx_istore_n (lv' := [(1, .int (0 : Int32)), (0, .ref (Γ.B + pp l0))]) dX11_byStriking_65 rfl (Nat.le_of_ble_eq_true rfl) rfl ?_
  exact gx_sub [1, 0] rfl (s_X11_byStriking_66  N _ _ _ _ h)
set_option maxRecDepth 4000 in
theorem s_X11_byStriking_5 {Γ : Cn} {τ : Mm} {N : Nat} : ∀ (n : Nat) (l0 : Nat) (σ : Mm) (o : Int32 × Mm), f_X11_byStriking_5 N n l0 σ = some o → Gx Γ M_X11_byStriking 100 τ (PI o) 0 0 5 [(0, .ref (Γ.B + pp l0))] [] σ := by
  intro n
  induction n with
  | zero =>
    intro l0 σ o h
    exact absurd h (by rw [f_X11_byStriking_5]; exact fun q => nomatch q)
  | succ n ih =>
    intro l0 σ o h
    rw [f_X11_byStriking_5] at h
    refine gx_aload_n 0 dX11_byStriking_5 rfl rfl ?_
    obtain ⟨_, hobq1, h⟩ := bnd h
    obtain ⟨q1, hq1, h⟩ := bnd h
    refine gx_cVI (As := []) (st := []) (o := l0) dX11_byStriking_6 (c_X11_pointsSaid hq1) mov_X11_pointsSaid tw_1435 hobq1 rfl ⟨Nat.le_of_ble_eq_true rfl, Nat.le_of_ble_eq_true rfl⟩ (Nat.le_of_ble_eq_true rfl) ?_
    refine gx_iconst (v := (1 : Int32)) dX11_byStriking_9 ic_1 ?_
    refine gx_icmp_le 64 dX11_byStriking_10 (by decide) (fun c1 => ?_) (fun c1 => ?_)
    · rw [if_pos c1] at h
      exact s_X11_byStriking_64  h
    · rw [if_neg c1] at h
      refine gx_iconst (v := (2 : Int32)) dX11_byStriking_13 ic_2 ?_
      refine gx_aload_n 0 dX11_byStriking_14 rfl rfl ?_
      obtain ⟨_, hobq3, h⟩ := bnd h
      obtain ⟨q3, hq3, h⟩ := bnd h
      refine gx_cVI (As := []) (st := [.int (2 : Int32)]) (o := l0) dX11_byStriking_15 (c_X11_greatest hq3) mov_X11_greatest tw_1423 hobq3 rfl ⟨Nat.le_of_ble_eq_true rfl, Nat.le_of_ble_eq_true rfl⟩ (Nat.le_of_ble_eq_true rfl) ?_
      refine gx_imul dX11_byStriking_18 ?_
      refine gx_aload_n 0 dX11_byStriking_19 rfl rfl ?_
      obtain ⟨a4, ha4, h⟩ := bnd h
      refine gx_getN dX11_byStriking_20 ha4 fl_X11_45 rfl ?_
      refine gx_iconst (v := (0 : Int32)) dX11_byStriking_23 ic_0 ?_
      obtain ⟨x5, hx5, h⟩ := bnd h
      refine gx_iald (kd := 113) dX11_byStriking_24 hx5 rfl rfl ?_
      refine gx_icmp_gt 64 dX11_byStriking_25 (by decide) (fun c5 => ?_) (fun c5 => ?_)
      · rw [if_pos c5] at h
        exact s_X11_byStriking_64  h
      · rw [if_neg c5] at h
        refine gx_aload_n 0 dX11_byStriking_28 rfl rfl ?_
        obtain ⟨_, hobq7, h⟩ := bnd h
        obtain ⟨q7, hq7, h⟩ := bnd h
        refine gx_cVI (As := []) (st := []) (o := l0) dX11_byStriking_29 (c_X11_worst hq7) mov_X11_worst tw_1439 hobq7 rfl ⟨Nat.le_of_ble_eq_true rfl, Nat.le_of_ble_eq_true rfl⟩ (Nat.le_of_ble_eq_true rfl) ?_
        refine gx_istore_n (lv' := [(1, .int q7.1), (0, .ref (Γ.B + pp l0))]) dX11_byStriking_32 rfl (Nat.le_of_ble_eq_true rfl) rfl ?_
        refine gx_aload_n 1 dX11_byStriking_33 rfl rfl ?_
        refine gx_iload_n 0 dX11_byStriking_34 rfl rfl ?_
        obtain ⟨_, hobq8, h⟩ := bnd h
        obtain ⟨q8, hq8, h⟩ := bnd h
        refine gx_cVI (As := [.int q7.1]) (st := []) (o := l0) dX11_byStriking_35 (c_X11_nearest hq8) mov_X11_nearest tw_1443 hobq8 rfl ⟨Nat.le_of_ble_eq_true rfl, Nat.le_of_ble_eq_true rfl⟩ (Nat.le_of_ble_eq_true rfl) ?_
        refine gx_istore_n (lv' := [(2, .int q8.1), (1, .int q7.1), (0, .ref (Γ.B + pp l0))]) dX11_byStriking_38 rfl (Nat.le_of_ble_eq_true rfl) rfl ?_
        refine gx_aload_n 2 dX11_byStriking_39 rfl rfl ?_
        obtain ⟨a9, ha9, h⟩ := bnd h
        refine gx_getN dX11_byStriking_40 ha9 fl_X11_51 rfl ?_
        refine gx_iload_n 0 dX11_byStriking_43 rfl rfl ?_
        refine gx_dup2 dX11_byStriking_44 rfl rfl ?_
        obtain ⟨x10, hx10, h⟩ := bnd h
        refine gx_iald (kd := 113) dX11_byStriking_45 hx10 rfl rfl ?_
        refine gx_aload_n 2 dX11_byStriking_46 rfl rfl ?_
        obtain ⟨a11, ha11, h⟩ := bnd h
        refine gx_getN dX11_byStriking_47 ha11 fl_X11_51 rfl ?_
        refine gx_iload_n 1 dX11_byStriking_50 rfl rfl ?_
        obtain ⟨x12, hx12, h⟩ := bnd h
        refine gx_iald (kd := 113) dX11_byStriking_51 hx12 rfl rfl ?_
        refine gx_iadd dX11_byStriking_52 ?_
        obtain ⟨s13, hs13, h⟩ := bnd h
        refine gx_iast (kd := 113) dX11_byStriking_53 hs13 rfl rfl ?_
        refine gx_aload_n 2 dX11_byStriking_54 rfl rfl ?_
        obtain ⟨a14, ha14, h⟩ := bnd h
        refine gx_getN dX11_byStriking_55 ha14 fl_X11_51 rfl ?_
        refine gx_iload_n 1 dX11_byStriking_58 rfl rfl ?_
        refine gx_iconst (v := (0 : Int32)) dX11_byStriking_59 ic_0 ?_
        obtain ⟨s15, hs15, h⟩ := bnd h
        refine gx_iast (kd := 113) dX11_byStriking_60 hs15 rfl rfl ?_
        refine gx_goto 5 dX11_byStriking_61 (by decide) ?_
        exact gx_sub [2] rfl (ih _ _ _ h)
set_option maxRecDepth 4000 in
theorem s_X11_byStriking_0 {Γ : Cn} {τ : Mm} {N : Nat} {l0 : Nat} {σ : Mm} {o : Int32 × Mm} (h : f_X11_byStriking N l0 σ = some o) : Gx Γ M_X11_byStriking 100 τ (PI o) 0 0 0 [(0, .ref (Γ.B + pp l0))] [] σ := by
  unfold f_X11_byStriking at h
  refine gx_aload_n 0 dX11_byStriking_0 rfl rfl ?_
  refine gx_iconst (v := (0 : Int32)) dX11_byStriking_1 ic_0 ?_
  obtain ⟨_, hobq1, h⟩ := bnd h
  obtain ⟨q1, hq1, h⟩ := bnd h
  refine gx_cVV (As := [.int (0 : Int32)]) (st := []) (o := l0) dX11_byStriking_2 (c_X11_counts hq1) mov_X11_counts tw_1419 hobq1 rfl ⟨Nat.le_of_ble_eq_true rfl, Nat.le_of_ble_eq_true rfl⟩ (Nat.le_of_ble_eq_true rfl) ?_
  exact s_X11_byStriking_5  N _ _ _ h
theorem c_X11_byStriking {Γ : Cn} {τ : Mm} {N : Nat} {l0 : Nat} {σ : Mm} {o : Int32 × Mm} (h : f_X11_byStriking N l0 σ = some o) : Ct Γ M_X11_byStriking yX11_byStriking 100 τ [.ref (Γ.B + pp l0)] σ (PI o) := ct_of (by decide) rfl (fun _ => by first | rfl | contradiction) (Nat.le_of_ble_eq_true rfl) (s_X11_byStriking_0  h)
abbrev M_X11_votes : Ms := (cX11_votes, RX11, 2, (some .int), false, 0, 0, 3)
def f_X11_votes_41 (N : Nat) (t0 : Int32) (σ : Mm) : Option (Int32 × Mm) :=
  some (t0, σ)
def f_X11_votes (N : Nat) (l0 : Nat) (l1 : Int32) (σ : Mm) : Option (Int32 × Mm) :=
  if l1 = 0 then (
    (ob 11 σ l0).bind fun _ =>
    (f_X11_byMost N l0 (0 : Int32) σ).bind fun q7 =>
    f_X11_votes_41 N q7.1 q7.2) else (
    if l1 = (1 : Int32) then (
      (ob 11 σ l0).bind fun _ =>
      (f_X11_byMost N l0 (1 : Int32) σ).bind fun q6 =>
      f_X11_votes_41 N q6.1 q6.2) else (
      if l1 = (2 : Int32) then (
        (ob 11 σ l0).bind fun _ =>
        (f_X11_byMiddle N l0 σ).bind fun q5 =>
        f_X11_votes_41 N q5.1 q5.2) else (
        (ob 11 σ l0).bind fun _ =>
        (f_X11_byStriking N l0 σ).bind fun q4 =>
        f_X11_votes_41 N q4.1 q4.2)))
theorem mov_X11_votes : MOV yX11_votes M_X11_votes 1 11 100 := ⟨⟨tw_107, tw_1414, ⟨by decide, by decide⟩, by decide +kernel⟩, tw_1413, tw_78, by decide, ⟨_, rfl, rfl⟩, rfl⟩
set_option maxRecDepth 4000 in
theorem s_X11_votes_41 {Γ : Cn} {τ : Mm} {N : Nat} {t0 : Int32} {σ : Mm} {o : Int32 × Mm} (h : f_X11_votes_41 N t0 σ = some o) : Gx Γ M_X11_votes 100 τ (PI o) 0 0 41 [] [.int t0] σ := by
  unfold f_X11_votes_41 at h
  have h := Option.some.inj h
  subst h
  exact gx_iret dX11_votes_41 rfl (Nat.le_of_ble_eq_true rfl) (Nat.le_of_ble_eq_true rfl) ⟨rfl, rfl⟩
set_option maxRecDepth 4000 in
theorem s_X11_votes_0 {Γ : Cn} {τ : Mm} {N : Nat} {l0 : Nat} {l1 : Int32} {σ : Mm} {o : Int32 × Mm} (h : f_X11_votes N l0 l1 σ = some o) : Gx Γ M_X11_votes 100 τ (PI o) 0 0 0 [(0, .ref (Γ.B + pp l0)), (1, .int l1)] [] σ := by
  unfold f_X11_votes at h
  refine gx_iload_n 1 dX11_votes_0 rfl rfl ?_
  refine gx_if_ne 12 dX11_votes_1 (by decide) (fun c0 => ?_) (fun c0 => ?_)
  · rw [if_neg c0] at h
    refine gx_iload_n 1 dX11_votes_12 rfl rfl ?_
    refine gx_iconst (v := (1 : Int32)) dX11_votes_13 ic_1 ?_
    refine gx_icmp_ne 25 dX11_votes_14 (by decide) (fun c1 => ?_) (fun c1 => ?_)
    · rw [if_neg c1] at h
      refine gx_iload_n 1 dX11_votes_25 rfl rfl ?_
      refine gx_iconst (v := (2 : Int32)) dX11_votes_26 ic_2 ?_
      refine gx_icmp_ne 37 dX11_votes_27 (by decide) (fun c2 => ?_) (fun c2 => ?_)
      · rw [if_neg c2] at h
        refine gx_aload_n 0 dX11_votes_37 rfl rfl ?_
        obtain ⟨_, hobq4, h⟩ := bnd h
        obtain ⟨q4, hq4, h⟩ := bnd h
        refine gx_cVI (As := []) (st := []) (o := l0) dX11_votes_38 (c_X11_byStriking hq4) mov_X11_byStriking tw_1431 hobq4 rfl ⟨Nat.le_of_ble_eq_true rfl, Nat.le_of_ble_eq_true rfl⟩ (Nat.le_of_ble_eq_true rfl) ?_
        exact gx_sub [] rfl (s_X11_votes_41  h)
      · rw [if_pos c2] at h
        refine gx_aload_n 0 dX11_votes_30 rfl rfl ?_
        obtain ⟨_, hobq5, h⟩ := bnd h
        obtain ⟨q5, hq5, h⟩ := bnd h
        refine gx_cVI (As := []) (st := []) (o := l0) dX11_votes_31 (c_X11_byMiddle hq5) mov_X11_byMiddle tw_1427 hobq5 rfl ⟨Nat.le_of_ble_eq_true rfl, Nat.le_of_ble_eq_true rfl⟩ (Nat.le_of_ble_eq_true rfl) ?_
        refine gx_goto 41 dX11_votes_34 (by decide) ?_
        exact gx_sub [] rfl (s_X11_votes_41  h)
    · rw [if_pos c1] at h
      refine gx_aload_n 0 dX11_votes_17 rfl rfl ?_
      refine gx_iconst (v := (1 : Int32)) dX11_votes_18 ic_1 ?_
      obtain ⟨_, hobq6, h⟩ := bnd h
      obtain ⟨q6, hq6, h⟩ := bnd h
      refine gx_cVI (As := [.int (1 : Int32)]) (st := []) (o := l0) dX11_votes_19 (c_X11_byMost hq6) mov_X11_byMost tw_1415 hobq6 rfl ⟨Nat.le_of_ble_eq_true rfl, Nat.le_of_ble_eq_true rfl⟩ (Nat.le_of_ble_eq_true rfl) ?_
      refine gx_goto 41 dX11_votes_22 (by decide) ?_
      exact gx_sub [] rfl (s_X11_votes_41  h)
  · rw [if_pos c0] at h
    refine gx_aload_n 0 dX11_votes_4 rfl rfl ?_
    refine gx_iconst (v := (0 : Int32)) dX11_votes_5 ic_0 ?_
    obtain ⟨_, hobq7, h⟩ := bnd h
    obtain ⟨q7, hq7, h⟩ := bnd h
    refine gx_cVI (As := [.int (0 : Int32)]) (st := []) (o := l0) dX11_votes_6 (c_X11_byMost hq7) mov_X11_byMost tw_1415 hobq7 rfl ⟨Nat.le_of_ble_eq_true rfl, Nat.le_of_ble_eq_true rfl⟩ (Nat.le_of_ble_eq_true rfl) ?_
    refine gx_goto 41 dX11_votes_9 (by decide) ?_
    exact gx_sub [] rfl (s_X11_votes_41  h)
theorem c_X11_votes {Γ : Cn} {τ : Mm} {N : Nat} {l0 : Nat} {l1 : Int32} {σ : Mm} {o : Int32 × Mm} (h : f_X11_votes N l0 l1 σ = some o) : Ct Γ M_X11_votes yX11_votes 100 τ [.ref (Γ.B + pp l0), .int l1] σ (PI o) := ct_of (by decide) rfl (fun _ => by first | rfl | contradiction) (Nat.le_of_ble_eq_true rfl) (s_X11_votes_0  h)
abbrev M_X11_vote : Ms := (cX11_vote, RX11, 2, (some .int), false, 0, 0, 4)
def f_X11_vote_16 (N : Nat) (σ : Mm) : Option (Int32 × Mm) :=
  some ((-1 : Int32), σ)
def f_X11_vote (N : Nat) (l0 : Nat) (l1 : Int32) (σ : Mm) : Option (Int32 × Mm) :=
  (gN 11 24 σ l0).bind fun a1 =>
  (aI 113 σ a1 (0 : Int32)).bind fun x2 =>
  if x2 = 0 then (
    f_X11_vote_16 N σ) else (
    (f_X11_isWay N l1 σ).bind fun q4 =>
    if q4.1 = 0 then (
      f_X11_vote_16 N q4.2) else (
      (ob 11 q4.2 l0).bind fun _ =>
      (f_X11_asTheyAre N l0 q4.2).bind fun q6 =>
      (ob 11 q6 l0).bind fun _ =>
      (f_X11_votes N l0 l1 q6).bind fun q7 =>
      some (q7.1, q7.2)))
theorem mov_X11_vote : MOV yX11_vote M_X11_vote 1 11 100 := ⟨⟨tw_107, tw_1403, ⟨by decide, by decide⟩, by decide +kernel⟩, tw_1401, tw_1402, by decide, ⟨_, rfl, rfl⟩, rfl⟩
set_option maxRecDepth 4000 in
theorem s_X11_vote_16 {Γ : Cn} {τ : Mm} {N : Nat} {σ : Mm} {o : Int32 × Mm} (h : f_X11_vote_16 N σ = some o) : Gx Γ M_X11_vote 100 τ (PI o) 0 0 16 [] [] σ := by
  unfold f_X11_vote_16 at h
  refine gx_iconst (v := (-1 : Int32)) dX11_vote_16 ic_m1 ?_
  have h := Option.some.inj h
  subst h
  exact gx_iret dX11_vote_17 rfl (Nat.le_of_ble_eq_true rfl) (Nat.le_of_ble_eq_true rfl) ⟨rfl, rfl⟩
set_option maxRecDepth 4000 in
theorem s_X11_vote_0 {Γ : Cn} {τ : Mm} {N : Nat} {l0 : Nat} {l1 : Int32} {σ : Mm} {o : Int32 × Mm} (h : f_X11_vote N l0 l1 σ = some o) : Gx Γ M_X11_vote 100 τ (PI o) 0 0 0 [(0, .ref (Γ.B + pp l0)), (1, .int l1)] [] σ := by
  unfold f_X11_vote at h
  refine gx_aload_n 0 dX11_vote_0 rfl rfl ?_
  obtain ⟨a1, ha1, h⟩ := bnd h
  refine gx_getN dX11_vote_1 ha1 fl_X11_45 rfl ?_
  refine gx_iconst (v := (0 : Int32)) dX11_vote_4 ic_0 ?_
  obtain ⟨x2, hx2, h⟩ := bnd h
  refine gx_iald (kd := 113) dX11_vote_5 hx2 rfl rfl ?_
  refine gx_if_eq 16 dX11_vote_6 (by decide) (fun c2 => ?_) (fun c2 => ?_)
  · rw [if_pos c2] at h
    exact gx_sub [] rfl (s_X11_vote_16  h)
  · rw [if_neg c2] at h
    refine gx_iload_n 1 dX11_vote_9 rfl rfl ?_
    obtain ⟨q4, hq4, h⟩ := bnd h
    refine gx_cSI (As := [.int l1]) (st := []) dX11_vote_10 (c_X11_isWay hq4) mos_X11_isWay tw_1404 rfl ⟨Nat.le_of_ble_eq_true rfl, Nat.le_of_ble_eq_true rfl⟩ (Nat.le_of_ble_eq_true rfl) ?_
    refine gx_if_ne 18 dX11_vote_13 (by decide) (fun c4 => ?_) (fun c4 => ?_)
    · rw [if_neg c4] at h
      refine gx_aload_n 0 dX11_vote_18 rfl rfl ?_
      obtain ⟨_, hobq6, h⟩ := bnd h
      obtain ⟨q6, hq6, h⟩ := bnd h
      refine gx_cVV (As := []) (st := []) (o := l0) dX11_vote_19 (c_X11_asTheyAre hq6) mov_X11_asTheyAre tw_1407 hobq6 rfl ⟨Nat.le_of_ble_eq_true rfl, Nat.le_of_ble_eq_true rfl⟩ (Nat.le_of_ble_eq_true rfl) ?_
      refine gx_aload_n 0 dX11_vote_22 rfl rfl ?_
      refine gx_iload_n 1 dX11_vote_23 rfl rfl ?_
      obtain ⟨_, hobq7, h⟩ := bnd h
      obtain ⟨q7, hq7, h⟩ := bnd h
      refine gx_cVI (As := [.int l1]) (st := []) (o := l0) dX11_vote_24 (c_X11_votes hq7) mov_X11_votes tw_1411 hobq7 rfl ⟨Nat.le_of_ble_eq_true rfl, Nat.le_of_ble_eq_true rfl⟩ (Nat.le_of_ble_eq_true rfl) ?_
      have h := Option.some.inj h
      subst h
      exact gx_iret dX11_vote_27 rfl (Nat.le_of_ble_eq_true rfl) (Nat.le_of_ble_eq_true rfl) ⟨rfl, rfl⟩
    · rw [if_pos c4] at h
      exact gx_sub [] rfl (s_X11_vote_16  h)
theorem c_X11_vote {Γ : Cn} {τ : Mm} {N : Nat} {l0 : Nat} {l1 : Int32} {σ : Mm} {o : Int32 × Mm} (h : f_X11_vote N l0 l1 σ = some o) : Ct Γ M_X11_vote yX11_vote 100 τ [.ref (Γ.B + pp l0), .int l1] σ (PI o) := ct_of (by decide) rfl (fun _ => by first | rfl | contradiction) (Nat.le_of_ble_eq_true rfl) (s_X11_vote_0  h)
abbrev M_X11_says : Ms := (cX11_says, RX11, 2, (some .int), false, 0, 0, 2)
def f_X11_says_16 (N : Nat) (σ : Mm) : Option (Int32 × Mm) :=
  some ((-1 : Int32), σ)
def f_X11_says (N : Nat) (l0 : Nat) (l1 : Int32) (σ : Mm) : Option (Int32 × Mm) :=
  (gN 11 24 σ l0).bind fun a1 =>
  (aI 113 σ a1 (0 : Int32)).bind fun x2 =>
  if x2 = 0 then (
    f_X11_says_16 N σ) else (
    (f_X11_isPoint N l1 σ).bind fun q4 =>
    if q4.1 = 0 then (
      f_X11_says_16 N q4.2) else (
      (ob 11 q4.2 l0).bind fun _ =>
      (f_X11_asTheyAre N l0 q4.2).bind fun q6 =>
      (ob 11 q6 l0).bind fun _ =>
      (f_X11_counts N l0 (0 : Int32) q6).bind fun q7 =>
      (gN 11 26 q7 l0).bind fun a8 =>
      (aI 113 q7 a8 l1).bind fun x9 =>
      some (x9, q7)))
theorem mov_X11_says : MOV yX11_says M_X11_says 1 11 100 := ⟨⟨tw_107, tw_1450, ⟨by decide, by decide⟩, by decide +kernel⟩, tw_1448, tw_1449, by decide, ⟨_, rfl, rfl⟩, rfl⟩
set_option maxRecDepth 4000 in
theorem s_X11_says_16 {Γ : Cn} {τ : Mm} {N : Nat} {σ : Mm} {o : Int32 × Mm} (h : f_X11_says_16 N σ = some o) : Gx Γ M_X11_says 100 τ (PI o) 0 0 16 [] [] σ := by
  unfold f_X11_says_16 at h
  refine gx_iconst (v := (-1 : Int32)) dX11_says_16 ic_m1 ?_
  have h := Option.some.inj h
  subst h
  exact gx_iret dX11_says_17 rfl (Nat.le_of_ble_eq_true rfl) (Nat.le_of_ble_eq_true rfl) ⟨rfl, rfl⟩
set_option maxRecDepth 4000 in
theorem s_X11_says_0 {Γ : Cn} {τ : Mm} {N : Nat} {l0 : Nat} {l1 : Int32} {σ : Mm} {o : Int32 × Mm} (h : f_X11_says N l0 l1 σ = some o) : Gx Γ M_X11_says 100 τ (PI o) 0 0 0 [(0, .ref (Γ.B + pp l0)), (1, .int l1)] [] σ := by
  unfold f_X11_says at h
  refine gx_aload_n 0 dX11_says_0 rfl rfl ?_
  obtain ⟨a1, ha1, h⟩ := bnd h
  refine gx_getN dX11_says_1 ha1 fl_X11_45 rfl ?_
  refine gx_iconst (v := (0 : Int32)) dX11_says_4 ic_0 ?_
  obtain ⟨x2, hx2, h⟩ := bnd h
  refine gx_iald (kd := 113) dX11_says_5 hx2 rfl rfl ?_
  refine gx_if_eq 16 dX11_says_6 (by decide) (fun c2 => ?_) (fun c2 => ?_)
  · rw [if_pos c2] at h
    exact gx_sub [] rfl (s_X11_says_16  h)
  · rw [if_neg c2] at h
    refine gx_iload_n 1 dX11_says_9 rfl rfl ?_
    obtain ⟨q4, hq4, h⟩ := bnd h
    refine gx_cSI (As := [.int l1]) (st := []) dX11_says_10 (c_X11_isPoint hq4) mos_X11_isPoint tw_1318 rfl ⟨Nat.le_of_ble_eq_true rfl, Nat.le_of_ble_eq_true rfl⟩ (Nat.le_of_ble_eq_true rfl) ?_
    refine gx_if_ne 18 dX11_says_13 (by decide) (fun c4 => ?_) (fun c4 => ?_)
    · rw [if_neg c4] at h
      refine gx_aload_n 0 dX11_says_18 rfl rfl ?_
      obtain ⟨_, hobq6, h⟩ := bnd h
      obtain ⟨q6, hq6, h⟩ := bnd h
      refine gx_cVV (As := []) (st := []) (o := l0) dX11_says_19 (c_X11_asTheyAre hq6) mov_X11_asTheyAre tw_1407 hobq6 rfl ⟨Nat.le_of_ble_eq_true rfl, Nat.le_of_ble_eq_true rfl⟩ (Nat.le_of_ble_eq_true rfl) ?_
      refine gx_aload_n 0 dX11_says_22 rfl rfl ?_
      refine gx_iconst (v := (0 : Int32)) dX11_says_23 ic_0 ?_
      obtain ⟨_, hobq7, h⟩ := bnd h
      obtain ⟨q7, hq7, h⟩ := bnd h
      refine gx_cVV (As := [.int (0 : Int32)]) (st := []) (o := l0) dX11_says_24 (c_X11_counts hq7) mov_X11_counts tw_1419 hobq7 rfl ⟨Nat.le_of_ble_eq_true rfl, Nat.le_of_ble_eq_true rfl⟩ (Nat.le_of_ble_eq_true rfl) ?_
      refine gx_aload_n 0 dX11_says_27 rfl rfl ?_
      obtain ⟨a8, ha8, h⟩ := bnd h
      refine gx_getN dX11_says_28 ha8 fl_X11_51 rfl ?_
      refine gx_iload_n 1 dX11_says_31 rfl rfl ?_
      obtain ⟨x9, hx9, h⟩ := bnd h
      refine gx_iald (kd := 113) dX11_says_32 hx9 rfl rfl ?_
      have h := Option.some.inj h
      subst h
      exact gx_iret dX11_says_33 rfl (Nat.le_of_ble_eq_true rfl) (Nat.le_of_ble_eq_true rfl) ⟨rfl, rfl⟩
    · rw [if_pos c4] at h
      exact gx_sub [] rfl (s_X11_says_16  h)
theorem c_X11_says {Γ : Cn} {τ : Mm} {N : Nat} {l0 : Nat} {l1 : Int32} {σ : Mm} {o : Int32 × Mm} (h : f_X11_says N l0 l1 σ = some o) : Ct Γ M_X11_says yX11_says 100 τ [.ref (Γ.B + pp l0), .int l1] σ (PI o) := ct_of (by decide) rfl (fun _ => by first | rfl | contradiction) (Nat.le_of_ble_eq_true rfl) (s_X11_says_0  h)
abbrev M_X11_keepsRow : Ms := (cX11_keepsRow, RX11, 2, none, false, 0, 0, 0)
def f_X11_keepsRow_2 (N : Nat) : Nat → Nat → Int32 → Mm → Option Mm
  | 0, _, _, _ => none
  | n + 1, l0, l1, σ =>
      (gN 11 24 σ l0).bind fun a1 =>
      (aI 113 σ a1 (0 : Int32)).bind fun x2 =>
      if x2 ≤ l1 then (
        some σ) else (
        (gN 11 27 σ l0).bind fun a4 =>
        (gN 11 25 σ l0).bind fun a5 =>
        (aI 113 σ a5 l1).bind fun x6 =>
        (sI 113 σ a4 l1 x6).bind fun s7 =>
        f_X11_keepsRow_2 N n l0 (l1 + (1 : Int32)) s7)
def f_X11_keepsRow (N : Nat) (l0 : Nat) (σ : Mm) : Option Mm :=
  f_X11_keepsRow_2 N N l0 (0 : Int32) σ
theorem mov_X11_keepsRow : MOV yX11_keepsRow M_X11_keepsRow 0 11 100 := ⟨⟨tw_107, tw_1466, ⟨by decide, by decide⟩, by decide +kernel⟩, tw_1465, tw_89, by decide, ⟨_, rfl, rfl⟩, rfl⟩
set_option maxRecDepth 4000 in
theorem s_X11_keepsRow_2 {Γ : Cn} {τ : Mm} {N : Nat} : ∀ (n : Nat) (l0 : Nat) (l1 : Int32) (σ : Mm) (o : Mm), f_X11_keepsRow_2 N n l0 l1 σ = some o → Gx Γ M_X11_keepsRow 100 τ (PV o) 0 0 2 [(0, .ref (Γ.B + pp l0)), (1, .int l1)] [] σ := by
  intro n
  induction n with
  | zero =>
    intro l0 l1 σ o h
    exact absurd h (by rw [f_X11_keepsRow_2]; exact fun q => nomatch q)
  | succ n ih =>
    intro l0 l1 σ o h
    rw [f_X11_keepsRow_2] at h
    refine gx_iload_n 1 dX11_keepsRow_2 rfl rfl ?_
    refine gx_aload_n 0 dX11_keepsRow_3 rfl rfl ?_
    obtain ⟨a1, ha1, h⟩ := bnd h
    refine gx_getN dX11_keepsRow_4 ha1 fl_X11_45 rfl ?_
    refine gx_iconst (v := (0 : Int32)) dX11_keepsRow_7 ic_0 ?_
    obtain ⟨x2, hx2, h⟩ := bnd h
    refine gx_iald (kd := 113) dX11_keepsRow_8 hx2 rfl rfl ?_
    refine gx_icmp_ge 30 dX11_keepsRow_9 (by decide) (fun c2 => ?_) (fun c2 => ?_)
    · rw [if_pos c2] at h
      have h := Option.some.inj h
      subst h
      exact gx_vret dX11_keepsRow_30 rfl (Nat.le_of_ble_eq_true rfl) (Nat.le_of_ble_eq_true rfl) ⟨rfl, rfl⟩
    · rw [if_neg c2] at h
      refine gx_aload_n 0 dX11_keepsRow_12 rfl rfl ?_
      obtain ⟨a4, ha4, h⟩ := bnd h
      refine gx_getN dX11_keepsRow_13 ha4 fl_X11_54 rfl ?_
      refine gx_iload_n 1 dX11_keepsRow_16 rfl rfl ?_
      refine gx_aload_n 0 dX11_keepsRow_17 rfl rfl ?_
      obtain ⟨a5, ha5, h⟩ := bnd h
      refine gx_getN dX11_keepsRow_18 ha5 fl_X11_48 rfl ?_
      refine gx_iload_n 1 dX11_keepsRow_21 rfl rfl ?_
      obtain ⟨x6, hx6, h⟩ := bnd h
      refine gx_iald (kd := 113) dX11_keepsRow_22 hx6 rfl rfl ?_
      obtain ⟨s7, hs7, h⟩ := bnd h
      refine gx_iast (kd := 113) dX11_keepsRow_23 hs7 rfl rfl ?_
      refine gx_iinc (v := (l1 + (1 : Int32))) (lv' := [(1, .int (l1 + (1 : Int32))), (0, .ref (Γ.B + pp l0))]) 1 dX11_keepsRow_24 rfl (by rw [ic_1]) (Nat.le_of_ble_eq_true rfl) rfl ?_
      refine gx_goto 2 dX11_keepsRow_27 (by decide) ?_
      exact gx_sub [1, 0] rfl (ih _ _ _ _ h)
set_option maxRecDepth 4000 in
theorem s_X11_keepsRow_0 {Γ : Cn} {τ : Mm} {N : Nat} {l0 : Nat} {σ : Mm} {o : Mm} (h : f_X11_keepsRow N l0 σ = some o) : Gx Γ M_X11_keepsRow 100 τ (PV o) 0 0 0 [(0, .ref (Γ.B + pp l0))] [] σ := by
  unfold f_X11_keepsRow at h
  refine gx_iconst (v := (0 : Int32)) dX11_keepsRow_0 ic_0 ?_
  refine gx_istore_n (lv' := [(1, .int (0 : Int32)), (0, .ref (Γ.B + pp l0))]) dX11_keepsRow_1 rfl (Nat.le_of_ble_eq_true rfl) rfl ?_
  exact gx_sub [1, 0] rfl (s_X11_keepsRow_2  N _ _ _ _ h)
theorem c_X11_keepsRow {Γ : Cn} {τ : Mm} {N : Nat} {l0 : Nat} {σ : Mm} {o : Mm} (h : f_X11_keepsRow N l0 σ = some o) : Ct Γ M_X11_keepsRow yX11_keepsRow 100 τ [.ref (Γ.B + pp l0)] σ (PV o) := ct_of (by decide) rfl (fun _ => by first | rfl | contradiction) (Nat.le_of_ble_eq_true rfl) (s_X11_keepsRow_0  h)
abbrev M_X11_bends : Ms := (cX11_bends, RX11, 5, (some .int), false, 0, 0, 2)
def f_X11_bends_71 (N : Nat) (r_5 : Nat → Int32 → Int32 → Int32 → Int32 → Mm → Option (Int32 × Mm)) (l0 : Nat) (l1 : Int32) (l2 : Int32) (l4 : Int32) (t0 : Int32) (t1 : Int32) (σ : Mm) : Option (Int32 × Mm) :=
  r_5 l0 l1 l2 (t0 + t1) (l4 + (1 : Int32)) σ
def f_X11_bends_42 (N : Nat) (r_5 : Nat → Int32 → Int32 → Int32 → Int32 → Mm → Option (Int32 × Mm)) (l0 : Nat) (l1 : Int32) (l2 : Int32) (l3 : Int32) (l4 : Int32) (t0 : Nat) (t1 : Int32) (t2 : Int32) (σ : Mm) : Option (Int32 × Mm) :=
  (sI 113 σ t0 t1 t2).bind fun s1 =>
  (f_X11_isOf N l1 l4 s1).bind fun q2 =>
  if q2.1 = 0 then (
    f_X11_bends_71 N r_5 l0 l1 l2 l4 l3 (0 : Int32) q2.2) else (
    (gN 11 27 q2.2 l0).bind fun a4 =>
    (aI 113 q2.2 a4 l4).bind fun x5 =>
    (ob 11 q2.2 l0).bind fun _ =>
    (f_X11_bendCost N l0 l4 x5 l2 q2.2).bind fun q6 =>
    f_X11_bends_71 N r_5 l0 l1 l2 l4 l3 q6.1 q6.2)
def f_X11_bends_5 (N : Nat) : Nat → Nat → Int32 → Int32 → Int32 → Int32 → Mm → Option (Int32 × Mm)
  | 0, _, _, _, _, _, _ => none
  | n + 1, l0, l1, l2, l3, l4, σ =>
      (gN 11 24 σ l0).bind fun a1 =>
      (aI 113 σ a1 (0 : Int32)).bind fun x2 =>
      if x2 ≤ l4 then (
        some (l3, σ)) else (
        (gN 11 25 σ l0).bind fun a4 =>
        (f_X11_isOf N l1 l4 σ).bind fun q5 =>
        if q5.1 = 0 then (
          (gN 11 27 q5.2 l0).bind fun a7 =>
          (aI 113 q5.2 a7 l4).bind fun x8 =>
          f_X11_bends_42 N (f_X11_bends_5 N n) l0 l1 l2 l3 l4 a4 l4 x8 q5.2) else (
          f_X11_bends_42 N (f_X11_bends_5 N n) l0 l1 l2 l3 l4 a4 l4 l2 q5.2))
def f_X11_bends (N : Nat) (l0 : Nat) (l1 : Int32) (l2 : Int32) (σ : Mm) : Option (Int32 × Mm) :=
  f_X11_bends_5 N N l0 l1 l2 (0 : Int32) (0 : Int32) σ
theorem mov_X11_bends : MOV yX11_bends M_X11_bends 2 11 100 := ⟨⟨tw_107, tw_1474, ⟨by decide, by decide⟩, by decide +kernel⟩, tw_1473, tw_91, by decide, ⟨_, rfl, rfl⟩, rfl⟩
set_option maxRecDepth 4000 in
theorem s_X11_bends_71 {Γ : Cn} {τ : Mm} {N : Nat} {r_5 : Nat → Int32 → Int32 → Int32 → Int32 → Mm → Option (Int32 × Mm)} (hr_5 : ∀ (l0 : Nat) (l1 : Int32) (l2 : Int32) (l3 : Int32) (l4 : Int32) (σ : Mm) (o : Int32 × Mm), r_5 l0 l1 l2 l3 l4 σ = some o → Gx Γ M_X11_bends 100 τ (PI o) 0 0 5 [(0, .ref (Γ.B + pp l0)), (1, .int l1), (2, .int l2), (3, .int l3), (4, .int l4)] [] σ) {l0 : Nat} {l1 : Int32} {l2 : Int32} {l4 : Int32} {t0 : Int32} {t1 : Int32} {σ : Mm} {o : Int32 × Mm} (h : f_X11_bends_71 N r_5 l0 l1 l2 l4 t0 t1 σ = some o) : Gx Γ M_X11_bends 100 τ (PI o) 0 0 71 [(0, .ref (Γ.B + pp l0)), (1, .int l1), (2, .int l2), (4, .int l4)] [.int t1, .int t0] σ := by
  unfold f_X11_bends_71 at h
  refine gx_iadd dX11_bends_71 ?_
  refine gx_istore_n (lv' := [(3, .int (t0 + t1)), (0, .ref (Γ.B + pp l0)), (1, .int l1), (2, .int l2), (4, .int l4)]) dX11_bends_72 rfl (Nat.le_of_ble_eq_true rfl) rfl ?_
  refine gx_iinc (v := (l4 + (1 : Int32))) (lv' := [(4, .int (l4 + (1 : Int32))), (3, .int (t0 + t1)), (0, .ref (Γ.B + pp l0)), (1, .int l1), (2, .int l2)]) 4 dX11_bends_73 rfl (by rw [ic_1]) (Nat.le_of_ble_eq_true rfl) rfl ?_
  refine gx_goto 5 dX11_bends_76 (by decide) ?_
  exact gx_sub [2, 3, 4, 1, 0] rfl (hr_5 _ _ _ _ _ _ _ h)
set_option maxRecDepth 4000 in
theorem s_X11_bends_42 {Γ : Cn} {τ : Mm} {N : Nat} {r_5 : Nat → Int32 → Int32 → Int32 → Int32 → Mm → Option (Int32 × Mm)} (hr_5 : ∀ (l0 : Nat) (l1 : Int32) (l2 : Int32) (l3 : Int32) (l4 : Int32) (σ : Mm) (o : Int32 × Mm), r_5 l0 l1 l2 l3 l4 σ = some o → Gx Γ M_X11_bends 100 τ (PI o) 0 0 5 [(0, .ref (Γ.B + pp l0)), (1, .int l1), (2, .int l2), (3, .int l3), (4, .int l4)] [] σ) {l0 : Nat} {l1 : Int32} {l2 : Int32} {l3 : Int32} {l4 : Int32} {t0 : Nat} {t1 : Int32} {t2 : Int32} {σ : Mm} {o : Int32 × Mm} (h : f_X11_bends_42 N r_5 l0 l1 l2 l3 l4 t0 t1 t2 σ = some o) : Gx Γ M_X11_bends 100 τ (PI o) 0 0 42 [(0, .ref (Γ.B + pp l0)), (1, .int l1), (2, .int l2), (3, .int l3), (4, .int l4)] [.int t2, .int t1, .ref (Γ.B + pp t0)] σ := by
  unfold f_X11_bends_42 at h
  obtain ⟨s1, hs1, h⟩ := bnd h
  refine gx_iast (kd := 113) dX11_bends_42 hs1 rfl rfl ?_
  refine gx_iload_n 3 dX11_bends_43 rfl rfl ?_
  refine gx_iload_n 1 dX11_bends_44 rfl rfl ?_
  refine gx_iload 4 dX11_bends_45 rfl ?_
  obtain ⟨q2, hq2, h⟩ := bnd h
  refine gx_cSI (As := [.int l1, .int l4]) (st := [.int l3]) dX11_bends_47 (c_X11_isOf hq2) mos_X11_isOf tw_1475 rfl ⟨Nat.le_of_ble_eq_true rfl, Nat.le_of_ble_eq_true rfl⟩ (Nat.le_of_ble_eq_true rfl) ?_
  refine gx_if_eq 70 dX11_bends_50 (by decide) (fun c2 => ?_) (fun c2 => ?_)
  · rw [if_pos c2] at h
    refine gx_iconst (v := (0 : Int32)) dX11_bends_70 ic_0 ?_
    exact gx_sub [0, 1, 2, 4] rfl (s_X11_bends_71 hr_5 h)
  · rw [if_neg c2] at h
    refine gx_aload_n 0 dX11_bends_53 rfl rfl ?_
    refine gx_iload 4 dX11_bends_54 rfl ?_
    refine gx_aload_n 0 dX11_bends_56 rfl rfl ?_
    obtain ⟨a4, ha4, h⟩ := bnd h
    refine gx_getN dX11_bends_57 ha4 fl_X11_54 rfl ?_
    refine gx_iload 4 dX11_bends_60 rfl ?_
    obtain ⟨x5, hx5, h⟩ := bnd h
    refine gx_iald (kd := 113) dX11_bends_62 hx5 rfl rfl ?_
    refine gx_iload_n 2 dX11_bends_63 rfl rfl ?_
    obtain ⟨_, hobq6, h⟩ := bnd h
    obtain ⟨q6, hq6, h⟩ := bnd h
    refine gx_cVI (As := [.int l4, .int x5, .int l2]) (st := [.int l3]) (o := l0) dX11_bends_64 (c_X11_bendCost hq6) mov_X11_bendCost tw_1378 hobq6 rfl ⟨Nat.le_of_ble_eq_true rfl, Nat.le_of_ble_eq_true rfl⟩ (Nat.le_of_ble_eq_true rfl) ?_
    refine gx_goto 71 dX11_bends_67 (by decide) ?_
    exact gx_sub [0, 1, 2, 4] rfl (s_X11_bends_71 hr_5 h)
set_option maxRecDepth 4000 in
theorem s_X11_bends_5 {Γ : Cn} {τ : Mm} {N : Nat} : ∀ (n : Nat) (l0 : Nat) (l1 : Int32) (l2 : Int32) (l3 : Int32) (l4 : Int32) (σ : Mm) (o : Int32 × Mm), f_X11_bends_5 N n l0 l1 l2 l3 l4 σ = some o → Gx Γ M_X11_bends 100 τ (PI o) 0 0 5 [(0, .ref (Γ.B + pp l0)), (1, .int l1), (2, .int l2), (3, .int l3), (4, .int l4)] [] σ := by
  intro n
  induction n with
  | zero =>
    intro l0 l1 l2 l3 l4 σ o h
    exact absurd h (by rw [f_X11_bends_5]; exact fun q => nomatch q)
  | succ n ih =>
    intro l0 l1 l2 l3 l4 σ o h
    rw [f_X11_bends_5] at h
    refine gx_iload 4 dX11_bends_5 rfl ?_
    refine gx_aload_n 0 dX11_bends_7 rfl rfl ?_
    obtain ⟨a1, ha1, h⟩ := bnd h
    refine gx_getN dX11_bends_8 ha1 fl_X11_45 rfl ?_
    refine gx_iconst (v := (0 : Int32)) dX11_bends_11 ic_0 ?_
    obtain ⟨x2, hx2, h⟩ := bnd h
    refine gx_iald (kd := 113) dX11_bends_12 hx2 rfl rfl ?_
    refine gx_icmp_ge 79 dX11_bends_13 (by decide) (fun c2 => ?_) (fun c2 => ?_)
    · rw [if_pos c2] at h
      refine gx_iload_n 3 dX11_bends_79 rfl rfl ?_
      have h := Option.some.inj h
      subst h
      exact gx_iret dX11_bends_80 rfl (Nat.le_of_ble_eq_true rfl) (Nat.le_of_ble_eq_true rfl) ⟨rfl, rfl⟩
    · rw [if_neg c2] at h
      refine gx_aload_n 0 dX11_bends_16 rfl rfl ?_
      obtain ⟨a4, ha4, h⟩ := bnd h
      refine gx_getN dX11_bends_17 ha4 fl_X11_48 rfl ?_
      refine gx_iload 4 dX11_bends_20 rfl ?_
      refine gx_iload_n 1 dX11_bends_22 rfl rfl ?_
      refine gx_iload 4 dX11_bends_23 rfl ?_
      obtain ⟨q5, hq5, h⟩ := bnd h
      refine gx_cSI (As := [.int l1, .int l4]) (st := [.int l4, .ref (Γ.B + pp a4)]) dX11_bends_25 (c_X11_isOf hq5) mos_X11_isOf tw_1475 rfl ⟨Nat.le_of_ble_eq_true rfl, Nat.le_of_ble_eq_true rfl⟩ (Nat.le_of_ble_eq_true rfl) ?_
      refine gx_if_eq 35 dX11_bends_28 (by decide) (fun c5 => ?_) (fun c5 => ?_)
      · rw [if_pos c5] at h
        refine gx_aload_n 0 dX11_bends_35 rfl rfl ?_
        obtain ⟨a7, ha7, h⟩ := bnd h
        refine gx_getN dX11_bends_36 ha7 fl_X11_54 rfl ?_
        refine gx_iload 4 dX11_bends_39 rfl ?_
        obtain ⟨x8, hx8, h⟩ := bnd h
        refine gx_iald (kd := 113) dX11_bends_41 hx8 rfl rfl ?_
        exact s_X11_bends_42 ih h
      · rw [if_neg c5] at h
        refine gx_iload_n 2 dX11_bends_31 rfl rfl ?_
        refine gx_goto 42 dX11_bends_32 (by decide) ?_
        exact s_X11_bends_42 ih h
set_option maxRecDepth 4000 in
theorem s_X11_bends_0 {Γ : Cn} {τ : Mm} {N : Nat} {l0 : Nat} {l1 : Int32} {l2 : Int32} {σ : Mm} {o : Int32 × Mm} (h : f_X11_bends N l0 l1 l2 σ = some o) : Gx Γ M_X11_bends 100 τ (PI o) 0 0 0 [(0, .ref (Γ.B + pp l0)), (1, .int l1), (2, .int l2)] [] σ := by
  unfold f_X11_bends at h
  refine gx_iconst (v := (0 : Int32)) dX11_bends_0 ic_0 ?_
  refine gx_istore_n (lv' := [(3, .int (0 : Int32)), (0, .ref (Γ.B + pp l0)), (1, .int l1), (2, .int l2)]) dX11_bends_1 rfl (Nat.le_of_ble_eq_true rfl) rfl ?_
  refine gx_iconst (v := (0 : Int32)) dX11_bends_2 ic_0 ?_
  refine gx_istore (lv' := [(4, .int (0 : Int32)), (3, .int (0 : Int32)), (0, .ref (Γ.B + pp l0)), (1, .int l1), (2, .int l2)]) dX11_bends_3 (Nat.le_of_ble_eq_true rfl) rfl ?_
  exact gx_sub [2, 3, 4, 1, 0] rfl (s_X11_bends_5  N _ _ _ _ _ _ _ h)
theorem c_X11_bends {Γ : Cn} {τ : Mm} {N : Nat} {l0 : Nat} {l1 : Int32} {l2 : Int32} {σ : Mm} {o : Int32 × Mm} (h : f_X11_bends N l0 l1 l2 σ = some o) : Ct Γ M_X11_bends yX11_bends 100 τ [.ref (Γ.B + pp l0), .int l1, .int l2] σ (PI o) := ct_of (by decide) rfl (fun _ => by first | rfl | contradiction) (Nat.le_of_ble_eq_true rfl) (s_X11_bends_0  h)
