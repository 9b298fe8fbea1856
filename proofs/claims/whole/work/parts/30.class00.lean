abbrev M_X0_init : Ms := (cX0_init, RX0, 4, none, true, 2, 780, 1)
def f_X0_init (N : Nat) (l0 : Nat) (l1 : Nat) (l2 : Nat) (l3 : Nat) (σ : Mm) : Option Mm :=
  (nA 13 σ (12 : Int32)).bind fun s1 =>
  (pR 0 3 s1 l0 (some (pq (nn σ)))).bind fun s2 =>
  (nA 13 s2 (768 : Int32)).bind fun s3 =>
  (pR 0 4 s3 l0 (some (pq (nn s2)))).bind fun s4 =>
  (pR 0 5 s4 l0 none).bind fun s5 =>
  (pI 0 6 s5 l0 (0 : Int32)).bind fun s6 =>
  (pI 0 7 s6 l0 (0 : Int32)).bind fun s7 =>
  (pI 0 8 s7 l0 (0 : Int32)).bind fun s8 =>
  (pR 0 0 s8 l0 (some l1)).bind fun s9 =>
  (pR 0 1 s9 l0 (some l2)).bind fun s10 =>
  (pR 0 2 s10 l0 (some l3)).bind fun s11 =>
  some s11
theorem moi_X0_init : MOI yX0_init M_X0_init 3 := ⟨⟨tw_106, tw_379, ⟨by decide, by decide⟩, by decide +kernel⟩, tw_378, rfl, rfl⟩
set_option maxRecDepth 4000 in
theorem s_X0_init_0 {Γ : Cn} {τ : Mm} {N : Nat} {l0 : Nat} {l1 : Nat} {l2 : Nat} {l3 : Nat} {σ : Mm} {o : Mm} (h : f_X0_init N l0 l1 l2 l3 σ = some o) : Gx Γ M_X0_init 0 τ (PV o) 0 0 0 [(0, .ref (Γ.B + pp l0)), (1, .ref (Γ.B + pp l1)), (2, .ref (Γ.B + pp l2)), (3, .ref (Γ.B + pp l3))] [] σ := by
  unfold f_X0_init at h
  refine gx_aload_n 0 dX0_init_0 rfl rfl ?_
  refine gx_objInit dX0_init_1 tw_380 tw_oi tw_oc (Nat.le_of_ble_eq_true rfl) (Nat.le_of_ble_eq_true rfl) ?_
  refine gx_aload_n 0 dX0_init_4 rfl rfl ?_
  refine gx_bipush (v := (12 : Int32)) dX0_init_5 ib_12 ?_
  obtain ⟨s1, hs1, h⟩ := bnd h
  refine gx_newI dX0_init_7 hs1 ac_I rfl (by decide) rfl (Nat.le_of_ble_eq_true rfl) (Nat.le_of_ble_eq_true rfl) ?_
  obtain ⟨s2, hs2, h⟩ := bnd h
  refine gx_putR (r := (some (pq (nn σ)))) dX0_init_9 hs2 fl_X0_9 fp_X0_0_3 (Or.inr ⟨_, rfl⟩) (fun _ => rfl) rfl ?_
  refine gx_aload_n 0 dX0_init_12 rfl rfl ?_
  refine gx_sipush (v := (768 : Int32)) dX0_init_13 is_768 ?_
  obtain ⟨s3, hs3, h⟩ := bnd h
  refine gx_newI dX0_init_16 hs3 ac_I rfl (by decide) rfl (Nat.le_of_ble_eq_true rfl) (Nat.le_of_ble_eq_true rfl) ?_
  obtain ⟨s4, hs4, h⟩ := bnd h
  refine gx_putR (r := (some (pq (nn s2)))) dX0_init_18 hs4 fl_X0_15 fp_X0_0_4 (Or.inr ⟨_, rfl⟩) (fun _ => rfl) rfl ?_
  refine gx_aload_n 0 dX0_init_21 rfl rfl ?_
  refine gx_null dX0_init_22 ?_
  obtain ⟨s5, hs5, h⟩ := bnd h
  refine gx_putR (r := none) dX0_init_23 hs5 fl_X0_18 fp_X0_0_5 (Or.inl ⟨_, rfl⟩) (fun q => nomatch q) rfl ?_
  refine gx_aload_n 0 dX0_init_26 rfl rfl ?_
  refine gx_iconst (v := (0 : Int32)) dX0_init_27 ic_0 ?_
  obtain ⟨s6, hs6, h⟩ := bnd h
  refine gx_putI dX0_init_28 hs6 fl_X0_22 fp_X0_0_6 rfl ?_
  refine gx_aload_n 0 dX0_init_31 rfl rfl ?_
  refine gx_iconst (v := (0 : Int32)) dX0_init_32 ic_0 ?_
  obtain ⟨s7, hs7, h⟩ := bnd h
  refine gx_putI dX0_init_33 hs7 fl_X0_26 fp_X0_0_7 rfl ?_
  refine gx_aload_n 0 dX0_init_36 rfl rfl ?_
  refine gx_iconst (v := (0 : Int32)) dX0_init_37 ic_0 ?_
  obtain ⟨s8, hs8, h⟩ := bnd h
  refine gx_putI dX0_init_38 hs8 fl_X0_29 fp_X0_0_8 rfl ?_
  refine gx_aload_n 0 dX0_init_41 rfl rfl ?_
  refine gx_aload_n 1 dX0_init_42 rfl rfl ?_
  obtain ⟨s9, hs9, h⟩ := bnd h
  refine gx_putR (r := (some l1)) dX0_init_43 hs9 fl_X0_32 fp_X0_0_0 (Or.inl ⟨_, rfl⟩) (fun _ => rfl) rfl ?_
  refine gx_aload_n 0 dX0_init_46 rfl rfl ?_
  refine gx_aload_n 2 dX0_init_47 rfl rfl ?_
  obtain ⟨s10, hs10, h⟩ := bnd h
  refine gx_putR (r := (some l2)) dX0_init_48 hs10 fl_X0_36 fp_X0_0_1 (Or.inl ⟨_, rfl⟩) (fun _ => rfl) rfl ?_
  refine gx_aload_n 0 dX0_init_51 rfl rfl ?_
  refine gx_aload_n 3 dX0_init_52 rfl rfl ?_
  obtain ⟨s11, hs11, h⟩ := bnd h
  refine gx_putR (r := (some l3)) dX0_init_53 hs11 fl_X0_40 fp_X0_0_2 (Or.inl ⟨_, rfl⟩) (fun _ => rfl) rfl ?_
  have h := Option.some.inj h
  subst h
  exact gx_vret dX0_init_56 rfl (Nat.le_of_ble_eq_true rfl) (Nat.le_of_ble_eq_true rfl) ⟨rfl, rfl⟩
theorem c_X0_init {Γ : Cn} {τ : Mm} {N : Nat} {l0 : Nat} {l1 : Nat} {l2 : Nat} {l3 : Nat} {σ : Mm} {o : Mm} (h : f_X0_init N l0 l1 l2 l3 σ = some o) : Ct Γ M_X0_init yX0_init 0 τ [.ref (Γ.B + pp l0), .ref (Γ.B + pp l1), .ref (Γ.B + pp l2), .ref (Γ.B + pp l3)] σ (PV o) := ct_of (by decide) rfl (fun _ => by first | rfl | contradiction) (Nat.le_of_ble_eq_true rfl) (s_X0_init_0  h)
abbrev M_X0_open : Ms := (cX0_open, RX0, 4, none, false, 0, 0, 1)
def f_X0_open_41 (N : Nat) : Nat → Nat → Int32 → Mm → Option Mm
  | 0, _, _, _ => none
  | n + 1, l0, l3, σ =>
      if (768 : Int32) ≤ l3 then (
        some σ) else (
        (gN 0 4 σ l0).bind fun a2 =>
        (sI 13 σ a2 l3 (-1 : Int32)).bind fun s3 =>
        f_X0_open_41 N n l0 (l3 + (1 : Int32)) s3)
def f_X0_open (N : Nat) (l0 : Nat) (l1 : Nat) (l2 : Int32) (σ : Mm) : Option Mm :=
  (pR 0 5 σ l0 (some l1)).bind fun s1 =>
  (pI 0 6 s1 l0 l2).bind fun s2 =>
  (gN 0 0 s2 l0).bind fun a3 =>
  (gI 7 13 s2 a3).bind fun x4 =>
  (pI 0 7 s2 l0 x4).bind fun s5 =>
  (gN 0 0 s5 l0).bind fun a6 =>
  (gN 7 6 s5 a6).bind fun a7 =>
  (gN 0 3 s5 l0).bind fun a8 =>
  (cpA 13 s5 a7 (0 : Int32) a8 (0 : Int32) (12 : Int32)).bind fun s9 =>
  f_X0_open_41 N N l0 (0 : Int32) s9
theorem mov_X0_open : MOV yX0_open M_X0_open 2 0 0 := ⟨⟨tw_106, tw_994, ⟨by decide, by decide⟩, by decide +kernel⟩, tw_992, tw_993, by decide, ⟨_, rfl, rfl⟩, rfl⟩
set_option maxRecDepth 4000 in
theorem s_X0_open_41 {Γ : Cn} {τ : Mm} {N : Nat} : ∀ (n : Nat) (l0 : Nat) (l3 : Int32) (σ : Mm) (o : Mm), f_X0_open_41 N n l0 l3 σ = some o → Gx Γ M_X0_open 0 τ (PV o) 0 0 41 [(0, .ref (Γ.B + pp l0)), (3, .int l3)] [] σ := by
  intro n
  induction n with
  | zero =>
    intro l0 l3 σ o h
    exact absurd h (by rw [f_X0_open_41]; exact fun q => nomatch q)
  | succ n ih =>
    intro l0 l3 σ o h
    rw [f_X0_open_41] at h
    refine gx_iload_n 1 dX0_open_41 rfl rfl ?_
    refine gx_sipush (v := (768 : Int32)) dX0_open_42 is_768 ?_
    refine gx_icmp_ge 61 dX0_open_45 (by decide) (fun c0 => ?_) (fun c0 => ?_)
    · rw [if_pos c0] at h
      have h := Option.some.inj h
      subst h
      exact gx_vret dX0_open_61 rfl (Nat.le_of_ble_eq_true rfl) (Nat.le_of_ble_eq_true rfl) ⟨rfl, rfl⟩
    · rw [if_neg c0] at h
      refine gx_aload_n 0 dX0_open_48 rfl rfl ?_
      obtain ⟨a2, ha2, h⟩ := bnd h
      refine gx_getN dX0_open_49 ha2 fl_X0_15 rfl ?_
      refine gx_iload_n 1 dX0_open_52 rfl rfl ?_
      refine gx_iconst (v := (-1 : Int32)) dX0_open_53 ic_m1 ?_
      obtain ⟨s3, hs3, h⟩ := bnd h
      refine gx_iast (kd := 13) dX0_open_54 hs3 rfl rfl ?_
      refine gx_iinc (v := (l3 + (1 : Int32))) (lv' := [(3, .int (l3 + (1 : Int32))), (0, .ref (Γ.B + pp l0))]) 1 dX0_open_55 rfl (by rw [ic_1]) (Nat.le_of_ble_eq_true rfl) rfl ?_
      refine gx_goto 41 dX0_open_58 (by decide) ?_
      exact gx_sub [1, 0] rfl (ih _ _ _ _ h)
set_option maxRecDepth 4000 in
theorem s_X0_open_0 {Γ : Cn} {τ : Mm} {N : Nat} {l0 : Nat} {l1 : Nat} {l2 : Int32} {σ : Mm} {o : Mm} (h : f_X0_open N l0 l1 l2 σ = some o) : Gx Γ M_X0_open 0 τ (PV o) 0 0 0 [(0, .ref (Γ.B + pp l0)), (1, .ref (Γ.B + pp l1)), (2, .int l2)] [] σ := by
  unfold f_X0_open at h
  refine gx_aload_n 0 dX0_open_0 rfl rfl ?_
  refine gx_aload_n 1 dX0_open_1 rfl rfl ?_
  obtain ⟨s1, hs1, h⟩ := bnd h
  refine gx_putR (r := (some l1)) dX0_open_2 hs1 fl_X0_18 fp_X0_0_5 (Or.inl ⟨_, rfl⟩) (fun q => nomatch q) rfl ?_
  refine gx_aload_n 0 dX0_open_5 rfl rfl ?_
  refine gx_iload_n 2 dX0_open_6 rfl rfl ?_
  obtain ⟨s2, hs2, h⟩ := bnd h
  refine gx_putI dX0_open_7 hs2 fl_X0_22 fp_X0_0_6 rfl ?_
  refine gx_aload_n 0 dX0_open_10 rfl rfl ?_
  refine gx_aload_n 0 dX0_open_11 rfl rfl ?_
  obtain ⟨a3, ha3, h⟩ := bnd h
  refine gx_getN dX0_open_12 ha3 fl_X0_32 rfl ?_
  obtain ⟨x4, hx4, h⟩ := bnd h
  refine gx_getI dX0_open_15 hx4 fl_X0_44 rfl ?_
  obtain ⟨s5, hs5, h⟩ := bnd h
  refine gx_putI dX0_open_18 hs5 fl_X0_26 fp_X0_0_7 rfl ?_
  refine gx_aload_n 0 dX0_open_21 rfl rfl ?_
  obtain ⟨a6, ha6, h⟩ := bnd h
  refine gx_getN dX0_open_22 ha6 fl_X0_32 rfl ?_
  obtain ⟨a7, ha7, h⟩ := bnd h
  refine gx_getN dX0_open_25 ha7 fl_X0_47 rfl ?_
  refine gx_iconst (v := (0 : Int32)) dX0_open_28 ic_0 ?_
  refine gx_aload_n 0 dX0_open_29 rfl rfl ?_
  obtain ⟨a8, ha8, h⟩ := bnd h
  refine gx_getN dX0_open_30 ha8 fl_X0_9 rfl ?_
  refine gx_iconst (v := (0 : Int32)) dX0_open_33 ic_0 ?_
  refine gx_bipush (v := (12 : Int32)) dX0_open_34 ib_12 ?_
  obtain ⟨s9, hs9, h⟩ := bnd h
  refine gx_copy (kd := 13) dX0_open_36 hs9 rfl tw_995 tw_ac1 tw_ac2 tw_ac3 rfl (Nat.le_of_ble_eq_true rfl) (by decide) ?_
  refine gx_iconst (v := (0 : Int32)) dX0_open_39 ic_0 ?_
  refine gx_istore_n (lv' := [(3, .int (0 : Int32)), (0, .ref (Γ.B + pp l0)), (1, .ref (Γ.B + pp l1)), (2, .int l2)]) dX0_open_40 rfl (Nat.le_of_ble_eq_true rfl) rfl ?_
  exact gx_sub [1, 0] rfl (s_X0_open_41  N _ _ _ _ h)
theorem c_X0_open {Γ : Cn} {τ : Mm} {N : Nat} {l0 : Nat} {l1 : Nat} {l2 : Int32} {σ : Mm} {o : Mm} (h : f_X0_open N l0 l1 l2 σ = some o) : Ct Γ M_X0_open yX0_open 0 τ [.ref (Γ.B + pp l0), .ref (Γ.B + pp l1), .int l2] σ (PV o) := ct_of (by decide) rfl (fun _ => by first | rfl | contradiction) (Nat.le_of_ble_eq_true rfl) (s_X0_open_0  h)
abbrev M_X10_nextDrawn : Ms := (cX10_nextDrawn, RX10, 1, (some .int), false, 0, 0, 0)
def f_X10_nextDrawn (N : Nat) (l0 : Int32) (σ : Mm) : Option (Int32 × Mm) :=
  some ((Int64.toInt32 ((((Int32.toInt64 l0) * (1103515245 : Int64)) + (12345 : Int64)) &&& (2147483647 : Int64))), σ)
theorem mos_X10_nextDrawn : MOS yX10_nextDrawn M_X10_nextDrawn 1 := ⟨⟨tw_96, tw_982, ⟨by decide, by decide⟩, by decide +kernel⟩, tw_981⟩
set_option maxRecDepth 4000 in
theorem s_X10_nextDrawn_0 {Γ : Cn} {τ : Mm} {N : Nat} {l0 : Int32} {σ : Mm} {o : Int32 × Mm} (h : f_X10_nextDrawn N l0 σ = some o) : Gx Γ M_X10_nextDrawn 0 τ (PI o) 0 0 0 [(0, .int l0)] [] σ := by
  unfold f_X10_nextDrawn at h
  refine gx_iload_n 0 dX10_nextDrawn_0 rfl rfl ?_
  refine gx_i2l dX10_nextDrawn_1 ?_
  refine gx_ldc2 (v := (1103515245 : Int64)) dX10_nextDrawn_2 tw_983 ?_
  refine gx_lmul dX10_nextDrawn_5 ?_
  refine gx_ldc2 (v := (12345 : Int64)) dX10_nextDrawn_6 tw_984 ?_
  refine gx_ladd dX10_nextDrawn_9 ?_
  refine gx_ldc2 (v := (2147483647 : Int64)) dX10_nextDrawn_10 tw_985 ?_
  refine gx_land dX10_nextDrawn_13 ?_
  refine gx_l2i dX10_nextDrawn_14 ?_
  have h := Option.some.inj h
  subst h
  exact gx_iret dX10_nextDrawn_15 rfl (Nat.le_of_ble_eq_true rfl) (Nat.le_of_ble_eq_true rfl) ⟨rfl, rfl⟩
theorem c_X10_nextDrawn {Γ : Cn} {τ : Mm} {N : Nat} {l0 : Int32} {σ : Mm} {o : Int32 × Mm} (h : f_X10_nextDrawn N l0 σ = some o) : Ct Γ M_X10_nextDrawn yX10_nextDrawn 0 τ [.int l0] σ (PI o) := ct_of (by decide) rfl (fun _ => by first | rfl | contradiction) (Nat.le_of_ble_eq_true rfl) (s_X10_nextDrawn_0  h)
abbrev M_X7_hasCock : Ms := (cX7_hasCock, RX7, 2, (some .boolean), false, 0, 0, 0)
def f_X7_hasCock_23 (N : Nat) (t0 : Int32) (σ : Mm) : Option (Int32 × Mm) :=
  if t0 = 0 ∨ t0 = 1 then some (t0, σ) else none
def f_X7_hasCock_22 (N : Nat) (σ : Mm) : Option (Int32 × Mm) :=
  f_X7_hasCock_23 N (0 : Int32) σ
def f_X7_hasCock (N : Nat) (l0 : Nat) (l1 : Int32) (σ : Mm) : Option (Int32 × Mm) :=
  if l1 < 0 then (
    f_X7_hasCock_22 N σ) else (
    (gI 7 0 σ l0).bind fun x2 =>
    if x2 ≤ l1 then (
      f_X7_hasCock_22 N σ) else (
      if (12 : Int32) ≤ l1 then (
        f_X7_hasCock_22 N σ) else (
        f_X7_hasCock_23 N (1 : Int32) σ)))
theorem mov_X7_hasCock : MOV yX7_hasCock M_X7_hasCock 1 7 0 := ⟨⟨tw_102, tw_689, ⟨by decide, by decide⟩, by decide +kernel⟩, tw_687, tw_688, by decide, ⟨_, rfl, rfl⟩, rfl⟩
set_option maxRecDepth 4000 in
theorem s_X7_hasCock_23 {Γ : Cn} {τ : Mm} {N : Nat} {t0 : Int32} {σ : Mm} {o : Int32 × Mm} (h : f_X7_hasCock_23 N t0 σ = some o) : Gx Γ M_X7_hasCock 0 τ (PI o) 0 0 23 [] [.int t0] σ := by
  unfold f_X7_hasCock_23 at h
  obtain ⟨hz, h⟩ := of_if h
  have h := Option.some.inj h
  subst h
  exact gx_zret dX7_hasCock_23 rfl (nar_z hz) (Nat.le_of_ble_eq_true rfl) (Nat.le_of_ble_eq_true rfl) ⟨rfl, rfl⟩
set_option maxRecDepth 4000 in
theorem s_X7_hasCock_22 {Γ : Cn} {τ : Mm} {N : Nat} {σ : Mm} {o : Int32 × Mm} (h : f_X7_hasCock_22 N σ = some o) : Gx Γ M_X7_hasCock 0 τ (PI o) 0 0 22 [] [] σ := by
  unfold f_X7_hasCock_22 at h
  refine gx_iconst (v := (0 : Int32)) dX7_hasCock_22 ic_0 ?_
  exact s_X7_hasCock_23  h
set_option maxRecDepth 4000 in
theorem s_X7_hasCock_0 {Γ : Cn} {τ : Mm} {N : Nat} {l0 : Nat} {l1 : Int32} {σ : Mm} {o : Int32 × Mm} (h : f_X7_hasCock N l0 l1 σ = some o) : Gx Γ M_X7_hasCock 0 τ (PI o) 0 0 0 [(0, .ref (Γ.B + pp l0)), (1, .int l1)] [] σ := by
  unfold f_X7_hasCock at h
  refine gx_iload_n 1 dX7_hasCock_0 rfl rfl ?_
  refine gx_if_lt 22 dX7_hasCock_1 (by decide) (fun c0 => ?_) (fun c0 => ?_)
  · rw [if_pos c0] at h
    exact gx_sub [] rfl (s_X7_hasCock_22  h)
  · rw [if_neg c0] at h
    refine gx_iload_n 1 dX7_hasCock_4 rfl rfl ?_
    refine gx_aload_n 0 dX7_hasCock_5 rfl rfl ?_
    obtain ⟨x2, hx2, h⟩ := bnd h
    refine gx_getI dX7_hasCock_6 hx2 fl_X7_9 rfl ?_
    refine gx_icmp_ge 22 dX7_hasCock_9 (by decide) (fun c2 => ?_) (fun c2 => ?_)
    · rw [if_pos c2] at h
      exact gx_sub [] rfl (s_X7_hasCock_22  h)
    · rw [if_neg c2] at h
      refine gx_iload_n 1 dX7_hasCock_12 rfl rfl ?_
      refine gx_bipush (v := (12 : Int32)) dX7_hasCock_13 ib_12 ?_
      refine gx_icmp_ge 22 dX7_hasCock_15 (by decide) (fun c3 => ?_) (fun c3 => ?_)
      · rw [if_pos c3] at h
        exact gx_sub [] rfl (s_X7_hasCock_22  h)
      · rw [if_neg c3] at h
        refine gx_iconst (v := (1 : Int32)) dX7_hasCock_18 ic_1 ?_
        refine gx_goto 23 dX7_hasCock_19 (by decide) ?_
        exact gx_sub [] rfl (s_X7_hasCock_23  h)
theorem c_X7_hasCock {Γ : Cn} {τ : Mm} {N : Nat} {l0 : Nat} {l1 : Int32} {σ : Mm} {o : Int32 × Mm} (h : f_X7_hasCock N l0 l1 σ = some o) : Ct Γ M_X7_hasCock yX7_hasCock 0 τ [.ref (Γ.B + pp l0), .int l1] σ (PI o) := ct_of (by decide) rfl (fun _ => by first | rfl | contradiction) (Nat.le_of_ble_eq_true rfl) (s_X7_hasCock_0  h)
abbrev M_X10_isBelow : Ms := (cX10_isBelow, RX10, 2, (some .boolean), false, 0, 0, 0)
def f_X10_isBelow_14 (N : Nat) (t0 : Int32) (σ : Mm) : Option (Int32 × Mm) :=
  if t0 = 0 ∨ t0 = 1 then some (t0, σ) else none
def f_X10_isBelow_13 (N : Nat) (σ : Mm) : Option (Int32 × Mm) :=
  f_X10_isBelow_14 N (0 : Int32) σ
def f_X10_isBelow (N : Nat) (l0 : Int32) (l1 : Int32) (σ : Mm) : Option (Int32 × Mm) :=
  if l0 < 0 then (
    f_X10_isBelow_13 N σ) else (
    if l1 ≤ l0 then (
      f_X10_isBelow_13 N σ) else (
      f_X10_isBelow_14 N (1 : Int32) σ))
theorem mos_X10_isBelow : MOS yX10_isBelow M_X10_isBelow 2 := ⟨⟨tw_96, tw_616, ⟨by decide, by decide⟩, by decide +kernel⟩, tw_615⟩
set_option maxRecDepth 4000 in
theorem s_X10_isBelow_14 {Γ : Cn} {τ : Mm} {N : Nat} {t0 : Int32} {σ : Mm} {o : Int32 × Mm} (h : f_X10_isBelow_14 N t0 σ = some o) : Gx Γ M_X10_isBelow 0 τ (PI o) 0 0 14 [] [.int t0] σ := by
  unfold f_X10_isBelow_14 at h
  obtain ⟨hz, h⟩ := of_if h
  have h := Option.some.inj h
  subst h
  exact gx_zret dX10_isBelow_14 rfl (nar_z hz) (Nat.le_of_ble_eq_true rfl) (Nat.le_of_ble_eq_true rfl) ⟨rfl, rfl⟩
set_option maxRecDepth 4000 in
theorem s_X10_isBelow_13 {Γ : Cn} {τ : Mm} {N : Nat} {σ : Mm} {o : Int32 × Mm} (h : f_X10_isBelow_13 N σ = some o) : Gx Γ M_X10_isBelow 0 τ (PI o) 0 0 13 [] [] σ := by
  unfold f_X10_isBelow_13 at h
  refine gx_iconst (v := (0 : Int32)) dX10_isBelow_13 ic_0 ?_
  exact s_X10_isBelow_14  h
set_option maxRecDepth 4000 in
theorem s_X10_isBelow_0 {Γ : Cn} {τ : Mm} {N : Nat} {l0 : Int32} {l1 : Int32} {σ : Mm} {o : Int32 × Mm} (h : f_X10_isBelow N l0 l1 σ = some o) : Gx Γ M_X10_isBelow 0 τ (PI o) 0 0 0 [(0, .int l0), (1, .int l1)] [] σ := by
  unfold f_X10_isBelow at h
  refine gx_iload_n 0 dX10_isBelow_0 rfl rfl ?_
  refine gx_if_lt 13 dX10_isBelow_1 (by decide) (fun c0 => ?_) (fun c0 => ?_)
  · rw [if_pos c0] at h
    exact gx_sub [] rfl (s_X10_isBelow_13  h)
  · rw [if_neg c0] at h
    refine gx_iload_n 0 dX10_isBelow_4 rfl rfl ?_
    refine gx_iload_n 1 dX10_isBelow_5 rfl rfl ?_
    refine gx_icmp_ge 13 dX10_isBelow_6 (by decide) (fun c1 => ?_) (fun c1 => ?_)
    · rw [if_pos c1] at h
      exact gx_sub [] rfl (s_X10_isBelow_13  h)
    · rw [if_neg c1] at h
      refine gx_iconst (v := (1 : Int32)) dX10_isBelow_9 ic_1 ?_
      refine gx_goto 14 dX10_isBelow_10 (by decide) ?_
      exact gx_sub [] rfl (s_X10_isBelow_14  h)
theorem c_X10_isBelow {Γ : Cn} {τ : Mm} {N : Nat} {l0 : Int32} {l1 : Int32} {σ : Mm} {o : Int32 × Mm} (h : f_X10_isBelow N l0 l1 σ = some o) : Ct Γ M_X10_isBelow yX10_isBelow 0 τ [.int l0, .int l1] σ (PI o) := ct_of (by decide) rfl (fun _ => by first | rfl | contradiction) (Nat.le_of_ble_eq_true rfl) (s_X10_isBelow_0  h)
abbrev M_X7_isAhead : Ms := (cX7_isAhead, RX7, 4, (some .boolean), false, 0, 0, 0)
def f_X7_isAhead_37 (N : Nat) (r_2 : Int32 → Int32 → Int32 → Int32 → Mm → Option (Int32 × Mm)) (l0 : Int32) (l1 : Int32) (l2 : Int32) (l3 : Int32) (σ : Mm) : Option (Int32 × Mm) :=
  r_2 l0 l1 l2 (l3 + (1 : Int32)) σ
def f_X7_isAhead_2 (N : Nat) : Nat → Int32 → Int32 → Int32 → Int32 → Mm → Option (Int32 × Mm)
  | 0, _, _, _, _, _ => none
  | n + 1, l0, l1, l2, l3, σ =>
      if (3 : Int32) < l3 then (
        some ((0 : Int32), σ)) else (
        (tAX (l2 &&& (7 : Int32))).bind fun x2 =>
        if l0 = (l3 * x2) then (
          (tAY (l2 &&& (7 : Int32))).bind fun x4 =>
          if l1 = (l3 * x4) then (
            some ((1 : Int32), σ)) else (
            f_X7_isAhead_37 N (f_X7_isAhead_2 N n) l0 l1 l2 l3 σ)) else (
          f_X7_isAhead_37 N (f_X7_isAhead_2 N n) l0 l1 l2 l3 σ))
def f_X7_isAhead (N : Nat) (l0 : Int32) (l1 : Int32) (l2 : Int32) (σ : Mm) : Option (Int32 × Mm) :=
  f_X7_isAhead_2 N N l0 l1 l2 (1 : Int32) σ
theorem mos_X7_isAhead : MOS yX7_isAhead M_X7_isAhead 3 := ⟨⟨tw_102, tw_722, ⟨by decide, by decide⟩, by decide +kernel⟩, tw_721⟩
set_option maxRecDepth 4000 in
theorem s_X7_isAhead_37 {Γ : Cn} {τ : Mm} {N : Nat} {r_2 : Int32 → Int32 → Int32 → Int32 → Mm → Option (Int32 × Mm)} (hr_2 : ∀ (l0 : Int32) (l1 : Int32) (l2 : Int32) (l3 : Int32) (σ : Mm) (o : Int32 × Mm), r_2 l0 l1 l2 l3 σ = some o → Gx Γ M_X7_isAhead 0 τ (PI o) 0 0 2 [(0, .int l0), (1, .int l1), (2, .int l2), (3, .int l3)] [] σ) {l0 : Int32} {l1 : Int32} {l2 : Int32} {l3 : Int32} {σ : Mm} {o : Int32 × Mm} (h : f_X7_isAhead_37 N r_2 l0 l1 l2 l3 σ = some o) : Gx Γ M_X7_isAhead 0 τ (PI o) 0 0 37 [(0, .int l0), (1, .int l1), (2, .int l2), (3, .int l3)] [] σ := by
  unfold f_X7_isAhead_37 at h
  refine gx_iinc (v := (l3 + (1 : Int32))) (lv' := [(3, .int (l3 + (1 : Int32))), (0, .int l0), (1, .int l1), (2, .int l2)]) 3 dX7_isAhead_37 rfl (by rw [ic_1]) (Nat.le_of_ble_eq_true rfl) rfl ?_
  refine gx_goto 2 dX7_isAhead_40 (by decide) ?_
  exact gx_sub [1, 2, 3, 0] rfl (hr_2 _ _ _ _ _ _ h)
set_option maxRecDepth 4000 in
theorem s_X7_isAhead_2 {Γ : Cn} {τ : Mm} {N : Nat} : ∀ (n : Nat) (l0 : Int32) (l1 : Int32) (l2 : Int32) (l3 : Int32) (σ : Mm) (o : Int32 × Mm), f_X7_isAhead_2 N n l0 l1 l2 l3 σ = some o → Gx Γ M_X7_isAhead 0 τ (PI o) 0 0 2 [(0, .int l0), (1, .int l1), (2, .int l2), (3, .int l3)] [] σ := by
  intro n
  induction n with
  | zero =>
    intro l0 l1 l2 l3 σ o h
    exact absurd h (by rw [f_X7_isAhead_2]; exact fun q => nomatch q)
  | succ n ih =>
    intro l0 l1 l2 l3 σ o h
    rw [f_X7_isAhead_2] at h
    refine gx_iload_n 3 dX7_isAhead_2 rfl rfl ?_
    refine gx_iconst (v := (3 : Int32)) dX7_isAhead_3 ic_3 ?_
    refine gx_icmp_gt 43 dX7_isAhead_4 (by decide) (fun c0 => ?_) (fun c0 => ?_)
    · rw [if_pos c0] at h
      refine gx_iconst (v := (0 : Int32)) dX7_isAhead_43 ic_0 ?_
      have h := Option.some.inj h
      subst h
      exact gx_zret dX7_isAhead_44 rfl rfl (Nat.le_of_ble_eq_true rfl) (Nat.le_of_ble_eq_true rfl) ⟨rfl, rfl⟩
    · rw [if_neg c0] at h
      refine gx_iload_n 0 dX7_isAhead_7 rfl rfl ?_
      refine gx_iload_n 3 dX7_isAhead_8 rfl rfl ?_
      refine gx_getsX dX7_isAhead_9 tw_723 ?_
      refine gx_iload_n 2 dX7_isAhead_12 rfl rfl ?_
      refine gx_bipush (v := (7 : Int32)) dX7_isAhead_13 ib_7 ?_
      refine gx_iand dX7_isAhead_15 ?_
      obtain ⟨x2, hx2, h⟩ := bnd h
      refine gx_tiX dX7_isAhead_16 hx2 ?_
      refine gx_imul dX7_isAhead_17 ?_
      refine gx_icmp_ne 37 dX7_isAhead_18 (by decide) (fun c2 => ?_) (fun c2 => ?_)
      · rw [if_neg c2] at h
        exact s_X7_isAhead_37 ih h
      · rw [if_pos c2] at h
        refine gx_iload_n 1 dX7_isAhead_21 rfl rfl ?_
        refine gx_iload_n 3 dX7_isAhead_22 rfl rfl ?_
        refine gx_getsY dX7_isAhead_23 tw_725 ?_
        refine gx_iload_n 2 dX7_isAhead_26 rfl rfl ?_
        refine gx_bipush (v := (7 : Int32)) dX7_isAhead_27 ib_7 ?_
        refine gx_iand dX7_isAhead_29 ?_
        obtain ⟨x4, hx4, h⟩ := bnd h
        refine gx_tiY dX7_isAhead_30 hx4 ?_
        refine gx_imul dX7_isAhead_31 ?_
        refine gx_icmp_ne 37 dX7_isAhead_32 (by decide) (fun c4 => ?_) (fun c4 => ?_)
        · rw [if_neg c4] at h
          exact s_X7_isAhead_37 ih h
        · rw [if_pos c4] at h
          refine gx_iconst (v := (1 : Int32)) dX7_isAhead_35 ic_1 ?_
          have h := Option.some.inj h
          subst h
          exact gx_zret dX7_isAhead_36 rfl rfl (Nat.le_of_ble_eq_true rfl) (Nat.le_of_ble_eq_true rfl) ⟨rfl, rfl⟩
set_option maxRecDepth 4000 in
theorem s_X7_isAhead_0 {Γ : Cn} {τ : Mm} {N : Nat} {l0 : Int32} {l1 : Int32} {l2 : Int32} {σ : Mm} {o : Int32 × Mm} (h : f_X7_isAhead N l0 l1 l2 σ = some o) : Gx Γ M_X7_isAhead 0 τ (PI o) 0 0 0 [(0, .int l0), (1, .int l1), (2, .int l2)] [] σ := by
  unfold f_X7_isAhead at h
  refine gx_iconst (v := (1 : Int32)) dX7_isAhead_0 ic_1 ?_
  refine gx_istore_n (lv' := [(3, .int (1 : Int32)), (0, .int l0), (1, .int l1), (2, .int l2)]) dX7_isAhead_1 rfl (Nat.le_of_ble_eq_true rfl) rfl ?_
  exact gx_sub [1, 2, 3, 0] rfl (s_X7_isAhead_2  N _ _ _ _ _ _ h)
theorem c_X7_isAhead {Γ : Cn} {τ : Mm} {N : Nat} {l0 : Int32} {l1 : Int32} {l2 : Int32} {σ : Mm} {o : Int32 × Mm} (h : f_X7_isAhead N l0 l1 l2 σ = some o) : Ct Γ M_X7_isAhead yX7_isAhead 0 τ [.int l0, .int l1, .int l2] σ (PI o) := ct_of (by decide) rfl (fun _ => by first | rfl | contradiction) (Nat.le_of_ble_eq_true rfl) (s_X7_isAhead_0  h)
abbrev M_X7_sheltering : Ms := (cX7_sheltering, RX7, 7, (some .int), false, 0, 0, 1)
def f_X7_sheltering_17 (N : Nat) (σ : Mm) : Option (Int32 × Mm) :=
  some ((0 : Int32), σ)
def f_X7_sheltering_100 (N : Nat) (r_25 : Nat → Int32 → Int32 → Int32 → Int32 → Int32 → Mm → Option (Int32 × Mm)) (l0 : Nat) (l1 : Int32) (l2 : Int32) (l3 : Int32) (l4 : Int32) (l5 : Int32) (σ : Mm) : Option (Int32 × Mm) :=
  r_25 l0 l1 l2 l3 l4 (l5 + (1 : Int32)) σ
def f_X7_sheltering_55 (N : Nat) (r_25 : Nat → Int32 → Int32 → Int32 → Int32 → Int32 → Mm → Option (Int32 × Mm)) (l0 : Nat) (l1 : Int32) (l2 : Int32) (l3 : Int32) (l4 : Int32) (l5 : Int32) (t0 : Int32) (σ : Mm) : Option (Int32 × Mm) :=
  if t0 = 0 then (
    f_X7_sheltering_100 N r_25 l0 l1 l2 l3 l4 l5 σ) else (
    (gN 7 9 σ l0).bind fun a2 =>
    (aI 13 σ a2 l5).bind fun x3 =>
    (gN 7 1 σ l0).bind fun a4 =>
    (aI 13 σ a4 l1).bind fun x5 =>
    (gN 7 10 σ l0).bind fun a6 =>
    (aI 13 σ a6 l5).bind fun x7 =>
    (gN 7 2 σ l0).bind fun a8 =>
    (aI 13 σ a8 l1).bind fun x9 =>
    (f_X7_isAhead N (x3 - x5) (x7 - x9) l2 σ).bind fun q10 =>
    if q10.1 = 0 then (
      f_X7_sheltering_100 N r_25 l0 l1 l2 l3 l4 l5 q10.2) else (
      f_X7_sheltering_100 N r_25 l0 l1 l2 l3 (l4 + (1 : Int32)) l5 q10.2))
def f_X7_sheltering_106 (N : Nat) (l4 : Int32) (σ : Mm) : Option (Int32 × Mm) :=
  some (l4, σ)
def f_X7_sheltering_25 (N : Nat) : Nat → Nat → Int32 → Int32 → Int32 → Int32 → Int32 → Mm → Option (Int32 × Mm)
  | 0, _, _, _, _, _, _, _ => none
  | n + 1, l0, l1, l2, l3, l4, l5, σ =>
      (gI 7 8 σ l0).bind fun x1 =>
      if x1 ≤ l5 then (
        f_X7_sheltering_106 N l4 σ) else (
        if (12 : Int32) ≤ l5 then (
          f_X7_sheltering_106 N l4 σ) else (
          if ((l3 >>> (l5 &&& 31)) &&& (1 : Int32)) = 0 then (
            f_X7_sheltering_55 N (f_X7_sheltering_25 N n) l0 l1 l2 l3 l4 l5 (1 : Int32) σ) else (
            f_X7_sheltering_55 N (f_X7_sheltering_25 N n) l0 l1 l2 l3 l4 l5 (0 : Int32) σ)))
def f_X7_sheltering (N : Nat) (l0 : Nat) (l1 : Int32) (l2 : Int32) (l3 : Int32) (σ : Mm) : Option (Int32 × Mm) :=
  (ob 7 σ l0).bind fun _ =>
  (f_X7_hasCock N l0 l1 σ).bind fun q1 =>
  if q1.1 = 0 then (
    f_X7_sheltering_17 N q1.2) else (
    (f_X10_isBelow N l2 (8 : Int32) q1.2).bind fun q3 =>
    if q3.1 = 0 then (
      f_X7_sheltering_17 N q3.2) else (
      f_X7_sheltering_25 N N l0 l1 l2 l3 (0 : Int32) (0 : Int32) q3.2))
theorem mov_X7_sheltering : MOV yX7_sheltering M_X7_sheltering 3 7 0 := ⟨⟨tw_102, tw_718, ⟨by decide, by decide⟩, by decide +kernel⟩, tw_716, tw_717, by decide, ⟨_, rfl, rfl⟩, rfl⟩
set_option maxRecDepth 4000 in
theorem s_X7_sheltering_17 {Γ : Cn} {τ : Mm} {N : Nat} {σ : Mm} {o : Int32 × Mm} (h : f_X7_sheltering_17 N σ = some o) : Gx Γ M_X7_sheltering 0 τ (PI o) 0 0 17 [] [] σ := by
  unfold f_X7_sheltering_17 at h
  refine gx_iconst (v := (0 : Int32)) dX7_sheltering_17 ic_0 ?_
  have h := Option.some.inj h
  subst h
  exact gx_iret dX7_sheltering_18 rfl (Nat.le_of_ble_eq_true rfl) (Nat.le_of_ble_eq_true rfl) ⟨rfl, rfl⟩
set_option maxRecDepth 4000 in
theorem s_X7_sheltering_100 {Γ : Cn} {τ : Mm} {N : Nat} {r_25 : Nat → Int32 → Int32 → Int32 → Int32 → Int32 → Mm → Option (Int32 × Mm)} (hr_25 : ∀ (l0 : Nat) (l1 : Int32) (l2 : Int32) (l3 : Int32) (l4 : Int32) (l5 : Int32) (σ : Mm) (o : Int32 × Mm), r_25 l0 l1 l2 l3 l4 l5 σ = some o → Gx Γ M_X7_sheltering 0 τ (PI o) 0 0 25 [(0, .ref (Γ.B + pp l0)), (1, .int l1), (2, .int l2), (3, .int l3), (4, .int l4), (5, .int l5)] [] σ) {l0 : Nat} {l1 : Int32} {l2 : Int32} {l3 : Int32} {l4 : Int32} {l5 : Int32} {σ : Mm} {o : Int32 × Mm} (h : f_X7_sheltering_100 N r_25 l0 l1 l2 l3 l4 l5 σ = some o) : Gx Γ M_X7_sheltering 0 τ (PI o) 0 0 100 [(0, .ref (Γ.B + pp l0)), (1, .int l1), (2, .int l2), (3, .int l3), (4, .int l4), (5, .int l5)] [] σ := by
  unfold f_X7_sheltering_100 at h
  refine gx_iinc (v := (l5 + (1 : Int32))) (lv' := [(5, .int (l5 + (1 : Int32))), (0, .ref (Γ.B + pp l0)), (1, .int l1), (2, .int l2), (3, .int l3), (4, .int l4)]) 5 dX7_sheltering_100 rfl (by rw [ic_1]) (Nat.le_of_ble_eq_true rfl) rfl ?_
  refine gx_goto 25 dX7_sheltering_103 (by decide) ?_
  exact gx_sub [1, 2, 3, 4, 5, 0] rfl (hr_25 _ _ _ _ _ _ _ _ h)
set_option maxRecDepth 4000 in
theorem s_X7_sheltering_55 {Γ : Cn} {τ : Mm} {N : Nat} {r_25 : Nat → Int32 → Int32 → Int32 → Int32 → Int32 → Mm → Option (Int32 × Mm)} (hr_25 : ∀ (l0 : Nat) (l1 : Int32) (l2 : Int32) (l3 : Int32) (l4 : Int32) (l5 : Int32) (σ : Mm) (o : Int32 × Mm), r_25 l0 l1 l2 l3 l4 l5 σ = some o → Gx Γ M_X7_sheltering 0 τ (PI o) 0 0 25 [(0, .ref (Γ.B + pp l0)), (1, .int l1), (2, .int l2), (3, .int l3), (4, .int l4), (5, .int l5)] [] σ) {l0 : Nat} {l1 : Int32} {l2 : Int32} {l3 : Int32} {l4 : Int32} {l5 : Int32} {t0 : Int32} {σ : Mm} {o : Int32 × Mm} (h : f_X7_sheltering_55 N r_25 l0 l1 l2 l3 l4 l5 t0 σ = some o) : Gx Γ M_X7_sheltering 0 τ (PI o) 0 0 55 [(0, .ref (Γ.B + pp l0)), (1, .int l1), (2, .int l2), (3, .int l3), (4, .int l4), (5, .int l5)] [.int t0] σ := by
  unfold f_X7_sheltering_55 at h
  refine gx_istore (lv' := [(6, .int t0), (0, .ref (Γ.B + pp l0)), (1, .int l1), (2, .int l2), (3, .int l3), (4, .int l4), (5, .int l5)]) dX7_sheltering_55 (Nat.le_of_ble_eq_true rfl) rfl ?_
  refine gx_iload 0 dX7_sheltering_57 rfl ?_
  refine gx_if_eq 100 dX7_sheltering_59 (by decide) (fun c0 => ?_) (fun c0 => ?_)
  · rw [if_pos c0] at h
    exact gx_sub [1, 2, 3, 4, 5, 6] rfl (s_X7_sheltering_100 hr_25 h)
  · rw [if_neg c0] at h
    refine gx_aload_n 1 dX7_sheltering_62 rfl rfl ?_
    obtain ⟨a2, ha2, h⟩ := bnd h
    refine gx_getN dX7_sheltering_63 ha2 fl_X7_40 rfl ?_
    refine gx_iload 6 dX7_sheltering_66 rfl ?_
    obtain ⟨x3, hx3, h⟩ := bnd h
    refine gx_iald (kd := 13) dX7_sheltering_68 hx3 rfl rfl ?_
    refine gx_aload_n 1 dX7_sheltering_69 rfl rfl ?_
    obtain ⟨a4, ha4, h⟩ := bnd h
    refine gx_getN dX7_sheltering_70 ha4 fl_X7_15 rfl ?_
    refine gx_iload_n 2 dX7_sheltering_73 rfl rfl ?_
    obtain ⟨x5, hx5, h⟩ := bnd h
    refine gx_iald (kd := 13) dX7_sheltering_74 hx5 rfl rfl ?_
    refine gx_isub dX7_sheltering_75 ?_
    refine gx_aload_n 1 dX7_sheltering_76 rfl rfl ?_
    obtain ⟨a6, ha6, h⟩ := bnd h
    refine gx_getN dX7_sheltering_77 ha6 fl_X7_43 rfl ?_
    refine gx_iload 6 dX7_sheltering_80 rfl ?_
    obtain ⟨x7, hx7, h⟩ := bnd h
    refine gx_iald (kd := 13) dX7_sheltering_82 hx7 rfl rfl ?_
    refine gx_aload_n 1 dX7_sheltering_83 rfl rfl ?_
    obtain ⟨a8, ha8, h⟩ := bnd h
    refine gx_getN dX7_sheltering_84 ha8 fl_X7_19 rfl ?_
    refine gx_iload_n 2 dX7_sheltering_87 rfl rfl ?_
    obtain ⟨x9, hx9, h⟩ := bnd h
    refine gx_iald (kd := 13) dX7_sheltering_88 hx9 rfl rfl ?_
    refine gx_isub dX7_sheltering_89 ?_
    refine gx_iload_n 3 dX7_sheltering_90 rfl rfl ?_
    obtain ⟨q10, hq10, h⟩ := bnd h
    refine gx_cSI (As := [.int (x3 - x5), .int (x7 - x9), .int l2]) (st := []) dX7_sheltering_91 (c_X7_isAhead hq10) mos_X7_isAhead tw_720 rfl ⟨Nat.le_of_ble_eq_true rfl, Nat.le_of_ble_eq_true rfl⟩ (Nat.le_of_ble_eq_true rfl) ?_
    refine gx_if_eq 100 dX7_sheltering_94 (by decide) (fun c10 => ?_) (fun c10 => ?_)
    · rw [if_pos c10] at h
      exact gx_sub [1, 2, 3, 4, 5, 6] rfl (s_X7_sheltering_100 hr_25 h)
    · rw [if_neg c10] at h
      refine gx_iinc (v := (l4 + (1 : Int32))) (lv' := [(4, .int (l4 + (1 : Int32))), (6, .int t0), (0, .ref (Γ.B + pp l0)), (1, .int l1), (2, .int l2), (3, .int l3), (5, .int l5)]) 5 dX7_sheltering_97 rfl (by rw [ic_1]) (Nat.le_of_ble_eq_true rfl) rfl ?_
      exact gx_sub [2, 3, 4, 5, 0, 6] rfl (s_X7_sheltering_100 hr_25 h)
set_option maxRecDepth 4000 in
theorem s_X7_sheltering_106 {Γ : Cn} {τ : Mm} {N : Nat} {l4 : Int32} {σ : Mm} {o : Int32 × Mm} (h : f_X7_sheltering_106 N l4 σ = some o) : Gx Γ M_X7_sheltering 0 τ (PI o) 0 0 106 [(4, .int l4)] [] σ := by
  unfold f_X7_sheltering_106 at h
  refine gx_iload 0 dX7_sheltering_106 rfl ?_
  have h := Option.some.inj h
  subst h
  exact gx_iret dX7_sheltering_108 rfl (Nat.le_of_ble_eq_true rfl) (Nat.le_of_ble_eq_true rfl) ⟨rfl, rfl⟩
set_option maxRecDepth 4000 in
theorem s_X7_sheltering_25 {Γ : Cn} {τ : Mm} {N : Nat} : ∀ (n : Nat) (l0 : Nat) (l1 : Int32) (l2 : Int32) (l3 : Int32) (l4 : Int32) (l5 : Int32) (σ : Mm) (o : Int32 × Mm), f_X7_sheltering_25 N n l0 l1 l2 l3 l4 l5 σ = some o → Gx Γ M_X7_sheltering 0 τ (PI o) 0 0 25 [(0, .ref (Γ.B + pp l0)), (1, .int l1), (2, .int l2), (3, .int l3), (4, .int l4), (5, .int l5)] [] σ := by
  intro n
  induction n with
  | zero =>
    intro l0 l1 l2 l3 l4 l5 σ o h
    exact absurd h (by rw [f_X7_sheltering_25]; exact fun q => nomatch q)
  | succ n ih =>
    intro l0 l1 l2 l3 l4 l5 σ o h
    rw [f_X7_sheltering_25] at h
    refine gx_iload 5 dX7_sheltering_25 rfl ?_
    refine gx_aload_n 0 dX7_sheltering_27 rfl rfl ?_
    obtain ⟨x1, hx1, h⟩ := bnd h
    refine gx_getI dX7_sheltering_28 hx1 fl_X7_37 rfl ?_
    refine gx_icmp_ge 106 dX7_sheltering_31 (by decide) (fun c1 => ?_) (fun c1 => ?_)
    · rw [if_pos c1] at h
      exact gx_sub [4] rfl (s_X7_sheltering_106  h)
    · rw [if_neg c1] at h
      refine gx_iload 5 dX7_sheltering_34 rfl ?_
      refine gx_bipush (v := (12 : Int32)) dX7_sheltering_36 ib_12 ?_
      refine gx_icmp_ge 106 dX7_sheltering_38 (by decide) (fun c2 => ?_) (fun c2 => ?_)
      · rw [if_pos c2] at h
        exact gx_sub [4] rfl (s_X7_sheltering_106  h)
      · rw [if_neg c2] at h
        refine gx_iload_n 3 dX7_sheltering_41 rfl rfl ?_
        refine gx_iload 5 dX7_sheltering_42 rfl ?_
        refine gx_ishr dX7_sheltering_44 ?_
        refine gx_iconst (v := (1 : Int32)) dX7_sheltering_45 ic_1 ?_
        refine gx_iand dX7_sheltering_46 ?_
        refine gx_if_ne 54 dX7_sheltering_47 (by decide) (fun c3 => ?_) (fun c3 => ?_)
        · rw [if_neg c3] at h
          refine gx_iconst (v := (0 : Int32)) dX7_sheltering_54 ic_0 ?_
          exact s_X7_sheltering_55 ih h
        · rw [if_pos c3] at h
          refine gx_iconst (v := (1 : Int32)) dX7_sheltering_50 ic_1 ?_
          refine gx_goto 55 dX7_sheltering_51 (by decide) ?_
          exact s_X7_sheltering_55 ih h
set_option maxRecDepth 4000 in
theorem s_X7_sheltering_0 {Γ : Cn} {τ : Mm} {N : Nat} {l0 : Nat} {l1 : Int32} {l2 : Int32} {l3 : Int32} {σ : Mm} {o : Int32 × Mm} (h : f_X7_sheltering N l0 l1 l2 l3 σ = some o) : Gx Γ M_X7_sheltering 0 τ (PI o) 0 0 0 [(0, .ref (Γ.B + pp l0)), (1, .int l1), (2, .int l2), (3, .int l3)] [] σ := by
  unfold f_X7_sheltering at h
  refine gx_aload_n 0 dX7_sheltering_0 rfl rfl ?_
  refine gx_iload_n 1 dX7_sheltering_1 rfl rfl ?_
  obtain ⟨_, hobq1, h⟩ := bnd h
  obtain ⟨q1, hq1, h⟩ := bnd h
  refine gx_cVI (As := [.int l1]) (st := []) (o := l0) dX7_sheltering_2 (c_X7_hasCock hq1) mov_X7_hasCock tw_719 hobq1 rfl ⟨Nat.le_of_ble_eq_true rfl, Nat.le_of_ble_eq_true rfl⟩ (Nat.le_of_ble_eq_true rfl) ?_
  refine gx_if_eq 17 dX7_sheltering_5 (by decide) (fun c1 => ?_) (fun c1 => ?_)
  · rw [if_pos c1] at h
    exact gx_sub [] rfl (s_X7_sheltering_17  h)
  · rw [if_neg c1] at h
    refine gx_iload_n 2 dX7_sheltering_8 rfl rfl ?_
    refine gx_bipush (v := (8 : Int32)) dX7_sheltering_9 ib_8 ?_
    obtain ⟨q3, hq3, h⟩ := bnd h
    refine gx_cSNI (As := [.int l2, .int (8 : Int32)]) (st := []) dX7_sheltering_11 (c_X10_isBelow hq3) mos_X10_isBelow (by decide) rfl ⟨Nat.le_of_ble_eq_true rfl, Nat.le_of_ble_eq_true rfl⟩ (Nat.le_of_ble_eq_true rfl) ?_
    refine gx_if_ne 19 dX7_sheltering_14 (by decide) (fun c3 => ?_) (fun c3 => ?_)
    · rw [if_neg c3] at h
      refine gx_iconst (v := (0 : Int32)) dX7_sheltering_19 ic_0 ?_
      refine gx_istore (lv' := [(4, .int (0 : Int32)), (0, .ref (Γ.B + pp l0)), (1, .int l1), (2, .int l2), (3, .int l3)]) dX7_sheltering_20 (Nat.le_of_ble_eq_true rfl) rfl ?_
      refine gx_iconst (v := (0 : Int32)) dX7_sheltering_22 ic_0 ?_
      refine gx_istore (lv' := [(5, .int (0 : Int32)), (4, .int (0 : Int32)), (0, .ref (Γ.B + pp l0)), (1, .int l1), (2, .int l2), (3, .int l3)]) dX7_sheltering_23 (Nat.le_of_ble_eq_true rfl) rfl ?_
      exact gx_sub [2, 3, 4, 5, 1, 0] rfl (s_X7_sheltering_25  N _ _ _ _ _ _ _ _ h)
    · rw [if_pos c3] at h
      exact gx_sub [] rfl (s_X7_sheltering_17  h)
theorem c_X7_sheltering {Γ : Cn} {τ : Mm} {N : Nat} {l0 : Nat} {l1 : Int32} {l2 : Int32} {l3 : Int32} {σ : Mm} {o : Int32 × Mm} (h : f_X7_sheltering N l0 l1 l2 l3 σ = some o) : Ct Γ M_X7_sheltering yX7_sheltering 0 τ [.ref (Γ.B + pp l0), .int l1, .int l2, .int l3] σ (PI o) := ct_of (by decide) rfl (fun _ => by first | rfl | contradiction) (Nat.le_of_ble_eq_true rfl) (s_X7_sheltering_0  h)
abbrev M_X9_stand : Ms := (cX9_stand, RX9, 5, none, false, 0, 0, 2)
def f_X9_stand (N : Nat) (l0 : Nat) (l1 : Nat) (l2 : Int32) (l3 : Int32) (l4 : Int32) (σ : Mm) : Option Mm :=
  (ob 7 σ l1).bind fun _ =>
  (f_X7_hasCock N l1 l2 σ).bind fun q1 =>
  if q1.1 = 0 then (
    some q1.2) else (
    (gN 9 0 q1.2 l0).bind fun a3 =>
    (sI 13 q1.2 a3 (0 : Int32) l2).bind fun s4 =>
    (gN 9 0 s4 l0).bind fun a5 =>
    (gN 7 3 s4 l1).bind fun a6 =>
    (aI 13 s4 a6 l2).bind fun x7 =>
    (sI 13 s4 a5 (1 : Int32) x7).bind fun s8 =>
    (gN 9 0 s8 l0).bind fun a9 =>
    (gN 7 4 s8 l1).bind fun a10 =>
    (aI 13 s8 a10 l2).bind fun x11 =>
    (sI 13 s8 a9 (2 : Int32) x11).bind fun s12 =>
    (gN 9 0 s12 l0).bind fun a13 =>
    (gN 7 5 s12 l1).bind fun a14 =>
    (aI 13 s12 a14 l2).bind fun x15 =>
    (sI 13 s12 a13 (3 : Int32) x15).bind fun s16 =>
    (gN 9 0 s16 l0).bind fun a17 =>
    (sI 13 s16 a17 (6 : Int32) l3).bind fun s18 =>
    (gN 9 0 s18 l0).bind fun a19 =>
    (ob 7 s18 l1).bind fun _ =>
    (f_X7_sheltering N l1 l2 l3 l4 s18).bind fun q20 =>
    (sI 13 q20.2 a19 (7 : Int32) q20.1).bind fun s21 =>
    some s21)
theorem mov_X9_stand : MOV yX9_stand M_X9_stand 4 9 0 := ⟨⟨tw_103, tw_742, ⟨by decide, by decide⟩, by decide +kernel⟩, tw_740, tw_741, by decide, ⟨_, rfl, rfl⟩, rfl⟩
set_option maxRecDepth 4000 in
theorem s_X9_stand_0 {Γ : Cn} {τ : Mm} {N : Nat} {l0 : Nat} {l1 : Nat} {l2 : Int32} {l3 : Int32} {l4 : Int32} {σ : Mm} {o : Mm} (h : f_X9_stand N l0 l1 l2 l3 l4 σ = some o) : Gx Γ M_X9_stand 0 τ (PV o) 0 0 0 [(0, .ref (Γ.B + pp l0)), (1, .ref (Γ.B + pp l1)), (2, .int l2), (3, .int l3), (4, .int l4)] [] σ := by
  unfold f_X9_stand at h
  refine gx_aload_n 1 dX9_stand_0 rfl rfl ?_
  refine gx_iload_n 2 dX9_stand_1 rfl rfl ?_
  obtain ⟨_, hobq1, h⟩ := bnd h
  obtain ⟨q1, hq1, h⟩ := bnd h
  refine gx_cVI (As := [.int l2]) (st := []) (o := l1) dX9_stand_2 (c_X7_hasCock hq1) mov_X7_hasCock tw_743 hobq1 rfl ⟨Nat.le_of_ble_eq_true rfl, Nat.le_of_ble_eq_true rfl⟩ (Nat.le_of_ble_eq_true rfl) ?_
  refine gx_if_ne 9 dX9_stand_5 (by decide) (fun c1 => ?_) (fun c1 => ?_)
  · rw [if_neg c1] at h
    refine gx_aload_n 0 dX9_stand_9 rfl rfl ?_
    obtain ⟨a3, ha3, h⟩ := bnd h
    refine gx_getN dX9_stand_10 ha3 fl_X9_9 rfl ?_
    refine gx_iconst (v := (0 : Int32)) dX9_stand_13 ic_0 ?_
    refine gx_iload_n 2 dX9_stand_14 rfl rfl ?_
    obtain ⟨s4, hs4, h⟩ := bnd h
    refine gx_iast (kd := 13) dX9_stand_15 hs4 rfl rfl ?_
    refine gx_aload_n 0 dX9_stand_16 rfl rfl ?_
    obtain ⟨a5, ha5, h⟩ := bnd h
    refine gx_getN dX9_stand_17 ha5 fl_X9_9 rfl ?_
    refine gx_iconst (v := (1 : Int32)) dX9_stand_20 ic_1 ?_
    refine gx_aload_n 1 dX9_stand_21 rfl rfl ?_
    obtain ⟨a6, ha6, h⟩ := bnd h
    refine gx_getN dX9_stand_22 ha6 fl_X9_27 rfl ?_
    refine gx_iload_n 2 dX9_stand_25 rfl rfl ?_
    obtain ⟨x7, hx7, h⟩ := bnd h
    refine gx_iald (kd := 13) dX9_stand_26 hx7 rfl rfl ?_
    obtain ⟨s8, hs8, h⟩ := bnd h
    refine gx_iast (kd := 13) dX9_stand_27 hs8 rfl rfl ?_
    refine gx_aload_n 0 dX9_stand_28 rfl rfl ?_
    obtain ⟨a9, ha9, h⟩ := bnd h
    refine gx_getN dX9_stand_29 ha9 fl_X9_9 rfl ?_
    refine gx_iconst (v := (2 : Int32)) dX9_stand_32 ic_2 ?_
    refine gx_aload_n 1 dX9_stand_33 rfl rfl ?_
    obtain ⟨a10, ha10, h⟩ := bnd h
    refine gx_getN dX9_stand_34 ha10 fl_X9_30 rfl ?_
    refine gx_iload_n 2 dX9_stand_37 rfl rfl ?_
    obtain ⟨x11, hx11, h⟩ := bnd h
    refine gx_iald (kd := 13) dX9_stand_38 hx11 rfl rfl ?_
    obtain ⟨s12, hs12, h⟩ := bnd h
    refine gx_iast (kd := 13) dX9_stand_39 hs12 rfl rfl ?_
    refine gx_aload_n 0 dX9_stand_40 rfl rfl ?_
    obtain ⟨a13, ha13, h⟩ := bnd h
    refine gx_getN dX9_stand_41 ha13 fl_X9_9 rfl ?_
    refine gx_iconst (v := (3 : Int32)) dX9_stand_44 ic_3 ?_
    refine gx_aload_n 1 dX9_stand_45 rfl rfl ?_
    obtain ⟨a14, ha14, h⟩ := bnd h
    refine gx_getN dX9_stand_46 ha14 fl_X9_33 rfl ?_
    refine gx_iload_n 2 dX9_stand_49 rfl rfl ?_
    obtain ⟨x15, hx15, h⟩ := bnd h
    refine gx_iald (kd := 13) dX9_stand_50 hx15 rfl rfl ?_
    obtain ⟨s16, hs16, h⟩ := bnd h
    refine gx_iast (kd := 13) dX9_stand_51 hs16 rfl rfl ?_
    refine gx_aload_n 0 dX9_stand_52 rfl rfl ?_
    obtain ⟨a17, ha17, h⟩ := bnd h
    refine gx_getN dX9_stand_53 ha17 fl_X9_9 rfl ?_
    refine gx_bipush (v := (6 : Int32)) dX9_stand_56 ib_6 ?_
    refine gx_iload_n 3 dX9_stand_58 rfl rfl ?_
    obtain ⟨s18, hs18, h⟩ := bnd h
    refine gx_iast (kd := 13) dX9_stand_59 hs18 rfl rfl ?_
    refine gx_aload_n 0 dX9_stand_60 rfl rfl ?_
    obtain ⟨a19, ha19, h⟩ := bnd h
    refine gx_getN dX9_stand_61 ha19 fl_X9_9 rfl ?_
    refine gx_bipush (v := (7 : Int32)) dX9_stand_64 ib_7 ?_
    refine gx_aload_n 1 dX9_stand_66 rfl rfl ?_
    refine gx_iload_n 2 dX9_stand_67 rfl rfl ?_
    refine gx_iload_n 3 dX9_stand_68 rfl rfl ?_
    refine gx_iload 4 dX9_stand_69 rfl ?_
    obtain ⟨_, hobq20, h⟩ := bnd h
    obtain ⟨q20, hq20, h⟩ := bnd h
    refine gx_cVI (As := [.int l2, .int l3, .int l4]) (st := [.int (7 : Int32), .ref (Γ.B + pp a19)]) (o := l1) dX9_stand_71 (c_X7_sheltering hq20) mov_X7_sheltering tw_744 hobq20 rfl ⟨Nat.le_of_ble_eq_true rfl, Nat.le_of_ble_eq_true rfl⟩ (Nat.le_of_ble_eq_true rfl) ?_
    obtain ⟨s21, hs21, h⟩ := bnd h
    refine gx_iast (kd := 13) dX9_stand_74 hs21 rfl rfl ?_
    have h := Option.some.inj h
    subst h
    exact gx_vret dX9_stand_75 rfl (Nat.le_of_ble_eq_true rfl) (Nat.le_of_ble_eq_true rfl) ⟨rfl, rfl⟩
  · rw [if_pos c1] at h
    have h := Option.some.inj h
    subst h
    exact gx_vret dX9_stand_8 rfl (Nat.le_of_ble_eq_true rfl) (Nat.le_of_ble_eq_true rfl) ⟨rfl, rfl⟩
theorem c_X9_stand {Γ : Cn} {τ : Mm} {N : Nat} {l0 : Nat} {l1 : Nat} {l2 : Int32} {l3 : Int32} {l4 : Int32} {σ : Mm} {o : Mm} (h : f_X9_stand N l0 l1 l2 l3 l4 σ = some o) : Ct Γ M_X9_stand yX9_stand 0 τ [.ref (Γ.B + pp l0), .ref (Γ.B + pp l1), .int l2, .int l3, .int l4] σ (PV o) := ct_of (by decide) rfl (fun _ => by first | rfl | contradiction) (Nat.le_of_ble_eq_true rfl) (s_X9_stand_0  h)
abbrev M_X10_offBetween : Ms := (cX10_offBetween, RX10, 3, (some .int), false, 0, 0, 1)
def f_X10_offBetween (N : Nat) (l0 : Int32) (l1 : Int32) (σ : Mm) : Option (Int32 × Mm) :=
  some ((if ((8 : Int32) - ((l0 - l1) &&& (7 : Int32))) < ((l0 - l1) &&& (7 : Int32)) then ((8 : Int32) - ((l0 - l1) &&& (7 : Int32))) else ((l0 - l1) &&& (7 : Int32))), σ)
theorem mos_X10_offBetween : MOS yX10_offBetween M_X10_offBetween 2 := ⟨⟨tw_96, tw_751, ⟨by decide, by decide⟩, by decide +kernel⟩, tw_750⟩
set_option maxRecDepth 4000 in
theorem s_X10_offBetween_0 {Γ : Cn} {τ : Mm} {N : Nat} {l0 : Int32} {l1 : Int32} {σ : Mm} {o : Int32 × Mm} (h : f_X10_offBetween N l0 l1 σ = some o) : Gx Γ M_X10_offBetween 0 τ (PI o) 0 0 0 [(0, .int l0), (1, .int l1)] [] σ := by
  unfold f_X10_offBetween at h
  refine gx_iload_n 0 dX10_offBetween_0 rfl rfl ?_
  refine gx_iload_n 1 dX10_offBetween_1 rfl rfl ?_
  refine gx_isub dX10_offBetween_2 ?_
  refine gx_bipush (v := (7 : Int32)) dX10_offBetween_3 ib_7 ?_
  refine gx_iand dX10_offBetween_5 ?_
  refine gx_istore_n (lv' := [(2, .int ((l0 - l1) &&& (7 : Int32))), (0, .int l0), (1, .int l1)]) dX10_offBetween_6 rfl (Nat.le_of_ble_eq_true rfl) rfl ?_
  refine gx_iload_n 0 dX10_offBetween_7 rfl rfl ?_
  refine gx_bipush (v := (8 : Int32)) dX10_offBetween_8 ib_8 ?_
  refine gx_iload_n 0 dX10_offBetween_10 rfl rfl ?_
  refine gx_isub dX10_offBetween_11 ?_
  refine gx_mminI dX10_offBetween_12 tw_752 (Nat.le_of_ble_eq_true rfl) (Nat.le_of_ble_eq_true rfl) ?_
  have h := Option.some.inj h
  subst h
  exact gx_iret dX10_offBetween_15 rfl (Nat.le_of_ble_eq_true rfl) (Nat.le_of_ble_eq_true rfl) ⟨rfl, rfl⟩
theorem c_X10_offBetween {Γ : Cn} {τ : Mm} {N : Nat} {l0 : Int32} {l1 : Int32} {σ : Mm} {o : Int32 × Mm} (h : f_X10_offBetween N l0 l1 σ = some o) : Ct Γ M_X10_offBetween yX10_offBetween 0 τ [.int l0, .int l1] σ (PI o) := ct_of (by decide) rfl (fun _ => by first | rfl | contradiction) (Nat.le_of_ble_eq_true rfl) (s_X10_offBetween_0  h)
abbrev M_X2_isWord : Ms := (cX2_isWord, RX2, 1, (some .boolean), false, 0, 0, 0)
def f_X2_isWord_17 (N : Nat) (t0 : Int32) (σ : Mm) : Option (Int32 × Mm) :=
  if t0 = 0 ∨ t0 = 1 then some (t0, σ) else none
def f_X2_isWord_16 (N : Nat) (σ : Mm) : Option (Int32 × Mm) :=
  f_X2_isWord_17 N (0 : Int32) σ
def f_X2_isWord (N : Nat) (l0 : Int32) (σ : Mm) : Option (Int32 × Mm) :=
  if l0 < (25 : Int32) then (
    f_X2_isWord_16 N σ) else (
    if (33 : Int32) < l0 then (
      f_X2_isWord_16 N σ) else (
      f_X2_isWord_17 N (1 : Int32) σ))
theorem mos_X2_isWord : MOS yX2_isWord M_X2_isWord 1 := ⟨⟨tw_101, tw_761, ⟨by decide, by decide⟩, by decide +kernel⟩, tw_760⟩
set_option maxRecDepth 4000 in
theorem s_X2_isWord_17 {Γ : Cn} {τ : Mm} {N : Nat} {t0 : Int32} {σ : Mm} {o : Int32 × Mm} (h : f_X2_isWord_17 N t0 σ = some o) : Gx Γ M_X2_isWord 0 τ (PI o) 0 0 17 [] [.int t0] σ := by
  unfold f_X2_isWord_17 at h
  obtain ⟨hz, h⟩ := of_if h
  have h := Option.some.inj h
  subst h
  exact gx_zret dX2_isWord_17 rfl (nar_z hz) (Nat.le_of_ble_eq_true rfl) (Nat.le_of_ble_eq_true rfl) ⟨rfl, rfl⟩
set_option maxRecDepth 4000 in
theorem s_X2_isWord_16 {Γ : Cn} {τ : Mm} {N : Nat} {σ : Mm} {o : Int32 × Mm} (h : f_X2_isWord_16 N σ = some o) : Gx Γ M_X2_isWord 0 τ (PI o) 0 0 16 [] [] σ := by
  unfold f_X2_isWord_16 at h
  refine gx_iconst (v := (0 : Int32)) dX2_isWord_16 ic_0 ?_
  exact s_X2_isWord_17  h
set_option maxRecDepth 4000 in
theorem s_X2_isWord_0 {Γ : Cn} {τ : Mm} {N : Nat} {l0 : Int32} {σ : Mm} {o : Int32 × Mm} (h : f_X2_isWord N l0 σ = some o) : Gx Γ M_X2_isWord 0 τ (PI o) 0 0 0 [(0, .int l0)] [] σ := by
  unfold f_X2_isWord at h
  refine gx_iload_n 0 dX2_isWord_0 rfl rfl ?_
  refine gx_bipush (v := (25 : Int32)) dX2_isWord_1 ib_25 ?_
  refine gx_icmp_lt 16 dX2_isWord_3 (by decide) (fun c0 => ?_) (fun c0 => ?_)
  · rw [if_pos c0] at h
    exact gx_sub [] rfl (s_X2_isWord_16  h)
  · rw [if_neg c0] at h
    refine gx_iload_n 0 dX2_isWord_6 rfl rfl ?_
    refine gx_bipush (v := (33 : Int32)) dX2_isWord_7 ib_33 ?_
    refine gx_icmp_gt 16 dX2_isWord_9 (by decide) (fun c1 => ?_) (fun c1 => ?_)
    · rw [if_pos c1] at h
      exact gx_sub [] rfl (s_X2_isWord_16  h)
    · rw [if_neg c1] at h
      refine gx_iconst (v := (1 : Int32)) dX2_isWord_12 ic_1 ?_
      refine gx_goto 17 dX2_isWord_13 (by decide) ?_
      exact gx_sub [] rfl (s_X2_isWord_17  h)
theorem c_X2_isWord {Γ : Cn} {τ : Mm} {N : Nat} {l0 : Int32} {σ : Mm} {o : Int32 × Mm} (h : f_X2_isWord N l0 σ = some o) : Ct Γ M_X2_isWord yX2_isWord 0 τ [.int l0] σ (PI o) := ct_of (by decide) rfl (fun _ => by first | rfl | contradiction) (Nat.le_of_ble_eq_true rfl) (s_X2_isWord_0  h)
abbrev M_X2_wordOf : Ms := (cX2_wordOf, RX2, 3, (some .long), false, 0, 0, 0)
def f_X2_wordOf_23 (N : Nat) (t0 : Int64) (σ : Mm) : Option (Int64 × Mm) :=
  some (t0, σ)
def f_X2_wordOf_22 (N : Nat) (σ : Mm) : Option (Int64 × Mm) :=
  f_X2_wordOf_23 N (0 : Int64) σ
def f_X2_wordOf (N : Nat) (l0 : Nat) (l1 : Int32) (σ : Mm) : Option (Int64 × Mm) :=
  if (l1 - (25 : Int32)) < 0 then (
    f_X2_wordOf_22 N σ) else (
    (ln 0 σ l0).bind fun x2 =>
    if x2 ≤ (l1 - (25 : Int32)) then (
      f_X2_wordOf_22 N σ) else (
      (aI 13 σ l0 (l1 - (25 : Int32))).bind fun x4 =>
      f_X2_wordOf_23 N (Int32.toInt64 x4) σ))
theorem mos_X2_wordOf : MOS yX2_wordOf M_X2_wordOf 2 := ⟨⟨tw_101, tw_764, ⟨by decide, by decide⟩, by decide +kernel⟩, tw_763⟩
set_option maxRecDepth 4000 in
theorem s_X2_wordOf_23 {Γ : Cn} {τ : Mm} {N : Nat} {t0 : Int64} {σ : Mm} {o : Int64 × Mm} (h : f_X2_wordOf_23 N t0 σ = some o) : Gx Γ M_X2_wordOf 0 τ (PJ o) 0 0 23 [] [.long t0] σ := by
  unfold f_X2_wordOf_23 at h
  have h := Option.some.inj h
  subst h
  exact gx_lret dX2_wordOf_23 rfl (Nat.le_of_ble_eq_true rfl) (Nat.le_of_ble_eq_true rfl) ⟨rfl, rfl⟩
set_option maxRecDepth 4000 in
theorem s_X2_wordOf_22 {Γ : Cn} {τ : Mm} {N : Nat} {σ : Mm} {o : Int64 × Mm} (h : f_X2_wordOf_22 N σ = some o) : Gx Γ M_X2_wordOf 0 τ (PJ o) 0 0 22 [] [] σ := by
  unfold f_X2_wordOf_22 at h
  refine gx_lconst (v := (0 : Int64)) dX2_wordOf_22 (by decide) ?_
  exact s_X2_wordOf_23  h
set_option maxRecDepth 4000 in
theorem s_X2_wordOf_0 {Γ : Cn} {τ : Mm} {N : Nat} {l0 : Nat} {l1 : Int32} {σ : Mm} {o : Int64 × Mm} (h : f_X2_wordOf N l0 l1 σ = some o) : Gx Γ M_X2_wordOf 0 τ (PJ o) 0 0 0 [(0, .ref (Γ.B + pp l0)), (1, .int l1)] [] σ := by
  unfold f_X2_wordOf at h
  refine gx_iload_n 1 dX2_wordOf_0 rfl rfl ?_
  refine gx_bipush (v := (25 : Int32)) dX2_wordOf_1 ib_25 ?_
  refine gx_isub dX2_wordOf_3 ?_
  refine gx_istore_n (lv' := [(2, .int (l1 - (25 : Int32))), (0, .ref (Γ.B + pp l0)), (1, .int l1)]) dX2_wordOf_4 rfl (Nat.le_of_ble_eq_true rfl) rfl ?_
  refine gx_iload_n 0 dX2_wordOf_5 rfl rfl ?_
  refine gx_if_lt 22 dX2_wordOf_6 (by decide) (fun c0 => ?_) (fun c0 => ?_)
  · rw [if_pos c0] at h
    exact gx_sub [] rfl (s_X2_wordOf_22  h)
  · rw [if_neg c0] at h
    refine gx_iload_n 0 dX2_wordOf_9 rfl rfl ?_
    refine gx_aload_n 1 dX2_wordOf_10 rfl rfl ?_
    obtain ⟨x2, hx2, h⟩ := bnd h
    refine gx_alen dX2_wordOf_11 hx2 ?_
    refine gx_icmp_ge 22 dX2_wordOf_12 (by decide) (fun c2 => ?_) (fun c2 => ?_)
    · rw [if_pos c2] at h
      exact gx_sub [] rfl (s_X2_wordOf_22  h)
    · rw [if_neg c2] at h
      refine gx_aload_n 1 dX2_wordOf_15 rfl rfl ?_
      refine gx_iload_n 0 dX2_wordOf_16 rfl rfl ?_
      obtain ⟨x4, hx4, h⟩ := bnd h
      refine gx_iald (kd := 13) dX2_wordOf_17 hx4 rfl rfl ?_
      refine gx_i2l dX2_wordOf_18 ?_
      refine gx_goto 23 dX2_wordOf_19 (by decide) ?_
      exact gx_sub [] rfl (s_X2_wordOf_23  h)
theorem c_X2_wordOf {Γ : Cn} {τ : Mm} {N : Nat} {l0 : Nat} {l1 : Int32} {σ : Mm} {o : Int64 × Mm} (h : f_X2_wordOf N l0 l1 σ = some o) : Ct Γ M_X2_wordOf yX2_wordOf 0 τ [.ref (Γ.B + pp l0), .int l1] σ (PJ o) := ct_of (by decide) rfl (fun _ => by first | rfl | contradiction) (Nat.le_of_ble_eq_true rfl) (s_X2_wordOf_0  h)
abbrev M_X2_joined : Ms := (cX2_joined, RX2, 5, (some .long), false, 0, 0, 0)
def f_X2_joined_109 (N : Nat) (t0 : Int64) (σ : Mm) : Option (Int64 × Mm) :=
  some (t0, σ)
def f_X2_joined_121 (N : Nat) (t0 : Int64) (σ : Mm) : Option (Int64 × Mm) :=
  some (t0, σ)
def f_X2_joined_133 (N : Nat) (t0 : Int64) (σ : Mm) : Option (Int64 × Mm) :=
  some (t0, σ)
def f_X2_joined_145 (N : Nat) (t0 : Int64) (σ : Mm) : Option (Int64 × Mm) :=
  some (t0, σ)
def f_X2_joined_157 (N : Nat) (t0 : Int64) (σ : Mm) : Option (Int64 × Mm) :=
  some (t0, σ)
def f_X2_joined_169 (N : Nat) (t0 : Int64) (σ : Mm) : Option (Int64 × Mm) :=
  some (t0, σ)
def f_X2_joined (N : Nat) (l0 : Int32) (l1 : Int64) (l3 : Int64) (σ : Mm) : Option (Int64 × Mm) :=
  if l0 = (7 : Int32) then (
    some ((l1 + l3), σ)) else
  if l0 = (8 : Int32) then (
    some ((l1 - l3), σ)) else
  if l0 = (9 : Int32) then (
    some ((l1 * l3), σ)) else
  if l0 = (10 : Int32) then (
    if (lg_cmp l3 (0 : Int64)) = 0 then (
      f_X2_joined_109 N (0 : Int64) σ) else (
      if l3 = 0 then none else
      f_X2_joined_109 N (l1 / l3) σ)) else
  if l0 = (11 : Int32) then (
    if 0 ≤ (lg_cmp l1 l3) then (
      f_X2_joined_121 N (0 : Int64) σ) else (
      f_X2_joined_121 N (1 : Int64) σ)) else
  if l0 = (12 : Int32) then (
    if 0 < (lg_cmp l1 l3) then (
      f_X2_joined_133 N (0 : Int64) σ) else (
      f_X2_joined_133 N (1 : Int64) σ)) else
  if l0 = (13 : Int32) then (
    if (lg_cmp l1 l3) = 0 then (
      f_X2_joined_145 N (1 : Int64) σ) else (
      f_X2_joined_145 N (0 : Int64) σ)) else
  if l0 = (14 : Int32) then (
    if (lg_cmp l1 l3) < 0 then (
      f_X2_joined_157 N (0 : Int64) σ) else (
      f_X2_joined_157 N (1 : Int64) σ)) else
  if l0 = (15 : Int32) then (
    if (lg_cmp l1 l3) ≤ 0 then (
      f_X2_joined_169 N (0 : Int64) σ) else (
      f_X2_joined_169 N (1 : Int64) σ)) else
  if l0 = (22 : Int32) then (
    some ((l1 ||| l3), σ)) else
  if l0 = (23 : Int32) then (
    some ((l1 &&& l3), σ)) else
  some ((0 : Int64), σ)
theorem mos_X2_joined : MOS yX2_joined M_X2_joined 3 := ⟨⟨tw_101, tw_767, ⟨by decide, by decide⟩, by decide +kernel⟩, tw_766⟩
set_option maxRecDepth 4000 in
theorem s_X2_joined_109 {Γ : Cn} {τ : Mm} {N : Nat} {t0 : Int64} {σ : Mm} {o : Int64 × Mm} (h : f_X2_joined_109 N t0 σ = some o) : Gx Γ M_X2_joined 0 τ (PJ o) 0 0 109 [] [.long t0] σ := by
  unfold f_X2_joined_109 at h
  have h := Option.some.inj h
  subst h
  exact gx_lret dX2_joined_109 rfl (Nat.le_of_ble_eq_true rfl) (Nat.le_of_ble_eq_true rfl) ⟨rfl, rfl⟩
set_option maxRecDepth 4000 in
theorem s_X2_joined_121 {Γ : Cn} {τ : Mm} {N : Nat} {t0 : Int64} {σ : Mm} {o : Int64 × Mm} (h : f_X2_joined_121 N t0 σ = some o) : Gx Γ M_X2_joined 0 τ (PJ o) 0 0 121 [] [.long t0] σ := by
  unfold f_X2_joined_121 at h
  have h := Option.some.inj h
  subst h
  exact gx_lret dX2_joined_121 rfl (Nat.le_of_ble_eq_true rfl) (Nat.le_of_ble_eq_true rfl) ⟨rfl, rfl⟩
set_option maxRecDepth 4000 in
theorem s_X2_joined_133 {Γ : Cn} {τ : Mm} {N : Nat} {t0 : Int64} {σ : Mm} {o : Int64 × Mm} (h : f_X2_joined_133 N t0 σ = some o) : Gx Γ M_X2_joined 0 τ (PJ o) 0 0 133 [] [.long t0] σ := by
  unfold f_X2_joined_133 at h
  have h := Option.some.inj h
  subst h
  exact gx_lret dX2_joined_133 rfl (Nat.le_of_ble_eq_true rfl) (Nat.le_of_ble_eq_true rfl) ⟨rfl, rfl⟩
set_option maxRecDepth 4000 in
theorem s_X2_joined_145 {Γ : Cn} {τ : Mm} {N : Nat} {t0 : Int64} {σ : Mm} {o : Int64 × Mm} (h : f_X2_joined_145 N t0 σ = some o) : Gx Γ M_X2_joined 0 τ (PJ o) 0 0 145 [] [.long t0] σ := by
  unfold f_X2_joined_145 at h
  have h := Option.some.inj h
  subst h
  exact gx_lret dX2_joined_145 rfl (Nat.le_of_ble_eq_true rfl) (Nat.le_of_ble_eq_true rfl) ⟨rfl, rfl⟩
set_option maxRecDepth 4000 in
theorem s_X2_joined_157 {Γ : Cn} {τ : Mm} {N : Nat} {t0 : Int64} {σ : Mm} {o : Int64 × Mm} (h : f_X2_joined_157 N t0 σ = some o) : Gx Γ M_X2_joined 0 τ (PJ o) 0 0 157 [] [.long t0] σ := by
  unfold f_X2_joined_157 at h
  have h := Option.some.inj h
  subst h
  exact gx_lret dX2_joined_157 rfl (Nat.le_of_ble_eq_true rfl) (Nat.le_of_ble_eq_true rfl) ⟨rfl, rfl⟩
set_option maxRecDepth 4000 in
theorem s_X2_joined_169 {Γ : Cn} {τ : Mm} {N : Nat} {t0 : Int64} {σ : Mm} {o : Int64 × Mm} (h : f_X2_joined_169 N t0 σ = some o) : Gx Γ M_X2_joined 0 τ (PJ o) 0 0 169 [] [.long t0] σ := by
  unfold f_X2_joined_169 at h
  have h := Option.some.inj h
  subst h
  exact gx_lret dX2_joined_169 rfl (Nat.le_of_ble_eq_true rfl) (Nat.le_of_ble_eq_true rfl) ⟨rfl, rfl⟩
set_option maxRecDepth 4000 in
theorem s_X2_joined_0 {Γ : Cn} {τ : Mm} {N : Nat} {l0 : Int32} {l1 : Int64} {l3 : Int64} {σ : Mm} {o : Int64 × Mm} (h : f_X2_joined N l0 l1 l3 σ = some o) : Gx Γ M_X2_joined 0 τ (PJ o) 0 0 0 [(0, .int l0), (1, .long l1), (3, .long l3)] [] σ := by
  unfold f_X2_joined at h
  refine gx_iload_n 0 dX2_joined_0 rfl rfl ?_
  by_cases c1 : l0 = (7 : Int32)
  · rw [if_pos c1] at h
    refine gx_tIn 84 dX2_joined_1 (by rw [c1]; decide) (by rw [c1]; decide) (by rw [c1]; rfl) (by decide) ?_
    refine gx_lload_n 1 dX2_joined_84 rfl rfl ?_
    refine gx_lload_n 2 dX2_joined_85 rfl rfl ?_
    refine gx_ladd dX2_joined_86 ?_
    have h := Option.some.inj h
    subst h
    exact gx_lret dX2_joined_87 rfl (Nat.le_of_ble_eq_true rfl) (Nat.le_of_ble_eq_true rfl) ⟨rfl, rfl⟩
  rw [if_neg c1] at h
  by_cases c2 : l0 = (8 : Int32)
  · rw [if_pos c2] at h
    refine gx_tIn 88 dX2_joined_1 (by rw [c2]; decide) (by rw [c2]; decide) (by rw [c2]; rfl) (by decide) ?_
    refine gx_lload_n 1 dX2_joined_88 rfl rfl ?_
    refine gx_lload_n 2 dX2_joined_89 rfl rfl ?_
    refine gx_lsub dX2_joined_90 ?_
    have h := Option.some.inj h
    subst h
    exact gx_lret dX2_joined_91 rfl (Nat.le_of_ble_eq_true rfl) (Nat.le_of_ble_eq_true rfl) ⟨rfl, rfl⟩
  rw [if_neg c2] at h
  by_cases c3 : l0 = (9 : Int32)
  · rw [if_pos c3] at h
    refine gx_tIn 92 dX2_joined_1 (by rw [c3]; decide) (by rw [c3]; decide) (by rw [c3]; rfl) (by decide) ?_
    refine gx_lload_n 1 dX2_joined_92 rfl rfl ?_
    refine gx_lload_n 2 dX2_joined_93 rfl rfl ?_
    refine gx_lmul dX2_joined_94 ?_
    have h := Option.some.inj h
    subst h
    exact gx_lret dX2_joined_95 rfl (Nat.le_of_ble_eq_true rfl) (Nat.le_of_ble_eq_true rfl) ⟨rfl, rfl⟩
  rw [if_neg c3] at h
  by_cases c4 : l0 = (10 : Int32)
  · rw [if_pos c4] at h
    refine gx_tIn 96 dX2_joined_1 (by rw [c4]; decide) (by rw [c4]; decide) (by rw [c4]; rfl) (by decide) ?_
    refine gx_lload_n 2 dX2_joined_96 rfl rfl ?_
    refine gx_lconst (v := (0 : Int64)) dX2_joined_97 (by decide) ?_
    refine gx_lcmp dX2_joined_98 ?_
    refine gx_if_ne 106 dX2_joined_99 (by decide) (fun c5 => ?_) (fun c5 => ?_)
    · rw [if_neg c5] at h
      refine gx_lload_n 1 dX2_joined_106 rfl rfl ?_
      refine gx_lload_n 2 dX2_joined_107 rfl rfl ?_
      obtain ⟨c6, h⟩ := of_ifn h
      refine gx_ldiv dX2_joined_108 c6 ?_
      exact gx_sub [] rfl (s_X2_joined_109  h)
    · rw [if_pos c5] at h
      refine gx_lconst (v := (0 : Int64)) dX2_joined_102 (by decide) ?_
      refine gx_goto 109 dX2_joined_103 (by decide) ?_
      exact gx_sub [] rfl (s_X2_joined_109  h)
  rw [if_neg c4] at h
  by_cases c7 : l0 = (11 : Int32)
  · rw [if_pos c7] at h
    refine gx_tIn 110 dX2_joined_1 (by rw [c7]; decide) (by rw [c7]; decide) (by rw [c7]; rfl) (by decide) ?_
    refine gx_lload_n 1 dX2_joined_110 rfl rfl ?_
    refine gx_lload_n 2 dX2_joined_111 rfl rfl ?_
    refine gx_lcmp dX2_joined_112 ?_
    refine gx_if_ge 120 dX2_joined_113 (by decide) (fun c8 => ?_) (fun c8 => ?_)
    · rw [if_pos c8] at h
      refine gx_lconst (v := (0 : Int64)) dX2_joined_120 (by decide) ?_
      exact gx_sub [] rfl (s_X2_joined_121  h)
    · rw [if_neg c8] at h
      refine gx_lconst (v := (1 : Int64)) dX2_joined_116 (by decide) ?_
      refine gx_goto 121 dX2_joined_117 (by decide) ?_
      exact gx_sub [] rfl (s_X2_joined_121  h)
  rw [if_neg c7] at h
  by_cases c9 : l0 = (12 : Int32)
  · rw [if_pos c9] at h
    refine gx_tIn 122 dX2_joined_1 (by rw [c9]; decide) (by rw [c9]; decide) (by rw [c9]; rfl) (by decide) ?_
    refine gx_lload_n 1 dX2_joined_122 rfl rfl ?_
    refine gx_lload_n 2 dX2_joined_123 rfl rfl ?_
    refine gx_lcmp dX2_joined_124 ?_
    refine gx_if_gt 132 dX2_joined_125 (by decide) (fun c10 => ?_) (fun c10 => ?_)
    · rw [if_pos c10] at h
      refine gx_lconst (v := (0 : Int64)) dX2_joined_132 (by decide) ?_
      exact gx_sub [] rfl (s_X2_joined_133  h)
    · rw [if_neg c10] at h
      refine gx_lconst (v := (1 : Int64)) dX2_joined_128 (by decide) ?_
      refine gx_goto 133 dX2_joined_129 (by decide) ?_
      exact gx_sub [] rfl (s_X2_joined_133  h)
  rw [if_neg c9] at h
  by_cases c11 : l0 = (13 : Int32)
  · rw [if_pos c11] at h
    refine gx_tIn 134 dX2_joined_1 (by rw [c11]; decide) (by rw [c11]; decide) (by rw [c11]; rfl) (by decide) ?_
    refine gx_lload_n 1 dX2_joined_134 rfl rfl ?_
    refine gx_lload_n 2 dX2_joined_135 rfl rfl ?_
    refine gx_lcmp dX2_joined_136 ?_
    refine gx_if_ne 144 dX2_joined_137 (by decide) (fun c12 => ?_) (fun c12 => ?_)
    · rw [if_neg c12] at h
      refine gx_lconst (v := (0 : Int64)) dX2_joined_144 (by decide) ?_
      exact gx_sub [] rfl (s_X2_joined_145  h)
    · rw [if_pos c12] at h
      refine gx_lconst (v := (1 : Int64)) dX2_joined_140 (by decide) ?_
      refine gx_goto 145 dX2_joined_141 (by decide) ?_
      exact gx_sub [] rfl (s_X2_joined_145  h)
  rw [if_neg c11] at h
  by_cases c13 : l0 = (14 : Int32)
  · rw [if_pos c13] at h
    refine gx_tIn 146 dX2_joined_1 (by rw [c13]; decide) (by rw [c13]; decide) (by rw [c13]; rfl) (by decide) ?_
    refine gx_lload_n 1 dX2_joined_146 rfl rfl ?_
    refine gx_lload_n 2 dX2_joined_147 rfl rfl ?_
    refine gx_lcmp dX2_joined_148 ?_
    refine gx_if_lt 156 dX2_joined_149 (by decide) (fun c14 => ?_) (fun c14 => ?_)
    · rw [if_pos c14] at h
      refine gx_lconst (v := (0 : Int64)) dX2_joined_156 (by decide) ?_
      exact gx_sub [] rfl (s_X2_joined_157  h)
    · rw [if_neg c14] at h
      refine gx_lconst (v := (1 : Int64)) dX2_joined_152 (by decide) ?_
      refine gx_goto 157 dX2_joined_153 (by decide) ?_
      exact gx_sub [] rfl (s_X2_joined_157  h)
  rw [if_neg c13] at h
  by_cases c15 : l0 = (15 : Int32)
  · rw [if_pos c15] at h
    refine gx_tIn 158 dX2_joined_1 (by rw [c15]; decide) (by rw [c15]; decide) (by rw [c15]; rfl) (by decide) ?_
    refine gx_lload_n 1 dX2_joined_158 rfl rfl ?_
    refine gx_lload_n 2 dX2_joined_159 rfl rfl ?_
    refine gx_lcmp dX2_joined_160 ?_
    refine gx_if_le 168 dX2_joined_161 (by decide) (fun c16 => ?_) (fun c16 => ?_)
    · rw [if_pos c16] at h
      refine gx_lconst (v := (0 : Int64)) dX2_joined_168 (by decide) ?_
      exact gx_sub [] rfl (s_X2_joined_169  h)
    · rw [if_neg c16] at h
      refine gx_lconst (v := (1 : Int64)) dX2_joined_164 (by decide) ?_
      refine gx_goto 169 dX2_joined_165 (by decide) ?_
      exact gx_sub [] rfl (s_X2_joined_169  h)
  rw [if_neg c15] at h
  by_cases c17 : l0 = (22 : Int32)
  · rw [if_pos c17] at h
    refine gx_tIn 174 dX2_joined_1 (by rw [c17]; decide) (by rw [c17]; decide) (by rw [c17]; rfl) (by decide) ?_
    refine gx_lload_n 1 dX2_joined_174 rfl rfl ?_
    refine gx_lload_n 2 dX2_joined_175 rfl rfl ?_
    refine gx_lor dX2_joined_176 ?_
    have h := Option.some.inj h
    subst h
    exact gx_lret dX2_joined_177 rfl (Nat.le_of_ble_eq_true rfl) (Nat.le_of_ble_eq_true rfl) ⟨rfl, rfl⟩
  rw [if_neg c17] at h
  by_cases c18 : l0 = (23 : Int32)
  · rw [if_pos c18] at h
    refine gx_tIn 170 dX2_joined_1 (by rw [c18]; decide) (by rw [c18]; decide) (by rw [c18]; rfl) (by decide) ?_
    refine gx_lload_n 1 dX2_joined_170 rfl rfl ?_
    refine gx_lload_n 2 dX2_joined_171 rfl rfl ?_
    refine gx_land dX2_joined_172 ?_
    have h := Option.some.inj h
    subst h
    exact gx_lret dX2_joined_173 rfl (Nat.le_of_ble_eq_true rfl) (Nat.le_of_ble_eq_true rfl) ⟨rfl, rfl⟩
  rw [if_neg c18] at h
  have K20 : Gx Γ M_X2_joined 0 τ (PJ o) 0 0 178 [(0, .int l0), (1, .long l1), (3, .long l3)] [] σ := by
    refine gx_lconst (v := (0 : Int64)) dX2_joined_178 (by decide) ?_
    have h := Option.some.inj h
    subst h
    exact gx_lret dX2_joined_179 rfl (Nat.le_of_ble_eq_true rfl) (Nat.le_of_ble_eq_true rfl) ⟨rfl, rfl⟩
  by_cases hr : l0.toInt < (7) ∨ (23) < l0.toInt
  · exact gx_tOut 178 dX2_joined_1 hr (by decide) K20
  · obtain ⟨j, hj, hx⟩ := sw_in hr
    match j, hj, hx with
    | 0, _, hx => exact absurd hx c1
    | 1, _, hx => exact absurd hx c2
    | 2, _, hx => exact absurd hx c3
    | 3, _, hx => exact absurd hx c4
    | 4, _, hx => exact absurd hx c7
    | 5, _, hx => exact absurd hx c9
    | 6, _, hx => exact absurd hx c11
    | 7, _, hx => exact absurd hx c13
    | 8, _, hx => exact absurd hx c15
    | 9, _, hx => exact gx_tIn 178 dX2_joined_1 (by rw [hx]; decide) (by rw [hx]; decide) (by rw [hx]; rfl) (by decide) K20
    | 10, _, hx => exact gx_tIn 178 dX2_joined_1 (by rw [hx]; decide) (by rw [hx]; decide) (by rw [hx]; rfl) (by decide) K20
    | 11, _, hx => exact gx_tIn 178 dX2_joined_1 (by rw [hx]; decide) (by rw [hx]; decide) (by rw [hx]; rfl) (by decide) K20
    | 12, _, hx => exact gx_tIn 178 dX2_joined_1 (by rw [hx]; decide) (by rw [hx]; decide) (by rw [hx]; rfl) (by decide) K20
    | 13, _, hx => exact gx_tIn 178 dX2_joined_1 (by rw [hx]; decide) (by rw [hx]; decide) (by rw [hx]; rfl) (by decide) K20
    | 14, _, hx => exact gx_tIn 178 dX2_joined_1 (by rw [hx]; decide) (by rw [hx]; decide) (by rw [hx]; rfl) (by decide) K20
    | 15, _, hx => exact absurd hx c17
    | 16, _, hx => exact absurd hx c18
    | j + 17, hj, _ => exact absurd hj (by omega)
theorem c_X2_joined {Γ : Cn} {τ : Mm} {N : Nat} {l0 : Int32} {l1 : Int64} {l3 : Int64} {σ : Mm} {o : Int64 × Mm} (h : f_X2_joined N l0 l1 l3 σ = some o) : Ct Γ M_X2_joined yX2_joined 0 τ [.int l0, .long l1, .long l3] σ (PJ o) := ct_of (by decide) rfl (fun _ => by first | rfl | contradiction) (Nat.le_of_ble_eq_true rfl) (s_X2_joined_0  h)
abbrev M_X2_turnFor : Ms := (cX2_turnFor, RX2, 6, (some .long), false, 0, 0, 1)
def f_X2_turnFor_57 (N : Nat) (σ : Mm) : Option (Int64 × Mm) :=
  some ((0 : Int64), σ)
def f_X2_turnFor_203 (N : Nat) (r_5 : Nat → Nat → Nat → Int32 → Int32 → Mm → Option (Int64 × Mm)) (l0 : Nat) (l1 : Nat) (l2 : Nat) (l3 : Int32) (l4 : Int32) (σ : Mm) : Option (Int64 × Mm) :=
  r_5 l0 l1 l2 l3 (l4 + (1 : Int32)) σ
def f_X2_turnFor_83 (N : Nat) (r_5 : Nat → Nat → Nat → Int32 → Int32 → Mm → Option (Int64 × Mm)) (l0 : Nat) (l1 : Nat) (l2 : Nat) (l3 : Int32) (l4 : Int32) (t0 : Nat) (t1 : Int32) (t2 : Int64) (σ : Mm) : Option (Int64 × Mm) :=
  (sJ 14 σ t0 t1 t2).bind fun s1 =>
  f_X2_turnFor_203 N r_5 l0 l1 l2 (l3 + (1 : Int32)) l4 s1
def f_X2_turnFor_45 (N : Nat) (r_5 : Nat → Nat → Nat → Int32 → Int32 → Mm → Option (Int64 × Mm)) (l0 : Nat) (l1 : Nat) (l2 : Nat) (l3 : Int32) (l4 : Int32) (l5 : Int32) (σ : Mm) : Option (Int64 × Mm) :=
  if (64 : Int32) ≤ l3 then (
    f_X2_turnFor_57 N σ) else (
    (ln 0 σ l2).bind fun x2 =>
    if l3 < x2 then (
      if 0 < l5 then (
        (f_X2_wordOf N l1 l5 σ).bind fun q5 =>
        f_X2_turnFor_83 N r_5 l0 l1 l2 l3 l4 l2 l3 q5.1 q5.2) else (
        (gN 2 0 σ l0).bind fun a6 =>
        (aI 13 σ a6 l4).bind fun x7 =>
        f_X2_turnFor_83 N r_5 l0 l1 l2 l3 l4 l2 l3 (Int32.toInt64 x7) σ)) else (
      f_X2_turnFor_57 N σ))
def f_X2_turnFor_114 (N : Nat) (σ : Mm) : Option (Int64 × Mm) :=
  some ((0 : Int64), σ)
def f_X2_turnFor_116 (N : Nat) (r_5 : Nat → Nat → Nat → Int32 → Int32 → Mm → Option (Int64 × Mm)) (l0 : Nat) (l1 : Nat) (l2 : Nat) (l3 : Int32) (l4 : Int32) (l5 : Int32) (σ : Mm) : Option (Int64 × Mm) :=
  if l5 = (20 : Int32) then (
    (aJ 14 σ l2 (l3 - (1 : Int32))).bind fun x13 =>
    some (x13, σ)) else (
    if l5 = (24 : Int32) then (
      (aJ 14 σ l2 (l3 - (1 : Int32))).bind fun x11 =>
      (sJ 14 σ l2 (l3 - (1 : Int32)) ((1 : Int64) - x11)).bind fun s12 =>
      f_X2_turnFor_203 N r_5 l0 l1 l2 l3 l4 s12) else (
      if l5 = (21 : Int32) then (
        (aJ 14 σ l2 (l3 - (1 : Int32))).bind fun x8 =>
        if (lg_cmp x8 (0 : Int64)) = 0 then (
          f_X2_turnFor_203 N r_5 l0 l1 l2 (l3 + (-2 : Int32)) l4 σ) else (
          (aJ 14 σ l2 (l3 - (2 : Int32))).bind fun x10 =>
          some (x10, σ))) else (
        (aJ 14 σ l2 (l3 - (2 : Int32))).bind fun x4 =>
        (aJ 14 σ l2 (l3 - (1 : Int32))).bind fun x5 =>
        (f_X2_joined N l5 x4 x5 σ).bind fun q6 =>
        (sJ 14 q6.2 l2 (l3 - (2 : Int32)) q6.1).bind fun s7 =>
        f_X2_turnFor_203 N r_5 l0 l1 l2 (l3 + (-1 : Int32)) l4 s7)))
def f_X2_turnFor_209 (N : Nat) (σ : Mm) : Option (Int64 × Mm) :=
  some ((0 : Int64), σ)
def f_X2_turnFor_5 (N : Nat) : Nat → Nat → Nat → Nat → Int32 → Int32 → Mm → Option (Int64 × Mm)
  | 0, _, _, _, _, _, _ => none
  | n + 1, l0, l1, l2, l3, l4, σ =>
      (gI 2 1 σ l0).bind fun x1 =>
      if x1 ≤ l4 then (
        f_X2_turnFor_209 N σ) else (
        if (400 : Int32) ≤ l4 then (
          f_X2_turnFor_209 N σ) else (
          (gN 2 0 σ l0).bind fun a4 =>
          (aI 13 σ a4 l4).bind fun x5 =>
          if (-x5) ≤ 0 then (
            f_X2_turnFor_45 N (f_X2_turnFor_5 N n) l0 l1 l2 l3 l4 (-x5) σ) else (
            (f_X2_isWord N (-x5) σ).bind fun q7 =>
            if q7.1 = 0 then (
              if l3 < (1 : Int32) then (
                f_X2_turnFor_114 N q7.2) else (
                if (-x5) = (20 : Int32) then (
                  f_X2_turnFor_116 N (f_X2_turnFor_5 N n) l0 l1 l2 l3 l4 (-x5) q7.2) else (
                  if (-x5) = (24 : Int32) then (
                    f_X2_turnFor_116 N (f_X2_turnFor_5 N n) l0 l1 l2 l3 l4 (-x5) q7.2) else (
                    if (2 : Int32) ≤ l3 then (
                      f_X2_turnFor_116 N (f_X2_turnFor_5 N n) l0 l1 l2 l3 l4 (-x5) q7.2) else (
                      f_X2_turnFor_114 N q7.2))))) else (
              f_X2_turnFor_45 N (f_X2_turnFor_5 N n) l0 l1 l2 l3 l4 (-x5) q7.2))))
def f_X2_turnFor (N : Nat) (l0 : Nat) (l1 : Nat) (l2 : Nat) (σ : Mm) : Option (Int64 × Mm) :=
  f_X2_turnFor_5 N N l0 l1 l2 (0 : Int32) (0 : Int32) σ
theorem mov_X2_turnFor : MOV yX2_turnFor M_X2_turnFor 2 2 0 := ⟨⟨tw_101, tw_758, ⟨by decide, by decide⟩, by decide +kernel⟩, tw_756, tw_757, by decide, ⟨_, rfl, rfl⟩, rfl⟩
set_option maxRecDepth 4000 in
theorem s_X2_turnFor_57 {Γ : Cn} {τ : Mm} {N : Nat} {σ : Mm} {o : Int64 × Mm} (h : f_X2_turnFor_57 N σ = some o) : Gx Γ M_X2_turnFor 0 τ (PJ o) 0 0 57 [] [] σ := by
  unfold f_X2_turnFor_57 at h
  refine gx_lconst (v := (0 : Int64)) dX2_turnFor_57 (by decide) ?_
  have h := Option.some.inj h
  subst h
  exact gx_lret dX2_turnFor_58 rfl (Nat.le_of_ble_eq_true rfl) (Nat.le_of_ble_eq_true rfl) ⟨rfl, rfl⟩
set_option maxRecDepth 4000 in
theorem s_X2_turnFor_203 {Γ : Cn} {τ : Mm} {N : Nat} {r_5 : Nat → Nat → Nat → Int32 → Int32 → Mm → Option (Int64 × Mm)} (hr_5 : ∀ (l0 : Nat) (l1 : Nat) (l2 : Nat) (l3 : Int32) (l4 : Int32) (σ : Mm) (o : Int64 × Mm), r_5 l0 l1 l2 l3 l4 σ = some o → Gx Γ M_X2_turnFor 0 τ (PJ o) 0 0 5 [(0, .ref (Γ.B + pp l0)), (1, .ref (Γ.B + pp l1)), (2, .ref (Γ.B + pp l2)), (3, .int l3), (4, .int l4)] [] σ) {l0 : Nat} {l1 : Nat} {l2 : Nat} {l3 : Int32} {l4 : Int32} {σ : Mm} {o : Int64 × Mm} (h : f_X2_turnFor_203 N r_5 l0 l1 l2 l3 l4 σ = some o) : Gx Γ M_X2_turnFor 0 τ (PJ o) 0 0 203 [(0, .ref (Γ.B + pp l0)), (1, .ref (Γ.B + pp l1)), (2, .ref (Γ.B + pp l2)), (3, .int l3), (4, .int l4)] [] σ := by
  unfold f_X2_turnFor_203 at h
  refine gx_iinc (v := (l4 + (1 : Int32))) (lv' := [(4, .int (l4 + (1 : Int32))), (0, .ref (Γ.B + pp l0)), (1, .ref (Γ.B + pp l1)), (2, .ref (Γ.B + pp l2)), (3, .int l3)]) 4 dX2_turnFor_203 rfl (by rw [ic_1]) (Nat.le_of_ble_eq_true rfl) rfl ?_
  refine gx_goto 5 dX2_turnFor_206 (by decide) ?_
  exact gx_sub [1, 2, 3, 4, 0] rfl (hr_5 _ _ _ _ _ _ _ h)
set_option maxRecDepth 4000 in
theorem s_X2_turnFor_83 {Γ : Cn} {τ : Mm} {N : Nat} {r_5 : Nat → Nat → Nat → Int32 → Int32 → Mm → Option (Int64 × Mm)} (hr_5 : ∀ (l0 : Nat) (l1 : Nat) (l2 : Nat) (l3 : Int32) (l4 : Int32) (σ : Mm) (o : Int64 × Mm), r_5 l0 l1 l2 l3 l4 σ = some o → Gx Γ M_X2_turnFor 0 τ (PJ o) 0 0 5 [(0, .ref (Γ.B + pp l0)), (1, .ref (Γ.B + pp l1)), (2, .ref (Γ.B + pp l2)), (3, .int l3), (4, .int l4)] [] σ) {l0 : Nat} {l1 : Nat} {l2 : Nat} {l3 : Int32} {l4 : Int32} {t0 : Nat} {t1 : Int32} {t2 : Int64} {σ : Mm} {o : Int64 × Mm} (h : f_X2_turnFor_83 N r_5 l0 l1 l2 l3 l4 t0 t1 t2 σ = some o) : Gx Γ M_X2_turnFor 0 τ (PJ o) 0 0 83 [(0, .ref (Γ.B + pp l0)), (1, .ref (Γ.B + pp l1)), (2, .ref (Γ.B + pp l2)), (3, .int l3), (4, .int l4)] [.long t2, .int t1, .ref (Γ.B + pp t0)] σ := by
  unfold f_X2_turnFor_83 at h
  obtain ⟨s1, hs1, h⟩ := bnd h
  refine gx_last (kd := 14) dX2_turnFor_83 hs1 rfl rfl ?_
  refine gx_iinc (v := (l3 + (1 : Int32))) (lv' := [(3, .int (l3 + (1 : Int32))), (0, .ref (Γ.B + pp l0)), (1, .ref (Γ.B + pp l1)), (2, .ref (Γ.B + pp l2)), (4, .int l4)]) 3 dX2_turnFor_84 rfl (by rw [ic_1]) (Nat.le_of_ble_eq_true rfl) rfl ?_
  refine gx_goto 203 dX2_turnFor_87 (by decide) ?_
  exact gx_sub [1, 2, 3, 0, 4] rfl (s_X2_turnFor_203 hr_5 h)
set_option maxRecDepth 4000 in
theorem s_X2_turnFor_45 {Γ : Cn} {τ : Mm} {N : Nat} {r_5 : Nat → Nat → Nat → Int32 → Int32 → Mm → Option (Int64 × Mm)} (hr_5 : ∀ (l0 : Nat) (l1 : Nat) (l2 : Nat) (l3 : Int32) (l4 : Int32) (σ : Mm) (o : Int64 × Mm), r_5 l0 l1 l2 l3 l4 σ = some o → Gx Γ M_X2_turnFor 0 τ (PJ o) 0 0 5 [(0, .ref (Γ.B + pp l0)), (1, .ref (Γ.B + pp l1)), (2, .ref (Γ.B + pp l2)), (3, .int l3), (4, .int l4)] [] σ) {l0 : Nat} {l1 : Nat} {l2 : Nat} {l3 : Int32} {l4 : Int32} {l5 : Int32} {σ : Mm} {o : Int64 × Mm} (h : f_X2_turnFor_45 N r_5 l0 l1 l2 l3 l4 l5 σ = some o) : Gx Γ M_X2_turnFor 0 τ (PJ o) 0 0 45 [(0, .ref (Γ.B + pp l0)), (1, .ref (Γ.B + pp l1)), (2, .ref (Γ.B + pp l2)), (3, .int l3), (4, .int l4), (5, .int l5)] [] σ := by
  unfold f_X2_turnFor_45 at h
  refine gx_iload_n 3 dX2_turnFor_45 rfl rfl ?_
  refine gx_bipush (v := (64 : Int32)) dX2_turnFor_46 ib_64 ?_
  refine gx_icmp_ge 57 dX2_turnFor_48 (by decide) (fun c0 => ?_) (fun c0 => ?_)
  · rw [if_pos c0] at h
    exact gx_sub [] rfl (s_X2_turnFor_57  h)
  · rw [if_neg c0] at h
    refine gx_iload_n 3 dX2_turnFor_51 rfl rfl ?_
    refine gx_aload_n 2 dX2_turnFor_52 rfl rfl ?_
    obtain ⟨x2, hx2, h⟩ := bnd h
    refine gx_alen dX2_turnFor_53 hx2 ?_
    refine gx_icmp_lt 59 dX2_turnFor_54 (by decide) (fun c2 => ?_) (fun c2 => ?_)
    · rw [if_pos c2] at h
      refine gx_aload_n 2 dX2_turnFor_59 rfl rfl ?_
      refine gx_iload_n 3 dX2_turnFor_60 rfl rfl ?_
      refine gx_iload 5 dX2_turnFor_61 rfl ?_
      refine gx_if_gt 77 dX2_turnFor_63 (by decide) (fun c3 => ?_) (fun c3 => ?_)
      · rw [if_pos c3] at h
        refine gx_aload_n 1 dX2_turnFor_77 rfl rfl ?_
        refine gx_iload 5 dX2_turnFor_78 rfl ?_
        obtain ⟨q5, hq5, h⟩ := bnd h
        refine gx_cSJ (As := [.ref (Γ.B + pp l1), .int l5]) (st := [.int l3, .ref (Γ.B + pp l2)]) dX2_turnFor_80 (c_X2_wordOf hq5) mos_X2_wordOf tw_762 rfl ⟨Nat.le_of_ble_eq_true rfl, Nat.le_of_ble_eq_true rfl⟩ (Nat.le_of_ble_eq_true rfl) ?_
        exact gx_sub [0, 1, 2, 3, 4] rfl (s_X2_turnFor_83 hr_5 h)
      · rw [if_neg c3] at h
        refine gx_aload_n 0 dX2_turnFor_66 rfl rfl ?_
        obtain ⟨a6, ha6, h⟩ := bnd h
        refine gx_getN dX2_turnFor_67 ha6 fl_X2_9 rfl ?_
        refine gx_iload 4 dX2_turnFor_70 rfl ?_
        obtain ⟨x7, hx7, h⟩ := bnd h
        refine gx_iald (kd := 13) dX2_turnFor_72 hx7 rfl rfl ?_
        refine gx_i2l dX2_turnFor_73 ?_
        refine gx_goto 83 dX2_turnFor_74 (by decide) ?_
        exact gx_sub [0, 1, 2, 3, 4] rfl (s_X2_turnFor_83 hr_5 h)
    · rw [if_neg c2] at h
      exact gx_sub [] rfl (s_X2_turnFor_57  h)
set_option maxRecDepth 4000 in
theorem s_X2_turnFor_114 {Γ : Cn} {τ : Mm} {N : Nat} {σ : Mm} {o : Int64 × Mm} (h : f_X2_turnFor_114 N σ = some o) : Gx Γ M_X2_turnFor 0 τ (PJ o) 0 0 114 [] [] σ := by
  unfold f_X2_turnFor_114 at h
  refine gx_lconst (v := (0 : Int64)) dX2_turnFor_114 (by decide) ?_
  have h := Option.some.inj h
  subst h
  exact gx_lret dX2_turnFor_115 rfl (Nat.le_of_ble_eq_true rfl) (Nat.le_of_ble_eq_true rfl) ⟨rfl, rfl⟩
set_option maxRecDepth 4000 in
theorem s_X2_turnFor_116 {Γ : Cn} {τ : Mm} {N : Nat} {r_5 : Nat → Nat → Nat → Int32 → Int32 → Mm → Option (Int64 × Mm)} (hr_5 : ∀ (l0 : Nat) (l1 : Nat) (l2 : Nat) (l3 : Int32) (l4 : Int32) (σ : Mm) (o : Int64 × Mm), r_5 l0 l1 l2 l3 l4 σ = some o → Gx Γ M_X2_turnFor 0 τ (PJ o) 0 0 5 [(0, .ref (Γ.B + pp l0)), (1, .ref (Γ.B + pp l1)), (2, .ref (Γ.B + pp l2)), (3, .int l3), (4, .int l4)] [] σ) {l0 : Nat} {l1 : Nat} {l2 : Nat} {l3 : Int32} {l4 : Int32} {l5 : Int32} {σ : Mm} {o : Int64 × Mm} (h : f_X2_turnFor_116 N r_5 l0 l1 l2 l3 l4 l5 σ = some o) : Gx Γ M_X2_turnFor 0 τ (PJ o) 0 0 116 [(0, .ref (Γ.B + pp l0)), (1, .ref (Γ.B + pp l1)), (2, .ref (Γ.B + pp l2)), (3, .int l3), (4, .int l4), (5, .int l5)] [] σ := by
  unfold f_X2_turnFor_116 at h
  refine gx_iload 5 dX2_turnFor_116 rfl ?_
  refine gx_bipush (v := (20 : Int32)) dX2_turnFor_118 ib_20 ?_
  refine gx_icmp_ne 129 dX2_turnFor_120 (by decide) (fun c0 => ?_) (fun c0 => ?_)
  · rw [if_neg c0] at h
    refine gx_iload 5 dX2_turnFor_129 rfl ?_
    refine gx_bipush (v := (24 : Int32)) dX2_turnFor_131 ib_24 ?_
    refine gx_icmp_ne 151 dX2_turnFor_133 (by decide) (fun c1 => ?_) (fun c1 => ?_)
    · rw [if_neg c1] at h
      refine gx_iload 5 dX2_turnFor_151 rfl ?_
      refine gx_bipush (v := (21 : Int32)) dX2_turnFor_153 ib_21 ?_
      refine gx_icmp_ne 180 dX2_turnFor_155 (by decide) (fun c2 => ?_) (fun c2 => ?_)
      · rw [if_neg c2] at h
        refine gx_aload_n 2 dX2_turnFor_180 rfl rfl ?_
        refine gx_iload_n 3 dX2_turnFor_181 rfl rfl ?_
        refine gx_iconst (v := (2 : Int32)) dX2_turnFor_182 ic_2 ?_
        refine gx_isub dX2_turnFor_183 ?_
        refine gx_iload 5 dX2_turnFor_184 rfl ?_
        refine gx_aload_n 2 dX2_turnFor_186 rfl rfl ?_
        refine gx_iload_n 3 dX2_turnFor_187 rfl rfl ?_
        refine gx_iconst (v := (2 : Int32)) dX2_turnFor_188 ic_2 ?_
        refine gx_isub dX2_turnFor_189 ?_
        obtain ⟨x4, hx4, h⟩ := bnd h
        refine gx_lald (kd := 14) dX2_turnFor_190 hx4 rfl rfl ?_
        refine gx_aload_n 2 dX2_turnFor_191 rfl rfl ?_
        refine gx_iload_n 3 dX2_turnFor_192 rfl rfl ?_
        refine gx_iconst (v := (1 : Int32)) dX2_turnFor_193 ic_1 ?_
        refine gx_isub dX2_turnFor_194 ?_
        obtain ⟨x5, hx5, h⟩ := bnd h
        refine gx_lald (kd := 14) dX2_turnFor_195 hx5 rfl rfl ?_
        obtain ⟨q6, hq6, h⟩ := bnd h
        refine gx_cSJ (As := [.int l5, .long x4, .long x5]) (st := [.int (l3 - (2 : Int32)), .ref (Γ.B + pp l2)]) dX2_turnFor_196 (c_X2_joined hq6) mos_X2_joined tw_765 rfl ⟨Nat.le_of_ble_eq_true rfl, Nat.le_of_ble_eq_true rfl⟩ (Nat.le_of_ble_eq_true rfl) ?_
        obtain ⟨s7, hs7, h⟩ := bnd h
        refine gx_last (kd := 14) dX2_turnFor_199 hs7 rfl rfl ?_
        refine gx_iinc (v := (l3 + (-1 : Int32))) (lv' := [(3, .int (l3 + (-1 : Int32))), (0, .ref (Γ.B + pp l0)), (1, .ref (Γ.B + pp l1)), (2, .ref (Γ.B + pp l2)), (4, .int l4), (5, .int l5)]) 3 dX2_turnFor_200 rfl (by rw [ic_m1]) (Nat.le_of_ble_eq_true rfl) rfl ?_
        exact gx_sub [1, 2, 3, 0, 4] rfl (s_X2_turnFor_203 hr_5 h)
      · rw [if_pos c2] at h
        refine gx_aload_n 2 dX2_turnFor_158 rfl rfl ?_
        refine gx_iload_n 3 dX2_turnFor_159 rfl rfl ?_
        refine gx_iconst (v := (1 : Int32)) dX2_turnFor_160 ic_1 ?_
        refine gx_isub dX2_turnFor_161 ?_
        obtain ⟨x8, hx8, h⟩ := bnd h
        refine gx_lald (kd := 14) dX2_turnFor_162 hx8 rfl rfl ?_
        refine gx_lconst (v := (0 : Int64)) dX2_turnFor_163 (by decide) ?_
        refine gx_lcmp dX2_turnFor_164 ?_
        refine gx_if_eq 174 dX2_turnFor_165 (by decide) (fun c8 => ?_) (fun c8 => ?_)
        · rw [if_pos c8] at h
          refine gx_iinc (v := (l3 + (-2 : Int32))) (lv' := [(3, .int (l3 + (-2 : Int32))), (0, .ref (Γ.B + pp l0)), (1, .ref (Γ.B + pp l1)), (2, .ref (Γ.B + pp l2)), (4, .int l4), (5, .int l5)]) 3 dX2_turnFor_174 rfl (by rw [ic_m2]) (Nat.le_of_ble_eq_true rfl) rfl ?_
          refine gx_goto 203 dX2_turnFor_177 (by decide) ?_
          exact gx_sub [1, 2, 3, 0, 4] rfl (s_X2_turnFor_203 hr_5 h)
        · rw [if_neg c8] at h
          refine gx_aload_n 2 dX2_turnFor_168 rfl rfl ?_
          refine gx_iload_n 3 dX2_turnFor_169 rfl rfl ?_
          refine gx_iconst (v := (2 : Int32)) dX2_turnFor_170 ic_2 ?_
          refine gx_isub dX2_turnFor_171 ?_
          obtain ⟨x10, hx10, h⟩ := bnd h
          refine gx_lald (kd := 14) dX2_turnFor_172 hx10 rfl rfl ?_
          have h := Option.some.inj h
          subst h
          exact gx_lret dX2_turnFor_173 rfl (Nat.le_of_ble_eq_true rfl) (Nat.le_of_ble_eq_true rfl) ⟨rfl, rfl⟩
    · rw [if_pos c1] at h
      refine gx_aload_n 2 dX2_turnFor_136 rfl rfl ?_
      refine gx_iload_n 3 dX2_turnFor_137 rfl rfl ?_
      refine gx_iconst (v := (1 : Int32)) dX2_turnFor_138 ic_1 ?_
      refine gx_isub dX2_turnFor_139 ?_
      refine gx_lconst (v := (1 : Int64)) dX2_turnFor_140 (by decide) ?_
      refine gx_aload_n 2 dX2_turnFor_141 rfl rfl ?_
      refine gx_iload_n 3 dX2_turnFor_142 rfl rfl ?_
      refine gx_iconst (v := (1 : Int32)) dX2_turnFor_143 ic_1 ?_
      refine gx_isub dX2_turnFor_144 ?_
      obtain ⟨x11, hx11, h⟩ := bnd h
      refine gx_lald (kd := 14) dX2_turnFor_145 hx11 rfl rfl ?_
      refine gx_lsub dX2_turnFor_146 ?_
      obtain ⟨s12, hs12, h⟩ := bnd h
      refine gx_last (kd := 14) dX2_turnFor_147 hs12 rfl rfl ?_
      refine gx_goto 203 dX2_turnFor_148 (by decide) ?_
      exact gx_sub [0, 1, 2, 3, 4] rfl (s_X2_turnFor_203 hr_5 h)
  · rw [if_pos c0] at h
    refine gx_aload_n 2 dX2_turnFor_123 rfl rfl ?_
    refine gx_iload_n 3 dX2_turnFor_124 rfl rfl ?_
    refine gx_iconst (v := (1 : Int32)) dX2_turnFor_125 ic_1 ?_
    refine gx_isub dX2_turnFor_126 ?_
    obtain ⟨x13, hx13, h⟩ := bnd h
    refine gx_lald (kd := 14) dX2_turnFor_127 hx13 rfl rfl ?_
    have h := Option.some.inj h
    subst h
    exact gx_lret dX2_turnFor_128 rfl (Nat.le_of_ble_eq_true rfl) (Nat.le_of_ble_eq_true rfl) ⟨rfl, rfl⟩
set_option maxRecDepth 4000 in
theorem s_X2_turnFor_209 {Γ : Cn} {τ : Mm} {N : Nat} {σ : Mm} {o : Int64 × Mm} (h : f_X2_turnFor_209 N σ = some o) : Gx Γ M_X2_turnFor 0 τ (PJ o) 0 0 209 [] [] σ := by
  unfold f_X2_turnFor_209 at h
  refine gx_lconst (v := (0 : Int64)) dX2_turnFor_209 (by decide) ?_
  have h := Option.some.inj h
  subst h
  exact gx_lret dX2_turnFor_210 rfl (Nat.le_of_ble_eq_true rfl) (Nat.le_of_ble_eq_true rfl) ⟨rfl, rfl⟩
set_option maxRecDepth 4000 in
theorem s_X2_turnFor_5 {Γ : Cn} {τ : Mm} {N : Nat} : ∀ (n : Nat) (l0 : Nat) (l1 : Nat) (l2 : Nat) (l3 : Int32) (l4 : Int32) (σ : Mm) (o : Int64 × Mm), f_X2_turnFor_5 N n l0 l1 l2 l3 l4 σ = some o → Gx Γ M_X2_turnFor 0 τ (PJ o) 0 0 5 [(0, .ref (Γ.B + pp l0)), (1, .ref (Γ.B + pp l1)), (2, .ref (Γ.B + pp l2)), (3, .int l3), (4, .int l4)] [] σ := by
  intro n
  induction n with
  | zero =>
    intro l0 l1 l2 l3 l4 σ o h
    exact absurd h (by rw [f_X2_turnFor_5]; exact fun q => nomatch q)
  | succ n ih =>
    intro l0 l1 l2 l3 l4 σ o h
    rw [f_X2_turnFor_5] at h
    refine gx_iload 4 dX2_turnFor_5 rfl ?_
    refine gx_aload_n 0 dX2_turnFor_7 rfl rfl ?_
    obtain ⟨x1, hx1, h⟩ := bnd h
    refine gx_getI dX2_turnFor_8 hx1 fl_X2_15 rfl ?_
    refine gx_icmp_ge 209 dX2_turnFor_11 (by decide) (fun c1 => ?_) (fun c1 => ?_)
    · rw [if_pos c1] at h
      exact gx_sub [] rfl (s_X2_turnFor_209  h)
    · rw [if_neg c1] at h
      refine gx_iload 4 dX2_turnFor_14 rfl ?_
      refine gx_sipush (v := (400 : Int32)) dX2_turnFor_16 is_400 ?_
      refine gx_icmp_ge 209 dX2_turnFor_19 (by decide) (fun c2 => ?_) (fun c2 => ?_)
      · rw [if_pos c2] at h
        exact gx_sub [] rfl (s_X2_turnFor_209  h)
      · rw [if_neg c2] at h
        refine gx_aload_n 0 dX2_turnFor_22 rfl rfl ?_
        obtain ⟨a4, ha4, h⟩ := bnd h
        refine gx_getN dX2_turnFor_23 ha4 fl_X2_9 rfl ?_
        refine gx_iload 4 dX2_turnFor_26 rfl ?_
        obtain ⟨x5, hx5, h⟩ := bnd h
        refine gx_iald (kd := 13) dX2_turnFor_28 hx5 rfl rfl ?_
        refine gx_ineg dX2_turnFor_29 ?_
        refine gx_istore (lv' := [(5, .int (-x5)), (0, .ref (Γ.B + pp l0)), (1, .ref (Γ.B + pp l1)), (2, .ref (Γ.B + pp l2)), (3, .int l3), (4, .int l4)]) dX2_turnFor_30 (Nat.le_of_ble_eq_true rfl) rfl ?_
        refine gx_iload 0 dX2_turnFor_32 rfl ?_
        refine gx_if_le 45 dX2_turnFor_34 (by decide) (fun c5 => ?_) (fun c5 => ?_)
        · rw [if_pos c5] at h
          exact gx_sub [1, 2, 3, 4, 5, 0] rfl (s_X2_turnFor_45 ih h)
        · rw [if_neg c5] at h
          refine gx_iload 0 dX2_turnFor_37 rfl ?_
          obtain ⟨q7, hq7, h⟩ := bnd h
          refine gx_cSI (As := [.int (-x5)]) (st := []) dX2_turnFor_39 (c_X2_isWord hq7) mos_X2_isWord tw_759 rfl ⟨Nat.le_of_ble_eq_true rfl, Nat.le_of_ble_eq_true rfl⟩ (Nat.le_of_ble_eq_true rfl) ?_
          refine gx_if_eq 90 dX2_turnFor_42 (by decide) (fun c7 => ?_) (fun c7 => ?_)
          · rw [if_pos c7] at h
            refine gx_iload_n 4 dX2_turnFor_90 rfl rfl ?_
            refine gx_iconst (v := (1 : Int32)) dX2_turnFor_91 ic_1 ?_
            refine gx_icmp_lt 114 dX2_turnFor_92 (by decide) (fun c8 => ?_) (fun c8 => ?_)
            · rw [if_pos c8] at h
              exact gx_sub [] rfl (s_X2_turnFor_114  h)
            · rw [if_neg c8] at h
              refine gx_iload 0 dX2_turnFor_95 rfl ?_
              refine gx_bipush (v := (20 : Int32)) dX2_turnFor_97 ib_20 ?_
              refine gx_icmp_eq 116 dX2_turnFor_99 (by decide) (fun c9 => ?_) (fun c9 => ?_)
              · rw [if_pos c9] at h
                exact gx_sub [1, 2, 3, 4, 5, 0] rfl (s_X2_turnFor_116 ih h)
              · rw [if_neg c9] at h
                refine gx_iload 0 dX2_turnFor_102 rfl ?_
                refine gx_bipush (v := (24 : Int32)) dX2_turnFor_104 ib_24 ?_
                refine gx_icmp_eq 116 dX2_turnFor_106 (by decide) (fun c10 => ?_) (fun c10 => ?_)
                · rw [if_pos c10] at h
                  exact gx_sub [1, 2, 3, 4, 5, 0] rfl (s_X2_turnFor_116 ih h)
                · rw [if_neg c10] at h
                  refine gx_iload_n 4 dX2_turnFor_109 rfl rfl ?_
                  refine gx_iconst (v := (2 : Int32)) dX2_turnFor_110 ic_2 ?_
                  refine gx_icmp_ge 116 dX2_turnFor_111 (by decide) (fun c11 => ?_) (fun c11 => ?_)
                  · rw [if_pos c11] at h
                    exact gx_sub [1, 2, 3, 4, 5, 0] rfl (s_X2_turnFor_116 ih h)
                  · rw [if_neg c11] at h
                    exact gx_sub [] rfl (s_X2_turnFor_114  h)
          · rw [if_neg c7] at h
            exact gx_sub [1, 2, 3, 4, 5, 0] rfl (s_X2_turnFor_45 ih h)
set_option maxRecDepth 4000 in
theorem s_X2_turnFor_0 {Γ : Cn} {τ : Mm} {N : Nat} {l0 : Nat} {l1 : Nat} {l2 : Nat} {σ : Mm} {o : Int64 × Mm} (h : f_X2_turnFor N l0 l1 l2 σ = some o) : Gx Γ M_X2_turnFor 0 τ (PJ o) 0 0 0 [(0, .ref (Γ.B + pp l0)), (1, .ref (Γ.B + pp l1)), (2, .ref (Γ.B + pp l2))] [] σ := by
  unfold f_X2_turnFor at h
  refine gx_iconst (v := (0 : Int32)) dX2_turnFor_0 ic_0 ?_
  refine gx_istore_n (lv' := [(3, .int (0 : Int32)), (0, .ref (Γ.B + pp l0)), (1, .ref (Γ.B + pp l1)), (2, .ref (Γ.B + pp l2))]) dX2_turnFor_1 rfl (Nat.le_of_ble_eq_true rfl) rfl ?_
  refine gx_iconst (v := (0 : Int32)) dX2_turnFor_2 ic_0 ?_
  refine gx_istore (lv' := [(4, .int (0 : Int32)), (3, .int (0 : Int32)), (0, .ref (Γ.B + pp l0)), (1, .ref (Γ.B + pp l1)), (2, .ref (Γ.B + pp l2))]) dX2_turnFor_3 (Nat.le_of_ble_eq_true rfl) rfl ?_
  exact gx_sub [2, 3, 4, 1, 0] rfl (s_X2_turnFor_5  N _ _ _ _ _ _ _ h)
theorem c_X2_turnFor {Γ : Cn} {τ : Mm} {N : Nat} {l0 : Nat} {l1 : Nat} {l2 : Nat} {σ : Mm} {o : Int64 × Mm} (h : f_X2_turnFor N l0 l1 l2 σ = some o) : Ct Γ M_X2_turnFor yX2_turnFor 0 τ [.ref (Γ.B + pp l0), .ref (Γ.B + pp l1), .ref (Γ.B + pp l2)] σ (PJ o) := ct_of (by decide) rfl (fun _ => by first | rfl | contradiction) (Nat.le_of_ble_eq_true rfl) (s_X2_turnFor_0  h)
abbrev M_X9_turned : Ms := (cX9_turned, RX9, 10, (some .int), false, 0, 0, 2)
def f_X9_turned_122 (N : Nat) (r_21 : Nat → Nat → Int32 → Int32 → Int32 → Int32 → Mm → Option (Int32 × Mm)) (l0 : Nat) (l1 : Nat) (l3 : Int32) (l4 : Int32) (l6 : Int32) (t0 : Int32) (σ : Mm) : Option (Int32 × Mm) :=
  r_21 l0 l1 l3 l4 (t0 &&& (7 : Int32)) (l6 + (1 : Int32)) σ
def f_X9_turned_133 (N : Nat) (l5 : Int32) (σ : Mm) : Option (Int32 × Mm) :=
  some (l5, σ)
def f_X9_turned_21 (N : Nat) : Nat → Nat → Nat → Int32 → Int32 → Int32 → Int32 → Mm → Option (Int32 × Mm)
  | 0, _, _, _, _, _, _, _ => none
  | n + 1, l0, l1, l3, l4, l5, l6, σ =>
      if l3 ≤ l6 then (
        f_X9_turned_133 N l5 σ) else (
        if l5 = l4 then (
          f_X9_turned_133 N l5 σ) else (
          (f_X10_offBetween N l4 l5 σ).bind fun q3 =>
          (gN 9 0 q3.2 l0).bind fun a4 =>
          (sI 13 q3.2 a4 (4 : Int32) l5).bind fun s5 =>
          (gN 9 0 s5 l0).bind fun a6 =>
          (sI 13 s5 a6 (5 : Int32) q3.1).bind fun s7 =>
          (gN 9 0 s7 l0).bind fun a8 =>
          (sI 13 s7 a8 (8 : Int32) l6).bind fun s9 =>
          (gN 9 0 s9 l0).bind fun a10 =>
          (gN 9 1 s9 l0).bind fun a11 =>
          (ob 2 s9 l1).bind fun _ =>
          (f_X2_turnFor N l1 a10 a11 s9).bind fun q12 =>
          if (4 : Int32) < ((l4 - l5) &&& (7 : Int32)) then (
            f_X9_turned_122 N (f_X9_turned_21 N n) l0 l1 l3 l4 l6 (l5 - (Int64.toInt32 (if (if q12.1 < (Int32.toInt64 q3.1) then q12.1 else (Int32.toInt64 q3.1)) < (0 : Int64) then (0 : Int64) else (if q12.1 < (Int32.toInt64 q3.1) then q12.1 else (Int32.toInt64 q3.1))))) q12.2) else (
            f_X9_turned_122 N (f_X9_turned_21 N n) l0 l1 l3 l4 l6 (l5 + (Int64.toInt32 (if (if q12.1 < (Int32.toInt64 q3.1) then q12.1 else (Int32.toInt64 q3.1)) < (0 : Int64) then (0 : Int64) else (if q12.1 < (Int32.toInt64 q3.1) then q12.1 else (Int32.toInt64 q3.1))))) q12.2)))
def f_X9_turned (N : Nat) (l0 : Nat) (l1 : Nat) (l2 : Int32) (l3 : Int32) (σ : Mm) : Option (Int32 × Mm) :=
  (gN 9 0 σ l0).bind fun a1 =>
  (aI 13 σ a1 (6 : Int32)).bind fun x2 =>
  f_X9_turned_21 N N l0 l1 l3 x2 l2 (0 : Int32) σ
theorem mov_X9_turned : MOV yX9_turned M_X9_turned 3 9 0 := ⟨⟨tw_103, tw_748, ⟨by decide, by decide⟩, by decide +kernel⟩, tw_746, tw_747, by decide, ⟨_, rfl, rfl⟩, rfl⟩
set_option maxRecDepth 4000 in
theorem s_X9_turned_122 {Γ : Cn} {τ : Mm} {N : Nat} {r_21 : Nat → Nat → Int32 → Int32 → Int32 → Int32 → Mm → Option (Int32 × Mm)} (hr_21 : ∀ (l0 : Nat) (l1 : Nat) (l3 : Int32) (l4 : Int32) (l5 : Int32) (l6 : Int32) (σ : Mm) (o : Int32 × Mm), r_21 l0 l1 l3 l4 l5 l6 σ = some o → Gx Γ M_X9_turned 0 τ (PI o) 0 0 21 [(0, .ref (Γ.B + pp l0)), (1, .ref (Γ.B + pp l1)), (3, .int l3), (4, .int l4), (5, .int l5), (6, .int l6)] [] σ) {l0 : Nat} {l1 : Nat} {l3 : Int32} {l4 : Int32} {l6 : Int32} {t0 : Int32} {σ : Mm} {o : Int32 × Mm} (h : f_X9_turned_122 N r_21 l0 l1 l3 l4 l6 t0 σ = some o) : Gx Γ M_X9_turned 0 τ (PI o) 0 0 122 [(0, .ref (Γ.B + pp l0)), (1, .ref (Γ.B + pp l1)), (3, .int l3), (4, .int l4), (6, .int l6)] [.int t0] σ := by
  unfold f_X9_turned_122 at h
  refine gx_bipush (v := (7 : Int32)) dX9_turned_122 ib_7 ?_
  refine gx_iand dX9_turned_124 ?_
  refine gx_istore (lv' := [(5, .int (t0 &&& (7 : Int32))), (0, .ref (Γ.B + pp l0)), (1, .ref (Γ.B + pp l1)), (3, .int l3), (4, .int l4), (6, .int l6)]) dX9_turned_125 (Nat.le_of_ble_eq_true rfl) rfl ?_
  refine gx_iinc (v := (l6 + (1 : Int32))) (lv' := [(6, .int (l6 + (1 : Int32))), (5, .int (t0 &&& (7 : Int32))), (0, .ref (Γ.B + pp l0)), (1, .ref (Γ.B + pp l1)), (3, .int l3), (4, .int l4)]) 5 dX9_turned_127 rfl (by rw [ic_1]) (Nat.le_of_ble_eq_true rfl) rfl ?_
  refine gx_goto 21 dX9_turned_130 (by decide) ?_
  exact gx_sub [2, 3, 4, 5, 1, 0] rfl (hr_21 _ _ _ _ _ _ _ _ h)
set_option maxRecDepth 4000 in
theorem s_X9_turned_133 {Γ : Cn} {τ : Mm} {N : Nat} {l5 : Int32} {σ : Mm} {o : Int32 × Mm} (h : f_X9_turned_133 N l5 σ = some o) : Gx Γ M_X9_turned 0 τ (PI o) 0 0 133 [(5, .int l5)] [] σ := by
  unfold f_X9_turned_133 at h
  refine gx_iload 0 dX9_turned_133 rfl ?_
  have h := Option.some.inj h
  subst h
  exact gx_iret dX9_turned_135 rfl (Nat.le_of_ble_eq_true rfl) (Nat.le_of_ble_eq_true rfl) ⟨rfl, rfl⟩
set_option maxRecDepth 4000 in
theorem s_X9_turned_21 {Γ : Cn} {τ : Mm} {N : Nat} : ∀ (n : Nat) (l0 : Nat) (l1 : Nat) (l3 : Int32) (l4 : Int32) (l5 : Int32) (l6 : Int32) (σ : Mm) (o : Int32 × Mm), f_X9_turned_21 N n l0 l1 l3 l4 l5 l6 σ = some o → Gx Γ M_X9_turned 0 τ (PI o) 0 0 21 [(0, .ref (Γ.B + pp l0)), (1, .ref (Γ.B + pp l1)), (3, .int l3), (4, .int l4), (5, .int l5), (6, .int l6)] [] σ := by
  intro n
  induction n with
  | zero =>
    intro l0 l1 l3 l4 l5 l6 σ o h
    exact absurd h (by rw [f_X9_turned_21]; exact fun q => nomatch q)
  | succ n ih =>
    intro l0 l1 l3 l4 l5 l6 σ o h
    rw [f_X9_turned_21] at h
    refine gx_iload 5 dX9_turned_21 rfl ?_
    refine gx_iload_n 2 dX9_turned_23 rfl rfl ?_
    refine gx_icmp_ge 133 dX9_turned_24 (by decide) (fun c0 => ?_) (fun c0 => ?_)
    · rw [if_pos c0] at h
      exact gx_sub [4] rfl (s_X9_turned_133  h)
    · rw [if_neg c0] at h
      refine gx_iload 4 dX9_turned_27 rfl ?_
      refine gx_iload 3 dX9_turned_29 rfl ?_
      refine gx_icmp_eq 133 dX9_turned_31 (by decide) (fun c1 => ?_) (fun c1 => ?_)
      · rw [if_pos c1] at h
        exact gx_sub [4] rfl (s_X9_turned_133  h)
      · rw [if_neg c1] at h
        refine gx_iload 3 dX9_turned_34 rfl ?_
        refine gx_iload 4 dX9_turned_36 rfl ?_
        refine gx_isub dX9_turned_38 ?_
        refine gx_bipush (v := (7 : Int32)) dX9_turned_39 ib_7 ?_
        refine gx_iand dX9_turned_41 ?_
        refine gx_istore (lv' := [(7, .int ((l4 - l5) &&& (7 : Int32))), (0, .ref (Γ.B + pp l0)), (1, .ref (Γ.B + pp l1)), (3, .int l3), (4, .int l4), (5, .int l5), (6, .int l6)]) dX9_turned_42 (Nat.le_of_ble_eq_true rfl) rfl ?_
        refine gx_iload 4 dX9_turned_44 rfl ?_
        refine gx_iload 5 dX9_turned_46 rfl ?_
        obtain ⟨q3, hq3, h⟩ := bnd h
        refine gx_cSNI (As := [.int l4, .int l5]) (st := []) dX9_turned_48 (c_X10_offBetween hq3) mos_X10_offBetween (by decide) rfl ⟨Nat.le_of_ble_eq_true rfl, Nat.le_of_ble_eq_true rfl⟩ (Nat.le_of_ble_eq_true rfl) ?_
        refine gx_istore (lv' := [(8, .int q3.1), (7, .int ((l4 - l5) &&& (7 : Int32))), (0, .ref (Γ.B + pp l0)), (1, .ref (Γ.B + pp l1)), (3, .int l3), (4, .int l4), (5, .int l5), (6, .int l6)]) dX9_turned_51 (Nat.le_of_ble_eq_true rfl) rfl ?_
        refine gx_aload_n 2 dX9_turned_53 rfl rfl ?_
        obtain ⟨a4, ha4, h⟩ := bnd h
        refine gx_getN dX9_turned_54 ha4 fl_X9_9 rfl ?_
        refine gx_iconst (v := (4 : Int32)) dX9_turned_57 ic_4 ?_
        refine gx_iload 6 dX9_turned_58 rfl ?_
        obtain ⟨s5, hs5, h⟩ := bnd h
        refine gx_iast (kd := 13) dX9_turned_60 hs5 rfl rfl ?_
        refine gx_aload_n 2 dX9_turned_61 rfl rfl ?_
        obtain ⟨a6, ha6, h⟩ := bnd h
        refine gx_getN dX9_turned_62 ha6 fl_X9_9 rfl ?_
        refine gx_iconst (v := (5 : Int32)) dX9_turned_65 ic_5 ?_
        refine gx_iload 0 dX9_turned_66 rfl ?_
        obtain ⟨s7, hs7, h⟩ := bnd h
        refine gx_iast (kd := 13) dX9_turned_68 hs7 rfl rfl ?_
        refine gx_aload_n 2 dX9_turned_69 rfl rfl ?_
        obtain ⟨a8, ha8, h⟩ := bnd h
        refine gx_getN dX9_turned_70 ha8 fl_X9_9 rfl ?_
        refine gx_bipush (v := (8 : Int32)) dX9_turned_73 ib_8 ?_
        refine gx_iload 7 dX9_turned_75 rfl ?_
        obtain ⟨s9, hs9, h⟩ := bnd h
        refine gx_iast (kd := 13) dX9_turned_77 hs9 rfl rfl ?_
        refine gx_lconst (v := (0 : Int64)) dX9_turned_78 (by decide) ?_
        refine gx_iload 0 dX9_turned_79 rfl ?_
        refine gx_i2l dX9_turned_81 ?_
        refine gx_aload_n 3 dX9_turned_82 rfl rfl ?_
        refine gx_aload_n 2 dX9_turned_83 rfl rfl ?_
        obtain ⟨a10, ha10, h⟩ := bnd h
        refine gx_getN dX9_turned_84 ha10 fl_X9_9 rfl ?_
        refine gx_aload_n 2 dX9_turned_87 rfl rfl ?_
        obtain ⟨a11, ha11, h⟩ := bnd h
        refine gx_getN dX9_turned_88 ha11 fl_X9_17 rfl ?_
        obtain ⟨_, hobq12, h⟩ := bnd h
        obtain ⟨q12, hq12, h⟩ := bnd h
        refine gx_cVJ (As := [.ref (Γ.B + pp a10), .ref (Γ.B + pp a11)]) (st := [.long (Int32.toInt64 q3.1), .long (0 : Int64)]) (o := l1) dX9_turned_91 (c_X2_turnFor hq12) mov_X2_turnFor tw_755 hobq12 rfl ⟨Nat.le_of_ble_eq_true rfl, Nat.le_of_ble_eq_true rfl⟩ (Nat.le_of_ble_eq_true rfl) ?_
        refine gx_mminJ dX9_turned_94 tw_768 (Nat.le_of_ble_eq_true rfl) (Nat.le_of_ble_eq_true rfl) ?_
        refine gx_mmaxJ dX9_turned_97 tw_771 (Nat.le_of_ble_eq_true rfl) (Nat.le_of_ble_eq_true rfl) ?_
        refine gx_l2i dX9_turned_100 ?_
        refine gx_istore (lv' := [(9, .int (Int64.toInt32 (if (if q12.1 < (Int32.toInt64 q3.1) then q12.1 else (Int32.toInt64 q3.1)) < (0 : Int64) then (0 : Int64) else (if q12.1 < (Int32.toInt64 q3.1) then q12.1 else (Int32.toInt64 q3.1))))), (8, .int q3.1), (7, .int ((l4 - l5) &&& (7 : Int32))), (0, .ref (Γ.B + pp l0)), (1, .ref (Γ.B + pp l1)), (3, .int l3), (4, .int l4), (5, .int l5), (6, .int l6)]) dX9_turned_101 (Nat.le_of_ble_eq_true rfl) rfl ?_
        refine gx_iload 2 dX9_turned_103 rfl ?_
        refine gx_iconst (v := (4 : Int32)) dX9_turned_105 ic_4 ?_
        refine gx_icmp_gt 117 dX9_turned_106 (by decide) (fun c12 => ?_) (fun c12 => ?_)
        · rw [if_pos c12] at h
          refine gx_iload 7 dX9_turned_117 rfl ?_
          refine gx_iload 0 dX9_turned_119 rfl ?_
          refine gx_isub dX9_turned_121 ?_
          exact gx_sub [3, 4, 5, 6, 8] rfl (s_X9_turned_122 ih h)
        · rw [if_neg c12] at h
          refine gx_iload 7 dX9_turned_109 rfl ?_
          refine gx_iload 0 dX9_turned_111 rfl ?_
          refine gx_iadd dX9_turned_113 ?_
          refine gx_goto 122 dX9_turned_114 (by decide) ?_
          exact gx_sub [3, 4, 5, 6, 8] rfl (s_X9_turned_122 ih h)
set_option maxRecDepth 4000 in
theorem s_X9_turned_0 {Γ : Cn} {τ : Mm} {N : Nat} {l0 : Nat} {l1 : Nat} {l2 : Int32} {l3 : Int32} {σ : Mm} {o : Int32 × Mm} (h : f_X9_turned N l0 l1 l2 l3 σ = some o) : Gx Γ M_X9_turned 0 τ (PI o) 0 0 0 [(0, .ref (Γ.B + pp l0)), (1, .ref (Γ.B + pp l1)), (2, .int l2), (3, .int l3)] [] σ := by
  unfold f_X9_turned at h
  refine gx_aload_n 1 dX9_turned_0 rfl rfl ?_
  refine gx_nonnull 6 dX9_turned_1 (by decide) ?_
  refine gx_aload_n 0 dX9_turned_6 rfl rfl ?_
  obtain ⟨a1, ha1, h⟩ := bnd h
  refine gx_getN dX9_turned_7 ha1 fl_X9_9 rfl ?_
  refine gx_bipush (v := (6 : Int32)) dX9_turned_10 ib_6 ?_
  obtain ⟨x2, hx2, h⟩ := bnd h
  refine gx_iald (kd := 13) dX9_turned_12 hx2 rfl rfl ?_
  refine gx_istore (lv' := [(4, .int x2), (0, .ref (Γ.B + pp l0)), (1, .ref (Γ.B + pp l1)), (2, .int l2), (3, .int l3)]) dX9_turned_13 (Nat.le_of_ble_eq_true rfl) rfl ?_
  refine gx_iload_n 3 dX9_turned_15 rfl rfl ?_
  refine gx_istore (lv' := [(5, .int l2), (4, .int x2), (0, .ref (Γ.B + pp l0)), (1, .ref (Γ.B + pp l1)), (2, .int l2), (3, .int l3)]) dX9_turned_16 (Nat.le_of_ble_eq_true rfl) rfl ?_
  refine gx_iconst (v := (0 : Int32)) dX9_turned_18 ic_0 ?_
  refine gx_istore (lv' := [(6, .int (0 : Int32)), (5, .int l2), (4, .int x2), (0, .ref (Γ.B + pp l0)), (1, .ref (Γ.B + pp l1)), (2, .int l2), (3, .int l3)]) dX9_turned_19 (Nat.le_of_ble_eq_true rfl) rfl ?_
  exact gx_sub [3, 4, 6, 2, 1, 0] rfl (s_X9_turned_21  N _ _ _ _ _ _ _ _ h)
theorem c_X9_turned {Γ : Cn} {τ : Mm} {N : Nat} {l0 : Nat} {l1 : Nat} {l2 : Int32} {l3 : Int32} {σ : Mm} {o : Int32 × Mm} (h : f_X9_turned N l0 l1 l2 l3 σ = some o) : Ct Γ M_X9_turned yX9_turned 0 τ [.ref (Γ.B + pp l0), .ref (Γ.B + pp l1), .int l2, .int l3] σ (PI o) := ct_of (by decide) rfl (fun _ => by first | rfl | contradiction) (Nat.le_of_ble_eq_true rfl) (s_X9_turned_0  h)
