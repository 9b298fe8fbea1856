abbrev M_X11_back : Ms := (cX11_back, RX11, 3, (some .int), false, 0, 0, 1)
def f_X11_back_21 (N : Nat) (σ : Mm) : Option (Int32 × Mm) :=
  some ((-1 : Int32), σ)
def f_X11_back_25 (N : Nat) : Nat → Nat → Int32 → Int32 → Mm → Option (Int32 × Mm)
  | 0, _, _, _, _ => none
  | n + 1, l0, l1, l2, σ =>
      if (156 : Int32) ≤ l2 then (
        (gN 11 24 σ l0).bind fun a2 =>
        (aI 113 σ a2 (0 : Int32)).bind fun x3 =>
        some (x3, σ)) else (
        (gN 11 24 σ l0).bind fun a4 =>
        (gN 11 31 σ l0).bind fun a5 =>
        (aI 113 σ a5 (((156 : Int32) * l1) + l2)).bind fun x6 =>
        (sI 113 σ a4 l2 x6).bind fun s7 =>
        f_X11_back_25 N n l0 l1 (l2 + (1 : Int32)) s7)
def f_X11_back (N : Nat) (l0 : Nat) (l1 : Int32) (σ : Mm) : Option (Int32 × Mm) :=
  (f_X11_in N (Int32.toInt64 l1) (0 : Int64) (3 : Int64) σ).bind fun q1 =>
  if q1.1 = 0 then (
    f_X11_back_21 N q1.2) else (
    (gN 11 32 q1.2 l0).bind fun a3 =>
    (aI 115 q1.2 a3 l1).bind fun x4 =>
    if x4 = 0 then (
      f_X11_back_21 N q1.2) else (
      f_X11_back_25 N N l0 l1 (0 : Int32) q1.2))
theorem mov_X11_back : MOV yX11_back M_X11_back 1 11 100 := ⟨⟨tw_107, tw_1563, ⟨by decide, by decide⟩, by decide +kernel⟩, tw_1561, tw_1562, by decide, ⟨_, rfl, rfl⟩, rfl⟩
set_option maxRecDepth 4000 in
theorem s_X11_back_21 {Γ : Cn} {τ : Mm} {N : Nat} {σ : Mm} {o : Int32 × Mm} (h : f_X11_back_21 N σ = some o) : Gx Γ M_X11_back 100 τ (PI o) 0 0 21 [] [] σ := by
  unfold f_X11_back_21 at h
  refine gx_iconst (v := (-1 : Int32)) dX11_back_21 ic_m1 ?_
  have h := Option.some.inj h
  subst h
  exact gx_iret dX11_back_22 rfl (Nat.le_of_ble_eq_true rfl) (Nat.le_of_ble_eq_true rfl) ⟨rfl, rfl⟩
set_option maxRecDepth 4000 in
theorem s_X11_back_25 {Γ : Cn} {τ : Mm} {N : Nat} : ∀ (n : Nat) (l0 : Nat) (l1 : Int32) (l2 : Int32) (σ : Mm) (o : Int32 × Mm), f_X11_back_25 N n l0 l1 l2 σ = some o → Gx Γ M_X11_back 100 τ (PI o) 0 0 25 [(0, .ref (Γ.B + pp l0)), (1, .int l1), (2, .int l2)] [] σ := by
  intro n
  induction n with
  | zero =>
    intro l0 l1 l2 σ o h
    exact absurd h (by rw [f_X11_back_25]; exact fun q => nomatch q)
  | succ n ih =>
    intro l0 l1 l2 σ o h
    rw [f_X11_back_25] at h
    refine gx_iload_n 2 dX11_back_25 rfl rfl ?_
    refine gx_sipush (v := (156 : Int32)) dX11_back_26 is_156 ?_
    refine gx_icmp_ge 56 dX11_back_29 (by decide) (fun c0 => ?_) (fun c0 => ?_)
    · rw [if_pos c0] at h
      refine gx_aload_n 0 dX11_back_56 rfl rfl ?_
      obtain ⟨a2, ha2, h⟩ := bnd h
      refine gx_getN dX11_back_57 ha2 fl_X11_45 rfl ?_
      refine gx_iconst (v := (0 : Int32)) dX11_back_60 ic_0 ?_
      obtain ⟨x3, hx3, h⟩ := bnd h
      refine gx_iald (kd := 113) dX11_back_61 hx3 rfl rfl ?_
      have h := Option.some.inj h
      subst h
      exact gx_iret dX11_back_62 rfl (Nat.le_of_ble_eq_true rfl) (Nat.le_of_ble_eq_true rfl) ⟨rfl, rfl⟩
    · rw [if_neg c0] at h
      refine gx_aload_n 0 dX11_back_32 rfl rfl ?_
      obtain ⟨a4, ha4, h⟩ := bnd h
      refine gx_getN dX11_back_33 ha4 fl_X11_45 rfl ?_
      refine gx_iload_n 2 dX11_back_36 rfl rfl ?_
      refine gx_aload_n 0 dX11_back_37 rfl rfl ?_
      obtain ⟨a5, ha5, h⟩ := bnd h
      refine gx_getN dX11_back_38 ha5 fl_X11_63 rfl ?_
      refine gx_sipush (v := (156 : Int32)) dX11_back_41 is_156 ?_
      refine gx_iload_n 1 dX11_back_44 rfl rfl ?_
      refine gx_imul dX11_back_45 ?_
      refine gx_iload_n 2 dX11_back_46 rfl rfl ?_
      refine gx_iadd dX11_back_47 ?_
      obtain ⟨x6, hx6, h⟩ := bnd h
      refine gx_iald (kd := 113) dX11_back_48 hx6 rfl rfl ?_
      obtain ⟨s7, hs7, h⟩ := bnd h
      refine gx_iast (kd := 113) dX11_back_49 hs7 rfl rfl ?_
      refine gx_iinc (v := (l2 + (1 : Int32))) (lv' := [(2, .int (l2 + (1 : Int32))), (0, .ref (Γ.B + pp l0)), (1, .int l1)]) 2 dX11_back_50 rfl (by rw [ic_1]) (Nat.le_of_ble_eq_true rfl) rfl ?_
      refine gx_goto 25 dX11_back_53 (by decide) ?_
      exact gx_sub [1, 2, 0] rfl (ih _ _ _ _ _ h)
set_option maxRecDepth 4000 in
theorem s_X11_back_0 {Γ : Cn} {τ : Mm} {N : Nat} {l0 : Nat} {l1 : Int32} {σ : Mm} {o : Int32 × Mm} (h : f_X11_back N l0 l1 σ = some o) : Gx Γ M_X11_back 100 τ (PI o) 0 0 0 [(0, .ref (Γ.B + pp l0)), (1, .int l1)] [] σ := by
  unfold f_X11_back at h
  refine gx_iload_n 1 dX11_back_0 rfl rfl ?_
  refine gx_i2l dX11_back_1 ?_
  refine gx_lconst (v := (0 : Int64)) dX11_back_2 (by decide) ?_
  refine gx_ldc2 (v := (3 : Int64)) dX11_back_3 tw_1317 ?_
  obtain ⟨q1, hq1, h⟩ := bnd h
  refine gx_cSI (As := [.long (Int32.toInt64 l1), .long (0 : Int64), .long (3 : Int64)]) (st := []) dX11_back_6 (c_X11_in hq1) mos_X11_in tw_1206 rfl ⟨Nat.le_of_ble_eq_true rfl, Nat.le_of_ble_eq_true rfl⟩ (Nat.le_of_ble_eq_true rfl) ?_
  refine gx_if_eq 21 dX11_back_9 (by decide) (fun c1 => ?_) (fun c1 => ?_)
  · rw [if_pos c1] at h
    exact gx_sub [] rfl (s_X11_back_21  h)
  · rw [if_neg c1] at h
    refine gx_aload_n 0 dX11_back_12 rfl rfl ?_
    obtain ⟨a3, ha3, h⟩ := bnd h
    refine gx_getN dX11_back_13 ha3 fl_X11_66 rfl ?_
    refine gx_iload_n 1 dX11_back_16 rfl rfl ?_
    obtain ⟨x4, hx4, h⟩ := bnd h
    refine gx_zald (kd := 115) dX11_back_17 hx4 rfl rfl ?_
    refine gx_if_ne 23 dX11_back_18 (by decide) (fun c4 => ?_) (fun c4 => ?_)
    · rw [if_neg c4] at h
      refine gx_iconst (v := (0 : Int32)) dX11_back_23 ic_0 ?_
      refine gx_istore_n (lv' := [(2, .int (0 : Int32)), (0, .ref (Γ.B + pp l0)), (1, .int l1)]) dX11_back_24 rfl (Nat.le_of_ble_eq_true rfl) rfl ?_
      exact gx_sub [1, 2, 0] rfl (s_X11_back_25  N _ _ _ _ _ h)
    · rw [if_pos c4] at h
      exact gx_sub [] rfl (s_X11_back_21  h)
theorem c_X11_back {Γ : Cn} {τ : Mm} {N : Nat} {l0 : Nat} {l1 : Int32} {σ : Mm} {o : Int32 × Mm} (h : f_X11_back N l0 l1 σ = some o) : Ct Γ M_X11_back yX11_back 100 τ [.ref (Γ.B + pp l0), .int l1] σ (PI o) := ct_of (by decide) rfl (fun _ => by first | rfl | contradiction) (Nat.le_of_ble_eq_true rfl) (s_X11_back_0  h)
