abbrev M_X11_felled : Ms := (cX11_felled, RX11, 6, (some .int), false, 0, 0, 5)
def f_X11_felled_18 (N : Nat) (σ : Mm) : Option (Int32 × Mm) :=
  some ((-1 : Int32), σ)
def f_X11_felled_91 (N : Nat) (r_44 : Nat → Int32 → Int32 → Int32 → Int32 → Int32 → Mm → Option (Int32 × Mm)) (l0 : Nat) (l1 : Int32) (l2 : Int32) (l3 : Int32) (l4 : Int32) (l5 : Int32) (σ : Mm) : Option (Int32 × Mm) :=
  r_44 l0 l1 l2 l3 l4 (l5 + (1 : Int32)) σ
def f_X11_felled_44 (N : Nat) : Nat → Nat → Int32 → Int32 → Int32 → Int32 → Int32 → Mm → Option (Int32 × Mm)
  | 0, _, _, _, _, _, _, _ => none
  | n + 1, l0, l1, l2, l3, l4, l5, σ =>
      (gN 11 24 σ l0).bind fun a1 =>
      (aI 113 σ a1 (1 : Int32)).bind fun x2 =>
      if x2 ≤ l5 then (
        some ((-2 : Int32), σ)) else (
        (ob 11 σ l0).bind fun _ =>
        (f_X11_treeOf N l0 l5 (2 : Int32) σ).bind fun q4 =>
        if q4.1 = (1 : Int32) then (
          f_X11_felled_91 N (f_X11_felled_44 N n) l0 l1 l2 l3 l4 l5 q4.2) else (
          (ob 11 q4.2 l0).bind fun _ =>
          (f_X11_goes N l0 l1 l2 l3 l5 q4.2).bind fun q6 =>
          (ob 11 q6 l0).bind fun _ =>
          (f_X11_votes N l0 l4 q6).bind fun q7 =>
          if q7.1 = l2 then (
            some (l5, q7.2)) else (
            f_X11_felled_91 N (f_X11_felled_44 N n) l0 l1 l2 l3 l4 l5 q7.2)))
def f_X11_felled (N : Nat) (l0 : Nat) (l1 : Int32) (l2 : Int32) (l3 : Int32) (l4 : Int32) (σ : Mm) : Option (Int32 × Mm) :=
  (ob 11 σ l0).bind fun _ =>
  (f_X11_canBlow N l0 l1 l2 l3 σ).bind fun q1 =>
  if q1.1 = 0 then (
    f_X11_felled_18 N q1.2) else (
    (f_X11_isWay N l4 q1.2).bind fun q3 =>
    if q3.1 = 0 then (
      f_X11_felled_18 N q3.2) else (
      (ob 11 q3.2 l0).bind fun _ =>
      (f_X11_goes N l0 l1 l2 l3 (-1 : Int32) q3.2).bind fun q5 =>
      (ob 11 q5 l0).bind fun _ =>
      (f_X11_votes N l0 l4 q5).bind fun q6 =>
      if q6.1 = l2 then (
        some ((-3 : Int32), q6.2)) else (
        f_X11_felled_44 N N l0 l1 l2 l3 l4 (0 : Int32) q6.2)))
theorem mov_X11_felled : MOV yX11_felled M_X11_felled 4 11 100 := ⟨⟨tw_107, tw_1521, ⟨by decide, by decide⟩, by decide +kernel⟩, tw_1519, tw_1520, by decide, ⟨_, rfl, rfl⟩, rfl⟩
set_option maxRecDepth 4000 in
theorem s_X11_felled_18 {Γ : Cn} {τ : Mm} {N : Nat} {σ : Mm} {o : Int32 × Mm} (h : f_X11_felled_18 N σ = some o) : Gx Γ M_X11_felled 100 τ (PI o) 0 0 18 [] [] σ := by
  unfold f_X11_felled_18 at h
  refine gx_iconst (v := (-1 : Int32)) dX11_felled_18 ic_m1 ?_
  have h := Option.some.inj h
  subst h
  exact gx_iret dX11_felled_19 rfl (Nat.le_of_ble_eq_true rfl) (Nat.le_of_ble_eq_true rfl) ⟨rfl, rfl⟩
set_option maxRecDepth 4000 in
theorem s_X11_felled_91 {Γ : Cn} {τ : Mm} {N : Nat} {r_44 : Nat → Int32 → Int32 → Int32 → Int32 → Int32 → Mm → Option (Int32 × Mm)} (hr_44 : ∀ (l0 : Nat) (l1 : Int32) (l2 : Int32) (l3 : Int32) (l4 : Int32) (l5 : Int32) (σ : Mm) (o : Int32 × Mm), r_44 l0 l1 l2 l3 l4 l5 σ = some o → Gx Γ M_X11_felled 100 τ (PI o) 0 0 44 [(0, .ref (Γ.B + pp l0)), (1, .int l1), (2, .int l2), (3, .int l3), (4, .int l4), (5, .int l5)] [] σ) {l0 : Nat} {l1 : Int32} {l2 : Int32} {l3 : Int32} {l4 : Int32} {l5 : Int32} {σ : Mm} {o : Int32 × Mm} (h : f_X11_felled_91 N r_44 l0 l1 l2 l3 l4 l5 σ = some o) : Gx Γ M_X11_felled 100 τ (PI o) 0 0 91 [(0, .ref (Γ.B + pp l0)), (1, .int l1), (2, .int l2), (3, .int l3), (4, .int l4), (5, .int l5)] [] σ := by
  unfold f_X11_felled_91 at h
  refine gx_iinc (v := (l5 + (1 : Int32))) (lv' := [(5, .int (l5 + (1 : Int32))), (0, .ref (Γ.B + pp l0)), (1, .int l1), (2, .int l2), (3, .int l3), (4, .int l4)]) 5 dX11_felled_91 rfl (by rw [ic_1]) (Nat.le_of_ble_eq_true rfl) rfl ?_
  refine gx_goto 44 dX11_felled_94 (by decide) ?_
  exact gx_sub [1, 2, 3, 4, 5, 0] rfl (hr_44 _ _ _ _ _ _ _ _ h)
set_option maxRecDepth 4000 in
theorem s_X11_felled_44 {Γ : Cn} {τ : Mm} {N : Nat} : ∀ (n : Nat) (l0 : Nat) (l1 : Int32) (l2 : Int32) (l3 : Int32) (l4 : Int32) (l5 : Int32) (σ : Mm) (o : Int32 × Mm), f_X11_felled_44 N n l0 l1 l2 l3 l4 l5 σ = some o → Gx Γ M_X11_felled 100 τ (PI o) 0 0 44 [(0, .ref (Γ.B + pp l0)), (1, .int l1), (2, .int l2), (3, .int l3), (4, .int l4), (5, .int l5)] [] σ := by
  intro n
  induction n with
  | zero =>
    intro l0 l1 l2 l3 l4 l5 σ o h
    exact absurd h (by rw [f_X11_felled_44]; exact fun q => nomatch q)
  | succ n ih =>
    intro l0 l1 l2 l3 l4 l5 σ o h
    rw [f_X11_felled_44] at h
    refine gx_iload 5 dX11_felled_44 rfl ?_
    refine gx_aload_n 0 dX11_felled_46 rfl rfl ?_
    obtain ⟨a1, ha1, h⟩ := bnd h
    refine gx_getN dX11_felled_47 ha1 fl_X11_45 rfl ?_
    refine gx_iconst (v := (1 : Int32)) dX11_felled_50 ic_1 ?_
    obtain ⟨x2, hx2, h⟩ := bnd h
    refine gx_iald (kd := 113) dX11_felled_51 hx2 rfl rfl ?_
    refine gx_icmp_ge 97 dX11_felled_52 (by decide) (fun c2 => ?_) (fun c2 => ?_)
    · rw [if_pos c2] at h
      refine gx_bipush (v := (-2 : Int32)) dX11_felled_97 ib_m2 ?_
      have h := Option.some.inj h
      subst h
      exact gx_iret dX11_felled_99 rfl (Nat.le_of_ble_eq_true rfl) (Nat.le_of_ble_eq_true rfl) ⟨rfl, rfl⟩
    · rw [if_neg c2] at h
      refine gx_aload_n 0 dX11_felled_55 rfl rfl ?_
      refine gx_iload 5 dX11_felled_56 rfl ?_
      refine gx_iconst (v := (2 : Int32)) dX11_felled_58 ic_2 ?_
      obtain ⟨_, hobq4, h⟩ := bnd h
      obtain ⟨q4, hq4, h⟩ := bnd h
      refine gx_cVI (As := [.int l5, .int (2 : Int32)]) (st := []) (o := l0) dX11_felled_59 (c_X11_treeOf hq4) mov_X11_treeOf tw_1309 hobq4 rfl ⟨Nat.le_of_ble_eq_true rfl, Nat.le_of_ble_eq_true rfl⟩ (Nat.le_of_ble_eq_true rfl) ?_
      refine gx_iconst (v := (1 : Int32)) dX11_felled_62 ic_1 ?_
      refine gx_icmp_ne 69 dX11_felled_63 (by decide) (fun c4 => ?_) (fun c4 => ?_)
      · rw [if_neg c4] at h
        refine gx_aload_n 0 dX11_felled_69 rfl rfl ?_
        refine gx_iload_n 1 dX11_felled_70 rfl rfl ?_
        refine gx_iload_n 2 dX11_felled_71 rfl rfl ?_
        refine gx_iload_n 3 dX11_felled_72 rfl rfl ?_
        refine gx_iload 5 dX11_felled_73 rfl ?_
        obtain ⟨_, hobq6, h⟩ := bnd h
        obtain ⟨q6, hq6, h⟩ := bnd h
        refine gx_cVV (As := [.int l1, .int l2, .int l3, .int l5]) (st := []) (o := l0) dX11_felled_75 (c_X11_goes hq6) mov_X11_goes tw_1514 hobq6 rfl ⟨Nat.le_of_ble_eq_true rfl, Nat.le_of_ble_eq_true rfl⟩ (Nat.le_of_ble_eq_true rfl) ?_
        refine gx_aload_n 0 dX11_felled_78 rfl rfl ?_
        refine gx_iload 4 dX11_felled_79 rfl ?_
        obtain ⟨_, hobq7, h⟩ := bnd h
        obtain ⟨q7, hq7, h⟩ := bnd h
        refine gx_cVI (As := [.int l4]) (st := []) (o := l0) dX11_felled_81 (c_X11_votes hq7) mov_X11_votes tw_1411 hobq7 rfl ⟨Nat.le_of_ble_eq_true rfl, Nat.le_of_ble_eq_true rfl⟩ (Nat.le_of_ble_eq_true rfl) ?_
        refine gx_iload_n 2 dX11_felled_84 rfl rfl ?_
        refine gx_icmp_ne 91 dX11_felled_85 (by decide) (fun c7 => ?_) (fun c7 => ?_)
        · rw [if_neg c7] at h
          exact s_X11_felled_91 ih h
        · rw [if_pos c7] at h
          refine gx_iload 5 dX11_felled_88 rfl ?_
          have h := Option.some.inj h
          subst h
          exact gx_iret dX11_felled_90 rfl (Nat.le_of_ble_eq_true rfl) (Nat.le_of_ble_eq_true rfl) ⟨rfl, rfl⟩
      · rw [if_pos c4] at h
        refine gx_goto 91 dX11_felled_66 (by decide) ?_
        exact s_X11_felled_91 ih h
set_option maxRecDepth 4000 in
theorem s_X11_felled_0 {Γ : Cn} {τ : Mm} {N : Nat} {l0 : Nat} {l1 : Int32} {l2 : Int32} {l3 : Int32} {l4 : Int32} {σ : Mm} {o : Int32 × Mm} (h : f_X11_felled N l0 l1 l2 l3 l4 σ = some o) : Gx Γ M_X11_felled 100 τ (PI o) 0 0 0 [(0, .ref (Γ.B + pp l0)), (1, .int l1), (2, .int l2), (3, .int l3), (4, .int l4)] [] σ := by
  unfold f_X11_felled at h
  refine gx_aload_n 0 dX11_felled_0 rfl rfl ?_
  refine gx_iload_n 1 dX11_felled_1 rfl rfl ?_
  refine gx_iload_n 2 dX11_felled_2 rfl rfl ?_
  refine gx_iload_n 3 dX11_felled_3 rfl rfl ?_
  obtain ⟨_, hobq1, h⟩ := bnd h
  obtain ⟨q1, hq1, h⟩ := bnd h
  refine gx_cVI (As := [.int l1, .int l2, .int l3]) (st := []) (o := l0) dX11_felled_4 (c_X11_canBlow hq1) mov_X11_canBlow tw_1339 hobq1 rfl ⟨Nat.le_of_ble_eq_true rfl, Nat.le_of_ble_eq_true rfl⟩ (Nat.le_of_ble_eq_true rfl) ?_
  refine gx_if_eq 18 dX11_felled_7 (by decide) (fun c1 => ?_) (fun c1 => ?_)
  · rw [if_pos c1] at h
    exact gx_sub [] rfl (s_X11_felled_18  h)
  · rw [if_neg c1] at h
    refine gx_iload 4 dX11_felled_10 rfl ?_
    obtain ⟨q3, hq3, h⟩ := bnd h
    refine gx_cSI (As := [.int l4]) (st := []) dX11_felled_12 (c_X11_isWay hq3) mos_X11_isWay tw_1404 rfl ⟨Nat.le_of_ble_eq_true rfl, Nat.le_of_ble_eq_true rfl⟩ (Nat.le_of_ble_eq_true rfl) ?_
    refine gx_if_ne 20 dX11_felled_15 (by decide) (fun c3 => ?_) (fun c3 => ?_)
    · rw [if_neg c3] at h
      refine gx_aload_n 0 dX11_felled_20 rfl rfl ?_
      refine gx_iload_n 1 dX11_felled_21 rfl rfl ?_
      refine gx_iload_n 2 dX11_felled_22 rfl rfl ?_
      refine gx_iload_n 3 dX11_felled_23 rfl rfl ?_
      refine gx_iconst (v := (-1 : Int32)) dX11_felled_24 ic_m1 ?_
      obtain ⟨_, hobq5, h⟩ := bnd h
      obtain ⟨q5, hq5, h⟩ := bnd h
      refine gx_cVV (As := [.int l1, .int l2, .int l3, .int (-1 : Int32)]) (st := []) (o := l0) dX11_felled_25 (c_X11_goes hq5) mov_X11_goes tw_1514 hobq5 rfl ⟨Nat.le_of_ble_eq_true rfl, Nat.le_of_ble_eq_true rfl⟩ (Nat.le_of_ble_eq_true rfl) ?_
      refine gx_aload_n 0 dX11_felled_28 rfl rfl ?_
      refine gx_iload 4 dX11_felled_29 rfl ?_
      obtain ⟨_, hobq6, h⟩ := bnd h
      obtain ⟨q6, hq6, h⟩ := bnd h
      refine gx_cVI (As := [.int l4]) (st := []) (o := l0) dX11_felled_31 (c_X11_votes hq6) mov_X11_votes tw_1411 hobq6 rfl ⟨Nat.le_of_ble_eq_true rfl, Nat.le_of_ble_eq_true rfl⟩ (Nat.le_of_ble_eq_true rfl) ?_
      refine gx_iload_n 2 dX11_felled_34 rfl rfl ?_
      refine gx_icmp_ne 41 dX11_felled_35 (by decide) (fun c6 => ?_) (fun c6 => ?_)
      · rw [if_neg c6] at h
        refine gx_iconst (v := (0 : Int32)) dX11_felled_41 ic_0 ?_
        refine gx_istore (lv' := [(5, .int (0 : Int32)), (0, .ref (Γ.B + pp l0)), (1, .int l1), (2, .int l2), (3, .int l3), (4, .int l4)]) dX11_felled_42 (Nat.le_of_ble_eq_true rfl) rfl ?_
        exact gx_sub [1, 2, 3, 4, 5, 0] rfl (s_X11_felled_44  N _ _ _ _ _ _ _ _ h)
      · rw [if_pos c6] at h
        refine gx_bipush (v := (-3 : Int32)) dX11_felled_38 ib_m3 ?_
        have h := Option.some.inj h
        subst h
        exact gx_iret dX11_felled_40 rfl (Nat.le_of_ble_eq_true rfl) (Nat.le_of_ble_eq_true rfl) ⟨rfl, rfl⟩
    · rw [if_pos c3] at h
      exact gx_sub [] rfl (s_X11_felled_18  h)
theorem c_X11_felled {Γ : Cn} {τ : Mm} {N : Nat} {l0 : Nat} {l1 : Int32} {l2 : Int32} {l3 : Int32} {l4 : Int32} {σ : Mm} {o : Int32 × Mm} (h : f_X11_felled N l0 l1 l2 l3 l4 σ = some o) : Ct Γ M_X11_felled yX11_felled 100 τ [.ref (Γ.B + pp l0), .int l1, .int l2, .int l3, .int l4] σ (PI o) := ct_of (by decide) rfl (fun _ => by first | rfl | contradiction) (Nat.le_of_ble_eq_true rfl) (s_X11_felled_0  h)
abbrev M_X11_oiled : Ms := (cX11_oiled, RX11, 11, (some .int), false, 0, 0, 4)
def f_X11_oiled_29 (N : Nat) (σ : Mm) : Option (Int32 × Mm) :=
  some ((-1 : Int32), σ)
def f_X11_oiled_205 (N : Nat) (r_137 : Nat → Int32 → Int32 → Int32 → Int32 → Int32 → Int32 → Int32 → Int32 → Mm → Option (Int32 × Mm)) (l0 : Nat) (l2 : Int32) (l4 : Int32) (l5 : Int32) (l6 : Int32) (l7 : Int32) (l8 : Int32) (l10 : Int32) (t0 : Int32) (t1 : Int32) (σ : Mm) : Option (Int32 × Mm) :=
  r_137 l0 l2 l4 l5 l6 l7 l8 (t0 + t1) (l10 + (1 : Int32)) σ
def f_X11_oiled_181 (N : Nat) (r_137 : Nat → Int32 → Int32 → Int32 → Int32 → Int32 → Int32 → Int32 → Int32 → Mm → Option (Int32 × Mm)) (l0 : Nat) (l2 : Int32) (l4 : Int32) (l5 : Int32) (l6 : Int32) (l7 : Int32) (l8 : Int32) (l9 : Int32) (l10 : Int32) (t0 : Nat) (t1 : Int32) (t2 : Int32) (σ : Mm) : Option (Int32 × Mm) :=
  (sI 113 σ t0 t1 t2).bind fun s1 =>
  (f_X11_isOf N l8 l10 s1).bind fun q2 =>
  if q2.1 = 0 then (
    f_X11_oiled_205 N r_137 l0 l2 l4 l5 l6 l7 l8 l10 l9 (0 : Int32) q2.2) else (
    (ob 11 q2.2 l0).bind fun _ =>
    (f_X11_cockOf N l0 l10 (2 : Int32) q2.2).bind fun q4 =>
    f_X11_oiled_205 N r_137 l0 l2 l4 l5 l6 l7 l8 l10 l9 q4.1 q4.2)
def f_X11_oiled_267 (N : Nat) (r_118 : Nat → Int32 → Int32 → Int32 → Int32 → Int32 → Int32 → Mm → Option (Int32 × Mm)) (l0 : Nat) (l2 : Int32) (l4 : Int32) (l5 : Int32) (l6 : Int32) (l7 : Int32) (l8 : Int32) (σ : Mm) : Option (Int32 × Mm) :=
  r_118 l0 l2 l4 l5 l6 l7 (l8 + (1 : Int32)) σ
def f_X11_oiled_246 (N : Nat) (r_118 : Nat → Int32 → Int32 → Int32 → Int32 → Int32 → Int32 → Mm → Option (Int32 × Mm)) (l0 : Nat) (l2 : Int32) (l4 : Int32) (l5 : Int32) (l6 : Int32) (l7 : Int32) (l8 : Int32) (l9 : Int32) (σ : Mm) : Option (Int32 × Mm) :=
  (ob 11 σ l0).bind fun _ =>
  (f_X11_votes N l0 l4 σ).bind fun q1 =>
  if q1.1 = l2 then (
    f_X11_oiled_267 N r_118 l0 l2 l4 l5 l8 l9 l8 q1.2) else (
    f_X11_oiled_267 N r_118 l0 l2 l4 l5 l6 l7 l8 q1.2)
def f_X11_oiled_137 (N : Nat) (r_118 : Nat → Int32 → Int32 → Int32 → Int32 → Int32 → Int32 → Mm → Option (Int32 × Mm)) : Nat → Nat → Int32 → Int32 → Int32 → Int32 → Int32 → Int32 → Int32 → Int32 → Mm → Option (Int32 × Mm)
  | 0, _, _, _, _, _, _, _, _, _, _ => none
  | n + 1, l0, l2, l4, l5, l6, l7, l8, l9, l10, σ =>
      (gN 11 24 σ l0).bind fun a1 =>
      (aI 113 σ a1 (0 : Int32)).bind fun x2 =>
      if x2 ≤ l10 then (
        if l6 < 0 then (
          f_X11_oiled_246 N r_118 l0 l2 l4 l5 l6 l7 l8 l9 σ) else (
          if l7 < l9 then (
            f_X11_oiled_267 N r_118 l0 l2 l4 l5 l6 l7 l8 σ) else (
            if l9 = l7 then (
              (f_X11_bits N l8 σ).bind fun q7 =>
              (f_X11_bits N l6 q7.2).bind fun q8 =>
              if q8.1 ≤ q7.1 then (
                f_X11_oiled_267 N r_118 l0 l2 l4 l5 l6 l7 l8 q8.2) else (
                f_X11_oiled_246 N r_118 l0 l2 l4 l5 l6 l7 l8 l9 q8.2)) else (
              f_X11_oiled_246 N r_118 l0 l2 l4 l5 l6 l7 l8 l9 σ)))) else (
        (gN 11 25 σ l0).bind fun a10 =>
        (f_X11_isOf N l8 l10 σ).bind fun q11 =>
        if q11.1 = 0 then (
          (gN 11 29 q11.2 l0).bind fun a13 =>
          (aI 113 q11.2 a13 l10).bind fun x14 =>
          f_X11_oiled_181 N (f_X11_oiled_137 N r_118 n) l0 l2 l4 l5 l6 l7 l8 l9 l10 a10 l10 x14 q11.2) else (
          (gN 11 30 q11.2 l0).bind fun a15 =>
          (aI 113 q11.2 a15 l10).bind fun x16 =>
          f_X11_oiled_181 N (f_X11_oiled_137 N r_118 n) l0 l2 l4 l5 l6 l7 l8 l9 l10 a10 l10 x16 q11.2))
def f_X11_oiled_285 (N : Nat) (t0 : Int32) (σ : Mm) : Option (Int32 × Mm) :=
  some (t0, σ)
def f_X11_oiled_118 (N : Nat) : Nat → Nat → Int32 → Int32 → Int32 → Int32 → Int32 → Int32 → Mm → Option (Int32 × Mm)
  | 0, _, _, _, _, _, _, _, _ => none
  | n + 1, l0, l2, l4, l5, l6, l7, l8, σ =>
      (gN 11 24 σ l0).bind fun a1 =>
      (aI 113 σ a1 (0 : Int32)).bind fun x2 =>
      if ((1 : Int32) <<< (x2 &&& 31)) ≤ l8 then (
        if l5 = 0 then (
          f_X11_oiled_285 N l7 σ) else (
          f_X11_oiled_285 N l6 σ)) else (
        f_X11_oiled_137 N (f_X11_oiled_118 N n) N l0 l2 l4 l5 l6 l7 l8 (0 : Int32) (0 : Int32) σ)
def f_X11_oiled_34 (N : Nat) : Nat → Nat → Int32 → Int32 → Int32 → Int32 → Int32 → Int32 → Mm → Option (Int32 × Mm)
  | 0, _, _, _, _, _, _, _, _ => none
  | n + 1, l0, l1, l2, l3, l4, l5, l6, σ =>
      (gN 11 24 σ l0).bind fun a1 =>
      (aI 113 σ a1 (0 : Int32)).bind fun x2 =>
      if x2 ≤ l6 then (
        f_X11_oiled_118 N N l0 l2 l4 l5 (-2 : Int32) (-2 : Int32) (0 : Int32) σ) else (
        (gN 11 29 σ l0).bind fun a4 =>
        (ob 11 σ l0).bind fun _ =>
        (f_X11_cockOf N l0 l6 (5 : Int32) σ).bind fun q5 =>
        (ob 11 q5.2 l0).bind fun _ =>
        (f_X11_cockOf N l0 l6 (2 : Int32) q5.2).bind fun q6 =>
        (ob 11 q6.2 l0).bind fun _ =>
        (f_X11_goesTo N l0 l1 l6 q5.1 l2 l3 q6.1 (-1 : Int32) q6.2).bind fun q7 =>
        (sI 113 q7.2 a4 l6 q7.1).bind fun s8 =>
        (gN 11 30 s8 l0).bind fun a9 =>
        (ob 11 s8 l0).bind fun _ =>
        (f_X11_cockOf N l0 l6 (5 : Int32) s8).bind fun q10 =>
        (ob 11 q10.2 l0).bind fun _ =>
        (f_X11_goesTo N l0 l1 l6 q10.1 l2 l3 (0 : Int32) (-1 : Int32) q10.2).bind fun q11 =>
        (sI 113 q11.2 a9 l6 q11.1).bind fun s12 =>
        f_X11_oiled_34 N n l0 l1 l2 l3 l4 l5 (l6 + (1 : Int32)) s12)
def f_X11_oiled (N : Nat) (l0 : Nat) (l1 : Int32) (l2 : Int32) (l3 : Int32) (l4 : Int32) (l5 : Int32) (σ : Mm) : Option (Int32 × Mm) :=
  (ob 11 σ l0).bind fun _ =>
  (f_X11_canBlow N l0 l1 l2 l3 σ).bind fun q1 =>
  if q1.1 = 0 then (
    f_X11_oiled_29 N q1.2) else (
    (f_X11_isWay N l4 q1.2).bind fun q3 =>
    if q3.1 = 0 then (
      f_X11_oiled_29 N q3.2) else (
      (f_X11_in N (Int32.toInt64 l5) (0 : Int64) (1 : Int64) q3.2).bind fun q5 =>
      if q5.1 = 0 then (
        f_X11_oiled_29 N q5.2) else (
        f_X11_oiled_34 N N l0 l1 l2 l3 l4 l5 (0 : Int32) q5.2)))
theorem mov_X11_oiled : MOV yX11_oiled M_X11_oiled 5 11 100 := ⟨⟨tw_107, tw_1525, ⟨by decide, by decide⟩, by decide +kernel⟩, tw_1523, tw_1524, by decide, ⟨_, rfl, rfl⟩, rfl⟩
set_option maxRecDepth 4000 in
theorem s_X11_oiled_29 {Γ : Cn} {τ : Mm} {N : Nat} {σ : Mm} {o : Int32 × Mm} (h : f_X11_oiled_29 N σ = some o) : Gx Γ M_X11_oiled 100 τ (PI o) 0 0 29 [] [] σ := by
  unfold f_X11_oiled_29 at h
  refine gx_iconst (v := (-1 : Int32)) dX11_oiled_29 ic_m1 ?_
  have h := Option.some.inj h
  subst h
  exact gx_iret dX11_oiled_30 rfl (Nat.le_of_ble_eq_true rfl) (Nat.le_of_ble_eq_true rfl) ⟨rfl, rfl⟩
set_option maxRecDepth 4000 in
theorem s_X11_oiled_205 {Γ : Cn} {τ : Mm} {N : Nat} {r_137 : Nat → Int32 → Int32 → Int32 → Int32 → Int32 → Int32 → Int32 → Int32 → Mm → Option (Int32 × Mm)} (hr_137 : ∀ (l0 : Nat) (l2 : Int32) (l4 : Int32) (l5 : Int32) (l6 : Int32) (l7 : Int32) (l8 : Int32) (l9 : Int32) (l10 : Int32) (σ : Mm) (o : Int32 × Mm), r_137 l0 l2 l4 l5 l6 l7 l8 l9 l10 σ = some o → Gx Γ M_X11_oiled 100 τ (PI o) 0 0 137 [(0, .ref (Γ.B + pp l0)), (2, .int l2), (4, .int l4), (5, .int l5), (6, .int l6), (7, .int l7), (8, .int l8), (9, .int l9), (10, .int l10)] [] σ) {l0 : Nat} {l2 : Int32} {l4 : Int32} {l5 : Int32} {l6 : Int32} {l7 : Int32} {l8 : Int32} {l10 : Int32} {t0 : Int32} {t1 : Int32} {σ : Mm} {o : Int32 × Mm} (h : f_X11_oiled_205 N r_137 l0 l2 l4 l5 l6 l7 l8 l10 t0 t1 σ = some o) : Gx Γ M_X11_oiled 100 τ (PI o) 0 0 205 [(0, .ref (Γ.B + pp l0)), (2, .int l2), (4, .int l4), (5, .int l5), (6, .int l6), (7, .int l7), (8, .int l8), (10, .int l10)] [.int t1, .int t0] σ := by
  unfold f_X11_oiled_205 at h
  refine gx_iadd dX11_oiled_205 ?_
  refine gx_istore (lv' := [(9, .int (t0 + t1)), (0, .ref (Γ.B + pp l0)), (2, .int l2), (4, .int l4), (5, .int l5), (6, .int l6), (7, .int l7), (8, .int l8), (10, .int l10)]) dX11_oiled_206 (Nat.le_of_ble_eq_true rfl) rfl ?_
  refine gx_iinc (v := (l10 + (1 : Int32))) (lv' := [(10, .int (l10 + (1 : Int32))), (9, .int (t0 + t1)), (0, .ref (Γ.B + pp l0)), (2, .int l2), (4, .int l4), (5, .int l5), (6, .int l6), (7, .int l7), (8, .int l8)]) 8 dX11_oiled_208 rfl (by rw [ic_1]) (Nat.le_of_ble_eq_true rfl) rfl ?_
  refine gx_goto 137 dX11_oiled_211 (by decide) ?_
  exact gx_sub [2, 3, 4, 5, 6, 7, 8, 1, 0] rfl (hr_137 _ _ _ _ _ _ _ _ _ _ _ h)
set_option maxRecDepth 4000 in
theorem s_X11_oiled_181 {Γ : Cn} {τ : Mm} {N : Nat} {r_137 : Nat → Int32 → Int32 → Int32 → Int32 → Int32 → Int32 → Int32 → Int32 → Mm → Option (Int32 × Mm)} (hr_137 : ∀ (l0 : Nat) (l2 : Int32) (l4 : Int32) (l5 : Int32) (l6 : Int32) (l7 : Int32) (l8 : Int32) (l9 : Int32) (l10 : Int32) (σ : Mm) (o : Int32 × Mm), r_137 l0 l2 l4 l5 l6 l7 l8 l9 l10 σ = some o → Gx Γ M_X11_oiled 100 τ (PI o) 0 0 137 [(0, .ref (Γ.B + pp l0)), (2, .int l2), (4, .int l4), (5, .int l5), (6, .int l6), (7, .int l7), (8, .int l8), (9, .int l9), (10, .int l10)] [] σ) {l0 : Nat} {l2 : Int32} {l4 : Int32} {l5 : Int32} {l6 : Int32} {l7 : Int32} {l8 : Int32} {l9 : Int32} {l10 : Int32} {t0 : Nat} {t1 : Int32} {t2 : Int32} {σ : Mm} {o : Int32 × Mm} (h : f_X11_oiled_181 N r_137 l0 l2 l4 l5 l6 l7 l8 l9 l10 t0 t1 t2 σ = some o) : Gx Γ M_X11_oiled 100 τ (PI o) 0 0 181 [(0, .ref (Γ.B + pp l0)), (2, .int l2), (4, .int l4), (5, .int l5), (6, .int l6), (7, .int l7), (8, .int l8), (9, .int l9), (10, .int l10)] [.int t2, .int t1, .ref (Γ.B + pp t0)] σ := by
  unfold f_X11_oiled_181 at h
  obtain ⟨s1, hs1, h⟩ := bnd h
  refine gx_iast (kd := 113) dX11_oiled_181 hs1 rfl rfl ?_
  refine gx_iload 7 dX11_oiled_182 rfl ?_
  refine gx_iload 6 dX11_oiled_184 rfl ?_
  refine gx_iload 8 dX11_oiled_186 rfl ?_
  obtain ⟨q2, hq2, h⟩ := bnd h
  refine gx_cSI (As := [.int l8, .int l10]) (st := [.int l9]) dX11_oiled_188 (c_X11_isOf hq2) mos_X11_isOf tw_1475 rfl ⟨Nat.le_of_ble_eq_true rfl, Nat.le_of_ble_eq_true rfl⟩ (Nat.le_of_ble_eq_true rfl) ?_
  refine gx_if_eq 204 dX11_oiled_191 (by decide) (fun c2 => ?_) (fun c2 => ?_)
  · rw [if_pos c2] at h
    refine gx_iconst (v := (0 : Int32)) dX11_oiled_204 ic_0 ?_
    exact gx_sub [0, 1, 2, 3, 4, 5, 6, 8] rfl (s_X11_oiled_205 hr_137 h)
  · rw [if_neg c2] at h
    refine gx_aload_n 0 dX11_oiled_194 rfl rfl ?_
    refine gx_iload 8 dX11_oiled_195 rfl ?_
    refine gx_iconst (v := (2 : Int32)) dX11_oiled_197 ic_2 ?_
    obtain ⟨_, hobq4, h⟩ := bnd h
    obtain ⟨q4, hq4, h⟩ := bnd h
    refine gx_cVI (As := [.int l10, .int (2 : Int32)]) (st := [.int l9]) (o := l0) dX11_oiled_198 (c_X11_cockOf hq4) mov_X11_cockOf tw_1296 hobq4 rfl ⟨Nat.le_of_ble_eq_true rfl, Nat.le_of_ble_eq_true rfl⟩ (Nat.le_of_ble_eq_true rfl) ?_
    refine gx_goto 205 dX11_oiled_201 (by decide) ?_
    exact gx_sub [0, 1, 2, 3, 4, 5, 6, 8] rfl (s_X11_oiled_205 hr_137 h)
set_option maxRecDepth 4000 in
theorem s_X11_oiled_267 {Γ : Cn} {τ : Mm} {N : Nat} {r_118 : Nat → Int32 → Int32 → Int32 → Int32 → Int32 → Int32 → Mm → Option (Int32 × Mm)} (hr_118 : ∀ (l0 : Nat) (l2 : Int32) (l4 : Int32) (l5 : Int32) (l6 : Int32) (l7 : Int32) (l8 : Int32) (σ : Mm) (o : Int32 × Mm), r_118 l0 l2 l4 l5 l6 l7 l8 σ = some o → Gx Γ M_X11_oiled 100 τ (PI o) 0 0 118 [(0, .ref (Γ.B + pp l0)), (2, .int l2), (4, .int l4), (5, .int l5), (6, .int l6), (7, .int l7), (8, .int l8)] [] σ) {l0 : Nat} {l2 : Int32} {l4 : Int32} {l5 : Int32} {l6 : Int32} {l7 : Int32} {l8 : Int32} {σ : Mm} {o : Int32 × Mm} (h : f_X11_oiled_267 N r_118 l0 l2 l4 l5 l6 l7 l8 σ = some o) : Gx Γ M_X11_oiled 100 τ (PI o) 0 0 267 [(0, .ref (Γ.B + pp l0)), (2, .int l2), (4, .int l4), (5, .int l5), (6, .int l6), (7, .int l7), (8, .int l8)] [] σ := by
  unfold f_X11_oiled_267 at h
  refine gx_iinc (v := (l8 + (1 : Int32))) (lv' := [(8, .int (l8 + (1 : Int32))), (0, .ref (Γ.B + pp l0)), (2, .int l2), (4, .int l4), (5, .int l5), (6, .int l6), (7, .int l7)]) 6 dX11_oiled_267 rfl (by rw [ic_1]) (Nat.le_of_ble_eq_true rfl) rfl ?_
  refine gx_goto 118 dX11_oiled_270 (by decide) ?_
  exact gx_sub [1, 2, 3, 4, 5, 6, 0] rfl (hr_118 _ _ _ _ _ _ _ _ _ h)
set_option maxRecDepth 4000 in
theorem s_X11_oiled_246 {Γ : Cn} {τ : Mm} {N : Nat} {r_118 : Nat → Int32 → Int32 → Int32 → Int32 → Int32 → Int32 → Mm → Option (Int32 × Mm)} (hr_118 : ∀ (l0 : Nat) (l2 : Int32) (l4 : Int32) (l5 : Int32) (l6 : Int32) (l7 : Int32) (l8 : Int32) (σ : Mm) (o : Int32 × Mm), r_118 l0 l2 l4 l5 l6 l7 l8 σ = some o → Gx Γ M_X11_oiled 100 τ (PI o) 0 0 118 [(0, .ref (Γ.B + pp l0)), (2, .int l2), (4, .int l4), (5, .int l5), (6, .int l6), (7, .int l7), (8, .int l8)] [] σ) {l0 : Nat} {l2 : Int32} {l4 : Int32} {l5 : Int32} {l6 : Int32} {l7 : Int32} {l8 : Int32} {l9 : Int32} {σ : Mm} {o : Int32 × Mm} (h : f_X11_oiled_246 N r_118 l0 l2 l4 l5 l6 l7 l8 l9 σ = some o) : Gx Γ M_X11_oiled 100 τ (PI o) 0 0 246 [(0, .ref (Γ.B + pp l0)), (2, .int l2), (4, .int l4), (5, .int l5), (6, .int l6), (7, .int l7), (8, .int l8), (9, .int l9)] [] σ := by
  unfold f_X11_oiled_246 at h
  refine gx_aload_n 0 dX11_oiled_246 rfl rfl ?_
  refine gx_iload 2 dX11_oiled_247 rfl ?_
  obtain ⟨_, hobq1, h⟩ := bnd h
  obtain ⟨q1, hq1, h⟩ := bnd h
  refine gx_cVI (As := [.int l4]) (st := []) (o := l0) dX11_oiled_249 (c_X11_votes hq1) mov_X11_votes tw_1411 hobq1 rfl ⟨Nat.le_of_ble_eq_true rfl, Nat.le_of_ble_eq_true rfl⟩ (Nat.le_of_ble_eq_true rfl) ?_
  refine gx_iload_n 1 dX11_oiled_252 rfl rfl ?_
  refine gx_icmp_eq 259 dX11_oiled_253 (by decide) (fun c1 => ?_) (fun c1 => ?_)
  · rw [if_pos c1] at h
    refine gx_iload 6 dX11_oiled_259 rfl ?_
    refine gx_istore (lv' := [(6, .int l8), (0, .ref (Γ.B + pp l0)), (2, .int l2), (4, .int l4), (5, .int l5), (7, .int l7), (8, .int l8), (9, .int l9)]) dX11_oiled_261 (Nat.le_of_ble_eq_true rfl) rfl ?_
    refine gx_iload 7 dX11_oiled_263 rfl ?_
    refine gx_istore (lv' := [(7, .int l9), (6, .int l8), (0, .ref (Γ.B + pp l0)), (2, .int l2), (4, .int l4), (5, .int l5), (8, .int l8), (9, .int l9)]) dX11_oiled_265 (Nat.le_of_ble_eq_true rfl) rfl ?_
    exact gx_sub [2, 3, 4, 5, 1, 0, 6] rfl (s_X11_oiled_267 hr_118 h)
  · rw [if_neg c1] at h
    refine gx_goto 267 dX11_oiled_256 (by decide) ?_
    exact gx_sub [0, 1, 2, 3, 4, 5, 6] rfl (s_X11_oiled_267 hr_118 h)
set_option maxRecDepth 4000 in
theorem s_X11_oiled_137 {Γ : Cn} {τ : Mm} {N : Nat} {r_118 : Nat → Int32 → Int32 → Int32 → Int32 → Int32 → Int32 → Mm → Option (Int32 × Mm)} (hr_118 : ∀ (l0 : Nat) (l2 : Int32) (l4 : Int32) (l5 : Int32) (l6 : Int32) (l7 : Int32) (l8 : Int32) (σ : Mm) (o : Int32 × Mm), r_118 l0 l2 l4 l5 l6 l7 l8 σ = some o → Gx Γ M_X11_oiled 100 τ (PI o) 0 0 118 [(0, .ref (Γ.B + pp l0)), (2, .int l2), (4, .int l4), (5, .int l5), (6, .int l6), (7, .int l7), (8, .int l8)] [] σ) : ∀ (n : Nat) (l0 : Nat) (l2 : Int32) (l4 : Int32) (l5 : Int32) (l6 : Int32) (l7 : Int32) (l8 : Int32) (l9 : Int32) (l10 : Int32) (σ : Mm) (o : Int32 × Mm), f_X11_oiled_137 N r_118 n l0 l2 l4 l5 l6 l7 l8 l9 l10 σ = some o → Gx Γ M_X11_oiled 100 τ (PI o) 0 0 137 [(0, .ref (Γ.B + pp l0)), (2, .int l2), (4, .int l4), (5, .int l5), (6, .int l6), (7, .int l7), (8, .int l8), (9, .int l9), (10, .int l10)] [] σ := by
  intro n
  induction n with
  | zero =>
    intro l0 l2 l4 l5 l6 l7 l8 l9 l10 σ o h
    exact absurd h (by rw [f_X11_oiled_137]; exact fun q => nomatch q)
  | succ n ih =>
    intro l0 l2 l4 l5 l6 l7 l8 l9 l10 σ o h
    rw [f_X11_oiled_137] at h
    refine gx_iload 8 dX11_oiled_137 rfl ?_
    refine gx_aload_n 0 dX11_oiled_139 rfl rfl ?_
    obtain ⟨a1, ha1, h⟩ := bnd h
    refine gx_getN dX11_oiled_140 ha1 fl_X11_45 rfl ?_
    refine gx_iconst (v := (0 : Int32)) dX11_oiled_143 ic_0 ?_
    obtain ⟨x2, hx2, h⟩ := bnd h
    refine gx_iald (kd := 113) dX11_oiled_144 hx2 rfl rfl ?_
    refine gx_icmp_ge 214 dX11_oiled_145 (by decide) (fun c2 => ?_) (fun c2 => ?_)
    · rw [if_pos c2] at h
      refine gx_iload 4 dX11_oiled_214 rfl ?_
      refine gx_if_lt 246 dX11_oiled_216 (by decide) (fun c3 => ?_) (fun c3 => ?_)
      · rw [if_pos c3] at h
        exact gx_sub [0, 1, 2, 3, 4, 5, 6, 7] rfl (s_X11_oiled_246 hr_118 h)
      · rw [if_neg c3] at h
        refine gx_iload 7 dX11_oiled_219 rfl ?_
        refine gx_iload 5 dX11_oiled_221 rfl ?_
        refine gx_icmp_gt 267 dX11_oiled_223 (by decide) (fun c4 => ?_) (fun c4 => ?_)
        · rw [if_pos c4] at h
          exact gx_sub [0, 1, 2, 3, 4, 5, 6] rfl (s_X11_oiled_267 hr_118 h)
        · rw [if_neg c4] at h
          refine gx_iload 7 dX11_oiled_226 rfl ?_
          refine gx_iload 5 dX11_oiled_228 rfl ?_
          refine gx_icmp_ne 246 dX11_oiled_230 (by decide) (fun c5 => ?_) (fun c5 => ?_)
          · rw [if_neg c5] at h
            exact gx_sub [0, 1, 2, 3, 4, 5, 6, 7] rfl (s_X11_oiled_246 hr_118 h)
          · rw [if_pos c5] at h
            refine gx_iload 6 dX11_oiled_233 rfl ?_
            obtain ⟨q7, hq7, h⟩ := bnd h
            refine gx_cSI (As := [.int l8]) (st := []) dX11_oiled_235 (c_X11_bits hq7) mos_X11_bits tw_1478 rfl ⟨Nat.le_of_ble_eq_true rfl, Nat.le_of_ble_eq_true rfl⟩ (Nat.le_of_ble_eq_true rfl) ?_
            refine gx_iload 4 dX11_oiled_238 rfl ?_
            obtain ⟨q8, hq8, h⟩ := bnd h
            refine gx_cSI (As := [.int l6]) (st := [.int q7.1]) dX11_oiled_240 (c_X11_bits hq8) mos_X11_bits tw_1478 rfl ⟨Nat.le_of_ble_eq_true rfl, Nat.le_of_ble_eq_true rfl⟩ (Nat.le_of_ble_eq_true rfl) ?_
            refine gx_icmp_ge 267 dX11_oiled_243 (by decide) (fun c8 => ?_) (fun c8 => ?_)
            · rw [if_pos c8] at h
              exact gx_sub [0, 1, 2, 3, 4, 5, 6] rfl (s_X11_oiled_267 hr_118 h)
            · rw [if_neg c8] at h
              exact gx_sub [0, 1, 2, 3, 4, 5, 6, 7] rfl (s_X11_oiled_246 hr_118 h)
    · rw [if_neg c2] at h
      refine gx_aload_n 0 dX11_oiled_148 rfl rfl ?_
      obtain ⟨a10, ha10, h⟩ := bnd h
      refine gx_getN dX11_oiled_149 ha10 fl_X11_48 rfl ?_
      refine gx_iload 8 dX11_oiled_152 rfl ?_
      refine gx_iload 6 dX11_oiled_154 rfl ?_
      refine gx_iload 8 dX11_oiled_156 rfl ?_
      obtain ⟨q11, hq11, h⟩ := bnd h
      refine gx_cSI (As := [.int l8, .int l10]) (st := [.int l10, .ref (Γ.B + pp a10)]) dX11_oiled_158 (c_X11_isOf hq11) mos_X11_isOf tw_1475 rfl ⟨Nat.le_of_ble_eq_true rfl, Nat.le_of_ble_eq_true rfl⟩ (Nat.le_of_ble_eq_true rfl) ?_
      refine gx_if_eq 174 dX11_oiled_161 (by decide) (fun c11 => ?_) (fun c11 => ?_)
      · rw [if_pos c11] at h
        refine gx_aload_n 0 dX11_oiled_174 rfl rfl ?_
        obtain ⟨a13, ha13, h⟩ := bnd h
        refine gx_getN dX11_oiled_175 ha13 fl_X11_57 rfl ?_
        refine gx_iload 8 dX11_oiled_178 rfl ?_
        obtain ⟨x14, hx14, h⟩ := bnd h
        refine gx_iald (kd := 113) dX11_oiled_180 hx14 rfl rfl ?_
        exact s_X11_oiled_181 ih h
      · rw [if_neg c11] at h
        refine gx_aload_n 0 dX11_oiled_164 rfl rfl ?_
        obtain ⟨a15, ha15, h⟩ := bnd h
        refine gx_getN dX11_oiled_165 ha15 fl_X11_60 rfl ?_
        refine gx_iload 8 dX11_oiled_168 rfl ?_
        obtain ⟨x16, hx16, h⟩ := bnd h
        refine gx_iald (kd := 113) dX11_oiled_170 hx16 rfl rfl ?_
        refine gx_goto 181 dX11_oiled_171 (by decide) ?_
        exact s_X11_oiled_181 ih h
set_option maxRecDepth 4000 in
theorem s_X11_oiled_285 {Γ : Cn} {τ : Mm} {N : Nat} {t0 : Int32} {σ : Mm} {o : Int32 × Mm} (h : f_X11_oiled_285 N t0 σ = some o) : Gx Γ M_X11_oiled 100 τ (PI o) 0 0 285 [] [.int t0] σ := by
  unfold f_X11_oiled_285 at h
  have h := Option.some.inj h
  subst h
  exact gx_iret dX11_oiled_285 rfl (Nat.le_of_ble_eq_true rfl) (Nat.le_of_ble_eq_true rfl) ⟨rfl, rfl⟩
set_option maxRecDepth 4000 in
theorem s_X11_oiled_118 {Γ : Cn} {τ : Mm} {N : Nat} : ∀ (n : Nat) (l0 : Nat) (l2 : Int32) (l4 : Int32) (l5 : Int32) (l6 : Int32) (l7 : Int32) (l8 : Int32) (σ : Mm) (o : Int32 × Mm), f_X11_oiled_118 N n l0 l2 l4 l5 l6 l7 l8 σ = some o → Gx Γ M_X11_oiled 100 τ (PI o) 0 0 118 [(0, .ref (Γ.B + pp l0)), (2, .int l2), (4, .int l4), (5, .int l5), (6, .int l6), (7, .int l7), (8, .int l8)] [] σ := by
  intro n
  induction n with
  | zero =>
    intro l0 l2 l4 l5 l6 l7 l8 σ o h
    exact absurd h (by rw [f_X11_oiled_118]; exact fun q => nomatch q)
  | succ n ih =>
    intro l0 l2 l4 l5 l6 l7 l8 σ o h
    rw [f_X11_oiled_118] at h
    refine gx_iload 6 dX11_oiled_118 rfl ?_
    refine gx_iconst (v := (1 : Int32)) dX11_oiled_120 ic_1 ?_
    refine gx_aload_n 0 dX11_oiled_121 rfl rfl ?_
    obtain ⟨a1, ha1, h⟩ := bnd h
    refine gx_getN dX11_oiled_122 ha1 fl_X11_45 rfl ?_
    refine gx_iconst (v := (0 : Int32)) dX11_oiled_125 ic_0 ?_
    obtain ⟨x2, hx2, h⟩ := bnd h
    refine gx_iald (kd := 113) dX11_oiled_126 hx2 rfl rfl ?_
    refine gx_ishl dX11_oiled_127 ?_
    refine gx_icmp_ge 273 dX11_oiled_128 (by decide) (fun c2 => ?_) (fun c2 => ?_)
    · rw [if_pos c2] at h
      refine gx_iload 3 dX11_oiled_273 rfl ?_
      refine gx_if_ne 283 dX11_oiled_275 (by decide) (fun c3 => ?_) (fun c3 => ?_)
      · rw [if_neg c3] at h
        refine gx_iload 4 dX11_oiled_283 rfl ?_
        exact gx_sub [] rfl (s_X11_oiled_285  h)
      · rw [if_pos c3] at h
        refine gx_iload 5 dX11_oiled_278 rfl ?_
        refine gx_goto 285 dX11_oiled_280 (by decide) ?_
        exact gx_sub [] rfl (s_X11_oiled_285  h)
    · rw [if_neg c2] at h
      refine gx_iconst (v := (0 : Int32)) dX11_oiled_131 ic_0 ?_
      refine gx_istore (lv' := [(9, .int (0 : Int32)), (0, .ref (Γ.B + pp l0)), (2, .int l2), (4, .int l4), (5, .int l5), (6, .int l6), (7, .int l7), (8, .int l8)]) dX11_oiled_132 (Nat.le_of_ble_eq_true rfl) rfl ?_
      refine gx_iconst (v := (0 : Int32)) dX11_oiled_134 ic_0 ?_
      refine gx_istore (lv' := [(10, .int (0 : Int32)), (9, .int (0 : Int32)), (0, .ref (Γ.B + pp l0)), (2, .int l2), (4, .int l4), (5, .int l5), (6, .int l6), (7, .int l7), (8, .int l8)]) dX11_oiled_135 (Nat.le_of_ble_eq_true rfl) rfl ?_
      exact gx_sub [2, 3, 4, 5, 6, 7, 8, 1, 0] rfl (s_X11_oiled_137 ih N _ _ _ _ _ _ _ _ _ _ _ h)
set_option maxRecDepth 4000 in
theorem s_X11_oiled_34 {Γ : Cn} {τ : Mm} {N : Nat} : ∀ (n : Nat) (l0 : Nat) (l1 : Int32) (l2 : Int32) (l3 : Int32) (l4 : Int32) (l5 : Int32) (l6 : Int32) (σ : Mm) (o : Int32 × Mm), f_X11_oiled_34 N n l0 l1 l2 l3 l4 l5 l6 σ = some o → Gx Γ M_X11_oiled 100 τ (PI o) 0 0 34 [(0, .ref (Γ.B + pp l0)), (1, .int l1), (2, .int l2), (3, .int l3), (4, .int l4), (5, .int l5), (6, .int l6)] [] σ := by
  intro n
  induction n with
  | zero =>
    intro l0 l1 l2 l3 l4 l5 l6 σ o h
    exact absurd h (by rw [f_X11_oiled_34]; exact fun q => nomatch q)
  | succ n ih =>
    intro l0 l1 l2 l3 l4 l5 l6 σ o h
    rw [f_X11_oiled_34] at h
    refine gx_iload 6 dX11_oiled_34 rfl ?_
    refine gx_aload_n 0 dX11_oiled_36 rfl rfl ?_
    obtain ⟨a1, ha1, h⟩ := bnd h
    refine gx_getN dX11_oiled_37 ha1 fl_X11_45 rfl ?_
    refine gx_iconst (v := (0 : Int32)) dX11_oiled_40 ic_0 ?_
    obtain ⟨x2, hx2, h⟩ := bnd h
    refine gx_iald (kd := 113) dX11_oiled_41 hx2 rfl rfl ?_
    refine gx_icmp_ge 107 dX11_oiled_42 (by decide) (fun c2 => ?_) (fun c2 => ?_)
    · rw [if_pos c2] at h
      refine gx_bipush (v := (-2 : Int32)) dX11_oiled_107 ib_m2 ?_
      refine gx_istore (lv' := [(6, .int (-2 : Int32)), (0, .ref (Γ.B + pp l0)), (1, .int l1), (2, .int l2), (3, .int l3), (4, .int l4), (5, .int l5)]) dX11_oiled_109 (Nat.le_of_ble_eq_true rfl) rfl ?_
      refine gx_bipush (v := (-2 : Int32)) dX11_oiled_111 ib_m2 ?_
      refine gx_istore (lv' := [(7, .int (-2 : Int32)), (6, .int (-2 : Int32)), (0, .ref (Γ.B + pp l0)), (1, .int l1), (2, .int l2), (3, .int l3), (4, .int l4), (5, .int l5)]) dX11_oiled_113 (Nat.le_of_ble_eq_true rfl) rfl ?_
      refine gx_iconst (v := (0 : Int32)) dX11_oiled_115 ic_0 ?_
      refine gx_istore (lv' := [(8, .int (0 : Int32)), (7, .int (-2 : Int32)), (6, .int (-2 : Int32)), (0, .ref (Γ.B + pp l0)), (1, .int l1), (2, .int l2), (3, .int l3), (4, .int l4), (5, .int l5)]) dX11_oiled_116 (Nat.le_of_ble_eq_true rfl) rfl ?_
      exact gx_sub [3, 5, 7, 8, 2, 1, 0] rfl (s_X11_oiled_118  N _ _ _ _ _ _ _ _ _ h)
    · rw [if_neg c2] at h
      refine gx_aload_n 0 dX11_oiled_45 rfl rfl ?_
      obtain ⟨a4, ha4, h⟩ := bnd h
      refine gx_getN dX11_oiled_46 ha4 fl_X11_57 rfl ?_
      refine gx_iload 6 dX11_oiled_49 rfl ?_
      refine gx_aload_n 0 dX11_oiled_51 rfl rfl ?_
      refine gx_iload_n 1 dX11_oiled_52 rfl rfl ?_
      refine gx_iload 6 dX11_oiled_53 rfl ?_
      refine gx_aload_n 0 dX11_oiled_55 rfl rfl ?_
      refine gx_iload 6 dX11_oiled_56 rfl ?_
      refine gx_iconst (v := (5 : Int32)) dX11_oiled_58 ic_5 ?_
      obtain ⟨_, hobq5, h⟩ := bnd h
      obtain ⟨q5, hq5, h⟩ := bnd h
      refine gx_cVI (As := [.int l6, .int (5 : Int32)]) (st := [.int l6, .int l1, .ref (Γ.B + pp l0), .int l6, .ref (Γ.B + pp a4)]) (o := l0) dX11_oiled_59 (c_X11_cockOf hq5) mov_X11_cockOf tw_1296 hobq5 rfl ⟨Nat.le_of_ble_eq_true rfl, Nat.le_of_ble_eq_true rfl⟩ (Nat.le_of_ble_eq_true rfl) ?_
      refine gx_iload_n 2 dX11_oiled_62 rfl rfl ?_
      refine gx_iload_n 3 dX11_oiled_63 rfl rfl ?_
      refine gx_aload_n 0 dX11_oiled_64 rfl rfl ?_
      refine gx_iload 6 dX11_oiled_65 rfl ?_
      refine gx_iconst (v := (2 : Int32)) dX11_oiled_67 ic_2 ?_
      obtain ⟨_, hobq6, h⟩ := bnd h
      obtain ⟨q6, hq6, h⟩ := bnd h
      refine gx_cVI (As := [.int l6, .int (2 : Int32)]) (st := [.int l3, .int l2, .int q5.1, .int l6, .int l1, .ref (Γ.B + pp l0), .int l6, .ref (Γ.B + pp a4)]) (o := l0) dX11_oiled_68 (c_X11_cockOf hq6) mov_X11_cockOf tw_1296 hobq6 rfl ⟨Nat.le_of_ble_eq_true rfl, Nat.le_of_ble_eq_true rfl⟩ (Nat.le_of_ble_eq_true rfl) ?_
      refine gx_iconst (v := (-1 : Int32)) dX11_oiled_71 ic_m1 ?_
      obtain ⟨_, hobq7, h⟩ := bnd h
      obtain ⟨q7, hq7, h⟩ := bnd h
      refine gx_cVI (As := [.int l1, .int l6, .int q5.1, .int l2, .int l3, .int q6.1, .int (-1 : Int32)]) (st := [.int l6, .ref (Γ.B + pp a4)]) (o := l0) dX11_oiled_72 (c_X11_goesTo hq7) mov_X11_goesTo tw_1348 hobq7 rfl ⟨Nat.le_of_ble_eq_true rfl, Nat.le_of_ble_eq_true rfl⟩ (Nat.le_of_ble_eq_true rfl) ?_
      obtain ⟨s8, hs8, h⟩ := bnd h
      refine gx_iast (kd := 113) dX11_oiled_75 hs8 rfl rfl ?_
      refine gx_aload_n 0 dX11_oiled_76 rfl rfl ?_
      obtain ⟨a9, ha9, h⟩ := bnd h
      refine gx_getN dX11_oiled_77 ha9 fl_X11_60 rfl ?_
      refine gx_iload 6 dX11_oiled_80 rfl ?_
      refine gx_aload_n 0 dX11_oiled_82 rfl rfl ?_
      refine gx_iload_n 1 dX11_oiled_83 rfl rfl ?_
      refine gx_iload 6 dX11_oiled_84 rfl ?_
      refine gx_aload_n 0 dX11_oiled_86 rfl rfl ?_
      refine gx_iload 6 dX11_oiled_87 rfl ?_
      refine gx_iconst (v := (5 : Int32)) dX11_oiled_89 ic_5 ?_
      obtain ⟨_, hobq10, h⟩ := bnd h
      obtain ⟨q10, hq10, h⟩ := bnd h
      refine gx_cVI (As := [.int l6, .int (5 : Int32)]) (st := [.int l6, .int l1, .ref (Γ.B + pp l0), .int l6, .ref (Γ.B + pp a9)]) (o := l0) dX11_oiled_90 (c_X11_cockOf hq10) mov_X11_cockOf tw_1296 hobq10 rfl ⟨Nat.le_of_ble_eq_true rfl, Nat.le_of_ble_eq_true rfl⟩ (Nat.le_of_ble_eq_true rfl) ?_
      refine gx_iload_n 2 dX11_oiled_93 rfl rfl ?_
      refine gx_iload_n 3 dX11_oiled_94 rfl rfl ?_
      refine gx_iconst (v := (0 : Int32)) dX11_oiled_95 ic_0 ?_
      refine gx_iconst (v := (-1 : Int32)) dX11_oiled_96 ic_m1 ?_
      obtain ⟨_, hobq11, h⟩ := bnd h
      obtain ⟨q11, hq11, h⟩ := bnd h
      refine gx_cVI (As := [.int l1, .int l6, .int q10.1, .int l2, .int l3, .int (0 : Int32), .int (-1 : Int32)]) (st := [.int l6, .ref (Γ.B + pp a9)]) (o := l0) dX11_oiled_97 (c_X11_goesTo hq11) mov_X11_goesTo tw_1348 hobq11 rfl ⟨Nat.le_of_ble_eq_true rfl, Nat.le_of_ble_eq_true rfl⟩ (Nat.le_of_ble_eq_true rfl) ?_
      obtain ⟨s12, hs12, h⟩ := bnd h
      refine gx_iast (kd := 113) dX11_oiled_100 hs12 rfl rfl ?_
      refine gx_iinc (v := (l6 + (1 : Int32))) (lv' := [(6, .int (l6 + (1 : Int32))), (0, .ref (Γ.B + pp l0)), (1, .int l1), (2, .int l2), (3, .int l3), (4, .int l4), (5, .int l5)]) 6 dX11_oiled_101 rfl (by rw [ic_1]) (Nat.le_of_ble_eq_true rfl) rfl ?_
      refine gx_goto 34 dX11_oiled_104 (by decide) ?_
      exact gx_sub [1, 2, 3, 4, 5, 6, 0] rfl (ih _ _ _ _ _ _ _ _ _ h)
set_option maxRecDepth 4000 in
theorem s_X11_oiled_0 {Γ : Cn} {τ : Mm} {N : Nat} {l0 : Nat} {l1 : Int32} {l2 : Int32} {l3 : Int32} {l4 : Int32} {l5 : Int32} {σ : Mm} {o : Int32 × Mm} (h : f_X11_oiled N l0 l1 l2 l3 l4 l5 σ = some o) : Gx Γ M_X11_oiled 100 τ (PI o) 0 0 0 [(0, .ref (Γ.B + pp l0)), (1, .int l1), (2, .int l2), (3, .int l3), (4, .int l4), (5, .int l5)] [] σ := by
  unfold f_X11_oiled at h
  refine gx_aload_n 0 dX11_oiled_0 rfl rfl ?_
  refine gx_iload_n 1 dX11_oiled_1 rfl rfl ?_
  refine gx_iload_n 2 dX11_oiled_2 rfl rfl ?_
  refine gx_iload_n 3 dX11_oiled_3 rfl rfl ?_
  obtain ⟨_, hobq1, h⟩ := bnd h
  obtain ⟨q1, hq1, h⟩ := bnd h
  refine gx_cVI (As := [.int l1, .int l2, .int l3]) (st := []) (o := l0) dX11_oiled_4 (c_X11_canBlow hq1) mov_X11_canBlow tw_1339 hobq1 rfl ⟨Nat.le_of_ble_eq_true rfl, Nat.le_of_ble_eq_true rfl⟩ (Nat.le_of_ble_eq_true rfl) ?_
  refine gx_if_eq 29 dX11_oiled_7 (by decide) (fun c1 => ?_) (fun c1 => ?_)
  · rw [if_pos c1] at h
    exact gx_sub [] rfl (s_X11_oiled_29  h)
  · rw [if_neg c1] at h
    refine gx_iload 4 dX11_oiled_10 rfl ?_
    obtain ⟨q3, hq3, h⟩ := bnd h
    refine gx_cSI (As := [.int l4]) (st := []) dX11_oiled_12 (c_X11_isWay hq3) mos_X11_isWay tw_1404 rfl ⟨Nat.le_of_ble_eq_true rfl, Nat.le_of_ble_eq_true rfl⟩ (Nat.le_of_ble_eq_true rfl) ?_
    refine gx_if_eq 29 dX11_oiled_15 (by decide) (fun c3 => ?_) (fun c3 => ?_)
    · rw [if_pos c3] at h
      exact gx_sub [] rfl (s_X11_oiled_29  h)
    · rw [if_neg c3] at h
      refine gx_iload 5 dX11_oiled_18 rfl ?_
      refine gx_i2l dX11_oiled_20 ?_
      refine gx_lconst (v := (0 : Int64)) dX11_oiled_21 (by decide) ?_
      refine gx_lconst (v := (1 : Int64)) dX11_oiled_22 (by decide) ?_
      obtain ⟨q5, hq5, h⟩ := bnd h
      refine gx_cSI (As := [.long (Int32.toInt64 l5), .long (0 : Int64), .long (1 : Int64)]) (st := []) dX11_oiled_23 (c_X11_in hq5) mos_X11_in tw_1206 rfl ⟨Nat.le_of_ble_eq_true rfl, Nat.le_of_ble_eq_true rfl⟩ (Nat.le_of_ble_eq_true rfl) ?_
      refine gx_if_ne 31 dX11_oiled_26 (by decide) (fun c5 => ?_) (fun c5 => ?_)
      · rw [if_neg c5] at h
        refine gx_iconst (v := (0 : Int32)) dX11_oiled_31 ic_0 ?_
        refine gx_istore (lv' := [(6, .int (0 : Int32)), (0, .ref (Γ.B + pp l0)), (1, .int l1), (2, .int l2), (3, .int l3), (4, .int l4), (5, .int l5)]) dX11_oiled_32 (Nat.le_of_ble_eq_true rfl) rfl ?_
        exact gx_sub [1, 2, 3, 4, 5, 6, 0] rfl (s_X11_oiled_34  N _ _ _ _ _ _ _ _ _ h)
      · rw [if_pos c5] at h
        exact gx_sub [] rfl (s_X11_oiled_29  h)
theorem c_X11_oiled {Γ : Cn} {τ : Mm} {N : Nat} {l0 : Nat} {l1 : Int32} {l2 : Int32} {l3 : Int32} {l4 : Int32} {l5 : Int32} {σ : Mm} {o : Int32 × Mm} (h : f_X11_oiled N l0 l1 l2 l3 l4 l5 σ = some o) : Ct Γ M_X11_oiled yX11_oiled 100 τ [.ref (Γ.B + pp l0), .int l1, .int l2, .int l3, .int l4, .int l5] σ (PI o) := ct_of (by decide) rfl (fun _ => by first | rfl | contradiction) (Nat.le_of_ble_eq_true rfl) (s_X11_oiled_0  h)
abbrev M_X11_bestPoint : Ms := (cX11_bestPoint, RX11, 12, (some .int), false, 0, 0, 5)
def f_X11_bestPoint_51 (N : Nat) (σ : Mm) : Option (Int32 × Mm) :=
  some ((-1 : Int32), σ)
def f_X11_bestPoint_91 (N : Nat) (r_59 : Nat → Int32 → Int32 → Int32 → Int32 → Int32 → Int32 → Mm → Option (Int32 × Mm)) (l0 : Nat) (l1 : Int32) (l2 : Int32) (l3 : Int32) (l4 : Int32) (l6 : Int32) (t0 : Int32) (t1 : Int32) (σ : Mm) : Option (Int32 × Mm) :=
  r_59 l0 l1 l2 l3 l4 (t0 ||| t1) (l6 + (1 : Int32)) σ
def f_X11_bestPoint_213 (N : Nat) (r_124 : Nat → Int32 → Int32 → Int32 → Int32 → Int32 → Int32 → Int32 → Int32 → Int32 → Mm → Option (Int32 × Mm)) (l0 : Nat) (l1 : Int32) (l2 : Int32) (l3 : Int32) (l4 : Int32) (l5 : Int32) (l6 : Int32) (l7 : Int32) (l8 : Int32) (l9 : Int32) (σ : Mm) : Option (Int32 × Mm) :=
  r_124 l0 l1 l2 l3 l4 l5 l6 l7 l8 (l9 + (1 : Int32)) σ
def f_X11_bestPoint_205 (N : Nat) (r_124 : Nat → Int32 → Int32 → Int32 → Int32 → Int32 → Int32 → Int32 → Int32 → Int32 → Mm → Option (Int32 × Mm)) (l0 : Nat) (l1 : Int32) (l2 : Int32) (l3 : Int32) (l4 : Int32) (l5 : Int32) (l6 : Int32) (l9 : Int32) (l11 : Int32) (σ : Mm) : Option (Int32 × Mm) :=
  f_X11_bestPoint_213 N r_124 l0 l1 l2 l3 l4 l5 l6 l9 l11 l9 σ
def f_X11_bestPoint_187 (N : Nat) (r_124 : Nat → Int32 → Int32 → Int32 → Int32 → Int32 → Int32 → Int32 → Int32 → Int32 → Mm → Option (Int32 × Mm)) (l0 : Nat) (l1 : Int32) (l2 : Int32) (l3 : Int32) (l4 : Int32) (l5 : Int32) (l6 : Int32) (l7 : Int32) (l8 : Int32) (l9 : Int32) (t0 : Int32) (t1 : Int32) (σ : Mm) : Option (Int32 × Mm) :=
  if l7 < 0 then (
    f_X11_bestPoint_205 N r_124 l0 l1 l2 l3 l4 l5 l6 l9 (t0 - t1) σ) else (
    if l8 < (t0 - t1) then (
      f_X11_bestPoint_205 N r_124 l0 l1 l2 l3 l4 l5 l6 l9 (t0 - t1) σ) else (
      f_X11_bestPoint_213 N r_124 l0 l1 l2 l3 l4 l5 l6 l7 l8 l9 σ))
def f_X11_bestPoint_165 (N : Nat) (r_124 : Nat → Int32 → Int32 → Int32 → Int32 → Int32 → Int32 → Int32 → Int32 → Int32 → Mm → Option (Int32 × Mm)) (l0 : Nat) (l1 : Int32) (l2 : Int32) (l3 : Int32) (l4 : Int32) (l5 : Int32) (l6 : Int32) (l7 : Int32) (l8 : Int32) (l9 : Int32) (σ : Mm) : Option (Int32 × Mm) :=
  (ob 11 σ l0).bind fun _ =>
  (f_X11_worth N l0 l2 l9 σ).bind fun q1 =>
  if l9 = l6 then (
    f_X11_bestPoint_187 N r_124 l0 l1 l2 l3 l4 l5 l6 l7 l8 l9 q1.1 (0 : Int32) q1.2) else (
    (gI 11 28 q1.2 l0).bind fun x3 =>
    f_X11_bestPoint_187 N r_124 l0 l1 l2 l3 l4 l5 l6 l7 l8 l9 q1.1 x3 q1.2)
def f_X11_bestPoint_231 (N : Nat) (t0 : Int32) (σ : Mm) : Option (Int32 × Mm) :=
  some (t0, σ)
def f_X11_bestPoint_124 (N : Nat) : Nat → Nat → Int32 → Int32 → Int32 → Int32 → Int32 → Int32 → Int32 → Int32 → Int32 → Mm → Option (Int32 × Mm)
  | 0, _, _, _, _, _, _, _, _, _, _, _ => none
  | n + 1, l0, l1, l2, l3, l4, l5, l6, l7, l8, l9, σ =>
      if (8 : Int32) ≤ l9 then (
        if l4 = 0 then (
          f_X11_bestPoint_231 N l7 σ) else (
          f_X11_bestPoint_231 N l8 σ)) else (
        (ob 11 σ l0).bind fun _ =>
        (f_X11_cheapestSet N l0 l1 l9 l5 σ).bind fun q3 =>
        if l9 = l6 then (
          f_X11_bestPoint_165 N (f_X11_bestPoint_124 N n) l0 l1 l2 l3 l4 l5 l6 l7 l8 l9 q3.2) else (
          if q3.1 < 0 then (
            f_X11_bestPoint_213 N (f_X11_bestPoint_124 N n) l0 l1 l2 l3 l4 l5 l6 l7 l8 l9 q3.2) else (
            (gI 11 28 q3.2 l0).bind fun x6 =>
            if x6 ≤ l3 then (
              f_X11_bestPoint_165 N (f_X11_bestPoint_124 N n) l0 l1 l2 l3 l4 l5 l6 l7 l8 l9 q3.2) else (
              f_X11_bestPoint_213 N (f_X11_bestPoint_124 N n) l0 l1 l2 l3 l4 l5 l6 l7 l8 l9 q3.2))))
def f_X11_bestPoint_59 (N : Nat) : Nat → Nat → Int32 → Int32 → Int32 → Int32 → Int32 → Int32 → Mm → Option (Int32 × Mm)
  | 0, _, _, _, _, _, _, _, _ => none
  | n + 1, l0, l1, l2, l3, l4, l5, l6, σ =>
      (gN 11 24 σ l0).bind fun a1 =>
      (aI 113 σ a1 (0 : Int32)).bind fun x2 =>
      if x2 ≤ l6 then (
        (ob 11 σ l0).bind fun _ =>
        (f_X11_asTheyAre N l0 σ).bind fun q4 =>
        (ob 11 q4 l0).bind fun _ =>
        (f_X11_keepsRow N l0 q4).bind fun q5 =>
        (ob 11 q5 l0).bind fun _ =>
        (f_X11_votes N l0 l1 q5).bind fun q6 =>
        f_X11_bestPoint_124 N N l0 l1 l2 l3 l4 l5 q6.1 (-1 : Int32) (0 : Int32) (0 : Int32) q6.2) else (
        (ob 11 σ l0).bind fun _ =>
        (f_X11_cockOf N l0 l6 (4 : Int32) σ).bind fun q7 =>
        if q7.1 = l2 then (
          f_X11_bestPoint_91 N (f_X11_bestPoint_59 N n) l0 l1 l2 l3 l4 l6 l5 (0 : Int32) q7.2) else (
          f_X11_bestPoint_91 N (f_X11_bestPoint_59 N n) l0 l1 l2 l3 l4 l6 l5 ((1 : Int32) <<< (l6 &&& 31)) q7.2))
def f_X11_bestPoint (N : Nat) (l0 : Nat) (l1 : Int32) (l2 : Int32) (l3 : Int32) (l4 : Int32) (σ : Mm) : Option (Int32 × Mm) :=
  (gN 11 24 σ l0).bind fun a1 =>
  (aI 113 σ a1 (0 : Int32)).bind fun x2 =>
  if x2 = 0 then (
    f_X11_bestPoint_51 N σ) else (
    (f_X11_isWay N l1 σ).bind fun q4 =>
    if q4.1 = 0 then (
      f_X11_bestPoint_51 N q4.2) else (
      (f_X11_in N (Int32.toInt64 l2) (0 : Int64) (3 : Int64) q4.2).bind fun q6 =>
      if q6.1 = 0 then (
        f_X11_bestPoint_51 N q6.2) else (
        (f_X11_in N (Int32.toInt64 l3) (0 : Int64) (9999 : Int64) q6.2).bind fun q8 =>
        if q8.1 = 0 then (
          f_X11_bestPoint_51 N q8.2) else (
          (f_X11_in N (Int32.toInt64 l4) (0 : Int64) (1 : Int64) q8.2).bind fun q10 =>
          if q10.1 = 0 then (
            f_X11_bestPoint_51 N q10.2) else (
            f_X11_bestPoint_59 N N l0 l1 l2 l3 l4 (0 : Int32) (0 : Int32) q10.2)))))
theorem mov_X11_bestPoint : MOV yX11_bestPoint M_X11_bestPoint 4 11 100 := ⟨⟨tw_107, tw_1529, ⟨by decide, by decide⟩, by decide +kernel⟩, tw_1527, tw_1528, by decide, ⟨_, rfl, rfl⟩, rfl⟩
set_option maxRecDepth 4000 in
theorem s_X11_bestPoint_51 {Γ : Cn} {τ : Mm} {N : Nat} {σ : Mm} {o : Int32 × Mm} (h : f_X11_bestPoint_51 N σ = some o) : Gx Γ M_X11_bestPoint 100 τ (PI o) 0 0 51 [] [] σ := by
  unfold f_X11_bestPoint_51 at h
  refine gx_iconst (v := (-1 : Int32)) dX11_bestPoint_51 ic_m1 ?_
  have h := Option.some.inj h
  subst h
  exact gx_iret dX11_bestPoint_52 rfl (Nat.le_of_ble_eq_true rfl) (Nat.le_of_ble_eq_true rfl) ⟨rfl, rfl⟩
set_option maxRecDepth 4000 in
theorem s_X11_bestPoint_91 {Γ : Cn} {τ : Mm} {N : Nat} {r_59 : Nat → Int32 → Int32 → Int32 → Int32 → Int32 → Int32 → Mm → Option (Int32 × Mm)} (hr_59 : ∀ (l0 : Nat) (l1 : Int32) (l2 : Int32) (l3 : Int32) (l4 : Int32) (l5 : Int32) (l6 : Int32) (σ : Mm) (o : Int32 × Mm), r_59 l0 l1 l2 l3 l4 l5 l6 σ = some o → Gx Γ M_X11_bestPoint 100 τ (PI o) 0 0 59 [(0, .ref (Γ.B + pp l0)), (1, .int l1), (2, .int l2), (3, .int l3), (4, .int l4), (5, .int l5), (6, .int l6)] [] σ) {l0 : Nat} {l1 : Int32} {l2 : Int32} {l3 : Int32} {l4 : Int32} {l6 : Int32} {t0 : Int32} {t1 : Int32} {σ : Mm} {o : Int32 × Mm} (h : f_X11_bestPoint_91 N r_59 l0 l1 l2 l3 l4 l6 t0 t1 σ = some o) : Gx Γ M_X11_bestPoint 100 τ (PI o) 0 0 91 [(0, .ref (Γ.B + pp l0)), (1, .int l1), (2, .int l2), (3, .int l3), (4, .int l4), (6, .int l6)] [.int t1, .int t0] σ := by
  unfold f_X11_bestPoint_91 at h
  refine gx_ior dX11_bestPoint_91 ?_
  refine gx_istore (lv' := [(5, .int (t0 ||| t1)), (0, .ref (Γ.B + pp l0)), (1, .int l1), (2, .int l2), (3, .int l3), (4, .int l4), (6, .int l6)]) dX11_bestPoint_92 (Nat.le_of_ble_eq_true rfl) rfl ?_
  refine gx_iinc (v := (l6 + (1 : Int32))) (lv' := [(6, .int (l6 + (1 : Int32))), (5, .int (t0 ||| t1)), (0, .ref (Γ.B + pp l0)), (1, .int l1), (2, .int l2), (3, .int l3), (4, .int l4)]) 6 dX11_bestPoint_94 rfl (by rw [ic_1]) (Nat.le_of_ble_eq_true rfl) rfl ?_
  refine gx_goto 59 dX11_bestPoint_97 (by decide) ?_
  exact gx_sub [2, 3, 4, 5, 6, 1, 0] rfl (hr_59 _ _ _ _ _ _ _ _ _ h)
set_option maxRecDepth 4000 in
theorem s_X11_bestPoint_213 {Γ : Cn} {τ : Mm} {N : Nat} {r_124 : Nat → Int32 → Int32 → Int32 → Int32 → Int32 → Int32 → Int32 → Int32 → Int32 → Mm → Option (Int32 × Mm)} (hr_124 : ∀ (l0 : Nat) (l1 : Int32) (l2 : Int32) (l3 : Int32) (l4 : Int32) (l5 : Int32) (l6 : Int32) (l7 : Int32) (l8 : Int32) (l9 : Int32) (σ : Mm) (o : Int32 × Mm), r_124 l0 l1 l2 l3 l4 l5 l6 l7 l8 l9 σ = some o → Gx Γ M_X11_bestPoint 100 τ (PI o) 0 0 124 [(0, .ref (Γ.B + pp l0)), (1, .int l1), (2, .int l2), (3, .int l3), (4, .int l4), (5, .int l5), (6, .int l6), (7, .int l7), (8, .int l8), (9, .int l9)] [] σ) {l0 : Nat} {l1 : Int32} {l2 : Int32} {l3 : Int32} {l4 : Int32} {l5 : Int32} {l6 : Int32} {l7 : Int32} {l8 : Int32} {l9 : Int32} {σ : Mm} {o : Int32 × Mm} (h : f_X11_bestPoint_213 N r_124 l0 l1 l2 l3 l4 l5 l6 l7 l8 l9 σ = some o) : Gx Γ M_X11_bestPoint 100 τ (PI o) 0 0 213 [(0, .ref (Γ.B + pp l0)), (1, .int l1), (2, .int l2), (3, .int l3), (4, .int l4), (5, .int l5), (6, .int l6), (7, .int l7), (8, .int l8), (9, .int l9)] [] σ := by
  unfold f_X11_bestPoint_213 at h
  refine gx_iinc (v := (l9 + (1 : Int32))) (lv' := [(9, .int (l9 + (1 : Int32))), (0, .ref (Γ.B + pp l0)), (1, .int l1), (2, .int l2), (3, .int l3), (4, .int l4), (5, .int l5), (6, .int l6), (7, .int l7), (8, .int l8)]) 9 dX11_bestPoint_213 rfl (by rw [ic_1]) (Nat.le_of_ble_eq_true rfl) rfl ?_
  refine gx_goto 124 dX11_bestPoint_216 (by decide) ?_
  exact gx_sub [1, 2, 3, 4, 5, 6, 7, 8, 9, 0] rfl (hr_124 _ _ _ _ _ _ _ _ _ _ _ _ h)
set_option maxRecDepth 4000 in
theorem s_X11_bestPoint_205 {Γ : Cn} {τ : Mm} {N : Nat} {r_124 : Nat → Int32 → Int32 → Int32 → Int32 → Int32 → Int32 → Int32 → Int32 → Int32 → Mm → Option (Int32 × Mm)} (hr_124 : ∀ (l0 : Nat) (l1 : Int32) (l2 : Int32) (l3 : Int32) (l4 : Int32) (l5 : Int32) (l6 : Int32) (l7 : Int32) (l8 : Int32) (l9 : Int32) (σ : Mm) (o : Int32 × Mm), r_124 l0 l1 l2 l3 l4 l5 l6 l7 l8 l9 σ = some o → Gx Γ M_X11_bestPoint 100 τ (PI o) 0 0 124 [(0, .ref (Γ.B + pp l0)), (1, .int l1), (2, .int l2), (3, .int l3), (4, .int l4), (5, .int l5), (6, .int l6), (7, .int l7), (8, .int l8), (9, .int l9)] [] σ) {l0 : Nat} {l1 : Int32} {l2 : Int32} {l3 : Int32} {l4 : Int32} {l5 : Int32} {l6 : Int32} {l9 : Int32} {l11 : Int32} {σ : Mm} {o : Int32 × Mm} (h : f_X11_bestPoint_205 N r_124 l0 l1 l2 l3 l4 l5 l6 l9 l11 σ = some o) : Gx Γ M_X11_bestPoint 100 τ (PI o) 0 0 205 [(0, .ref (Γ.B + pp l0)), (1, .int l1), (2, .int l2), (3, .int l3), (4, .int l4), (5, .int l5), (6, .int l6), (9, .int l9), (11, .int l11)] [] σ := by
  unfold f_X11_bestPoint_205 at h
  refine gx_iload 7 dX11_bestPoint_205 rfl ?_
  refine gx_istore (lv' := [(7, .int l9), (0, .ref (Γ.B + pp l0)), (1, .int l1), (2, .int l2), (3, .int l3), (4, .int l4), (5, .int l5), (6, .int l6), (9, .int l9), (11, .int l11)]) dX11_bestPoint_207 (Nat.le_of_ble_eq_true rfl) rfl ?_
  refine gx_iload 9 dX11_bestPoint_209 rfl ?_
  refine gx_istore (lv' := [(8, .int l11), (7, .int l9), (0, .ref (Γ.B + pp l0)), (1, .int l1), (2, .int l2), (3, .int l3), (4, .int l4), (5, .int l5), (6, .int l6), (9, .int l9), (11, .int l11)]) dX11_bestPoint_211 (Nat.le_of_ble_eq_true rfl) rfl ?_
  exact gx_sub [2, 3, 4, 5, 6, 7, 8, 1, 0, 9] rfl (s_X11_bestPoint_213 hr_124 h)
set_option maxRecDepth 4000 in
theorem s_X11_bestPoint_187 {Γ : Cn} {τ : Mm} {N : Nat} {r_124 : Nat → Int32 → Int32 → Int32 → Int32 → Int32 → Int32 → Int32 → Int32 → Int32 → Mm → Option (Int32 × Mm)} (hr_124 : ∀ (l0 : Nat) (l1 : Int32) (l2 : Int32) (l3 : Int32) (l4 : Int32) (l5 : Int32) (l6 : Int32) (l7 : Int32) (l8 : Int32) (l9 : Int32) (σ : Mm) (o : Int32 × Mm), r_124 l0 l1 l2 l3 l4 l5 l6 l7 l8 l9 σ = some o → Gx Γ M_X11_bestPoint 100 τ (PI o) 0 0 124 [(0, .ref (Γ.B + pp l0)), (1, .int l1), (2, .int l2), (3, .int l3), (4, .int l4), (5, .int l5), (6, .int l6), (7, .int l7), (8, .int l8), (9, .int l9)] [] σ) {l0 : Nat} {l1 : Int32} {l2 : Int32} {l3 : Int32} {l4 : Int32} {l5 : Int32} {l6 : Int32} {l7 : Int32} {l8 : Int32} {l9 : Int32} {t0 : Int32} {t1 : Int32} {σ : Mm} {o : Int32 × Mm} (h : f_X11_bestPoint_187 N r_124 l0 l1 l2 l3 l4 l5 l6 l7 l8 l9 t0 t1 σ = some o) : Gx Γ M_X11_bestPoint 100 τ (PI o) 0 0 187 [(0, .ref (Γ.B + pp l0)), (1, .int l1), (2, .int l2), (3, .int l3), (4, .int l4), (5, .int l5), (6, .int l6), (7, .int l7), (8, .int l8), (9, .int l9)] [.int t1, .int t0] σ := by
  unfold f_X11_bestPoint_187 at h
  refine gx_isub dX11_bestPoint_187 ?_
  refine gx_istore (lv' := [(11, .int (t0 - t1)), (0, .ref (Γ.B + pp l0)), (1, .int l1), (2, .int l2), (3, .int l3), (4, .int l4), (5, .int l5), (6, .int l6), (7, .int l7), (8, .int l8), (9, .int l9)]) dX11_bestPoint_188 (Nat.le_of_ble_eq_true rfl) rfl ?_
  refine gx_iload 8 dX11_bestPoint_190 rfl ?_
  refine gx_if_lt 205 dX11_bestPoint_192 (by decide) (fun c0 => ?_) (fun c0 => ?_)
  · rw [if_pos c0] at h
    exact gx_sub [1, 2, 3, 4, 5, 6, 7, 10, 0] rfl (s_X11_bestPoint_205 hr_124 h)
  · rw [if_neg c0] at h
    refine gx_iload 0 dX11_bestPoint_195 rfl ?_
    refine gx_iload 9 dX11_bestPoint_197 rfl ?_
    refine gx_icmp_gt 205 dX11_bestPoint_199 (by decide) (fun c1 => ?_) (fun c1 => ?_)
    · rw [if_pos c1] at h
      exact gx_sub [1, 2, 3, 4, 5, 6, 7, 10, 0] rfl (s_X11_bestPoint_205 hr_124 h)
    · rw [if_neg c1] at h
      refine gx_goto 213 dX11_bestPoint_202 (by decide) ?_
      exact gx_sub [1, 2, 3, 4, 5, 6, 7, 8, 9, 10] rfl (s_X11_bestPoint_213 hr_124 h)
set_option maxRecDepth 4000 in
theorem s_X11_bestPoint_165 {Γ : Cn} {τ : Mm} {N : Nat} {r_124 : Nat → Int32 → Int32 → Int32 → Int32 → Int32 → Int32 → Int32 → Int32 → Int32 → Mm → Option (Int32 × Mm)} (hr_124 : ∀ (l0 : Nat) (l1 : Int32) (l2 : Int32) (l3 : Int32) (l4 : Int32) (l5 : Int32) (l6 : Int32) (l7 : Int32) (l8 : Int32) (l9 : Int32) (σ : Mm) (o : Int32 × Mm), r_124 l0 l1 l2 l3 l4 l5 l6 l7 l8 l9 σ = some o → Gx Γ M_X11_bestPoint 100 τ (PI o) 0 0 124 [(0, .ref (Γ.B + pp l0)), (1, .int l1), (2, .int l2), (3, .int l3), (4, .int l4), (5, .int l5), (6, .int l6), (7, .int l7), (8, .int l8), (9, .int l9)] [] σ) {l0 : Nat} {l1 : Int32} {l2 : Int32} {l3 : Int32} {l4 : Int32} {l5 : Int32} {l6 : Int32} {l7 : Int32} {l8 : Int32} {l9 : Int32} {σ : Mm} {o : Int32 × Mm} (h : f_X11_bestPoint_165 N r_124 l0 l1 l2 l3 l4 l5 l6 l7 l8 l9 σ = some o) : Gx Γ M_X11_bestPoint 100 τ (PI o) 0 0 165 [(0, .ref (Γ.B + pp l0)), (1, .int l1), (2, .int l2), (3, .int l3), (4, .int l4), (5, .int l5), (6, .int l6), (7, .int l7), (8, .int l8), (9, .int l9)] [] σ := by
  unfold f_X11_bestPoint_165 at h
  refine gx_aload_n 0 dX11_bestPoint_165 rfl rfl ?_
  refine gx_iload_n 2 dX11_bestPoint_166 rfl rfl ?_
  refine gx_iload 9 dX11_bestPoint_167 rfl ?_
  obtain ⟨_, hobq1, h⟩ := bnd h
  obtain ⟨q1, hq1, h⟩ := bnd h
  refine gx_cVI (As := [.int l2, .int l9]) (st := []) (o := l0) dX11_bestPoint_169 (c_X11_worth hq1) mov_X11_worth tw_1531 hobq1 rfl ⟨Nat.le_of_ble_eq_true rfl, Nat.le_of_ble_eq_true rfl⟩ (Nat.le_of_ble_eq_true rfl) ?_
  refine gx_iload 9 dX11_bestPoint_172 rfl ?_
  refine gx_iload 6 dX11_bestPoint_174 rfl ?_
  refine gx_icmp_ne 183 dX11_bestPoint_176 (by decide) (fun c1 => ?_) (fun c1 => ?_)
  · rw [if_neg c1] at h
    refine gx_aload_n 0 dX11_bestPoint_183 rfl rfl ?_
    obtain ⟨x3, hx3, h⟩ := bnd h
    refine gx_getI dX11_bestPoint_184 hx3 fl_X11_361 rfl ?_
    exact s_X11_bestPoint_187 hr_124 h
  · rw [if_pos c1] at h
    refine gx_iconst (v := (0 : Int32)) dX11_bestPoint_179 ic_0 ?_
    refine gx_goto 187 dX11_bestPoint_180 (by decide) ?_
    exact s_X11_bestPoint_187 hr_124 h
set_option maxRecDepth 4000 in
theorem s_X11_bestPoint_231 {Γ : Cn} {τ : Mm} {N : Nat} {t0 : Int32} {σ : Mm} {o : Int32 × Mm} (h : f_X11_bestPoint_231 N t0 σ = some o) : Gx Γ M_X11_bestPoint 100 τ (PI o) 0 0 231 [] [.int t0] σ := by
  unfold f_X11_bestPoint_231 at h
  have h := Option.some.inj h
  subst h
  exact gx_iret dX11_bestPoint_231 rfl (Nat.le_of_ble_eq_true rfl) (Nat.le_of_ble_eq_true rfl) ⟨rfl, rfl⟩
set_option maxRecDepth 4000 in
theorem s_X11_bestPoint_124 {Γ : Cn} {τ : Mm} {N : Nat} : ∀ (n : Nat) (l0 : Nat) (l1 : Int32) (l2 : Int32) (l3 : Int32) (l4 : Int32) (l5 : Int32) (l6 : Int32) (l7 : Int32) (l8 : Int32) (l9 : Int32) (σ : Mm) (o : Int32 × Mm), f_X11_bestPoint_124 N n l0 l1 l2 l3 l4 l5 l6 l7 l8 l9 σ = some o → Gx Γ M_X11_bestPoint 100 τ (PI o) 0 0 124 [(0, .ref (Γ.B + pp l0)), (1, .int l1), (2, .int l2), (3, .int l3), (4, .int l4), (5, .int l5), (6, .int l6), (7, .int l7), (8, .int l8), (9, .int l9)] [] σ := by
  intro n
  induction n with
  | zero =>
    intro l0 l1 l2 l3 l4 l5 l6 l7 l8 l9 σ o h
    exact absurd h (by rw [f_X11_bestPoint_124]; exact fun q => nomatch q)
  | succ n ih =>
    intro l0 l1 l2 l3 l4 l5 l6 l7 l8 l9 σ o h
    rw [f_X11_bestPoint_124] at h
    refine gx_iload 9 dX11_bestPoint_124 rfl ?_
    refine gx_bipush (v := (8 : Int32)) dX11_bestPoint_126 ib_8 ?_
    refine gx_icmp_ge 219 dX11_bestPoint_128 (by decide) (fun c0 => ?_) (fun c0 => ?_)
    · rw [if_pos c0] at h
      refine gx_iload 4 dX11_bestPoint_219 rfl ?_
      refine gx_if_ne 229 dX11_bestPoint_221 (by decide) (fun c1 => ?_) (fun c1 => ?_)
      · rw [if_neg c1] at h
        refine gx_iload 8 dX11_bestPoint_229 rfl ?_
        exact gx_sub [] rfl (s_X11_bestPoint_231  h)
      · rw [if_pos c1] at h
        refine gx_iload 7 dX11_bestPoint_224 rfl ?_
        refine gx_goto 231 dX11_bestPoint_226 (by decide) ?_
        exact gx_sub [] rfl (s_X11_bestPoint_231  h)
    · rw [if_neg c0] at h
      refine gx_aload_n 0 dX11_bestPoint_131 rfl rfl ?_
      refine gx_iload_n 1 dX11_bestPoint_132 rfl rfl ?_
      refine gx_iload 9 dX11_bestPoint_133 rfl ?_
      refine gx_iload 5 dX11_bestPoint_135 rfl ?_
      obtain ⟨_, hobq3, h⟩ := bnd h
      obtain ⟨q3, hq3, h⟩ := bnd h
      refine gx_cVI (As := [.int l1, .int l9, .int l5]) (st := []) (o := l0) dX11_bestPoint_137 (c_X11_cheapestSet hq3) mov_X11_cheapestSet tw_1467 hobq3 rfl ⟨Nat.le_of_ble_eq_true rfl, Nat.le_of_ble_eq_true rfl⟩ (Nat.le_of_ble_eq_true rfl) ?_
      refine gx_istore (lv' := [(10, .int q3.1), (0, .ref (Γ.B + pp l0)), (1, .int l1), (2, .int l2), (3, .int l3), (4, .int l4), (5, .int l5), (6, .int l6), (7, .int l7), (8, .int l8), (9, .int l9)]) dX11_bestPoint_140 (Nat.le_of_ble_eq_true rfl) rfl ?_
      refine gx_iload 10 dX11_bestPoint_142 rfl ?_
      refine gx_iload 7 dX11_bestPoint_144 rfl ?_
      refine gx_icmp_eq 165 dX11_bestPoint_146 (by decide) (fun c3 => ?_) (fun c3 => ?_)
      · rw [if_pos c3] at h
        exact gx_sub [1, 2, 3, 4, 5, 6, 7, 8, 9, 10] rfl (s_X11_bestPoint_165 ih h)
      · rw [if_neg c3] at h
        refine gx_iload 0 dX11_bestPoint_149 rfl ?_
        refine gx_if_lt 213 dX11_bestPoint_151 (by decide) (fun c4 => ?_) (fun c4 => ?_)
        · rw [if_pos c4] at h
          exact gx_sub [1, 2, 3, 4, 5, 6, 7, 8, 9, 10] rfl (s_X11_bestPoint_213 ih h)
        · rw [if_neg c4] at h
          refine gx_aload_n 1 dX11_bestPoint_154 rfl rfl ?_
          obtain ⟨x6, hx6, h⟩ := bnd h
          refine gx_getI dX11_bestPoint_155 hx6 fl_X11_361 rfl ?_
          refine gx_iload_n 4 dX11_bestPoint_158 rfl rfl ?_
          refine gx_icmp_le 165 dX11_bestPoint_159 (by decide) (fun c6 => ?_) (fun c6 => ?_)
          · rw [if_pos c6] at h
            exact gx_sub [1, 2, 3, 4, 5, 6, 7, 8, 9, 10] rfl (s_X11_bestPoint_165 ih h)
          · rw [if_neg c6] at h
            refine gx_goto 213 dX11_bestPoint_162 (by decide) ?_
            exact gx_sub [1, 2, 3, 4, 5, 6, 7, 8, 9, 10] rfl (s_X11_bestPoint_213 ih h)
set_option maxRecDepth 4000 in
theorem s_X11_bestPoint_59 {Γ : Cn} {τ : Mm} {N : Nat} : ∀ (n : Nat) (l0 : Nat) (l1 : Int32) (l2 : Int32) (l3 : Int32) (l4 : Int32) (l5 : Int32) (l6 : Int32) (σ : Mm) (o : Int32 × Mm), f_X11_bestPoint_59 N n l0 l1 l2 l3 l4 l5 l6 σ = some o → Gx Γ M_X11_bestPoint 100 τ (PI o) 0 0 59 [(0, .ref (Γ.B + pp l0)), (1, .int l1), (2, .int l2), (3, .int l3), (4, .int l4), (5, .int l5), (6, .int l6)] [] σ := by
  intro n
  induction n with
  | zero =>
    intro l0 l1 l2 l3 l4 l5 l6 σ o h
    exact absurd h (by rw [f_X11_bestPoint_59]; exact fun q => nomatch q)
  | succ n ih =>
    intro l0 l1 l2 l3 l4 l5 l6 σ o h
    rw [f_X11_bestPoint_59] at h
    refine gx_iload 6 dX11_bestPoint_59 rfl ?_
    refine gx_aload_n 0 dX11_bestPoint_61 rfl rfl ?_
    obtain ⟨a1, ha1, h⟩ := bnd h
    refine gx_getN dX11_bestPoint_62 ha1 fl_X11_45 rfl ?_
    refine gx_iconst (v := (0 : Int32)) dX11_bestPoint_65 ic_0 ?_
    obtain ⟨x2, hx2, h⟩ := bnd h
    refine gx_iald (kd := 113) dX11_bestPoint_66 hx2 rfl rfl ?_
    refine gx_icmp_ge 100 dX11_bestPoint_67 (by decide) (fun c2 => ?_) (fun c2 => ?_)
    · rw [if_pos c2] at h
      refine gx_aload_n 0 dX11_bestPoint_100 rfl rfl ?_
      obtain ⟨_, hobq4, h⟩ := bnd h
      obtain ⟨q4, hq4, h⟩ := bnd h
      refine gx_cVV (As := []) (st := []) (o := l0) dX11_bestPoint_101 (c_X11_asTheyAre hq4) mov_X11_asTheyAre tw_1407 hobq4 rfl ⟨Nat.le_of_ble_eq_true rfl, Nat.le_of_ble_eq_true rfl⟩ (Nat.le_of_ble_eq_true rfl) ?_
      refine gx_aload_n 0 dX11_bestPoint_104 rfl rfl ?_
      obtain ⟨_, hobq5, h⟩ := bnd h
      obtain ⟨q5, hq5, h⟩ := bnd h
      refine gx_cVV (As := []) (st := []) (o := l0) dX11_bestPoint_105 (c_X11_keepsRow hq5) mov_X11_keepsRow tw_1463 hobq5 rfl ⟨Nat.le_of_ble_eq_true rfl, Nat.le_of_ble_eq_true rfl⟩ (Nat.le_of_ble_eq_true rfl) ?_
      refine gx_aload_n 0 dX11_bestPoint_108 rfl rfl ?_
      refine gx_iload_n 1 dX11_bestPoint_109 rfl rfl ?_
      obtain ⟨_, hobq6, h⟩ := bnd h
      obtain ⟨q6, hq6, h⟩ := bnd h
      refine gx_cVI (As := [.int l1]) (st := []) (o := l0) dX11_bestPoint_110 (c_X11_votes hq6) mov_X11_votes tw_1411 hobq6 rfl ⟨Nat.le_of_ble_eq_true rfl, Nat.le_of_ble_eq_true rfl⟩ (Nat.le_of_ble_eq_true rfl) ?_
      refine gx_istore (lv' := [(6, .int q6.1), (0, .ref (Γ.B + pp l0)), (1, .int l1), (2, .int l2), (3, .int l3), (4, .int l4), (5, .int l5)]) dX11_bestPoint_113 (Nat.le_of_ble_eq_true rfl) rfl ?_
      refine gx_iconst (v := (-1 : Int32)) dX11_bestPoint_115 ic_m1 ?_
      refine gx_istore (lv' := [(7, .int (-1 : Int32)), (6, .int q6.1), (0, .ref (Γ.B + pp l0)), (1, .int l1), (2, .int l2), (3, .int l3), (4, .int l4), (5, .int l5)]) dX11_bestPoint_116 (Nat.le_of_ble_eq_true rfl) rfl ?_
      refine gx_iconst (v := (0 : Int32)) dX11_bestPoint_118 ic_0 ?_
      refine gx_istore (lv' := [(8, .int (0 : Int32)), (7, .int (-1 : Int32)), (6, .int q6.1), (0, .ref (Γ.B + pp l0)), (1, .int l1), (2, .int l2), (3, .int l3), (4, .int l4), (5, .int l5)]) dX11_bestPoint_119 (Nat.le_of_ble_eq_true rfl) rfl ?_
      refine gx_iconst (v := (0 : Int32)) dX11_bestPoint_121 ic_0 ?_
      refine gx_istore (lv' := [(9, .int (0 : Int32)), (8, .int (0 : Int32)), (7, .int (-1 : Int32)), (6, .int q6.1), (0, .ref (Γ.B + pp l0)), (1, .int l1), (2, .int l2), (3, .int l3), (4, .int l4), (5, .int l5)]) dX11_bestPoint_122 (Nat.le_of_ble_eq_true rfl) rfl ?_
      exact gx_sub [4, 5, 6, 7, 8, 9, 3, 2, 1, 0] rfl (s_X11_bestPoint_124  N _ _ _ _ _ _ _ _ _ _ _ _ h)
    · rw [if_neg c2] at h
      refine gx_iload 5 dX11_bestPoint_70 rfl ?_
      refine gx_aload_n 0 dX11_bestPoint_72 rfl rfl ?_
      refine gx_iload 6 dX11_bestPoint_73 rfl ?_
      refine gx_iconst (v := (4 : Int32)) dX11_bestPoint_75 ic_4 ?_
      obtain ⟨_, hobq7, h⟩ := bnd h
      obtain ⟨q7, hq7, h⟩ := bnd h
      refine gx_cVI (As := [.int l6, .int (4 : Int32)]) (st := [.int l5]) (o := l0) dX11_bestPoint_76 (c_X11_cockOf hq7) mov_X11_cockOf tw_1296 hobq7 rfl ⟨Nat.le_of_ble_eq_true rfl, Nat.le_of_ble_eq_true rfl⟩ (Nat.le_of_ble_eq_true rfl) ?_
      refine gx_iload_n 2 dX11_bestPoint_79 rfl rfl ?_
      refine gx_icmp_ne 87 dX11_bestPoint_80 (by decide) (fun c7 => ?_) (fun c7 => ?_)
      · rw [if_neg c7] at h
        refine gx_iconst (v := (1 : Int32)) dX11_bestPoint_87 ic_1 ?_
        refine gx_iload 6 dX11_bestPoint_88 rfl ?_
        refine gx_ishl dX11_bestPoint_90 ?_
        exact gx_sub [0, 1, 2, 3, 4, 6] rfl (s_X11_bestPoint_91 ih h)
      · rw [if_pos c7] at h
        refine gx_iconst (v := (0 : Int32)) dX11_bestPoint_83 ic_0 ?_
        refine gx_goto 91 dX11_bestPoint_84 (by decide) ?_
        exact gx_sub [0, 1, 2, 3, 4, 6] rfl (s_X11_bestPoint_91 ih h)
set_option maxRecDepth 4000 in
theorem s_X11_bestPoint_0 {Γ : Cn} {τ : Mm} {N : Nat} {l0 : Nat} {l1 : Int32} {l2 : Int32} {l3 : Int32} {l4 : Int32} {σ : Mm} {o : Int32 × Mm} (h : f_X11_bestPoint N l0 l1 l2 l3 l4 σ = some o) : Gx Γ M_X11_bestPoint 100 τ (PI o) 0 0 0 [(0, .ref (Γ.B + pp l0)), (1, .int l1), (2, .int l2), (3, .int l3), (4, .int l4)] [] σ := by
  unfold f_X11_bestPoint at h
  refine gx_aload_n 0 dX11_bestPoint_0 rfl rfl ?_
  obtain ⟨a1, ha1, h⟩ := bnd h
  refine gx_getN dX11_bestPoint_1 ha1 fl_X11_45 rfl ?_
  refine gx_iconst (v := (0 : Int32)) dX11_bestPoint_4 ic_0 ?_
  obtain ⟨x2, hx2, h⟩ := bnd h
  refine gx_iald (kd := 113) dX11_bestPoint_5 hx2 rfl rfl ?_
  refine gx_if_eq 51 dX11_bestPoint_6 (by decide) (fun c2 => ?_) (fun c2 => ?_)
  · rw [if_pos c2] at h
    exact gx_sub [] rfl (s_X11_bestPoint_51  h)
  · rw [if_neg c2] at h
    refine gx_iload_n 1 dX11_bestPoint_9 rfl rfl ?_
    obtain ⟨q4, hq4, h⟩ := bnd h
    refine gx_cSI (As := [.int l1]) (st := []) dX11_bestPoint_10 (c_X11_isWay hq4) mos_X11_isWay tw_1404 rfl ⟨Nat.le_of_ble_eq_true rfl, Nat.le_of_ble_eq_true rfl⟩ (Nat.le_of_ble_eq_true rfl) ?_
    refine gx_if_eq 51 dX11_bestPoint_13 (by decide) (fun c4 => ?_) (fun c4 => ?_)
    · rw [if_pos c4] at h
      exact gx_sub [] rfl (s_X11_bestPoint_51  h)
    · rw [if_neg c4] at h
      refine gx_iload_n 2 dX11_bestPoint_16 rfl rfl ?_
      refine gx_i2l dX11_bestPoint_17 ?_
      refine gx_lconst (v := (0 : Int64)) dX11_bestPoint_18 (by decide) ?_
      refine gx_ldc2 (v := (3 : Int64)) dX11_bestPoint_19 tw_1317 ?_
      obtain ⟨q6, hq6, h⟩ := bnd h
      refine gx_cSI (As := [.long (Int32.toInt64 l2), .long (0 : Int64), .long (3 : Int64)]) (st := []) dX11_bestPoint_22 (c_X11_in hq6) mos_X11_in tw_1206 rfl ⟨Nat.le_of_ble_eq_true rfl, Nat.le_of_ble_eq_true rfl⟩ (Nat.le_of_ble_eq_true rfl) ?_
      refine gx_if_eq 51 dX11_bestPoint_25 (by decide) (fun c6 => ?_) (fun c6 => ?_)
      · rw [if_pos c6] at h
        exact gx_sub [] rfl (s_X11_bestPoint_51  h)
      · rw [if_neg c6] at h
        refine gx_iload_n 3 dX11_bestPoint_28 rfl rfl ?_
        refine gx_i2l dX11_bestPoint_29 ?_
        refine gx_lconst (v := (0 : Int64)) dX11_bestPoint_30 (by decide) ?_
        refine gx_ldc2 (v := (9999 : Int64)) dX11_bestPoint_31 tw_1530 ?_
        obtain ⟨q8, hq8, h⟩ := bnd h
        refine gx_cSI (As := [.long (Int32.toInt64 l3), .long (0 : Int64), .long (9999 : Int64)]) (st := []) dX11_bestPoint_34 (c_X11_in hq8) mos_X11_in tw_1206 rfl ⟨Nat.le_of_ble_eq_true rfl, Nat.le_of_ble_eq_true rfl⟩ (Nat.le_of_ble_eq_true rfl) ?_
        refine gx_if_eq 51 dX11_bestPoint_37 (by decide) (fun c8 => ?_) (fun c8 => ?_)
        · rw [if_pos c8] at h
          exact gx_sub [] rfl (s_X11_bestPoint_51  h)
        · rw [if_neg c8] at h
          refine gx_iload 4 dX11_bestPoint_40 rfl ?_
          refine gx_i2l dX11_bestPoint_42 ?_
          refine gx_lconst (v := (0 : Int64)) dX11_bestPoint_43 (by decide) ?_
          refine gx_lconst (v := (1 : Int64)) dX11_bestPoint_44 (by decide) ?_
          obtain ⟨q10, hq10, h⟩ := bnd h
          refine gx_cSI (As := [.long (Int32.toInt64 l4), .long (0 : Int64), .long (1 : Int64)]) (st := []) dX11_bestPoint_45 (c_X11_in hq10) mos_X11_in tw_1206 rfl ⟨Nat.le_of_ble_eq_true rfl, Nat.le_of_ble_eq_true rfl⟩ (Nat.le_of_ble_eq_true rfl) ?_
          refine gx_if_ne 53 dX11_bestPoint_48 (by decide) (fun c10 => ?_) (fun c10 => ?_)
          · rw [if_neg c10] at h
            refine gx_iconst (v := (0 : Int32)) dX11_bestPoint_53 ic_0 ?_
            refine gx_istore (lv' := [(5, .int (0 : Int32)), (0, .ref (Γ.B + pp l0)), (1, .int l1), (2, .int l2), (3, .int l3), (4, .int l4)]) dX11_bestPoint_54 (Nat.le_of_ble_eq_true rfl) rfl ?_
            refine gx_iconst (v := (0 : Int32)) dX11_bestPoint_56 ic_0 ?_
            refine gx_istore (lv' := [(6, .int (0 : Int32)), (5, .int (0 : Int32)), (0, .ref (Γ.B + pp l0)), (1, .int l1), (2, .int l2), (3, .int l3), (4, .int l4)]) dX11_bestPoint_57 (Nat.le_of_ble_eq_true rfl) rfl ?_
            exact gx_sub [2, 3, 4, 5, 6, 1, 0] rfl (s_X11_bestPoint_59  N _ _ _ _ _ _ _ _ _ h)
          · rw [if_pos c10] at h
            exact gx_sub [] rfl (s_X11_bestPoint_51  h)
theorem c_X11_bestPoint {Γ : Cn} {τ : Mm} {N : Nat} {l0 : Nat} {l1 : Int32} {l2 : Int32} {l3 : Int32} {l4 : Int32} {σ : Mm} {o : Int32 × Mm} (h : f_X11_bestPoint N l0 l1 l2 l3 l4 σ = some o) : Ct Γ M_X11_bestPoint yX11_bestPoint 100 τ [.ref (Γ.B + pp l0), .int l1, .int l2, .int l3, .int l4] σ (PI o) := ct_of (by decide) rfl (fun _ => by first | rfl | contradiction) (Nat.le_of_ble_eq_true rfl) (s_X11_bestPoint_0  h)
abbrev M_X11_seed : Ms := (cX11_seed, RX11, 3, (some .int), false, 0, 0, 0)
def f_X11_seed (N : Nat) (l0 : Nat) (l1 : Int32) (σ : Mm) : Option (Int32 × Mm) :=
  if 0 ≤ l1 then (
    (gN 11 24 σ l0).bind fun a2 =>
    (aI 113 σ a2 (2 : Int32)).bind fun x3 =>
    (gN 11 24 σ l0).bind fun a4 =>
    (sI 113 σ a4 (2 : Int32) l1).bind fun s5 =>
    some (x3, s5)) else (
    some ((-1 : Int32), σ))
theorem mov_X11_seed : MOV yX11_seed M_X11_seed 1 11 100 := ⟨⟨tw_107, tw_1535, ⟨by decide, by decide⟩, by decide +kernel⟩, tw_1533, tw_1534, by decide, ⟨_, rfl, rfl⟩, rfl⟩
set_option maxRecDepth 4000 in
theorem s_X11_seed_0 {Γ : Cn} {τ : Mm} {N : Nat} {l0 : Nat} {l1 : Int32} {σ : Mm} {o : Int32 × Mm} (h : f_X11_seed N l0 l1 σ = some o) : Gx Γ M_X11_seed 100 τ (PI o) 0 0 0 [(0, .ref (Γ.B + pp l0)), (1, .int l1)] [] σ := by
  unfold f_X11_seed at h
  refine gx_iload_n 1 dX11_seed_0 rfl rfl ?_
  refine gx_if_ge 6 dX11_seed_1 (by decide) (fun c0 => ?_) (fun c0 => ?_)
  · rw [if_pos c0] at h
    refine gx_aload_n 0 dX11_seed_6 rfl rfl ?_
    obtain ⟨a2, ha2, h⟩ := bnd h
    refine gx_getN dX11_seed_7 ha2 fl_X11_45 rfl ?_
    refine gx_iconst (v := (2 : Int32)) dX11_seed_10 ic_2 ?_
    obtain ⟨x3, hx3, h⟩ := bnd h
    refine gx_iald (kd := 113) dX11_seed_11 hx3 rfl rfl ?_
    refine gx_istore_n (lv' := [(2, .int x3), (0, .ref (Γ.B + pp l0)), (1, .int l1)]) dX11_seed_12 rfl (Nat.le_of_ble_eq_true rfl) rfl ?_
    refine gx_aload_n 1 dX11_seed_13 rfl rfl ?_
    obtain ⟨a4, ha4, h⟩ := bnd h
    refine gx_getN dX11_seed_14 ha4 fl_X11_45 rfl ?_
    refine gx_iconst (v := (2 : Int32)) dX11_seed_17 ic_2 ?_
    refine gx_iload_n 2 dX11_seed_18 rfl rfl ?_
    obtain ⟨s5, hs5, h⟩ := bnd h
    refine gx_iast (kd := 113) dX11_seed_19 hs5 rfl rfl ?_
    refine gx_iload_n 0 dX11_seed_20 rfl rfl ?_
    have h := Option.some.inj h
    subst h
    exact gx_iret dX11_seed_21 rfl (Nat.le_of_ble_eq_true rfl) (Nat.le_of_ble_eq_true rfl) ⟨rfl, rfl⟩
  · rw [if_neg c0] at h
    refine gx_iconst (v := (-1 : Int32)) dX11_seed_4 ic_m1 ?_
    have h := Option.some.inj h
    subst h
    exact gx_iret dX11_seed_5 rfl (Nat.le_of_ble_eq_true rfl) (Nat.le_of_ble_eq_true rfl) ⟨rfl, rfl⟩
theorem c_X11_seed {Γ : Cn} {τ : Mm} {N : Nat} {l0 : Nat} {l1 : Int32} {σ : Mm} {o : Int32 × Mm} (h : f_X11_seed N l0 l1 σ = some o) : Ct Γ M_X11_seed yX11_seed 100 τ [.ref (Γ.B + pp l0), .int l1] σ (PI o) := ct_of (by decide) rfl (fun _ => by first | rfl | contradiction) (Nat.le_of_ble_eq_true rfl) (s_X11_seed_0  h)
abbrev M_X11_lot : Ms := (cX11_lot, RX11, 1, (some .int), false, 0, 0, 1)
def f_X11_lot (N : Nat) (l0 : Nat) (σ : Mm) : Option (Int32 × Mm) :=
  (gN 11 24 σ l0).bind fun a1 =>
  (aI 113 σ a1 (0 : Int32)).bind fun x2 =>
  if x2 = 0 then (
    some ((-1 : Int32), σ)) else (
    (gN 11 24 σ l0).bind fun a4 =>
    (gN 11 24 σ l0).bind fun a5 =>
    (aI 113 σ a5 (2 : Int32)).bind fun x6 =>
    if (2147483648 : Int64) = 0 then none else
    (sI 113 σ a4 (2 : Int32) (Int64.toInt32 ((((Int32.toInt64 x6) * (1103515245 : Int64)) + (12345 : Int64)) - (((Int32.toInt64 x6) * (1103515245 : Int64)) + (12345 : Int64)) / (2147483648 : Int64) * (2147483648 : Int64)))).bind fun s8 =>
    (gN 11 24 s8 l0).bind fun a9 =>
    (aI 113 s8 a9 (2 : Int32)).bind fun x10 =>
    if (65536 : Int32) = 0 then none else
    (gN 11 24 s8 l0).bind fun a12 =>
    (aI 113 s8 a12 (0 : Int32)).bind fun x13 =>
    if x13 = 0 then none else
    (ob 11 s8 l0).bind fun _ =>
    (f_X11_cockOf N l0 ((x10 / (65536 : Int32)) - (x10 / (65536 : Int32)) / x13 * x13) (5 : Int32) s8).bind fun q15 =>
    some (q15.1, q15.2))
theorem mov_X11_lot : MOV yX11_lot M_X11_lot 0 11 100 := ⟨⟨tw_107, tw_1539, ⟨by decide, by decide⟩, by decide +kernel⟩, tw_1537, tw_1538, by decide, ⟨_, rfl, rfl⟩, rfl⟩
set_option maxRecDepth 4000 in
theorem s_X11_lot_0 {Γ : Cn} {τ : Mm} {N : Nat} {l0 : Nat} {σ : Mm} {o : Int32 × Mm} (h : f_X11_lot N l0 σ = some o) : Gx Γ M_X11_lot 100 τ (PI o) 0 0 0 [(0, .ref (Γ.B + pp l0))] [] σ := by
  unfold f_X11_lot at h
  refine gx_aload_n 0 dX11_lot_0 rfl rfl ?_
  obtain ⟨a1, ha1, h⟩ := bnd h
  refine gx_getN dX11_lot_1 ha1 fl_X11_45 rfl ?_
  refine gx_iconst (v := (0 : Int32)) dX11_lot_4 ic_0 ?_
  obtain ⟨x2, hx2, h⟩ := bnd h
  refine gx_iald (kd := 113) dX11_lot_5 hx2 rfl rfl ?_
  refine gx_if_ne 11 dX11_lot_6 (by decide) (fun c2 => ?_) (fun c2 => ?_)
  · rw [if_neg c2] at h
    refine gx_aload_n 0 dX11_lot_11 rfl rfl ?_
    obtain ⟨a4, ha4, h⟩ := bnd h
    refine gx_getN dX11_lot_12 ha4 fl_X11_45 rfl ?_
    refine gx_iconst (v := (2 : Int32)) dX11_lot_15 ic_2 ?_
    refine gx_aload_n 0 dX11_lot_16 rfl rfl ?_
    obtain ⟨a5, ha5, h⟩ := bnd h
    refine gx_getN dX11_lot_17 ha5 fl_X11_45 rfl ?_
    refine gx_iconst (v := (2 : Int32)) dX11_lot_20 ic_2 ?_
    obtain ⟨x6, hx6, h⟩ := bnd h
    refine gx_iald (kd := 113) dX11_lot_21 hx6 rfl rfl ?_
    refine gx_i2l dX11_lot_22 ?_
    refine gx_ldc2 (v := (1103515245 : Int64)) dX11_lot_23 tw_1540 ?_
    refine gx_lmul dX11_lot_26 ?_
    refine gx_ldc2 (v := (12345 : Int64)) dX11_lot_27 tw_1541 ?_
    refine gx_ladd dX11_lot_30 ?_
    refine gx_ldc2 (v := (2147483648 : Int64)) dX11_lot_31 tw_1542 ?_
    obtain ⟨c6, h⟩ := of_ifn h
    refine gx_lrem dX11_lot_34 c6 ?_
    refine gx_l2i dX11_lot_35 ?_
    obtain ⟨s8, hs8, h⟩ := bnd h
    refine gx_iast (kd := 113) dX11_lot_36 hs8 rfl rfl ?_
    refine gx_aload_n 0 dX11_lot_37 rfl rfl ?_
    refine gx_aload_n 0 dX11_lot_38 rfl rfl ?_
    obtain ⟨a9, ha9, h⟩ := bnd h
    refine gx_getN dX11_lot_39 ha9 fl_X11_45 rfl ?_
    refine gx_iconst (v := (2 : Int32)) dX11_lot_42 ic_2 ?_
    obtain ⟨x10, hx10, h⟩ := bnd h
    refine gx_iald (kd := 113) dX11_lot_43 hx10 rfl rfl ?_
    refine gx_ldcw (v := (65536 : Int32)) dX11_lot_44 tw_1543 ?_
    obtain ⟨c10, h⟩ := of_ifn h
    refine gx_idiv dX11_lot_47 c10 ?_
    refine gx_aload_n 0 dX11_lot_48 rfl rfl ?_
    obtain ⟨a12, ha12, h⟩ := bnd h
    refine gx_getN dX11_lot_49 ha12 fl_X11_45 rfl ?_
    refine gx_iconst (v := (0 : Int32)) dX11_lot_52 ic_0 ?_
    obtain ⟨x13, hx13, h⟩ := bnd h
    refine gx_iald (kd := 113) dX11_lot_53 hx13 rfl rfl ?_
    obtain ⟨c13, h⟩ := of_ifn h
    refine gx_irem dX11_lot_54 c13 ?_
    refine gx_iconst (v := (5 : Int32)) dX11_lot_55 ic_5 ?_
    obtain ⟨_, hobq15, h⟩ := bnd h
    obtain ⟨q15, hq15, h⟩ := bnd h
    refine gx_cVI (As := [.int ((x10 / (65536 : Int32)) - (x10 / (65536 : Int32)) / x13 * x13), .int (5 : Int32)]) (st := []) (o := l0) dX11_lot_56 (c_X11_cockOf hq15) mov_X11_cockOf tw_1296 hobq15 rfl ⟨Nat.le_of_ble_eq_true rfl, Nat.le_of_ble_eq_true rfl⟩ (Nat.le_of_ble_eq_true rfl) ?_
    have h := Option.some.inj h
    subst h
    exact gx_iret dX11_lot_59 rfl (Nat.le_of_ble_eq_true rfl) (Nat.le_of_ble_eq_true rfl) ⟨rfl, rfl⟩
  · rw [if_pos c2] at h
    refine gx_iconst (v := (-1 : Int32)) dX11_lot_9 ic_m1 ?_
    have h := Option.some.inj h
    subst h
    exact gx_iret dX11_lot_10 rfl (Nat.le_of_ble_eq_true rfl) (Nat.le_of_ble_eq_true rfl) ⟨rfl, rfl⟩
theorem c_X11_lot {Γ : Cn} {τ : Mm} {N : Nat} {l0 : Nat} {σ : Mm} {o : Int32 × Mm} (h : f_X11_lot N l0 σ = some o) : Ct Γ M_X11_lot yX11_lot 100 τ [.ref (Γ.B + pp l0)] σ (PI o) := ct_of (by decide) rfl (fun _ => by first | rfl | contradiction) (Nat.le_of_ble_eq_true rfl) (s_X11_lot_0  h)
abbrev M_X11_years : Ms := (cX11_years, RX11, 13, (some .int), false, 0, 0, 4)
def f_X11_years_72 (N : Nat) (σ : Mm) : Option (Int32 × Mm) :=
  some ((-1 : Int32), σ)
def f_X11_years_229 (N : Nat) (r_93 : Nat → Int32 → Int32 → Int32 → Int32 → Int32 → Int32 → Int64 → Int32 → Int32 → Mm → Option (Int32 × Mm)) (l0 : Nat) (l1 : Int32) (l2 : Int32) (l3 : Int32) (l4 : Int32) (l5 : Int32) (l6 : Int32) (l7 : Int64) (l10 : Int32) (t0 : Int32) (t1 : Int32) (σ : Mm) : Option (Int32 × Mm) :=
  r_93 l0 l1 l2 l3 l4 l5 l6 l7 (t0 + t1) (l10 + (1 : Int32)) σ
def f_X11_years_221 (N : Nat) (r_93 : Nat → Int32 → Int32 → Int32 → Int32 → Int32 → Int32 → Int64 → Int32 → Int32 → Mm → Option (Int32 × Mm)) (l0 : Nat) (l1 : Int32) (l2 : Int32) (l3 : Int32) (l4 : Int32) (l5 : Int32) (l6 : Int32) (l7 : Int64) (l10 : Int32) (t0 : Int32) (t1 : Int32) (t2 : Int32) (σ : Mm) : Option (Int32 × Mm) :=
  if t1 = t2 then (
    f_X11_years_229 N r_93 l0 l1 l2 l3 l4 l5 l6 l7 l10 t0 (1 : Int32) σ) else (
    f_X11_years_229 N r_93 l0 l1 l2 l3 l4 l5 l6 l7 l10 t0 (0 : Int32) σ)
def f_X11_years_131 (N : Nat) (r_93 : Nat → Int32 → Int32 → Int32 → Int32 → Int32 → Int32 → Int64 → Int32 → Int32 → Mm → Option (Int32 × Mm)) : Nat → Nat → Int32 → Int32 → Int32 → Int32 → Int32 → Int32 → Int64 → Int32 → Int32 → Int32 → Int32 → Mm → Option (Int32 × Mm)
  | 0, _, _, _, _, _, _, _, _, _, _, _, _, _ => none
  | n + 1, l0, l1, l2, l3, l4, l5, l6, l7, l9, l10, l11, l12, σ =>
      (gN 11 24 σ l0).bind fun a1 =>
      (aI 113 σ a1 (0 : Int32)).bind fun x2 =>
      if x2 ≤ l12 then (
        (ob 11 σ l0).bind fun _ =>
        (f_X11_votes N l0 l4 σ).bind fun q4 =>
        if l6 = (2 : Int32) then (
          (ob 11 q4.2 l0).bind fun _ =>
          (f_X11_worth N l0 l5 q4.1 q4.2).bind fun q7 =>
          f_X11_years_229 N r_93 l0 l1 l2 l3 l4 l5 l6 l7 l10 l9 q7.1 q7.2) else (
          if l6 = 0 then (
            f_X11_years_221 N r_93 l0 l1 l2 l3 l4 l5 l6 l7 l10 l9 q4.1 l5 q4.2) else (
            f_X11_years_221 N r_93 l0 l1 l2 l3 l4 l5 l6 l7 l10 l9 q4.1 l11 q4.2))) else (
        (gN 11 25 σ l0).bind fun a8 =>
        (gN 11 25 σ l0).bind fun a9 =>
        (aI 113 σ a9 l12).bind fun x10 =>
        (ob 11 σ l0).bind fun _ =>
        (f_X11_cockOf N l0 l12 (2 : Int32) σ).bind fun q11 =>
        (ob 11 q11.2 l0).bind fun _ =>
        (f_X11_goesTo N l0 l1 l12 x10 l11 l3 q11.1 (-1 : Int32) q11.2).bind fun q12 =>
        (sI 113 q12.2 a8 l12 q12.1).bind fun s13 =>
        f_X11_years_131 N r_93 n l0 l1 l2 l3 l4 l5 l6 l7 l9 l10 l11 (l12 + (1 : Int32)) s13)
def f_X11_years_93 (N : Nat) : Nat → Nat → Int32 → Int32 → Int32 → Int32 → Int32 → Int32 → Int64 → Int32 → Int32 → Mm → Option (Int32 × Mm)
  | 0, _, _, _, _, _, _, _, _, _, _, _ => none
  | n + 1, l0, l1, l2, l3, l4, l5, l6, l7, l9, l10, σ =>
      if l2 ≤ l10 then (
        some (l9, σ)) else (
        if (2147483648 : Int64) = 0 then none else
        if (65536 : Int64) = 0 then none else
        if (8 : Int64) = 0 then none else
        f_X11_years_131 N (f_X11_years_93 N n) N l0 l1 l2 l3 l4 l5 l6 (((l7 * (1103515245 : Int64)) + (12345 : Int64)) - ((l7 * (1103515245 : Int64)) + (12345 : Int64)) / (2147483648 : Int64) * (2147483648 : Int64)) l9 l10 (Int64.toInt32 (((((l7 * (1103515245 : Int64)) + (12345 : Int64)) - ((l7 * (1103515245 : Int64)) + (12345 : Int64)) / (2147483648 : Int64) * (2147483648 : Int64)) / (65536 : Int64)) - ((((l7 * (1103515245 : Int64)) + (12345 : Int64)) - ((l7 * (1103515245 : Int64)) + (12345 : Int64)) / (2147483648 : Int64) * (2147483648 : Int64)) / (65536 : Int64)) / (8 : Int64) * (8 : Int64))) (0 : Int32) σ)
def f_X11_years_66 (N : Nat) (l0 : Nat) (l1 : Int32) (l2 : Int32) (l3 : Int32) (l4 : Int32) (l5 : Int32) (l6 : Int32) (t0 : Int64) (t1 : Int64) (t2 : Int64) (σ : Mm) : Option (Int32 × Mm) :=
  (f_X11_in N t0 t1 t2 σ).bind fun q1 =>
  if q1.1 = 0 then (
    f_X11_years_72 N q1.2) else (
    (gN 11 24 q1.2 l0).bind fun a3 =>
    (aI 113 q1.2 a3 (2 : Int32)).bind fun x4 =>
    (ob 11 q1.2 l0).bind fun _ =>
    (f_X11_asTheyAre N l0 q1.2).bind fun q5 =>
    f_X11_years_93 N N l0 l1 l2 l3 l4 l5 l6 (Int32.toInt64 x4) (0 : Int32) (0 : Int32) q5)
def f_X11_years (N : Nat) (l0 : Nat) (l1 : Int32) (l2 : Int32) (l3 : Int32) (l4 : Int32) (l5 : Int32) (l6 : Int32) (σ : Mm) : Option (Int32 × Mm) :=
  (ob 11 σ l0).bind fun _ =>
  (f_X11_canBlow N l0 l1 (0 : Int32) l3 σ).bind fun q1 =>
  if q1.1 = 0 then (
    f_X11_years_72 N q1.2) else (
    if l3 = 0 then (
      f_X11_years_72 N q1.2) else (
      (f_X11_in N (Int32.toInt64 l2) (1 : Int64) (366 : Int64) q1.2).bind fun q4 =>
      if q4.1 = 0 then (
        f_X11_years_72 N q4.2) else (
        (f_X11_isWay N l4 q4.2).bind fun q6 =>
        if q6.1 = 0 then (
          f_X11_years_72 N q6.2) else (
          (f_X11_in N (Int32.toInt64 l6) (0 : Int64) (2 : Int64) q6.2).bind fun q8 =>
          if q8.1 = 0 then (
            f_X11_years_72 N q8.2) else (
            if l6 = (2 : Int32) then (
              f_X11_years_66 N l0 l1 l2 l3 l4 l5 l6 (Int32.toInt64 l5) (0 : Int64) (3 : Int64) q8.2) else (
              f_X11_years_66 N l0 l1 l2 l3 l4 l5 l6 (Int32.toInt64 l5) (0 : Int64) (7 : Int64) q8.2))))))
theorem mov_X11_years : MOV yX11_years M_X11_years 6 11 100 := ⟨⟨tw_107, tw_1547, ⟨by decide, by decide⟩, by decide +kernel⟩, tw_1545, tw_1546, by decide, ⟨_, rfl, rfl⟩, rfl⟩
set_option maxRecDepth 4000 in
theorem s_X11_years_72 {Γ : Cn} {τ : Mm} {N : Nat} {σ : Mm} {o : Int32 × Mm} (h : f_X11_years_72 N σ = some o) : Gx Γ M_X11_years 100 τ (PI o) 0 0 72 [] [] σ := by
  unfold f_X11_years_72 at h
  refine gx_iconst (v := (-1 : Int32)) dX11_years_72 ic_m1 ?_
  have h := Option.some.inj h
  subst h
  exact gx_iret dX11_years_73 rfl (Nat.le_of_ble_eq_true rfl) (Nat.le_of_ble_eq_true rfl) ⟨rfl, rfl⟩
set_option maxRecDepth 4000 in
theorem s_X11_years_229 {Γ : Cn} {τ : Mm} {N : Nat} {r_93 : Nat → Int32 → Int32 → Int32 → Int32 → Int32 → Int32 → Int64 → Int32 → Int32 → Mm → Option (Int32 × Mm)} (hr_93 : ∀ (l0 : Nat) (l1 : Int32) (l2 : Int32) (l3 : Int32) (l4 : Int32) (l5 : Int32) (l6 : Int32) (l7 : Int64) (l9 : Int32) (l10 : Int32) (σ : Mm) (o : Int32 × Mm), r_93 l0 l1 l2 l3 l4 l5 l6 l7 l9 l10 σ = some o → Gx Γ M_X11_years 100 τ (PI o) 0 0 93 [(0, .ref (Γ.B + pp l0)), (1, .int l1), (2, .int l2), (3, .int l3), (4, .int l4), (5, .int l5), (6, .int l6), (7, .long l7), (9, .int l9), (10, .int l10)] [] σ) {l0 : Nat} {l1 : Int32} {l2 : Int32} {l3 : Int32} {l4 : Int32} {l5 : Int32} {l6 : Int32} {l7 : Int64} {l10 : Int32} {t0 : Int32} {t1 : Int32} {σ : Mm} {o : Int32 × Mm} (h : f_X11_years_229 N r_93 l0 l1 l2 l3 l4 l5 l6 l7 l10 t0 t1 σ = some o) : Gx Γ M_X11_years 100 τ (PI o) 0 0 229 [(0, .ref (Γ.B + pp l0)), (1, .int l1), (2, .int l2), (3, .int l3), (4, .int l4), (5, .int l5), (6, .int l6), (7, .long l7), (10, .int l10)] [.int t1, .int t0] σ := by
  unfold f_X11_years_229 at h
  refine gx_iadd dX11_years_229 ?_
  refine gx_istore (lv' := [(9, .int (t0 + t1)), (0, .ref (Γ.B + pp l0)), (1, .int l1), (2, .int l2), (3, .int l3), (4, .int l4), (5, .int l5), (6, .int l6), (7, .long l7), (10, .int l10)]) dX11_years_230 (Nat.le_of_ble_eq_true rfl) rfl ?_
  refine gx_iinc (v := (l10 + (1 : Int32))) (lv' := [(10, .int (l10 + (1 : Int32))), (9, .int (t0 + t1)), (0, .ref (Γ.B + pp l0)), (1, .int l1), (2, .int l2), (3, .int l3), (4, .int l4), (5, .int l5), (6, .int l6), (7, .long l7)]) 9 dX11_years_232 rfl (by rw [ic_1]) (Nat.le_of_ble_eq_true rfl) rfl ?_
  refine gx_goto 93 dX11_years_235 (by decide) ?_
  exact gx_sub [2, 3, 4, 5, 6, 7, 8, 9, 1, 0] rfl (hr_93 _ _ _ _ _ _ _ _ _ _ _ _ h)
set_option maxRecDepth 4000 in
theorem s_X11_years_221 {Γ : Cn} {τ : Mm} {N : Nat} {r_93 : Nat → Int32 → Int32 → Int32 → Int32 → Int32 → Int32 → Int64 → Int32 → Int32 → Mm → Option (Int32 × Mm)} (hr_93 : ∀ (l0 : Nat) (l1 : Int32) (l2 : Int32) (l3 : Int32) (l4 : Int32) (l5 : Int32) (l6 : Int32) (l7 : Int64) (l9 : Int32) (l10 : Int32) (σ : Mm) (o : Int32 × Mm), r_93 l0 l1 l2 l3 l4 l5 l6 l7 l9 l10 σ = some o → Gx Γ M_X11_years 100 τ (PI o) 0 0 93 [(0, .ref (Γ.B + pp l0)), (1, .int l1), (2, .int l2), (3, .int l3), (4, .int l4), (5, .int l5), (6, .int l6), (7, .long l7), (9, .int l9), (10, .int l10)] [] σ) {l0 : Nat} {l1 : Int32} {l2 : Int32} {l3 : Int32} {l4 : Int32} {l5 : Int32} {l6 : Int32} {l7 : Int64} {l10 : Int32} {t0 : Int32} {t1 : Int32} {t2 : Int32} {σ : Mm} {o : Int32 × Mm} (h : f_X11_years_221 N r_93 l0 l1 l2 l3 l4 l5 l6 l7 l10 t0 t1 t2 σ = some o) : Gx Γ M_X11_years 100 τ (PI o) 0 0 221 [(0, .ref (Γ.B + pp l0)), (1, .int l1), (2, .int l2), (3, .int l3), (4, .int l4), (5, .int l5), (6, .int l6), (7, .long l7), (10, .int l10)] [.int t2, .int t1, .int t0] σ := by
  unfold f_X11_years_221 at h
  refine gx_icmp_ne 228 dX11_years_221 (by decide) (fun c0 => ?_) (fun c0 => ?_)
  · rw [if_neg c0] at h
    refine gx_iconst (v := (0 : Int32)) dX11_years_228 ic_0 ?_
    exact s_X11_years_229 hr_93 h
  · rw [if_pos c0] at h
    refine gx_iconst (v := (1 : Int32)) dX11_years_224 ic_1 ?_
    refine gx_goto 229 dX11_years_225 (by decide) ?_
    exact s_X11_years_229 hr_93 h
set_option maxRecDepth 4000 in
theorem s_X11_years_131 {Γ : Cn} {τ : Mm} {N : Nat} {r_93 : Nat → Int32 → Int32 → Int32 → Int32 → Int32 → Int32 → Int64 → Int32 → Int32 → Mm → Option (Int32 × Mm)} (hr_93 : ∀ (l0 : Nat) (l1 : Int32) (l2 : Int32) (l3 : Int32) (l4 : Int32) (l5 : Int32) (l6 : Int32) (l7 : Int64) (l9 : Int32) (l10 : Int32) (σ : Mm) (o : Int32 × Mm), r_93 l0 l1 l2 l3 l4 l5 l6 l7 l9 l10 σ = some o → Gx Γ M_X11_years 100 τ (PI o) 0 0 93 [(0, .ref (Γ.B + pp l0)), (1, .int l1), (2, .int l2), (3, .int l3), (4, .int l4), (5, .int l5), (6, .int l6), (7, .long l7), (9, .int l9), (10, .int l10)] [] σ) : ∀ (n : Nat) (l0 : Nat) (l1 : Int32) (l2 : Int32) (l3 : Int32) (l4 : Int32) (l5 : Int32) (l6 : Int32) (l7 : Int64) (l9 : Int32) (l10 : Int32) (l11 : Int32) (l12 : Int32) (σ : Mm) (o : Int32 × Mm), f_X11_years_131 N r_93 n l0 l1 l2 l3 l4 l5 l6 l7 l9 l10 l11 l12 σ = some o → Gx Γ M_X11_years 100 τ (PI o) 0 0 131 [(0, .ref (Γ.B + pp l0)), (1, .int l1), (2, .int l2), (3, .int l3), (4, .int l4), (5, .int l5), (6, .int l6), (7, .long l7), (9, .int l9), (10, .int l10), (11, .int l11), (12, .int l12)] [] σ := by
  intro n
  induction n with
  | zero =>
    intro l0 l1 l2 l3 l4 l5 l6 l7 l9 l10 l11 l12 σ o h
    exact absurd h (by rw [f_X11_years_131]; exact fun q => nomatch q)
  | succ n ih =>
    intro l0 l1 l2 l3 l4 l5 l6 l7 l9 l10 l11 l12 σ o h
    rw [f_X11_years_131] at h
    refine gx_iload 11 dX11_years_131 rfl ?_
    refine gx_aload_n 0 dX11_years_133 rfl rfl ?_
    obtain ⟨a1, ha1, h⟩ := bnd h
    refine gx_getN dX11_years_134 ha1 fl_X11_45 rfl ?_
    refine gx_iconst (v := (0 : Int32)) dX11_years_137 ic_0 ?_
    obtain ⟨x2, hx2, h⟩ := bnd h
    refine gx_iald (kd := 113) dX11_years_138 hx2 rfl rfl ?_
    refine gx_icmp_ge 180 dX11_years_139 (by decide) (fun c2 => ?_) (fun c2 => ?_)
    · rw [if_pos c2] at h
      refine gx_aload_n 0 dX11_years_180 rfl rfl ?_
      refine gx_iload 4 dX11_years_181 rfl ?_
      obtain ⟨_, hobq4, h⟩ := bnd h
      obtain ⟨q4, hq4, h⟩ := bnd h
      refine gx_cVI (As := [.int l4]) (st := []) (o := l0) dX11_years_183 (c_X11_votes hq4) mov_X11_votes tw_1411 hobq4 rfl ⟨Nat.le_of_ble_eq_true rfl, Nat.le_of_ble_eq_true rfl⟩ (Nat.le_of_ble_eq_true rfl) ?_
      refine gx_istore (lv' := [(12, .int q4.1), (0, .ref (Γ.B + pp l0)), (1, .int l1), (2, .int l2), (3, .int l3), (4, .int l4), (5, .int l5), (6, .int l6), (7, .long l7), (9, .int l9), (10, .int l10), (11, .int l11)]) dX11_years_186 (Nat.le_of_ble_eq_true rfl) rfl ?_
      refine gx_iload 9 dX11_years_188 rfl ?_
      refine gx_iload 7 dX11_years_190 rfl ?_
      refine gx_iconst (v := (2 : Int32)) dX11_years_192 ic_2 ?_
      refine gx_icmp_ne 207 dX11_years_193 (by decide) (fun c4 => ?_) (fun c4 => ?_)
      · rw [if_neg c4] at h
        refine gx_iload 0 dX11_years_207 rfl ?_
        refine gx_iload 7 dX11_years_209 rfl ?_
        refine gx_if_ne 219 dX11_years_211 (by decide) (fun c5 => ?_) (fun c5 => ?_)
        · rw [if_neg c5] at h
          refine gx_iload 11 dX11_years_219 rfl ?_
          exact gx_sub [1, 2, 3, 4, 5, 6, 7, 8, 10] rfl (s_X11_years_221 hr_93 h)
        · rw [if_pos c5] at h
          refine gx_iload 6 dX11_years_214 rfl ?_
          refine gx_goto 221 dX11_years_216 (by decide) ?_
          exact gx_sub [1, 2, 3, 4, 5, 6, 7, 8, 10] rfl (s_X11_years_221 hr_93 h)
      · rw [if_pos c4] at h
        refine gx_aload_n 1 dX11_years_196 rfl rfl ?_
        refine gx_iload 6 dX11_years_197 rfl ?_
        refine gx_iload 0 dX11_years_199 rfl ?_
        obtain ⟨_, hobq7, h⟩ := bnd h
        obtain ⟨q7, hq7, h⟩ := bnd h
        refine gx_cVI (As := [.int l5, .int q4.1]) (st := [.int l9]) (o := l0) dX11_years_201 (c_X11_worth hq7) mov_X11_worth tw_1531 hobq7 rfl ⟨Nat.le_of_ble_eq_true rfl, Nat.le_of_ble_eq_true rfl⟩ (Nat.le_of_ble_eq_true rfl) ?_
        refine gx_goto 229 dX11_years_204 (by decide) ?_
        exact gx_sub [1, 2, 3, 4, 5, 6, 7, 8, 10] rfl (s_X11_years_229 hr_93 h)
    · rw [if_neg c2] at h
      refine gx_aload_n 0 dX11_years_142 rfl rfl ?_
      obtain ⟨a8, ha8, h⟩ := bnd h
      refine gx_getN dX11_years_143 ha8 fl_X11_48 rfl ?_
      refine gx_iload 11 dX11_years_146 rfl ?_
      refine gx_aload_n 0 dX11_years_148 rfl rfl ?_
      refine gx_iload_n 1 dX11_years_149 rfl rfl ?_
      refine gx_iload 11 dX11_years_150 rfl ?_
      refine gx_aload_n 0 dX11_years_152 rfl rfl ?_
      obtain ⟨a9, ha9, h⟩ := bnd h
      refine gx_getN dX11_years_153 ha9 fl_X11_48 rfl ?_
      refine gx_iload 11 dX11_years_156 rfl ?_
      obtain ⟨x10, hx10, h⟩ := bnd h
      refine gx_iald (kd := 113) dX11_years_158 hx10 rfl rfl ?_
      refine gx_iload 10 dX11_years_159 rfl ?_
      refine gx_iload_n 3 dX11_years_161 rfl rfl ?_
      refine gx_aload_n 0 dX11_years_162 rfl rfl ?_
      refine gx_iload 11 dX11_years_163 rfl ?_
      refine gx_iconst (v := (2 : Int32)) dX11_years_165 ic_2 ?_
      obtain ⟨_, hobq11, h⟩ := bnd h
      obtain ⟨q11, hq11, h⟩ := bnd h
      refine gx_cVI (As := [.int l12, .int (2 : Int32)]) (st := [.int l3, .int l11, .int x10, .int l12, .int l1, .ref (Γ.B + pp l0), .int l12, .ref (Γ.B + pp a8)]) (o := l0) dX11_years_166 (c_X11_cockOf hq11) mov_X11_cockOf tw_1296 hobq11 rfl ⟨Nat.le_of_ble_eq_true rfl, Nat.le_of_ble_eq_true rfl⟩ (Nat.le_of_ble_eq_true rfl) ?_
      refine gx_iconst (v := (-1 : Int32)) dX11_years_169 ic_m1 ?_
      obtain ⟨_, hobq12, h⟩ := bnd h
      obtain ⟨q12, hq12, h⟩ := bnd h
      refine gx_cVI (As := [.int l1, .int l12, .int x10, .int l11, .int l3, .int q11.1, .int (-1 : Int32)]) (st := [.int l12, .ref (Γ.B + pp a8)]) (o := l0) dX11_years_170 (c_X11_goesTo hq12) mov_X11_goesTo tw_1348 hobq12 rfl ⟨Nat.le_of_ble_eq_true rfl, Nat.le_of_ble_eq_true rfl⟩ (Nat.le_of_ble_eq_true rfl) ?_
      obtain ⟨s13, hs13, h⟩ := bnd h
      refine gx_iast (kd := 113) dX11_years_173 hs13 rfl rfl ?_
      refine gx_iinc (v := (l12 + (1 : Int32))) (lv' := [(12, .int (l12 + (1 : Int32))), (0, .ref (Γ.B + pp l0)), (1, .int l1), (2, .int l2), (3, .int l3), (4, .int l4), (5, .int l5), (6, .int l6), (7, .long l7), (9, .int l9), (10, .int l10), (11, .int l11)]) 11 dX11_years_174 rfl (by rw [ic_1]) (Nat.le_of_ble_eq_true rfl) rfl ?_
      refine gx_goto 131 dX11_years_177 (by decide) ?_
      exact gx_sub [1, 2, 3, 4, 5, 6, 7, 8, 9, 10, 11, 0] rfl (ih _ _ _ _ _ _ _ _ _ _ _ _ _ _ h)
set_option maxRecDepth 4000 in
theorem s_X11_years_93 {Γ : Cn} {τ : Mm} {N : Nat} : ∀ (n : Nat) (l0 : Nat) (l1 : Int32) (l2 : Int32) (l3 : Int32) (l4 : Int32) (l5 : Int32) (l6 : Int32) (l7 : Int64) (l9 : Int32) (l10 : Int32) (σ : Mm) (o : Int32 × Mm), f_X11_years_93 N n l0 l1 l2 l3 l4 l5 l6 l7 l9 l10 σ = some o → Gx Γ M_X11_years 100 τ (PI o) 0 0 93 [(0, .ref (Γ.B + pp l0)), (1, .int l1), (2, .int l2), (3, .int l3), (4, .int l4), (5, .int l5), (6, .int l6), (7, .long l7), (9, .int l9), (10, .int l10)] [] σ := by
  intro n
  induction n with
  | zero =>
    intro l0 l1 l2 l3 l4 l5 l6 l7 l9 l10 σ o h
    exact absurd h (by rw [f_X11_years_93]; exact fun q => nomatch q)
  | succ n ih =>
    intro l0 l1 l2 l3 l4 l5 l6 l7 l9 l10 σ o h
    rw [f_X11_years_93] at h
    refine gx_iload 9 dX11_years_93 rfl ?_
    refine gx_iload_n 2 dX11_years_95 rfl rfl ?_
    refine gx_icmp_ge 238 dX11_years_96 (by decide) (fun c0 => ?_) (fun c0 => ?_)
    · rw [if_pos c0] at h
      refine gx_iload 8 dX11_years_238 rfl ?_
      have h := Option.some.inj h
      subst h
      exact gx_iret dX11_years_240 rfl (Nat.le_of_ble_eq_true rfl) (Nat.le_of_ble_eq_true rfl) ⟨rfl, rfl⟩
    · rw [if_neg c0] at h
      refine gx_lload 7 dX11_years_99 rfl ?_
      refine gx_ldc2 (v := (1103515245 : Int64)) dX11_years_101 tw_1540 ?_
      refine gx_lmul dX11_years_104 ?_
      refine gx_ldc2 (v := (12345 : Int64)) dX11_years_105 tw_1541 ?_
      refine gx_ladd dX11_years_108 ?_
      refine gx_ldc2 (v := (2147483648 : Int64)) dX11_years_109 tw_1542 ?_
      obtain ⟨c1, h⟩ := of_ifn h
      refine gx_lrem dX11_years_112 c1 ?_
      refine gx_lstore (lv' := [(7, .long (((l7 * (1103515245 : Int64)) + (12345 : Int64)) - ((l7 * (1103515245 : Int64)) + (12345 : Int64)) / (2147483648 : Int64) * (2147483648 : Int64))), (0, .ref (Γ.B + pp l0)), (1, .int l1), (2, .int l2), (3, .int l3), (4, .int l4), (5, .int l5), (6, .int l6), (9, .int l9), (10, .int l10)]) dX11_years_113 (Nat.le_of_ble_eq_true rfl) rfl ?_
      refine gx_lload 0 dX11_years_115 rfl ?_
      refine gx_ldc2 (v := (65536 : Int64)) dX11_years_117 tw_1550 ?_
      obtain ⟨c2, h⟩ := of_ifn h
      refine gx_ldiv dX11_years_120 c2 ?_
      refine gx_ldc2 (v := (8 : Int64)) dX11_years_121 tw_1551 ?_
      obtain ⟨c3, h⟩ := of_ifn h
      refine gx_lrem dX11_years_124 c3 ?_
      refine gx_l2i dX11_years_125 ?_
      refine gx_istore (lv' := [(11, .int (Int64.toInt32 (((((l7 * (1103515245 : Int64)) + (12345 : Int64)) - ((l7 * (1103515245 : Int64)) + (12345 : Int64)) / (2147483648 : Int64) * (2147483648 : Int64)) / (65536 : Int64)) - ((((l7 * (1103515245 : Int64)) + (12345 : Int64)) - ((l7 * (1103515245 : Int64)) + (12345 : Int64)) / (2147483648 : Int64) * (2147483648 : Int64)) / (65536 : Int64)) / (8 : Int64) * (8 : Int64)))), (7, .long (((l7 * (1103515245 : Int64)) + (12345 : Int64)) - ((l7 * (1103515245 : Int64)) + (12345 : Int64)) / (2147483648 : Int64) * (2147483648 : Int64))), (0, .ref (Γ.B + pp l0)), (1, .int l1), (2, .int l2), (3, .int l3), (4, .int l4), (5, .int l5), (6, .int l6), (9, .int l9), (10, .int l10)]) dX11_years_126 (Nat.le_of_ble_eq_true rfl) rfl ?_
      refine gx_iconst (v := (0 : Int32)) dX11_years_128 ic_0 ?_
      refine gx_istore (lv' := [(12, .int (0 : Int32)), (11, .int (Int64.toInt32 (((((l7 * (1103515245 : Int64)) + (12345 : Int64)) - ((l7 * (1103515245 : Int64)) + (12345 : Int64)) / (2147483648 : Int64) * (2147483648 : Int64)) / (65536 : Int64)) - ((((l7 * (1103515245 : Int64)) + (12345 : Int64)) - ((l7 * (1103515245 : Int64)) + (12345 : Int64)) / (2147483648 : Int64) * (2147483648 : Int64)) / (65536 : Int64)) / (8 : Int64) * (8 : Int64)))), (7, .long (((l7 * (1103515245 : Int64)) + (12345 : Int64)) - ((l7 * (1103515245 : Int64)) + (12345 : Int64)) / (2147483648 : Int64) * (2147483648 : Int64))), (0, .ref (Γ.B + pp l0)), (1, .int l1), (2, .int l2), (3, .int l3), (4, .int l4), (5, .int l5), (6, .int l6), (9, .int l9), (10, .int l10)]) dX11_years_129 (Nat.le_of_ble_eq_true rfl) rfl ?_
      exact gx_sub [3, 4, 5, 6, 7, 8, 9, 2, 10, 11, 1, 0] rfl (s_X11_years_131 ih N _ _ _ _ _ _ _ _ _ _ _ _ _ _ h)
set_option maxRecDepth 4000 in
theorem s_X11_years_66 {Γ : Cn} {τ : Mm} {N : Nat} {l0 : Nat} {l1 : Int32} {l2 : Int32} {l3 : Int32} {l4 : Int32} {l5 : Int32} {l6 : Int32} {t0 : Int64} {t1 : Int64} {t2 : Int64} {σ : Mm} {o : Int32 × Mm} (h : f_X11_years_66 N l0 l1 l2 l3 l4 l5 l6 t0 t1 t2 σ = some o) : Gx Γ M_X11_years 100 τ (PI o) 0 0 66 [(0, .ref (Γ.B + pp l0)), (1, .int l1), (2, .int l2), (3, .int l3), (4, .int l4), (5, .int l5), (6, .int l6)] [.long t2, .long t1, .long t0] σ := by
  unfold f_X11_years_66 at h
  obtain ⟨q1, hq1, h⟩ := bnd h
  refine gx_cSI (As := [.long t0, .long t1, .long t2]) (st := []) dX11_years_66 (c_X11_in hq1) mos_X11_in tw_1206 rfl ⟨Nat.le_of_ble_eq_true rfl, Nat.le_of_ble_eq_true rfl⟩ (Nat.le_of_ble_eq_true rfl) ?_
  refine gx_if_ne 74 dX11_years_69 (by decide) (fun c1 => ?_) (fun c1 => ?_)
  · rw [if_neg c1] at h
    refine gx_aload_n 0 dX11_years_74 rfl rfl ?_
    obtain ⟨a3, ha3, h⟩ := bnd h
    refine gx_getN dX11_years_75 ha3 fl_X11_45 rfl ?_
    refine gx_iconst (v := (2 : Int32)) dX11_years_78 ic_2 ?_
    obtain ⟨x4, hx4, h⟩ := bnd h
    refine gx_iald (kd := 113) dX11_years_79 hx4 rfl rfl ?_
    refine gx_i2l dX11_years_80 ?_
    refine gx_lstore (lv' := [(7, .long (Int32.toInt64 x4)), (0, .ref (Γ.B + pp l0)), (1, .int l1), (2, .int l2), (3, .int l3), (4, .int l4), (5, .int l5), (6, .int l6)]) dX11_years_81 (Nat.le_of_ble_eq_true rfl) rfl ?_
    refine gx_aload_n 1 dX11_years_83 rfl rfl ?_
    obtain ⟨_, hobq5, h⟩ := bnd h
    obtain ⟨q5, hq5, h⟩ := bnd h
    refine gx_cVV (As := []) (st := []) (o := l0) dX11_years_84 (c_X11_asTheyAre hq5) mov_X11_asTheyAre tw_1407 hobq5 rfl ⟨Nat.le_of_ble_eq_true rfl, Nat.le_of_ble_eq_true rfl⟩ (Nat.le_of_ble_eq_true rfl) ?_
    refine gx_iconst (v := (0 : Int32)) dX11_years_87 ic_0 ?_
    refine gx_istore (lv' := [(9, .int (0 : Int32)), (7, .long (Int32.toInt64 x4)), (0, .ref (Γ.B + pp l0)), (1, .int l1), (2, .int l2), (3, .int l3), (4, .int l4), (5, .int l5), (6, .int l6)]) dX11_years_88 (Nat.le_of_ble_eq_true rfl) rfl ?_
    refine gx_iconst (v := (0 : Int32)) dX11_years_90 ic_0 ?_
    refine gx_istore (lv' := [(10, .int (0 : Int32)), (9, .int (0 : Int32)), (7, .long (Int32.toInt64 x4)), (0, .ref (Γ.B + pp l0)), (1, .int l1), (2, .int l2), (3, .int l3), (4, .int l4), (5, .int l5), (6, .int l6)]) dX11_years_91 (Nat.le_of_ble_eq_true rfl) rfl ?_
    exact gx_sub [3, 4, 5, 6, 7, 8, 9, 2, 1, 0] rfl (s_X11_years_93  N _ _ _ _ _ _ _ _ _ _ _ _ h)
  · rw [if_pos c1] at h
    exact gx_sub [] rfl (s_X11_years_72  h)
set_option maxRecDepth 4000 in
theorem s_X11_years_0 {Γ : Cn} {τ : Mm} {N : Nat} {l0 : Nat} {l1 : Int32} {l2 : Int32} {l3 : Int32} {l4 : Int32} {l5 : Int32} {l6 : Int32} {σ : Mm} {o : Int32 × Mm} (h : f_X11_years N l0 l1 l2 l3 l4 l5 l6 σ = some o) : Gx Γ M_X11_years 100 τ (PI o) 0 0 0 [(0, .ref (Γ.B + pp l0)), (1, .int l1), (2, .int l2), (3, .int l3), (4, .int l4), (5, .int l5), (6, .int l6)] [] σ := by
  unfold f_X11_years at h
  refine gx_aload_n 0 dX11_years_0 rfl rfl ?_
  refine gx_iload_n 1 dX11_years_1 rfl rfl ?_
  refine gx_iconst (v := (0 : Int32)) dX11_years_2 ic_0 ?_
  refine gx_iload_n 3 dX11_years_3 rfl rfl ?_
  obtain ⟨_, hobq1, h⟩ := bnd h
  obtain ⟨q1, hq1, h⟩ := bnd h
  refine gx_cVI (As := [.int l1, .int (0 : Int32), .int l3]) (st := []) (o := l0) dX11_years_4 (c_X11_canBlow hq1) mov_X11_canBlow tw_1339 hobq1 rfl ⟨Nat.le_of_ble_eq_true rfl, Nat.le_of_ble_eq_true rfl⟩ (Nat.le_of_ble_eq_true rfl) ?_
  refine gx_if_eq 72 dX11_years_7 (by decide) (fun c1 => ?_) (fun c1 => ?_)
  · rw [if_pos c1] at h
    exact gx_sub [] rfl (s_X11_years_72  h)
  · rw [if_neg c1] at h
    refine gx_iload_n 3 dX11_years_10 rfl rfl ?_
    refine gx_if_eq 72 dX11_years_11 (by decide) (fun c2 => ?_) (fun c2 => ?_)
    · rw [if_pos c2] at h
      exact gx_sub [] rfl (s_X11_years_72  h)
    · rw [if_neg c2] at h
      refine gx_iload_n 2 dX11_years_14 rfl rfl ?_
      refine gx_i2l dX11_years_15 ?_
      refine gx_lconst (v := (1 : Int64)) dX11_years_16 (by decide) ?_
      refine gx_ldc2 (v := (366 : Int64)) dX11_years_17 tw_1548 ?_
      obtain ⟨q4, hq4, h⟩ := bnd h
      refine gx_cSI (As := [.long (Int32.toInt64 l2), .long (1 : Int64), .long (366 : Int64)]) (st := []) dX11_years_20 (c_X11_in hq4) mos_X11_in tw_1206 rfl ⟨Nat.le_of_ble_eq_true rfl, Nat.le_of_ble_eq_true rfl⟩ (Nat.le_of_ble_eq_true rfl) ?_
      refine gx_if_eq 72 dX11_years_23 (by decide) (fun c4 => ?_) (fun c4 => ?_)
      · rw [if_pos c4] at h
        exact gx_sub [] rfl (s_X11_years_72  h)
      · rw [if_neg c4] at h
        refine gx_iload 4 dX11_years_26 rfl ?_
        obtain ⟨q6, hq6, h⟩ := bnd h
        refine gx_cSI (As := [.int l4]) (st := []) dX11_years_28 (c_X11_isWay hq6) mos_X11_isWay tw_1404 rfl ⟨Nat.le_of_ble_eq_true rfl, Nat.le_of_ble_eq_true rfl⟩ (Nat.le_of_ble_eq_true rfl) ?_
        refine gx_if_eq 72 dX11_years_31 (by decide) (fun c6 => ?_) (fun c6 => ?_)
        · rw [if_pos c6] at h
          exact gx_sub [] rfl (s_X11_years_72  h)
        · rw [if_neg c6] at h
          refine gx_iload 6 dX11_years_34 rfl ?_
          refine gx_i2l dX11_years_36 ?_
          refine gx_lconst (v := (0 : Int64)) dX11_years_37 (by decide) ?_
          refine gx_ldc2 (v := (2 : Int64)) dX11_years_38 tw_1308 ?_
          obtain ⟨q8, hq8, h⟩ := bnd h
          refine gx_cSI (As := [.long (Int32.toInt64 l6), .long (0 : Int64), .long (2 : Int64)]) (st := []) dX11_years_41 (c_X11_in hq8) mos_X11_in tw_1206 rfl ⟨Nat.le_of_ble_eq_true rfl, Nat.le_of_ble_eq_true rfl⟩ (Nat.le_of_ble_eq_true rfl) ?_
          refine gx_if_eq 72 dX11_years_44 (by decide) (fun c8 => ?_) (fun c8 => ?_)
          · rw [if_pos c8] at h
            exact gx_sub [] rfl (s_X11_years_72  h)
          · rw [if_neg c8] at h
            refine gx_iload 5 dX11_years_47 rfl ?_
            refine gx_i2l dX11_years_49 ?_
            refine gx_lconst (v := (0 : Int64)) dX11_years_50 (by decide) ?_
            refine gx_iload 6 dX11_years_51 rfl ?_
            refine gx_iconst (v := (2 : Int32)) dX11_years_53 ic_2 ?_
            refine gx_icmp_ne 63 dX11_years_54 (by decide) (fun c9 => ?_) (fun c9 => ?_)
            · rw [if_neg c9] at h
              refine gx_ldc2 (v := (7 : Int64)) dX11_years_63 tw_1549 ?_
              exact s_X11_years_66  h
            · rw [if_pos c9] at h
              refine gx_ldc2 (v := (3 : Int64)) dX11_years_57 tw_1317 ?_
              refine gx_goto 66 dX11_years_60 (by decide) ?_
              exact s_X11_years_66  h
theorem c_X11_years {Γ : Cn} {τ : Mm} {N : Nat} {l0 : Nat} {l1 : Int32} {l2 : Int32} {l3 : Int32} {l4 : Int32} {l5 : Int32} {l6 : Int32} {σ : Mm} {o : Int32 × Mm} (h : f_X11_years N l0 l1 l2 l3 l4 l5 l6 σ = some o) : Ct Γ M_X11_years yX11_years 100 τ [.ref (Γ.B + pp l0), .int l1, .int l2, .int l3, .int l4, .int l5, .int l6] σ (PI o) := ct_of (by decide) rfl (fun _ => by first | rfl | contradiction) (Nat.le_of_ble_eq_true rfl) (s_X11_years_0  h)
abbrev M_X11_count : Ms := (cX11_count, RX11, 4, (some .int), false, 0, 0, 1)
def f_X11_count_58 (N : Nat) : Nat → Nat → Int32 → Int32 → Mm → Option (Int32 × Mm)
  | 0, _, _, _, _ => none
  | n + 1, l0, l2, l3, σ =>
      (gN 11 24 σ l0).bind fun a1 =>
      (aI 113 σ a1 (1 : Int32)).bind fun x2 =>
      if x2 ≤ l3 then (
        some (l2, σ)) else (
        (ob 11 σ l0).bind fun _ =>
        (f_X11_treeOf N l0 l3 (2 : Int32) σ).bind fun q4 =>
        f_X11_count_58 N n l0 (l2 + q4.1) (l3 + (1 : Int32)) q4.2)
def f_X11_count_99 (N : Nat) : Nat → Nat → Int32 → Int32 → Mm → Option (Int32 × Mm)
  | 0, _, _, _, _ => none
  | n + 1, l0, l2, l3, σ =>
      (gN 11 24 σ l0).bind fun a1 =>
      (aI 113 σ a1 (0 : Int32)).bind fun x2 =>
      if x2 ≤ l3 then (
        some (l2, σ)) else (
        (ob 11 σ l0).bind fun _ =>
        (f_X11_cockOf N l0 l3 (3 : Int32) σ).bind fun q4 =>
        f_X11_count_99 N n l0 (l2 + q4.1) (l3 + (1 : Int32)) q4.2)
def f_X11_count (N : Nat) (l0 : Nat) (l1 : Int32) (σ : Mm) : Option (Int32 × Mm) :=
  if l1 = (0 : Int32) then (
    (gN 11 24 σ l0).bind fun a3 =>
    (aI 113 σ a3 l1).bind fun x4 =>
    some (x4, σ)) else
  if l1 = (1 : Int32) then (
    (gN 11 24 σ l0).bind fun a6 =>
    (aI 113 σ a6 l1).bind fun x7 =>
    some (x7, σ)) else
  if l1 = (2 : Int32) then (
    (gI 11 2 σ l0).bind fun x9 =>
    some (x9, σ)) else
  if l1 = (3 : Int32) then (
    f_X11_count_58 N N l0 (0 : Int32) (0 : Int32) σ) else
  if l1 = (4 : Int32) then (
    (gN 11 24 σ l0).bind fun a12 =>
    (aI 113 σ a12 (2 : Int32)).bind fun x13 =>
    some (x13, σ)) else
  if l1 = (5 : Int32) then (
    (gI 11 1 σ l0).bind fun x15 =>
    some (x15, σ)) else
  if l1 = (6 : Int32) then (
    f_X11_count_99 N N l0 (0 : Int32) (0 : Int32) σ) else
  some ((-1 : Int32), σ)
theorem mov_X11_count : MOV yX11_count M_X11_count 1 11 100 := ⟨⟨tw_107, tw_1555, ⟨by decide, by decide⟩, by decide +kernel⟩, tw_1553, tw_1554, by decide, ⟨_, rfl, rfl⟩, rfl⟩
set_option maxRecDepth 4000 in
theorem s_X11_count_58 {Γ : Cn} {τ : Mm} {N : Nat} : ∀ (n : Nat) (l0 : Nat) (l2 : Int32) (l3 : Int32) (σ : Mm) (o : Int32 × Mm), f_X11_count_58 N n l0 l2 l3 σ = some o → Gx Γ M_X11_count 100 τ (PI o) 0 0 58 [(0, .ref (Γ.B + pp l0)), (2, .int l2), (3, .int l3)] [] σ := by
  intro n
  induction n with
  | zero =>
    intro l0 l2 l3 σ o h
    exact absurd h (by rw [f_X11_count_58]; exact fun q => nomatch q)
  | succ n ih =>
    intro l0 l2 l3 σ o h
    rw [f_X11_count_58] at h
    refine gx_iload_n 2 dX11_count_58 rfl rfl ?_
    refine gx_aload_n 0 dX11_count_59 rfl rfl ?_
    obtain ⟨a1, ha1, h⟩ := bnd h
    refine gx_getN dX11_count_60 ha1 fl_X11_45 rfl ?_
    refine gx_iconst (v := (1 : Int32)) dX11_count_63 ic_1 ?_
    obtain ⟨x2, hx2, h⟩ := bnd h
    refine gx_iald (kd := 113) dX11_count_64 hx2 rfl rfl ?_
    refine gx_icmp_ge 83 dX11_count_65 (by decide) (fun c2 => ?_) (fun c2 => ?_)
    · rw [if_pos c2] at h
      refine gx_iload_n 1 dX11_count_83 rfl rfl ?_
      have h := Option.some.inj h
      subst h
      exact gx_iret dX11_count_84 rfl (Nat.le_of_ble_eq_true rfl) (Nat.le_of_ble_eq_true rfl) ⟨rfl, rfl⟩
    · rw [if_neg c2] at h
      refine gx_iload_n 1 dX11_count_68 rfl rfl ?_
      refine gx_aload_n 0 dX11_count_69 rfl rfl ?_
      refine gx_iload_n 2 dX11_count_70 rfl rfl ?_
      refine gx_iconst (v := (2 : Int32)) dX11_count_71 ic_2 ?_
      obtain ⟨_, hobq4, h⟩ := bnd h
      obtain ⟨q4, hq4, h⟩ := bnd h
      refine gx_cVI (As := [.int l3, .int (2 : Int32)]) (st := [.int l2]) (o := l0) dX11_count_72 (c_X11_treeOf hq4) mov_X11_treeOf tw_1309 hobq4 rfl ⟨Nat.le_of_ble_eq_true rfl, Nat.le_of_ble_eq_true rfl⟩ (Nat.le_of_ble_eq_true rfl) ?_
      refine gx_iadd dX11_count_75 ?_
      refine gx_istore_n (lv' := [(2, .int (l2 + q4.1)), (0, .ref (Γ.B + pp l0)), (3, .int l3)]) dX11_count_76 rfl (Nat.le_of_ble_eq_true rfl) rfl ?_
      refine gx_iinc (v := (l3 + (1 : Int32))) (lv' := [(3, .int (l3 + (1 : Int32))), (2, .int (l2 + q4.1)), (0, .ref (Γ.B + pp l0))]) 2 dX11_count_77 rfl (by rw [ic_1]) (Nat.le_of_ble_eq_true rfl) rfl ?_
      refine gx_goto 58 dX11_count_80 (by decide) ?_
      exact gx_sub [2, 1, 0] rfl (ih _ _ _ _ _ h)
set_option maxRecDepth 4000 in
theorem s_X11_count_99 {Γ : Cn} {τ : Mm} {N : Nat} : ∀ (n : Nat) (l0 : Nat) (l2 : Int32) (l3 : Int32) (σ : Mm) (o : Int32 × Mm), f_X11_count_99 N n l0 l2 l3 σ = some o → Gx Γ M_X11_count 100 τ (PI o) 0 0 99 [(0, .ref (Γ.B + pp l0)), (2, .int l2), (3, .int l3)] [] σ := by
  intro n
  induction n with
  | zero =>
    intro l0 l2 l3 σ o h
    exact absurd h (by rw [f_X11_count_99]; exact fun q => nomatch q)
  | succ n ih =>
    intro l0 l2 l3 σ o h
    rw [f_X11_count_99] at h
    refine gx_iload_n 2 dX11_count_99 rfl rfl ?_
    refine gx_aload_n 0 dX11_count_100 rfl rfl ?_
    obtain ⟨a1, ha1, h⟩ := bnd h
    refine gx_getN dX11_count_101 ha1 fl_X11_45 rfl ?_
    refine gx_iconst (v := (0 : Int32)) dX11_count_104 ic_0 ?_
    obtain ⟨x2, hx2, h⟩ := bnd h
    refine gx_iald (kd := 113) dX11_count_105 hx2 rfl rfl ?_
    refine gx_icmp_ge 124 dX11_count_106 (by decide) (fun c2 => ?_) (fun c2 => ?_)
    · rw [if_pos c2] at h
      refine gx_iload_n 1 dX11_count_124 rfl rfl ?_
      have h := Option.some.inj h
      subst h
      exact gx_iret dX11_count_125 rfl (Nat.le_of_ble_eq_true rfl) (Nat.le_of_ble_eq_true rfl) ⟨rfl, rfl⟩
    · rw [if_neg c2] at h
      refine gx_iload_n 1 dX11_count_109 rfl rfl ?_
      refine gx_aload_n 0 dX11_count_110 rfl rfl ?_
      refine gx_iload_n 2 dX11_count_111 rfl rfl ?_
      refine gx_iconst (v := (3 : Int32)) dX11_count_112 ic_3 ?_
      obtain ⟨_, hobq4, h⟩ := bnd h
      obtain ⟨q4, hq4, h⟩ := bnd h
      refine gx_cVI (As := [.int l3, .int (3 : Int32)]) (st := [.int l2]) (o := l0) dX11_count_113 (c_X11_cockOf hq4) mov_X11_cockOf tw_1296 hobq4 rfl ⟨Nat.le_of_ble_eq_true rfl, Nat.le_of_ble_eq_true rfl⟩ (Nat.le_of_ble_eq_true rfl) ?_
      refine gx_iadd dX11_count_116 ?_
      refine gx_istore_n (lv' := [(2, .int (l2 + q4.1)), (0, .ref (Γ.B + pp l0)), (3, .int l3)]) dX11_count_117 rfl (Nat.le_of_ble_eq_true rfl) rfl ?_
      refine gx_iinc (v := (l3 + (1 : Int32))) (lv' := [(3, .int (l3 + (1 : Int32))), (2, .int (l2 + q4.1)), (0, .ref (Γ.B + pp l0))]) 2 dX11_count_118 rfl (by rw [ic_1]) (Nat.le_of_ble_eq_true rfl) rfl ?_
      refine gx_goto 99 dX11_count_121 (by decide) ?_
      exact gx_sub [2, 1, 0] rfl (ih _ _ _ _ _ h)
set_option maxRecDepth 4000 in
theorem s_X11_count_0 {Γ : Cn} {τ : Mm} {N : Nat} {l0 : Nat} {l1 : Int32} {σ : Mm} {o : Int32 × Mm} (h : f_X11_count N l0 l1 σ = some o) : Gx Γ M_X11_count 100 τ (PI o) 0 0 0 [(0, .ref (Γ.B + pp l0)), (1, .int l1)] [] σ := by
  unfold f_X11_count at h
  refine gx_iconst (v := (0 : Int32)) dX11_count_0 ic_0 ?_
  refine gx_istore_n (lv' := [(2, .int (0 : Int32)), (0, .ref (Γ.B + pp l0)), (1, .int l1)]) dX11_count_1 rfl (Nat.le_of_ble_eq_true rfl) rfl ?_
  refine gx_iload_n 2 dX11_count_2 rfl rfl ?_
  by_cases c1 : l1 = (0 : Int32)
  · rw [if_pos c1] at h
    refine gx_tIn 44 dX11_count_3 (by rw [c1]; decide) (by rw [c1]; decide) (by rw [c1]; rfl) (by decide) ?_
    refine gx_aload_n 1 dX11_count_44 rfl rfl ?_
    obtain ⟨a3, ha3, h⟩ := bnd h
    refine gx_getN dX11_count_45 ha3 fl_X11_45 rfl ?_
    refine gx_iload_n 2 dX11_count_48 rfl rfl ?_
    obtain ⟨x4, hx4, h⟩ := bnd h
    refine gx_iald (kd := 113) dX11_count_49 hx4 rfl rfl ?_
    have h := Option.some.inj h
    subst h
    exact gx_iret dX11_count_50 rfl (Nat.le_of_ble_eq_true rfl) (Nat.le_of_ble_eq_true rfl) ⟨rfl, rfl⟩
  rw [if_neg c1] at h
  by_cases c4 : l1 = (1 : Int32)
  · rw [if_pos c4] at h
    refine gx_tIn 44 dX11_count_3 (by rw [c4]; decide) (by rw [c4]; decide) (by rw [c4]; rfl) (by decide) ?_
    refine gx_aload_n 1 dX11_count_44 rfl rfl ?_
    obtain ⟨a6, ha6, h⟩ := bnd h
    refine gx_getN dX11_count_45 ha6 fl_X11_45 rfl ?_
    refine gx_iload_n 2 dX11_count_48 rfl rfl ?_
    obtain ⟨x7, hx7, h⟩ := bnd h
    refine gx_iald (kd := 113) dX11_count_49 hx7 rfl rfl ?_
    have h := Option.some.inj h
    subst h
    exact gx_iret dX11_count_50 rfl (Nat.le_of_ble_eq_true rfl) (Nat.le_of_ble_eq_true rfl) ⟨rfl, rfl⟩
  rw [if_neg c4] at h
  by_cases c7 : l1 = (2 : Int32)
  · rw [if_pos c7] at h
    refine gx_tIn 51 dX11_count_3 (by rw [c7]; decide) (by rw [c7]; decide) (by rw [c7]; rfl) (by decide) ?_
    refine gx_aload_n 1 dX11_count_51 rfl rfl ?_
    obtain ⟨x9, hx9, h⟩ := bnd h
    refine gx_getI dX11_count_52 hx9 fl_X11_236 rfl ?_
    have h := Option.some.inj h
    subst h
    exact gx_iret dX11_count_55 rfl (Nat.le_of_ble_eq_true rfl) (Nat.le_of_ble_eq_true rfl) ⟨rfl, rfl⟩
  rw [if_neg c7] at h
  by_cases c9 : l1 = (3 : Int32)
  · rw [if_pos c9] at h
    refine gx_tIn 56 dX11_count_3 (by rw [c9]; decide) (by rw [c9]; decide) (by rw [c9]; rfl) (by decide) ?_
    refine gx_iconst (v := (0 : Int32)) dX11_count_56 ic_0 ?_
    refine gx_istore_n (lv' := [(3, .int (0 : Int32)), (2, .int (0 : Int32)), (0, .ref (Γ.B + pp l0)), (1, .int l1)]) dX11_count_57 rfl (Nat.le_of_ble_eq_true rfl) rfl ?_
    exact gx_sub [2, 1, 0] rfl (s_X11_count_58  N _ _ _ _ _ h)
  rw [if_neg c9] at h
  by_cases c10 : l1 = (4 : Int32)
  · rw [if_pos c10] at h
    refine gx_tIn 85 dX11_count_3 (by rw [c10]; decide) (by rw [c10]; decide) (by rw [c10]; rfl) (by decide) ?_
    refine gx_aload_n 1 dX11_count_85 rfl rfl ?_
    obtain ⟨a12, ha12, h⟩ := bnd h
    refine gx_getN dX11_count_86 ha12 fl_X11_45 rfl ?_
    refine gx_iconst (v := (2 : Int32)) dX11_count_89 ic_2 ?_
    obtain ⟨x13, hx13, h⟩ := bnd h
    refine gx_iald (kd := 113) dX11_count_90 hx13 rfl rfl ?_
    have h := Option.some.inj h
    subst h
    exact gx_iret dX11_count_91 rfl (Nat.le_of_ble_eq_true rfl) (Nat.le_of_ble_eq_true rfl) ⟨rfl, rfl⟩
  rw [if_neg c10] at h
  by_cases c13 : l1 = (5 : Int32)
  · rw [if_pos c13] at h
    refine gx_tIn 92 dX11_count_3 (by rw [c13]; decide) (by rw [c13]; decide) (by rw [c13]; rfl) (by decide) ?_
    refine gx_aload_n 1 dX11_count_92 rfl rfl ?_
    obtain ⟨x15, hx15, h⟩ := bnd h
    refine gx_getI dX11_count_93 hx15 fl_X11_70 rfl ?_
    have h := Option.some.inj h
    subst h
    exact gx_iret dX11_count_96 rfl (Nat.le_of_ble_eq_true rfl) (Nat.le_of_ble_eq_true rfl) ⟨rfl, rfl⟩
  rw [if_neg c13] at h
  by_cases c15 : l1 = (6 : Int32)
  · rw [if_pos c15] at h
    refine gx_tIn 97 dX11_count_3 (by rw [c15]; decide) (by rw [c15]; decide) (by rw [c15]; rfl) (by decide) ?_
    refine gx_iconst (v := (0 : Int32)) dX11_count_97 ic_0 ?_
    refine gx_istore_n (lv' := [(3, .int (0 : Int32)), (2, .int (0 : Int32)), (0, .ref (Γ.B + pp l0)), (1, .int l1)]) dX11_count_98 rfl (Nat.le_of_ble_eq_true rfl) rfl ?_
    exact gx_sub [2, 1, 0] rfl (s_X11_count_99  N _ _ _ _ _ h)
  rw [if_neg c15] at h
  have K17 : Gx Γ M_X11_count 100 τ (PI o) 0 0 126 [(2, .int (0 : Int32)), (0, .ref (Γ.B + pp l0)), (1, .int l1)] [] σ := by
    refine gx_iconst (v := (-1 : Int32)) dX11_count_126 ic_m1 ?_
    have h := Option.some.inj h
    subst h
    exact gx_iret dX11_count_127 rfl (Nat.le_of_ble_eq_true rfl) (Nat.le_of_ble_eq_true rfl) ⟨rfl, rfl⟩
  by_cases hr : l1.toInt < (0) ∨ (6) < l1.toInt
  · exact gx_tOut 126 dX11_count_3 hr (by decide) K17
  · obtain ⟨j, hj, hx⟩ := sw_in hr
    match j, hj, hx with
    | 0, _, hx => exact absurd hx c1
    | 1, _, hx => exact absurd hx c4
    | 2, _, hx => exact absurd hx c7
    | 3, _, hx => exact absurd hx c9
    | 4, _, hx => exact absurd hx c10
    | 5, _, hx => exact absurd hx c13
    | 6, _, hx => exact absurd hx c15
    | j + 7, hj, _ => exact absurd hj (by omega)
theorem c_X11_count {Γ : Cn} {τ : Mm} {N : Nat} {l0 : Nat} {l1 : Int32} {σ : Mm} {o : Int32 × Mm} (h : f_X11_count N l0 l1 σ = some o) : Ct Γ M_X11_count yX11_count 100 τ [.ref (Γ.B + pp l0), .int l1] σ (PI o) := ct_of (by decide) rfl (fun _ => by first | rfl | contradiction) (Nat.le_of_ble_eq_true rfl) (s_X11_count_0  h)
abbrev M_X11_image : Ms := (cX11_image, RX11, 3, (some .int), false, 0, 0, 1)
def f_X11_image_23 (N : Nat) : Nat → Nat → Int32 → Int32 → Mm → Option (Int32 × Mm)
  | 0, _, _, _, _ => none
  | n + 1, l0, l1, l2, σ =>
      if (156 : Int32) ≤ l2 then (
        (gN 11 24 σ l0).bind fun a2 =>
        (aI 113 σ a2 (0 : Int32)).bind fun x3 =>
        some (x3, σ)) else (
        (gN 11 31 σ l0).bind fun a4 =>
        (gN 11 24 σ l0).bind fun a5 =>
        (aI 113 σ a5 l2).bind fun x6 =>
        (sI 113 σ a4 (((156 : Int32) * l1) + l2) x6).bind fun s7 =>
        f_X11_image_23 N n l0 l1 (l2 + (1 : Int32)) s7)
def f_X11_image (N : Nat) (l0 : Nat) (l1 : Int32) (σ : Mm) : Option (Int32 × Mm) :=
  (f_X11_in N (Int32.toInt64 l1) (0 : Int64) (3 : Int64) σ).bind fun q1 =>
  if q1.1 = 0 then (
    some ((-1 : Int32), q1.2)) else (
    (gN 11 32 q1.2 l0).bind fun a3 =>
    (sZ 115 q1.2 a3 l1 (1 : Int32)).bind fun s4 =>
    f_X11_image_23 N N l0 l1 (0 : Int32) s4)
theorem mov_X11_image : MOV yX11_image M_X11_image 1 11 100 := ⟨⟨tw_107, tw_1559, ⟨by decide, by decide⟩, by decide +kernel⟩, tw_1557, tw_1558, by decide, ⟨_, rfl, rfl⟩, rfl⟩
set_option maxRecDepth 4000 in
theorem s_X11_image_23 {Γ : Cn} {τ : Mm} {N : Nat} : ∀ (n : Nat) (l0 : Nat) (l1 : Int32) (l2 : Int32) (σ : Mm) (o : Int32 × Mm), f_X11_image_23 N n l0 l1 l2 σ = some o → Gx Γ M_X11_image 100 τ (PI o) 0 0 23 [(0, .ref (Γ.B + pp l0)), (1, .int l1), (2, .int l2)] [] σ := by
  intro n
  induction n with
  | zero =>
    intro l0 l1 l2 σ o h
    exact absurd h (by rw [f_X11_image_23]; exact fun q => nomatch q)
  | succ n ih =>
    intro l0 l1 l2 σ o h
    rw [f_X11_image_23] at h
    refine gx_iload_n 2 dX11_image_23 rfl rfl ?_
    refine gx_sipush (v := (156 : Int32)) dX11_image_24 is_156 ?_
    refine gx_icmp_ge 54 dX11_image_27 (by decide) (fun c0 => ?_) (fun c0 => ?_)
    · rw [if_pos c0] at h
      refine gx_aload_n 0 dX11_image_54 rfl rfl ?_
      obtain ⟨a2, ha2, h⟩ := bnd h
      refine gx_getN dX11_image_55 ha2 fl_X11_45 rfl ?_
      refine gx_iconst (v := (0 : Int32)) dX11_image_58 ic_0 ?_
      obtain ⟨x3, hx3, h⟩ := bnd h
      refine gx_iald (kd := 113) dX11_image_59 hx3 rfl rfl ?_
      have h := Option.some.inj h
      subst h
      exact gx_iret dX11_image_60 rfl (Nat.le_of_ble_eq_true rfl) (Nat.le_of_ble_eq_true rfl) ⟨rfl, rfl⟩
    · rw [if_neg c0] at h
      refine gx_aload_n 0 dX11_image_30 rfl rfl ?_
      obtain ⟨a4, ha4, h⟩ := bnd h
      refine gx_getN dX11_image_31 ha4 fl_X11_63 rfl ?_
      refine gx_sipush (v := (156 : Int32)) dX11_image_34 is_156 ?_
      refine gx_iload_n 1 dX11_image_37 rfl rfl ?_
      refine gx_imul dX11_image_38 ?_
      refine gx_iload_n 2 dX11_image_39 rfl rfl ?_
      refine gx_iadd dX11_image_40 ?_
      refine gx_aload_n 0 dX11_image_41 rfl rfl ?_
      obtain ⟨a5, ha5, h⟩ := bnd h
      refine gx_getN dX11_image_42 ha5 fl_X11_45 rfl ?_
      refine gx_iload_n 2 dX11_image_45 rfl rfl ?_
      obtain ⟨x6, hx6, h⟩ := bnd h
      refine gx_iald (kd := 113) dX11_image_46 hx6 rfl rfl ?_
      obtain ⟨s7, hs7, h⟩ := bnd h
      refine gx_iast (kd := 113) dX11_image_47 hs7 rfl rfl ?_
      refine gx_iinc (v := (l2 + (1 : Int32))) (lv' := [(2, .int (l2 + (1 : Int32))), (0, .ref (Γ.B + pp l0)), (1, .int l1)]) 2 dX11_image_48 rfl (by rw [ic_1]) (Nat.le_of_ble_eq_true rfl) rfl ?_
      refine gx_goto 23 dX11_image_51 (by decide) ?_
      exact gx_sub [1, 2, 0] rfl (ih _ _ _ _ _ h)
set_option maxRecDepth 4000 in
theorem s_X11_image_0 {Γ : Cn} {τ : Mm} {N : Nat} {l0 : Nat} {l1 : Int32} {σ : Mm} {o : Int32 × Mm} (h : f_X11_image N l0 l1 σ = some o) : Gx Γ M_X11_image 100 τ (PI o) 0 0 0 [(0, .ref (Γ.B + pp l0)), (1, .int l1)] [] σ := by
  unfold f_X11_image at h
  refine gx_iload_n 1 dX11_image_0 rfl rfl ?_
  refine gx_i2l dX11_image_1 ?_
  refine gx_lconst (v := (0 : Int64)) dX11_image_2 (by decide) ?_
  refine gx_ldc2 (v := (3 : Int64)) dX11_image_3 tw_1317 ?_
  obtain ⟨q1, hq1, h⟩ := bnd h
  refine gx_cSI (As := [.long (Int32.toInt64 l1), .long (0 : Int64), .long (3 : Int64)]) (st := []) dX11_image_6 (c_X11_in hq1) mos_X11_in tw_1206 rfl ⟨Nat.le_of_ble_eq_true rfl, Nat.le_of_ble_eq_true rfl⟩ (Nat.le_of_ble_eq_true rfl) ?_
  refine gx_if_ne 14 dX11_image_9 (by decide) (fun c1 => ?_) (fun c1 => ?_)
  · rw [if_neg c1] at h
    refine gx_aload_n 0 dX11_image_14 rfl rfl ?_
    obtain ⟨a3, ha3, h⟩ := bnd h
    refine gx_getN dX11_image_15 ha3 fl_X11_66 rfl ?_
    refine gx_iload_n 1 dX11_image_18 rfl rfl ?_
    refine gx_iconst (v := (1 : Int32)) dX11_image_19 ic_1 ?_
    obtain ⟨s4, hs4, h⟩ := bnd h
    refine gx_zast (kd := 115) dX11_image_20 hs4 rfl rfl ?_
    refine gx_iconst (v := (0 : Int32)) dX11_image_21 ic_0 ?_
    refine gx_istore_n (lv' := [(2, .int (0 : Int32)), (0, .ref (Γ.B + pp l0)), (1, .int l1)]) dX11_image_22 rfl (Nat.le_of_ble_eq_true rfl) rfl ?_
    exact gx_sub [1, 2, 0] rfl (s_X11_image_23  N _ _ _ _ _ h)
  · rw [if_pos c1] at h
    refine gx_iconst (v := (-1 : Int32)) dX11_image_12 ic_m1 ?_
    have h := Option.some.inj h
    subst h
    exact gx_iret dX11_image_13 rfl (Nat.le_of_ble_eq_true rfl) (Nat.le_of_ble_eq_true rfl) ⟨rfl, rfl⟩
theorem c_X11_image {Γ : Cn} {τ : Mm} {N : Nat} {l0 : Nat} {l1 : Int32} {σ : Mm} {o : Int32 × Mm} (h : f_X11_image N l0 l1 σ = some o) : Ct Γ M_X11_image yX11_image 100 τ [.ref (Γ.B + pp l0), .int l1] σ (PI o) := ct_of (by decide) rfl (fun _ => by first | rfl | contradiction) (Nat.le_of_ble_eq_true rfl) (s_X11_image_0  h)
