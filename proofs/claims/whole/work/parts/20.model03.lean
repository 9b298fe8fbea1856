abbrev M_X11_reckons : Ms := (cX11_reckons, RX11, 11, (some .long), false, 0, 0, 1)
def f_X11_reckons_129 (N : Nat) (r_8 : Nat → Int32 → Int32 → Int32 → Mm → Option (Int64 × Mm)) (l0 : Nat) (l1 : Int32) (l3 : Int32) (l4 : Int32) (σ : Mm) : Option (Int64 × Mm) :=
  r_8 l0 l1 l3 (l4 + (1 : Int32)) σ
def f_X11_reckons_8 (N : Nat) : Nat → Nat → Int32 → Int32 → Int32 → Mm → Option (Int64 × Mm)
  | 0, _, _, _, _, _ => none
  | n + 1, l0, l1, l3, l4, σ =>
      if l3 ≤ l4 then (
        (ob 11 σ l0).bind fun _ =>
        (f_X11_pop N l0 σ).bind fun q2 =>
        some (q2.1, q2.2)) else (
        (gN 11 3 σ l0).bind fun a3 =>
        (aI 113 σ a3 (((400 : Int32) * l1) + l4)).bind fun x4 =>
        (gN 11 3 σ l0).bind fun a5 =>
        (aI 113 σ a5 (((400 : Int32) * l1) + l4)).bind fun x6 =>
        if (x4 &&& (15 : Int32)) = 0 then (
          (ob 11 σ l0).bind fun _ =>
          (f_X11_push N l0 (Int32.toInt64 (x6 >>> ((4 : Int32) &&& 31))) σ).bind fun q19 =>
          f_X11_reckons_129 N (f_X11_reckons_8 N n) l0 l1 l3 l4 q19) else (
          if (x4 &&& (15 : Int32)) = (1 : Int32) then (
            (gN 11 23 σ l0).bind fun a16 =>
            (aJ 114 σ a16 (x6 >>> ((4 : Int32) &&& 31))).bind fun x17 =>
            (ob 11 σ l0).bind fun _ =>
            (f_X11_push N l0 x17 σ).bind fun q18 =>
            f_X11_reckons_129 N (f_X11_reckons_8 N n) l0 l1 l3 l4 q18) else (
            if (x4 &&& (15 : Int32)) = (11 : Int32) then (
              (ob 11 σ l0).bind fun _ =>
              (f_X11_pop N l0 σ).bind fun q14 =>
              (ob 11 q14.2 l0).bind fun _ =>
              (f_X11_push N l0 ((1 : Int64) - q14.1) q14.2).bind fun q15 =>
              f_X11_reckons_129 N (f_X11_reckons_8 N n) l0 l1 l3 l4 q15) else (
              (ob 11 σ l0).bind fun _ =>
              (f_X11_pop N l0 σ).bind fun q10 =>
              (ob 11 q10.2 l0).bind fun _ =>
              (f_X11_pop N l0 q10.2).bind fun q11 =>
              (f_X11_one N (x4 &&& (15 : Int32)) q11.1 q10.1 q11.2).bind fun q12 =>
              (ob 11 q12.2 l0).bind fun _ =>
              (f_X11_push N l0 q12.1 q12.2).bind fun q13 =>
              f_X11_reckons_129 N (f_X11_reckons_8 N n) l0 l1 l3 l4 q13))))
def f_X11_reckons (N : Nat) (l0 : Nat) (l1 : Int32) (l2 : Int32) (l3 : Int32) (σ : Mm) : Option (Int64 × Mm) :=
  (pI 11 22 σ l0 (0 : Int32)).bind fun s1 =>
  f_X11_reckons_8 N N l0 l1 l3 l2 s1
theorem mov_X11_reckons : MOV yX11_reckons M_X11_reckons 3 11 100 := ⟨⟨tw_107, tw_1362, ⟨by decide, by decide⟩, by decide +kernel⟩, tw_1361, tw_73, by decide, ⟨_, rfl, rfl⟩, rfl⟩
set_option maxRecDepth 4000 in
theorem s_X11_reckons_129 {Γ : Cn} {τ : Mm} {N : Nat} {r_8 : Nat → Int32 → Int32 → Int32 → Mm → Option (Int64 × Mm)} (hr_8 : ∀ (l0 : Nat) (l1 : Int32) (l3 : Int32) (l4 : Int32) (σ : Mm) (o : Int64 × Mm), r_8 l0 l1 l3 l4 σ = some o → Gx Γ M_X11_reckons 100 τ (PJ o) 0 0 8 [(0, .ref (Γ.B + pp l0)), (1, .int l1), (3, .int l3), (4, .int l4)] [] σ) {l0 : Nat} {l1 : Int32} {l3 : Int32} {l4 : Int32} {σ : Mm} {o : Int64 × Mm} (h : f_X11_reckons_129 N r_8 l0 l1 l3 l4 σ = some o) : Gx Γ M_X11_reckons 100 τ (PJ o) 0 0 129 [(0, .ref (Γ.B + pp l0)), (1, .int l1), (3, .int l3), (4, .int l4)] [] σ := by
  unfold f_X11_reckons_129 at h
  refine gx_iinc (v := (l4 + (1 : Int32))) (lv' := [(4, .int (l4 + (1 : Int32))), (0, .ref (Γ.B + pp l0)), (1, .int l1), (3, .int l3)]) 3 dX11_reckons_129 rfl (by rw [ic_1]) (Nat.le_of_ble_eq_true rfl) rfl ?_
  refine gx_goto 8 dX11_reckons_132 (by decide) ?_
  exact gx_sub [1, 2, 3, 0] rfl (hr_8 _ _ _ _ _ _ h)
set_option maxRecDepth 4000 in
theorem s_X11_reckons_8 {Γ : Cn} {τ : Mm} {N : Nat} : ∀ (n : Nat) (l0 : Nat) (l1 : Int32) (l3 : Int32) (l4 : Int32) (σ : Mm) (o : Int64 × Mm), f_X11_reckons_8 N n l0 l1 l3 l4 σ = some o → Gx Γ M_X11_reckons 100 τ (PJ o) 0 0 8 [(0, .ref (Γ.B + pp l0)), (1, .int l1), (3, .int l3), (4, .int l4)] [] σ := by
  intro n
  induction n with
  | zero =>
    intro l0 l1 l3 l4 σ o h
    exact absurd h (by rw [f_X11_reckons_8]; exact fun q => nomatch q)
  | succ n ih =>
    intro l0 l1 l3 l4 σ o h
    rw [f_X11_reckons_8] at h
    refine gx_iload 3 dX11_reckons_8 rfl ?_
    refine gx_iload_n 2 dX11_reckons_10 rfl rfl ?_
    refine gx_icmp_ge 135 dX11_reckons_11 (by decide) (fun c0 => ?_) (fun c0 => ?_)
    · rw [if_pos c0] at h
      refine gx_aload_n 0 dX11_reckons_135 rfl rfl ?_
      obtain ⟨_, hobq2, h⟩ := bnd h
      obtain ⟨q2, hq2, h⟩ := bnd h
      refine gx_cVJ (As := []) (st := []) (o := l0) dX11_reckons_136 (c_X11_pop hq2) mov_X11_pop tw_1367 hobq2 rfl ⟨Nat.le_of_ble_eq_true rfl, Nat.le_of_ble_eq_true rfl⟩ (Nat.le_of_ble_eq_true rfl) ?_
      have h := Option.some.inj h
      subst h
      exact gx_lret dX11_reckons_139 rfl (Nat.le_of_ble_eq_true rfl) (Nat.le_of_ble_eq_true rfl) ⟨rfl, rfl⟩
    · rw [if_neg c0] at h
      refine gx_aload_n 0 dX11_reckons_14 rfl rfl ?_
      obtain ⟨a3, ha3, h⟩ := bnd h
      refine gx_getN dX11_reckons_15 ha3 fl_X11_13 rfl ?_
      refine gx_sipush (v := (400 : Int32)) dX11_reckons_18 is_400 ?_
      refine gx_iload_n 1 dX11_reckons_21 rfl rfl ?_
      refine gx_imul dX11_reckons_22 ?_
      refine gx_iload 3 dX11_reckons_23 rfl ?_
      refine gx_iadd dX11_reckons_25 ?_
      obtain ⟨x4, hx4, h⟩ := bnd h
      refine gx_iald (kd := 113) dX11_reckons_26 hx4 rfl rfl ?_
      refine gx_bipush (v := (15 : Int32)) dX11_reckons_27 ib_15 ?_
      refine gx_iand dX11_reckons_29 ?_
      refine gx_istore (lv' := [(5, .int (x4 &&& (15 : Int32))), (0, .ref (Γ.B + pp l0)), (1, .int l1), (3, .int l3), (4, .int l4)]) dX11_reckons_30 (Nat.le_of_ble_eq_true rfl) rfl ?_
      refine gx_aload_n 1 dX11_reckons_32 rfl rfl ?_
      obtain ⟨a5, ha5, h⟩ := bnd h
      refine gx_getN dX11_reckons_33 ha5 fl_X11_13 rfl ?_
      refine gx_sipush (v := (400 : Int32)) dX11_reckons_36 is_400 ?_
      refine gx_iload_n 2 dX11_reckons_39 rfl rfl ?_
      refine gx_imul dX11_reckons_40 ?_
      refine gx_iload 4 dX11_reckons_41 rfl ?_
      refine gx_iadd dX11_reckons_43 ?_
      obtain ⟨x6, hx6, h⟩ := bnd h
      refine gx_iald (kd := 113) dX11_reckons_44 hx6 rfl rfl ?_
      refine gx_iconst (v := (4 : Int32)) dX11_reckons_45 ic_4 ?_
      refine gx_ishr dX11_reckons_46 ?_
      refine gx_istore (lv' := [(6, .int (x6 >>> ((4 : Int32) &&& 31))), (5, .int (x4 &&& (15 : Int32))), (0, .ref (Γ.B + pp l0)), (1, .int l1), (3, .int l3), (4, .int l4)]) dX11_reckons_47 (Nat.le_of_ble_eq_true rfl) rfl ?_
      refine gx_iload 1 dX11_reckons_49 rfl ?_
      refine gx_if_ne 64 dX11_reckons_51 (by decide) (fun c6 => ?_) (fun c6 => ?_)
      · rw [if_neg c6] at h
        refine gx_iload 1 dX11_reckons_64 rfl ?_
        refine gx_iconst (v := (1 : Int32)) dX11_reckons_66 ic_1 ?_
        refine gx_icmp_ne 84 dX11_reckons_67 (by decide) (fun c7 => ?_) (fun c7 => ?_)
        · rw [if_neg c7] at h
          refine gx_iload 1 dX11_reckons_84 rfl ?_
          refine gx_bipush (v := (11 : Int32)) dX11_reckons_86 ib_11 ?_
          refine gx_icmp_ne 104 dX11_reckons_88 (by decide) (fun c8 => ?_) (fun c8 => ?_)
          · rw [if_neg c8] at h
            refine gx_aload_n 2 dX11_reckons_104 rfl rfl ?_
            obtain ⟨_, hobq10, h⟩ := bnd h
            obtain ⟨q10, hq10, h⟩ := bnd h
            refine gx_cVJ (As := []) (st := []) (o := l0) dX11_reckons_105 (c_X11_pop hq10) mov_X11_pop tw_1367 hobq10 rfl ⟨Nat.le_of_ble_eq_true rfl, Nat.le_of_ble_eq_true rfl⟩ (Nat.le_of_ble_eq_true rfl) ?_
            refine gx_lstore (lv' := [(7, .long q10.1), (6, .int (x6 >>> ((4 : Int32) &&& 31))), (5, .int (x4 &&& (15 : Int32))), (0, .ref (Γ.B + pp l0)), (1, .int l1), (3, .int l3), (4, .int l4)]) dX11_reckons_108 (Nat.le_of_ble_eq_true rfl) rfl ?_
            refine gx_aload_n 3 dX11_reckons_110 rfl rfl ?_
            obtain ⟨_, hobq11, h⟩ := bnd h
            obtain ⟨q11, hq11, h⟩ := bnd h
            refine gx_cVJ (As := []) (st := []) (o := l0) dX11_reckons_111 (c_X11_pop hq11) mov_X11_pop tw_1367 hobq11 rfl ⟨Nat.le_of_ble_eq_true rfl, Nat.le_of_ble_eq_true rfl⟩ (Nat.le_of_ble_eq_true rfl) ?_
            refine gx_lstore (lv' := [(9, .long q11.1), (7, .long q10.1), (6, .int (x6 >>> ((4 : Int32) &&& 31))), (5, .int (x4 &&& (15 : Int32))), (0, .ref (Γ.B + pp l0)), (1, .int l1), (3, .int l3), (4, .int l4)]) dX11_reckons_114 (Nat.le_of_ble_eq_true rfl) rfl ?_
            refine gx_aload_n 4 dX11_reckons_116 rfl rfl ?_
            refine gx_iload 3 dX11_reckons_117 rfl ?_
            refine gx_lload 0 dX11_reckons_119 rfl ?_
            refine gx_lload 1 dX11_reckons_121 rfl ?_
            obtain ⟨q12, hq12, h⟩ := bnd h
            refine gx_cSJ (As := [.int (x4 &&& (15 : Int32)), .long q11.1, .long q10.1]) (st := [.ref (Γ.B + pp l0)]) dX11_reckons_123 (c_X11_one hq12) mos_X11_one tw_1371 rfl ⟨Nat.le_of_ble_eq_true rfl, Nat.le_of_ble_eq_true rfl⟩ (Nat.le_of_ble_eq_true rfl) ?_
            obtain ⟨_, hobq13, h⟩ := bnd h
            obtain ⟨q13, hq13, h⟩ := bnd h
            refine gx_cVV (As := [.long q12.1]) (st := []) (o := l0) dX11_reckons_126 (c_X11_push hq13) mov_X11_push tw_1363 hobq13 rfl ⟨Nat.le_of_ble_eq_true rfl, Nat.le_of_ble_eq_true rfl⟩ (Nat.le_of_ble_eq_true rfl) ?_
            exact gx_sub [4, 5, 6, 7] rfl (s_X11_reckons_129 ih h)
          · rw [if_pos c8] at h
            refine gx_aload_n 2 dX11_reckons_91 rfl rfl ?_
            refine gx_lconst (v := (1 : Int64)) dX11_reckons_92 (by decide) ?_
            refine gx_aload_n 2 dX11_reckons_93 rfl rfl ?_
            obtain ⟨_, hobq14, h⟩ := bnd h
            obtain ⟨q14, hq14, h⟩ := bnd h
            refine gx_cVJ (As := []) (st := [.long (1 : Int64), .ref (Γ.B + pp l0)]) (o := l0) dX11_reckons_94 (c_X11_pop hq14) mov_X11_pop tw_1367 hobq14 rfl ⟨Nat.le_of_ble_eq_true rfl, Nat.le_of_ble_eq_true rfl⟩ (Nat.le_of_ble_eq_true rfl) ?_
            refine gx_lsub dX11_reckons_97 ?_
            obtain ⟨_, hobq15, h⟩ := bnd h
            obtain ⟨q15, hq15, h⟩ := bnd h
            refine gx_cVV (As := [.long ((1 : Int64) - q14.1)]) (st := []) (o := l0) dX11_reckons_98 (c_X11_push hq15) mov_X11_push tw_1363 hobq15 rfl ⟨Nat.le_of_ble_eq_true rfl, Nat.le_of_ble_eq_true rfl⟩ (Nat.le_of_ble_eq_true rfl) ?_
            refine gx_goto 129 dX11_reckons_101 (by decide) ?_
            exact gx_sub [2, 3, 4, 5] rfl (s_X11_reckons_129 ih h)
        · rw [if_pos c7] at h
          refine gx_aload_n 2 dX11_reckons_70 rfl rfl ?_
          refine gx_aload_n 2 dX11_reckons_71 rfl rfl ?_
          obtain ⟨a16, ha16, h⟩ := bnd h
          refine gx_getN dX11_reckons_72 ha16 fl_X11_42 rfl ?_
          refine gx_iload 0 dX11_reckons_75 rfl ?_
          obtain ⟨x17, hx17, h⟩ := bnd h
          refine gx_lald (kd := 114) dX11_reckons_77 hx17 rfl rfl ?_
          obtain ⟨_, hobq18, h⟩ := bnd h
          obtain ⟨q18, hq18, h⟩ := bnd h
          refine gx_cVV (As := [.long x17]) (st := []) (o := l0) dX11_reckons_78 (c_X11_push hq18) mov_X11_push tw_1363 hobq18 rfl ⟨Nat.le_of_ble_eq_true rfl, Nat.le_of_ble_eq_true rfl⟩ (Nat.le_of_ble_eq_true rfl) ?_
          refine gx_goto 129 dX11_reckons_81 (by decide) ?_
          exact gx_sub [2, 3, 4, 5] rfl (s_X11_reckons_129 ih h)
      · rw [if_pos c6] at h
        refine gx_aload_n 2 dX11_reckons_54 rfl rfl ?_
        refine gx_iload 0 dX11_reckons_55 rfl ?_
        refine gx_i2l dX11_reckons_57 ?_
        obtain ⟨_, hobq19, h⟩ := bnd h
        obtain ⟨q19, hq19, h⟩ := bnd h
        refine gx_cVV (As := [.long (Int32.toInt64 (x6 >>> ((4 : Int32) &&& 31)))]) (st := []) (o := l0) dX11_reckons_58 (c_X11_push hq19) mov_X11_push tw_1363 hobq19 rfl ⟨Nat.le_of_ble_eq_true rfl, Nat.le_of_ble_eq_true rfl⟩ (Nat.le_of_ble_eq_true rfl) ?_
        refine gx_goto 129 dX11_reckons_61 (by decide) ?_
        exact gx_sub [2, 3, 4, 5] rfl (s_X11_reckons_129 ih h)
set_option maxRecDepth 4000 in
theorem s_X11_reckons_0 {Γ : Cn} {τ : Mm} {N : Nat} {l0 : Nat} {l1 : Int32} {l2 : Int32} {l3 : Int32} {σ : Mm} {o : Int64 × Mm} (h : f_X11_reckons N l0 l1 l2 l3 σ = some o) : Gx Γ M_X11_reckons 100 τ (PJ o) 0 0 0 [(0, .ref (Γ.B + pp l0)), (1, .int l1), (2, .int l2), (3, .int l3)] [] σ := by
  unfold f_X11_reckons at h
  refine gx_aload_n 0 dX11_reckons_0 rfl rfl ?_
  refine gx_iconst (v := (0 : Int32)) dX11_reckons_1 ic_0 ?_
  obtain ⟨s1, hs1, h⟩ := bnd h
  refine gx_putI dX11_reckons_2 hs1 fl_X11_242 fp_X11_11_22 rfl ?_
  refine gx_iload_n 2 dX11_reckons_5 rfl rfl ?_
  refine gx_istore (lv' := [(4, .int l2), (0, .ref (Γ.B + pp l0)), (1, .int l1), (2, .int l2), (3, .int l3)]) dX11_reckons_6 (Nat.le_of_ble_eq_true rfl) rfl ?_
  exact gx_sub [1, 2, 4, 0] rfl (s_X11_reckons_8  N _ _ _ _ _ _ h)
theorem c_X11_reckons {Γ : Cn} {τ : Mm} {N : Nat} {l0 : Nat} {l1 : Int32} {l2 : Int32} {l3 : Int32} {σ : Mm} {o : Int64 × Mm} (h : f_X11_reckons N l0 l1 l2 l3 σ = some o) : Ct Γ M_X11_reckons yX11_reckons 100 τ [.ref (Γ.B + pp l0), .int l1, .int l2, .int l3] σ (PJ o) := ct_of (by decide) rfl (fun _ => by first | rfl | contradiction) (Nat.le_of_ble_eq_true rfl) (s_X11_reckons_0  h)
abbrev M_X11_isCock : Ms := (cX11_isCock, RX11, 2, (some .boolean), false, 0, 0, 0)
def f_X11_isCock_19 (N : Nat) (t0 : Int32) (σ : Mm) : Option (Int32 × Mm) :=
  if t0 = 0 ∨ t0 = 1 then some (t0, σ) else none
def f_X11_isCock_18 (N : Nat) (σ : Mm) : Option (Int32 × Mm) :=
  f_X11_isCock_19 N (0 : Int32) σ
def f_X11_isCock (N : Nat) (l0 : Nat) (l1 : Int32) (σ : Mm) : Option (Int32 × Mm) :=
  if l1 < 0 then (
    f_X11_isCock_18 N σ) else (
    (gN 11 24 σ l0).bind fun a2 =>
    (aI 113 σ a2 (0 : Int32)).bind fun x3 =>
    if x3 ≤ l1 then (
      f_X11_isCock_18 N σ) else (
      f_X11_isCock_19 N (1 : Int32) σ))
theorem mov_X11_isCock : MOV yX11_isCock M_X11_isCock 1 11 100 := ⟨⟨tw_107, tw_1294, ⟨by decide, by decide⟩, by decide +kernel⟩, tw_1293, tw_64, by decide, ⟨_, rfl, rfl⟩, rfl⟩
set_option maxRecDepth 4000 in
theorem s_X11_isCock_19 {Γ : Cn} {τ : Mm} {N : Nat} {t0 : Int32} {σ : Mm} {o : Int32 × Mm} (h : f_X11_isCock_19 N t0 σ = some o) : Gx Γ M_X11_isCock 100 τ (PI o) 0 0 19 [] [.int t0] σ := by
  unfold f_X11_isCock_19 at h
  obtain ⟨hz, h⟩ := of_if h
  have h := Option.some.inj h
  subst h
  exact gx_zret dX11_isCock_19 rfl (nar_z hz) (Nat.le_of_ble_eq_true rfl) (Nat.le_of_ble_eq_true rfl) ⟨rfl, rfl⟩
set_option maxRecDepth 4000 in
theorem s_X11_isCock_18 {Γ : Cn} {τ : Mm} {N : Nat} {σ : Mm} {o : Int32 × Mm} (h : f_X11_isCock_18 N σ = some o) : Gx Γ M_X11_isCock 100 τ (PI o) 0 0 18 [] [] σ := by
  unfold f_X11_isCock_18 at h
  refine gx_iconst (v := (0 : Int32)) dX11_isCock_18 ic_0 ?_
  exact s_X11_isCock_19  h
set_option maxRecDepth 4000 in
theorem s_X11_isCock_0 {Γ : Cn} {τ : Mm} {N : Nat} {l0 : Nat} {l1 : Int32} {σ : Mm} {o : Int32 × Mm} (h : f_X11_isCock N l0 l1 σ = some o) : Gx Γ M_X11_isCock 100 τ (PI o) 0 0 0 [(0, .ref (Γ.B + pp l0)), (1, .int l1)] [] σ := by
  unfold f_X11_isCock at h
  refine gx_iload_n 1 dX11_isCock_0 rfl rfl ?_
  refine gx_if_lt 18 dX11_isCock_1 (by decide) (fun c0 => ?_) (fun c0 => ?_)
  · rw [if_pos c0] at h
    exact gx_sub [] rfl (s_X11_isCock_18  h)
  · rw [if_neg c0] at h
    refine gx_iload_n 1 dX11_isCock_4 rfl rfl ?_
    refine gx_aload_n 0 dX11_isCock_5 rfl rfl ?_
    obtain ⟨a2, ha2, h⟩ := bnd h
    refine gx_getN dX11_isCock_6 ha2 fl_X11_45 rfl ?_
    refine gx_iconst (v := (0 : Int32)) dX11_isCock_9 ic_0 ?_
    obtain ⟨x3, hx3, h⟩ := bnd h
    refine gx_iald (kd := 113) dX11_isCock_10 hx3 rfl rfl ?_
    refine gx_icmp_ge 18 dX11_isCock_11 (by decide) (fun c3 => ?_) (fun c3 => ?_)
    · rw [if_pos c3] at h
      exact gx_sub [] rfl (s_X11_isCock_18  h)
    · rw [if_neg c3] at h
      refine gx_iconst (v := (1 : Int32)) dX11_isCock_14 ic_1 ?_
      refine gx_goto 19 dX11_isCock_15 (by decide) ?_
      exact gx_sub [] rfl (s_X11_isCock_19  h)
theorem c_X11_isCock {Γ : Cn} {τ : Mm} {N : Nat} {l0 : Nat} {l1 : Int32} {σ : Mm} {o : Int32 × Mm} (h : f_X11_isCock N l0 l1 σ = some o) : Ct Γ M_X11_isCock yX11_isCock 100 τ [.ref (Γ.B + pp l0), .int l1] σ (PI o) := ct_of (by decide) rfl (fun _ => by first | rfl | contradiction) (Nat.le_of_ble_eq_true rfl) (s_X11_isCock_0  h)
abbrev M_X11_isTree : Ms := (cX11_isTree, RX11, 2, (some .boolean), false, 0, 0, 0)
def f_X11_isTree_19 (N : Nat) (t0 : Int32) (σ : Mm) : Option (Int32 × Mm) :=
  if t0 = 0 ∨ t0 = 1 then some (t0, σ) else none
def f_X11_isTree_18 (N : Nat) (σ : Mm) : Option (Int32 × Mm) :=
  f_X11_isTree_19 N (0 : Int32) σ
def f_X11_isTree (N : Nat) (l0 : Nat) (l1 : Int32) (σ : Mm) : Option (Int32 × Mm) :=
  if l1 < 0 then (
    f_X11_isTree_18 N σ) else (
    (gN 11 24 σ l0).bind fun a2 =>
    (aI 113 σ a2 (1 : Int32)).bind fun x3 =>
    if x3 ≤ l1 then (
      f_X11_isTree_18 N σ) else (
      f_X11_isTree_19 N (1 : Int32) σ))
theorem mov_X11_isTree : MOV yX11_isTree M_X11_isTree 1 11 100 := ⟨⟨tw_107, tw_1307, ⟨by decide, by decide⟩, by decide +kernel⟩, tw_1306, tw_66, by decide, ⟨_, rfl, rfl⟩, rfl⟩
set_option maxRecDepth 4000 in
theorem s_X11_isTree_19 {Γ : Cn} {τ : Mm} {N : Nat} {t0 : Int32} {σ : Mm} {o : Int32 × Mm} (h : f_X11_isTree_19 N t0 σ = some o) : Gx Γ M_X11_isTree 100 τ (PI o) 0 0 19 [] [.int t0] σ := by
  unfold f_X11_isTree_19 at h
  obtain ⟨hz, h⟩ := of_if h
  have h := Option.some.inj h
  subst h
  exact gx_zret dX11_isTree_19 rfl (nar_z hz) (Nat.le_of_ble_eq_true rfl) (Nat.le_of_ble_eq_true rfl) ⟨rfl, rfl⟩
set_option maxRecDepth 4000 in
theorem s_X11_isTree_18 {Γ : Cn} {τ : Mm} {N : Nat} {σ : Mm} {o : Int32 × Mm} (h : f_X11_isTree_18 N σ = some o) : Gx Γ M_X11_isTree 100 τ (PI o) 0 0 18 [] [] σ := by
  unfold f_X11_isTree_18 at h
  refine gx_iconst (v := (0 : Int32)) dX11_isTree_18 ic_0 ?_
  exact s_X11_isTree_19  h
set_option maxRecDepth 4000 in
theorem s_X11_isTree_0 {Γ : Cn} {τ : Mm} {N : Nat} {l0 : Nat} {l1 : Int32} {σ : Mm} {o : Int32 × Mm} (h : f_X11_isTree N l0 l1 σ = some o) : Gx Γ M_X11_isTree 100 τ (PI o) 0 0 0 [(0, .ref (Γ.B + pp l0)), (1, .int l1)] [] σ := by
  unfold f_X11_isTree at h
  refine gx_iload_n 1 dX11_isTree_0 rfl rfl ?_
  refine gx_if_lt 18 dX11_isTree_1 (by decide) (fun c0 => ?_) (fun c0 => ?_)
  · rw [if_pos c0] at h
    exact gx_sub [] rfl (s_X11_isTree_18  h)
  · rw [if_neg c0] at h
    refine gx_iload_n 1 dX11_isTree_4 rfl rfl ?_
    refine gx_aload_n 0 dX11_isTree_5 rfl rfl ?_
    obtain ⟨a2, ha2, h⟩ := bnd h
    refine gx_getN dX11_isTree_6 ha2 fl_X11_45 rfl ?_
    refine gx_iconst (v := (1 : Int32)) dX11_isTree_9 ic_1 ?_
    obtain ⟨x3, hx3, h⟩ := bnd h
    refine gx_iald (kd := 113) dX11_isTree_10 hx3 rfl rfl ?_
    refine gx_icmp_ge 18 dX11_isTree_11 (by decide) (fun c3 => ?_) (fun c3 => ?_)
    · rw [if_pos c3] at h
      exact gx_sub [] rfl (s_X11_isTree_18  h)
    · rw [if_neg c3] at h
      refine gx_iconst (v := (1 : Int32)) dX11_isTree_14 ic_1 ?_
      refine gx_goto 19 dX11_isTree_15 (by decide) ?_
      exact gx_sub [] rfl (s_X11_isTree_19  h)
theorem c_X11_isTree {Γ : Cn} {τ : Mm} {N : Nat} {l0 : Nat} {l1 : Int32} {σ : Mm} {o : Int32 × Mm} (h : f_X11_isTree N l0 l1 σ = some o) : Ct Γ M_X11_isTree yX11_isTree 100 τ [.ref (Γ.B + pp l0), .int l1] σ (PI o) := ct_of (by decide) rfl (fun _ => by first | rfl | contradiction) (Nat.le_of_ble_eq_true rfl) (s_X11_isTree_0  h)
abbrev M_X11_isPoint : Ms := (cX11_isPoint, RX11, 1, (some .boolean), false, 0, 0, 0)
def f_X11_isPoint_15 (N : Nat) (t0 : Int32) (σ : Mm) : Option (Int32 × Mm) :=
  if t0 = 0 ∨ t0 = 1 then some (t0, σ) else none
def f_X11_isPoint_14 (N : Nat) (σ : Mm) : Option (Int32 × Mm) :=
  f_X11_isPoint_15 N (0 : Int32) σ
def f_X11_isPoint (N : Nat) (l0 : Int32) (σ : Mm) : Option (Int32 × Mm) :=
  if l0 < 0 then (
    f_X11_isPoint_14 N σ) else (
    if (8 : Int32) ≤ l0 then (
      f_X11_isPoint_14 N σ) else (
      f_X11_isPoint_15 N (1 : Int32) σ))
theorem mos_X11_isPoint : MOS yX11_isPoint M_X11_isPoint 1 := ⟨⟨tw_107, tw_1320, ⟨by decide, by decide⟩, by decide +kernel⟩, tw_1319⟩
set_option maxRecDepth 4000 in
theorem s_X11_isPoint_15 {Γ : Cn} {τ : Mm} {N : Nat} {t0 : Int32} {σ : Mm} {o : Int32 × Mm} (h : f_X11_isPoint_15 N t0 σ = some o) : Gx Γ M_X11_isPoint 100 τ (PI o) 0 0 15 [] [.int t0] σ := by
  unfold f_X11_isPoint_15 at h
  obtain ⟨hz, h⟩ := of_if h
  have h := Option.some.inj h
  subst h
  exact gx_zret dX11_isPoint_15 rfl (nar_z hz) (Nat.le_of_ble_eq_true rfl) (Nat.le_of_ble_eq_true rfl) ⟨rfl, rfl⟩
set_option maxRecDepth 4000 in
theorem s_X11_isPoint_14 {Γ : Cn} {τ : Mm} {N : Nat} {σ : Mm} {o : Int32 × Mm} (h : f_X11_isPoint_14 N σ = some o) : Gx Γ M_X11_isPoint 100 τ (PI o) 0 0 14 [] [] σ := by
  unfold f_X11_isPoint_14 at h
  refine gx_iconst (v := (0 : Int32)) dX11_isPoint_14 ic_0 ?_
  exact s_X11_isPoint_15  h
set_option maxRecDepth 4000 in
theorem s_X11_isPoint_0 {Γ : Cn} {τ : Mm} {N : Nat} {l0 : Int32} {σ : Mm} {o : Int32 × Mm} (h : f_X11_isPoint N l0 σ = some o) : Gx Γ M_X11_isPoint 100 τ (PI o) 0 0 0 [(0, .int l0)] [] σ := by
  unfold f_X11_isPoint at h
  refine gx_iload_n 0 dX11_isPoint_0 rfl rfl ?_
  refine gx_if_lt 14 dX11_isPoint_1 (by decide) (fun c0 => ?_) (fun c0 => ?_)
  · rw [if_pos c0] at h
    exact gx_sub [] rfl (s_X11_isPoint_14  h)
  · rw [if_neg c0] at h
    refine gx_iload_n 0 dX11_isPoint_4 rfl rfl ?_
    refine gx_bipush (v := (8 : Int32)) dX11_isPoint_5 ib_8 ?_
    refine gx_icmp_ge 14 dX11_isPoint_7 (by decide) (fun c1 => ?_) (fun c1 => ?_)
    · rw [if_pos c1] at h
      exact gx_sub [] rfl (s_X11_isPoint_14  h)
    · rw [if_neg c1] at h
      refine gx_iconst (v := (1 : Int32)) dX11_isPoint_10 ic_1 ?_
      refine gx_goto 15 dX11_isPoint_11 (by decide) ?_
      exact gx_sub [] rfl (s_X11_isPoint_15  h)
theorem c_X11_isPoint {Γ : Cn} {τ : Mm} {N : Nat} {l0 : Int32} {σ : Mm} {o : Int32 × Mm} (h : f_X11_isPoint N l0 σ = some o) : Ct Γ M_X11_isPoint yX11_isPoint 100 τ [.int l0] σ (PI o) := ct_of (by decide) rfl (fun _ => by first | rfl | contradiction) (Nat.le_of_ble_eq_true rfl) (s_X11_isPoint_0  h)
abbrev M_X11_isWay : Ms := (cX11_isWay, RX11, 1, (some .boolean), false, 0, 0, 0)
def f_X11_isWay_14 (N : Nat) (t0 : Int32) (σ : Mm) : Option (Int32 × Mm) :=
  if t0 = 0 ∨ t0 = 1 then some (t0, σ) else none
def f_X11_isWay_13 (N : Nat) (σ : Mm) : Option (Int32 × Mm) :=
  f_X11_isWay_14 N (0 : Int32) σ
def f_X11_isWay (N : Nat) (l0 : Int32) (σ : Mm) : Option (Int32 × Mm) :=
  if l0 < 0 then (
    f_X11_isWay_13 N σ) else (
    if (4 : Int32) ≤ l0 then (
      f_X11_isWay_13 N σ) else (
      f_X11_isWay_14 N (1 : Int32) σ))
theorem mos_X11_isWay : MOS yX11_isWay M_X11_isWay 1 := ⟨⟨tw_107, tw_1406, ⟨by decide, by decide⟩, by decide +kernel⟩, tw_1405⟩
set_option maxRecDepth 4000 in
theorem s_X11_isWay_14 {Γ : Cn} {τ : Mm} {N : Nat} {t0 : Int32} {σ : Mm} {o : Int32 × Mm} (h : f_X11_isWay_14 N t0 σ = some o) : Gx Γ M_X11_isWay 100 τ (PI o) 0 0 14 [] [.int t0] σ := by
  unfold f_X11_isWay_14 at h
  obtain ⟨hz, h⟩ := of_if h
  have h := Option.some.inj h
  subst h
  exact gx_zret dX11_isWay_14 rfl (nar_z hz) (Nat.le_of_ble_eq_true rfl) (Nat.le_of_ble_eq_true rfl) ⟨rfl, rfl⟩
set_option maxRecDepth 4000 in
theorem s_X11_isWay_13 {Γ : Cn} {τ : Mm} {N : Nat} {σ : Mm} {o : Int32 × Mm} (h : f_X11_isWay_13 N σ = some o) : Gx Γ M_X11_isWay 100 τ (PI o) 0 0 13 [] [] σ := by
  unfold f_X11_isWay_13 at h
  refine gx_iconst (v := (0 : Int32)) dX11_isWay_13 ic_0 ?_
  exact s_X11_isWay_14  h
set_option maxRecDepth 4000 in
theorem s_X11_isWay_0 {Γ : Cn} {τ : Mm} {N : Nat} {l0 : Int32} {σ : Mm} {o : Int32 × Mm} (h : f_X11_isWay N l0 σ = some o) : Gx Γ M_X11_isWay 100 τ (PI o) 0 0 0 [(0, .int l0)] [] σ := by
  unfold f_X11_isWay at h
  refine gx_iload_n 0 dX11_isWay_0 rfl rfl ?_
  refine gx_if_lt 13 dX11_isWay_1 (by decide) (fun c0 => ?_) (fun c0 => ?_)
  · rw [if_pos c0] at h
    exact gx_sub [] rfl (s_X11_isWay_13  h)
  · rw [if_neg c0] at h
    refine gx_iload_n 0 dX11_isWay_4 rfl rfl ?_
    refine gx_iconst (v := (4 : Int32)) dX11_isWay_5 ic_4 ?_
    refine gx_icmp_ge 13 dX11_isWay_6 (by decide) (fun c1 => ?_) (fun c1 => ?_)
    · rw [if_pos c1] at h
      exact gx_sub [] rfl (s_X11_isWay_13  h)
    · rw [if_neg c1] at h
      refine gx_iconst (v := (1 : Int32)) dX11_isWay_9 ic_1 ?_
      refine gx_goto 14 dX11_isWay_10 (by decide) ?_
      exact gx_sub [] rfl (s_X11_isWay_14  h)
theorem c_X11_isWay {Γ : Cn} {τ : Mm} {N : Nat} {l0 : Int32} {σ : Mm} {o : Int32 × Mm} (h : f_X11_isWay N l0 σ = some o) : Ct Γ M_X11_isWay yX11_isWay 100 τ [.int l0] σ (PI o) := ct_of (by decide) rfl (fun _ => by first | rfl | contradiction) (Nat.le_of_ble_eq_true rfl) (s_X11_isWay_0  h)
abbrev M_X11_isSet : Ms := (cX11_isSet, RX11, 2, (some .boolean), false, 0, 0, 0)
def f_X11_isSet_21 (N : Nat) (t0 : Int32) (σ : Mm) : Option (Int32 × Mm) :=
  if t0 = 0 ∨ t0 = 1 then some (t0, σ) else none
def f_X11_isSet_20 (N : Nat) (σ : Mm) : Option (Int32 × Mm) :=
  f_X11_isSet_21 N (0 : Int32) σ
def f_X11_isSet (N : Nat) (l0 : Nat) (l1 : Int32) (σ : Mm) : Option (Int32 × Mm) :=
  if l1 < 0 then (
    f_X11_isSet_20 N σ) else (
    (gN 11 24 σ l0).bind fun a2 =>
    (aI 113 σ a2 (0 : Int32)).bind fun x3 =>
    if ((1 : Int32) <<< (x3 &&& 31)) ≤ l1 then (
      f_X11_isSet_20 N σ) else (
      f_X11_isSet_21 N (1 : Int32) σ))
theorem mov_X11_isSet : MOV yX11_isSet M_X11_isSet 1 11 100 := ⟨⟨tw_107, tw_1462, ⟨by decide, by decide⟩, by decide +kernel⟩, tw_1461, tw_88, by decide, ⟨_, rfl, rfl⟩, rfl⟩
set_option maxRecDepth 4000 in
theorem s_X11_isSet_21 {Γ : Cn} {τ : Mm} {N : Nat} {t0 : Int32} {σ : Mm} {o : Int32 × Mm} (h : f_X11_isSet_21 N t0 σ = some o) : Gx Γ M_X11_isSet 100 τ (PI o) 0 0 21 [] [.int t0] σ := by
  unfold f_X11_isSet_21 at h
  obtain ⟨hz, h⟩ := of_if h
  have h := Option.some.inj h
  subst h
  exact gx_zret dX11_isSet_21 rfl (nar_z hz) (Nat.le_of_ble_eq_true rfl) (Nat.le_of_ble_eq_true rfl) ⟨rfl, rfl⟩
set_option maxRecDepth 4000 in
theorem s_X11_isSet_20 {Γ : Cn} {τ : Mm} {N : Nat} {σ : Mm} {o : Int32 × Mm} (h : f_X11_isSet_20 N σ = some o) : Gx Γ M_X11_isSet 100 τ (PI o) 0 0 20 [] [] σ := by
  unfold f_X11_isSet_20 at h
  refine gx_iconst (v := (0 : Int32)) dX11_isSet_20 ic_0 ?_
  exact s_X11_isSet_21  h
set_option maxRecDepth 4000 in
theorem s_X11_isSet_0 {Γ : Cn} {τ : Mm} {N : Nat} {l0 : Nat} {l1 : Int32} {σ : Mm} {o : Int32 × Mm} (h : f_X11_isSet N l0 l1 σ = some o) : Gx Γ M_X11_isSet 100 τ (PI o) 0 0 0 [(0, .ref (Γ.B + pp l0)), (1, .int l1)] [] σ := by
  unfold f_X11_isSet at h
  refine gx_iload_n 1 dX11_isSet_0 rfl rfl ?_
  refine gx_if_lt 20 dX11_isSet_1 (by decide) (fun c0 => ?_) (fun c0 => ?_)
  · rw [if_pos c0] at h
    exact gx_sub [] rfl (s_X11_isSet_20  h)
  · rw [if_neg c0] at h
    refine gx_iload_n 1 dX11_isSet_4 rfl rfl ?_
    refine gx_iconst (v := (1 : Int32)) dX11_isSet_5 ic_1 ?_
    refine gx_aload_n 0 dX11_isSet_6 rfl rfl ?_
    obtain ⟨a2, ha2, h⟩ := bnd h
    refine gx_getN dX11_isSet_7 ha2 fl_X11_45 rfl ?_
    refine gx_iconst (v := (0 : Int32)) dX11_isSet_10 ic_0 ?_
    obtain ⟨x3, hx3, h⟩ := bnd h
    refine gx_iald (kd := 113) dX11_isSet_11 hx3 rfl rfl ?_
    refine gx_ishl dX11_isSet_12 ?_
    refine gx_icmp_ge 20 dX11_isSet_13 (by decide) (fun c3 => ?_) (fun c3 => ?_)
    · rw [if_pos c3] at h
      exact gx_sub [] rfl (s_X11_isSet_20  h)
    · rw [if_neg c3] at h
      refine gx_iconst (v := (1 : Int32)) dX11_isSet_16 ic_1 ?_
      refine gx_goto 21 dX11_isSet_17 (by decide) ?_
      exact gx_sub [] rfl (s_X11_isSet_21  h)
theorem c_X11_isSet {Γ : Cn} {τ : Mm} {N : Nat} {l0 : Nat} {l1 : Int32} {σ : Mm} {o : Int32 × Mm} (h : f_X11_isSet N l0 l1 σ = some o) : Ct Γ M_X11_isSet yX11_isSet 100 τ [.ref (Γ.B + pp l0), .int l1] σ (PI o) := ct_of (by decide) rfl (fun _ => by first | rfl | contradiction) (Nat.le_of_ble_eq_true rfl) (s_X11_isSet_0  h)
abbrev M_X11_cockOf : Ms := (cX11_cockOf, RX11, 3, (some .int), false, 0, 0, 0)
def f_X11_cockOf (N : Nat) (l0 : Nat) (l1 : Int32) (l2 : Int32) (σ : Mm) : Option (Int32 × Mm) :=
  (gN 11 24 σ l0).bind fun a1 =>
  (aI 113 σ a1 (((4 : Int32) + ((7 : Int32) * l1)) + l2)).bind fun x2 =>
  some (x2, σ)
theorem mov_X11_cockOf : MOV yX11_cockOf M_X11_cockOf 2 11 100 := ⟨⟨tw_107, tw_1299, ⟨by decide, by decide⟩, by decide +kernel⟩, tw_1298, tw_65, by decide, ⟨_, rfl, rfl⟩, rfl⟩
set_option maxRecDepth 4000 in
theorem s_X11_cockOf_0 {Γ : Cn} {τ : Mm} {N : Nat} {l0 : Nat} {l1 : Int32} {l2 : Int32} {σ : Mm} {o : Int32 × Mm} (h : f_X11_cockOf N l0 l1 l2 σ = some o) : Gx Γ M_X11_cockOf 100 τ (PI o) 0 0 0 [(0, .ref (Γ.B + pp l0)), (1, .int l1), (2, .int l2)] [] σ := by
  unfold f_X11_cockOf at h
  refine gx_aload_n 0 dX11_cockOf_0 rfl rfl ?_
  obtain ⟨a1, ha1, h⟩ := bnd h
  refine gx_getN dX11_cockOf_1 ha1 fl_X11_45 rfl ?_
  refine gx_iconst (v := (4 : Int32)) dX11_cockOf_4 ic_4 ?_
  refine gx_bipush (v := (7 : Int32)) dX11_cockOf_5 ib_7 ?_
  refine gx_iload_n 1 dX11_cockOf_7 rfl rfl ?_
  refine gx_imul dX11_cockOf_8 ?_
  refine gx_iadd dX11_cockOf_9 ?_
  refine gx_iload_n 2 dX11_cockOf_10 rfl rfl ?_
  refine gx_iadd dX11_cockOf_11 ?_
  obtain ⟨x2, hx2, h⟩ := bnd h
  refine gx_iald (kd := 113) dX11_cockOf_12 hx2 rfl rfl ?_
  have h := Option.some.inj h
  subst h
  exact gx_iret dX11_cockOf_13 rfl (Nat.le_of_ble_eq_true rfl) (Nat.le_of_ble_eq_true rfl) ⟨rfl, rfl⟩
theorem c_X11_cockOf {Γ : Cn} {τ : Mm} {N : Nat} {l0 : Nat} {l1 : Int32} {l2 : Int32} {σ : Mm} {o : Int32 × Mm} (h : f_X11_cockOf N l0 l1 l2 σ = some o) : Ct Γ M_X11_cockOf yX11_cockOf 100 τ [.ref (Γ.B + pp l0), .int l1, .int l2] σ (PI o) := ct_of (by decide) rfl (fun _ => by first | rfl | contradiction) (Nat.le_of_ble_eq_true rfl) (s_X11_cockOf_0  h)
abbrev M_X11_treeOf : Ms := (cX11_treeOf, RX11, 3, (some .int), false, 0, 0, 0)
def f_X11_treeOf (N : Nat) (l0 : Nat) (l1 : Int32) (l2 : Int32) (σ : Mm) : Option (Int32 × Mm) :=
  (gN 11 24 σ l0).bind fun a1 =>
  (aI 113 σ a1 (((88 : Int32) + ((3 : Int32) * l1)) + l2)).bind fun x2 =>
  some (x2, σ)
theorem mov_X11_treeOf : MOV yX11_treeOf M_X11_treeOf 2 11 100 := ⟨⟨tw_107, tw_1312, ⟨by decide, by decide⟩, by decide +kernel⟩, tw_1311, tw_67, by decide, ⟨_, rfl, rfl⟩, rfl⟩
set_option maxRecDepth 4000 in
theorem s_X11_treeOf_0 {Γ : Cn} {τ : Mm} {N : Nat} {l0 : Nat} {l1 : Int32} {l2 : Int32} {σ : Mm} {o : Int32 × Mm} (h : f_X11_treeOf N l0 l1 l2 σ = some o) : Gx Γ M_X11_treeOf 100 τ (PI o) 0 0 0 [(0, .ref (Γ.B + pp l0)), (1, .int l1), (2, .int l2)] [] σ := by
  unfold f_X11_treeOf at h
  refine gx_aload_n 0 dX11_treeOf_0 rfl rfl ?_
  obtain ⟨a1, ha1, h⟩ := bnd h
  refine gx_getN dX11_treeOf_1 ha1 fl_X11_45 rfl ?_
  refine gx_bipush (v := (88 : Int32)) dX11_treeOf_4 ib_88 ?_
  refine gx_iconst (v := (3 : Int32)) dX11_treeOf_6 ic_3 ?_
  refine gx_iload_n 1 dX11_treeOf_7 rfl rfl ?_
  refine gx_imul dX11_treeOf_8 ?_
  refine gx_iadd dX11_treeOf_9 ?_
  refine gx_iload_n 2 dX11_treeOf_10 rfl rfl ?_
  refine gx_iadd dX11_treeOf_11 ?_
  obtain ⟨x2, hx2, h⟩ := bnd h
  refine gx_iald (kd := 113) dX11_treeOf_12 hx2 rfl rfl ?_
  have h := Option.some.inj h
  subst h
  exact gx_iret dX11_treeOf_13 rfl (Nat.le_of_ble_eq_true rfl) (Nat.le_of_ble_eq_true rfl) ⟨rfl, rfl⟩
theorem c_X11_treeOf {Γ : Cn} {τ : Mm} {N : Nat} {l0 : Nat} {l1 : Int32} {l2 : Int32} {σ : Mm} {o : Int32 × Mm} (h : f_X11_treeOf N l0 l1 l2 σ = some o) : Ct Γ M_X11_treeOf yX11_treeOf 100 τ [.ref (Γ.B + pp l0), .int l1, .int l2] σ (PI o) := ct_of (by decide) rfl (fun _ => by first | rfl | contradiction) (Nat.le_of_ble_eq_true rfl) (s_X11_treeOf_0  h)
abbrev M_X11_cock : Ms := (cX11_cock, RX11, 3, (some .int), false, 0, 0, 1)
def f_X11_cock_30 (N : Nat) (t0 : Int32) (σ : Mm) : Option (Int32 × Mm) :=
  some (t0, σ)
def f_X11_cock_29 (N : Nat) (σ : Mm) : Option (Int32 × Mm) :=
  f_X11_cock_30 N (-1 : Int32) σ
def f_X11_cock (N : Nat) (l0 : Nat) (l1 : Int32) (l2 : Int32) (σ : Mm) : Option (Int32 × Mm) :=
  (ob 11 σ l0).bind fun _ =>
  (f_X11_isCock N l0 l1 σ).bind fun q1 =>
  if q1.1 = 0 then (
    f_X11_cock_29 N q1.2) else (
    (f_X11_in N (Int32.toInt64 l2) (0 : Int64) (6 : Int64) q1.2).bind fun q3 =>
    if q3.1 = 0 then (
      f_X11_cock_29 N q3.2) else (
      (ob 11 q3.2 l0).bind fun _ =>
      (f_X11_cockOf N l0 l1 l2 q3.2).bind fun q5 =>
      f_X11_cock_30 N q5.1 q5.2))
theorem mov_X11_cock : MOV yX11_cock M_X11_cock 2 11 100 := ⟨⟨tw_107, tw_1290, ⟨by decide, by decide⟩, by decide +kernel⟩, tw_1288, tw_1289, by decide, ⟨_, rfl, rfl⟩, rfl⟩
set_option maxRecDepth 4000 in
theorem s_X11_cock_30 {Γ : Cn} {τ : Mm} {N : Nat} {t0 : Int32} {σ : Mm} {o : Int32 × Mm} (h : f_X11_cock_30 N t0 σ = some o) : Gx Γ M_X11_cock 100 τ (PI o) 0 0 30 [] [.int t0] σ := by
  unfold f_X11_cock_30 at h
  have h := Option.some.inj h
  subst h
  exact gx_iret dX11_cock_30 rfl (Nat.le_of_ble_eq_true rfl) (Nat.le_of_ble_eq_true rfl) ⟨rfl, rfl⟩
set_option maxRecDepth 4000 in
theorem s_X11_cock_29 {Γ : Cn} {τ : Mm} {N : Nat} {σ : Mm} {o : Int32 × Mm} (h : f_X11_cock_29 N σ = some o) : Gx Γ M_X11_cock 100 τ (PI o) 0 0 29 [] [] σ := by
  unfold f_X11_cock_29 at h
  refine gx_iconst (v := (-1 : Int32)) dX11_cock_29 ic_m1 ?_
  exact s_X11_cock_30  h
set_option maxRecDepth 4000 in
theorem s_X11_cock_0 {Γ : Cn} {τ : Mm} {N : Nat} {l0 : Nat} {l1 : Int32} {l2 : Int32} {σ : Mm} {o : Int32 × Mm} (h : f_X11_cock N l0 l1 l2 σ = some o) : Gx Γ M_X11_cock 100 τ (PI o) 0 0 0 [(0, .ref (Γ.B + pp l0)), (1, .int l1), (2, .int l2)] [] σ := by
  unfold f_X11_cock at h
  refine gx_aload_n 0 dX11_cock_0 rfl rfl ?_
  refine gx_iload_n 1 dX11_cock_1 rfl rfl ?_
  obtain ⟨_, hobq1, h⟩ := bnd h
  obtain ⟨q1, hq1, h⟩ := bnd h
  refine gx_cVI (As := [.int l1]) (st := []) (o := l0) dX11_cock_2 (c_X11_isCock hq1) mov_X11_isCock tw_1291 hobq1 rfl ⟨Nat.le_of_ble_eq_true rfl, Nat.le_of_ble_eq_true rfl⟩ (Nat.le_of_ble_eq_true rfl) ?_
  refine gx_if_eq 29 dX11_cock_5 (by decide) (fun c1 => ?_) (fun c1 => ?_)
  · rw [if_pos c1] at h
    exact gx_sub [] rfl (s_X11_cock_29  h)
  · rw [if_neg c1] at h
    refine gx_iload_n 2 dX11_cock_8 rfl rfl ?_
    refine gx_i2l dX11_cock_9 ?_
    refine gx_lconst (v := (0 : Int64)) dX11_cock_10 (by decide) ?_
    refine gx_ldc2 (v := (6 : Int64)) dX11_cock_11 tw_1295 ?_
    obtain ⟨q3, hq3, h⟩ := bnd h
    refine gx_cSI (As := [.long (Int32.toInt64 l2), .long (0 : Int64), .long (6 : Int64)]) (st := []) dX11_cock_14 (c_X11_in hq3) mos_X11_in tw_1206 rfl ⟨Nat.le_of_ble_eq_true rfl, Nat.le_of_ble_eq_true rfl⟩ (Nat.le_of_ble_eq_true rfl) ?_
    refine gx_if_eq 29 dX11_cock_17 (by decide) (fun c3 => ?_) (fun c3 => ?_)
    · rw [if_pos c3] at h
      exact gx_sub [] rfl (s_X11_cock_29  h)
    · rw [if_neg c3] at h
      refine gx_aload_n 0 dX11_cock_20 rfl rfl ?_
      refine gx_iload_n 1 dX11_cock_21 rfl rfl ?_
      refine gx_iload_n 2 dX11_cock_22 rfl rfl ?_
      obtain ⟨_, hobq5, h⟩ := bnd h
      obtain ⟨q5, hq5, h⟩ := bnd h
      refine gx_cVI (As := [.int l1, .int l2]) (st := []) (o := l0) dX11_cock_23 (c_X11_cockOf hq5) mov_X11_cockOf tw_1296 hobq5 rfl ⟨Nat.le_of_ble_eq_true rfl, Nat.le_of_ble_eq_true rfl⟩ (Nat.le_of_ble_eq_true rfl) ?_
      refine gx_goto 30 dX11_cock_26 (by decide) ?_
      exact gx_sub [] rfl (s_X11_cock_30  h)
theorem c_X11_cock {Γ : Cn} {τ : Mm} {N : Nat} {l0 : Nat} {l1 : Int32} {l2 : Int32} {σ : Mm} {o : Int32 × Mm} (h : f_X11_cock N l0 l1 l2 σ = some o) : Ct Γ M_X11_cock yX11_cock 100 τ [.ref (Γ.B + pp l0), .int l1, .int l2] σ (PI o) := ct_of (by decide) rfl (fun _ => by first | rfl | contradiction) (Nat.le_of_ble_eq_true rfl) (s_X11_cock_0  h)
abbrev M_X11_tree : Ms := (cX11_tree, RX11, 3, (some .int), false, 0, 0, 1)
def f_X11_tree_30 (N : Nat) (t0 : Int32) (σ : Mm) : Option (Int32 × Mm) :=
  some (t0, σ)
def f_X11_tree_29 (N : Nat) (σ : Mm) : Option (Int32 × Mm) :=
  f_X11_tree_30 N (-1 : Int32) σ
def f_X11_tree (N : Nat) (l0 : Nat) (l1 : Int32) (l2 : Int32) (σ : Mm) : Option (Int32 × Mm) :=
  (ob 11 σ l0).bind fun _ =>
  (f_X11_isTree N l0 l1 σ).bind fun q1 =>
  if q1.1 = 0 then (
    f_X11_tree_29 N q1.2) else (
    (f_X11_in N (Int32.toInt64 l2) (0 : Int64) (2 : Int64) q1.2).bind fun q3 =>
    if q3.1 = 0 then (
      f_X11_tree_29 N q3.2) else (
      (ob 11 q3.2 l0).bind fun _ =>
      (f_X11_treeOf N l0 l1 l2 q3.2).bind fun q5 =>
      f_X11_tree_30 N q5.1 q5.2))
theorem mov_X11_tree : MOV yX11_tree M_X11_tree 2 11 100 := ⟨⟨tw_107, tw_1303, ⟨by decide, by decide⟩, by decide +kernel⟩, tw_1301, tw_1302, by decide, ⟨_, rfl, rfl⟩, rfl⟩
set_option maxRecDepth 4000 in
theorem s_X11_tree_30 {Γ : Cn} {τ : Mm} {N : Nat} {t0 : Int32} {σ : Mm} {o : Int32 × Mm} (h : f_X11_tree_30 N t0 σ = some o) : Gx Γ M_X11_tree 100 τ (PI o) 0 0 30 [] [.int t0] σ := by
  unfold f_X11_tree_30 at h
  have h := Option.some.inj h
  subst h
  exact gx_iret dX11_tree_30 rfl (Nat.le_of_ble_eq_true rfl) (Nat.le_of_ble_eq_true rfl) ⟨rfl, rfl⟩
set_option maxRecDepth 4000 in
theorem s_X11_tree_29 {Γ : Cn} {τ : Mm} {N : Nat} {σ : Mm} {o : Int32 × Mm} (h : f_X11_tree_29 N σ = some o) : Gx Γ M_X11_tree 100 τ (PI o) 0 0 29 [] [] σ := by
  unfold f_X11_tree_29 at h
  refine gx_iconst (v := (-1 : Int32)) dX11_tree_29 ic_m1 ?_
  exact s_X11_tree_30  h
set_option maxRecDepth 4000 in
theorem s_X11_tree_0 {Γ : Cn} {τ : Mm} {N : Nat} {l0 : Nat} {l1 : Int32} {l2 : Int32} {σ : Mm} {o : Int32 × Mm} (h : f_X11_tree N l0 l1 l2 σ = some o) : Gx Γ M_X11_tree 100 τ (PI o) 0 0 0 [(0, .ref (Γ.B + pp l0)), (1, .int l1), (2, .int l2)] [] σ := by
  unfold f_X11_tree at h
  refine gx_aload_n 0 dX11_tree_0 rfl rfl ?_
  refine gx_iload_n 1 dX11_tree_1 rfl rfl ?_
  obtain ⟨_, hobq1, h⟩ := bnd h
  obtain ⟨q1, hq1, h⟩ := bnd h
  refine gx_cVI (As := [.int l1]) (st := []) (o := l0) dX11_tree_2 (c_X11_isTree hq1) mov_X11_isTree tw_1304 hobq1 rfl ⟨Nat.le_of_ble_eq_true rfl, Nat.le_of_ble_eq_true rfl⟩ (Nat.le_of_ble_eq_true rfl) ?_
  refine gx_if_eq 29 dX11_tree_5 (by decide) (fun c1 => ?_) (fun c1 => ?_)
  · rw [if_pos c1] at h
    exact gx_sub [] rfl (s_X11_tree_29  h)
  · rw [if_neg c1] at h
    refine gx_iload_n 2 dX11_tree_8 rfl rfl ?_
    refine gx_i2l dX11_tree_9 ?_
    refine gx_lconst (v := (0 : Int64)) dX11_tree_10 (by decide) ?_
    refine gx_ldc2 (v := (2 : Int64)) dX11_tree_11 tw_1308 ?_
    obtain ⟨q3, hq3, h⟩ := bnd h
    refine gx_cSI (As := [.long (Int32.toInt64 l2), .long (0 : Int64), .long (2 : Int64)]) (st := []) dX11_tree_14 (c_X11_in hq3) mos_X11_in tw_1206 rfl ⟨Nat.le_of_ble_eq_true rfl, Nat.le_of_ble_eq_true rfl⟩ (Nat.le_of_ble_eq_true rfl) ?_
    refine gx_if_eq 29 dX11_tree_17 (by decide) (fun c3 => ?_) (fun c3 => ?_)
    · rw [if_pos c3] at h
      exact gx_sub [] rfl (s_X11_tree_29  h)
    · rw [if_neg c3] at h
      refine gx_aload_n 0 dX11_tree_20 rfl rfl ?_
      refine gx_iload_n 1 dX11_tree_21 rfl rfl ?_
      refine gx_iload_n 2 dX11_tree_22 rfl rfl ?_
      obtain ⟨_, hobq5, h⟩ := bnd h
      obtain ⟨q5, hq5, h⟩ := bnd h
      refine gx_cVI (As := [.int l1, .int l2]) (st := []) (o := l0) dX11_tree_23 (c_X11_treeOf hq5) mov_X11_treeOf tw_1309 hobq5 rfl ⟨Nat.le_of_ble_eq_true rfl, Nat.le_of_ble_eq_true rfl⟩ (Nat.le_of_ble_eq_true rfl) ?_
      refine gx_goto 30 dX11_tree_26 (by decide) ?_
      exact gx_sub [] rfl (s_X11_tree_30  h)
theorem c_X11_tree {Γ : Cn} {τ : Mm} {N : Nat} {l0 : Nat} {l1 : Int32} {l2 : Int32} {σ : Mm} {o : Int32 × Mm} (h : f_X11_tree N l0 l1 l2 σ = some o) : Ct Γ M_X11_tree yX11_tree 100 τ [.ref (Γ.B + pp l0), .int l1, .int l2] σ (PI o) := ct_of (by decide) rfl (fun _ => by first | rfl | contradiction) (Nat.le_of_ble_eq_true rfl) (s_X11_tree_0  h)
abbrev M_X11_worth : Ms := (cX11_worth, RX11, 3, (some .int), false, 0, 0, 1)
def f_X11_worth_46 (N : Nat) (t0 : Int32) (σ : Mm) : Option (Int32 × Mm) :=
  some (t0, σ)
def f_X11_worth_45 (N : Nat) (σ : Mm) : Option (Int32 × Mm) :=
  f_X11_worth_46 N (-1 : Int32) σ
def f_X11_worth (N : Nat) (l0 : Nat) (l1 : Int32) (l2 : Int32) (σ : Mm) : Option (Int32 × Mm) :=
  (gN 11 24 σ l0).bind fun a1 =>
  (aI 113 σ a1 (0 : Int32)).bind fun x2 =>
  if x2 ≤ 0 then (
    f_X11_worth_45 N σ) else (
    (f_X11_in N (Int32.toInt64 l1) (0 : Int64) (3 : Int64) σ).bind fun q4 =>
    if q4.1 = 0 then (
      f_X11_worth_45 N q4.2) else (
      (f_X11_isPoint N l2 q4.2).bind fun q6 =>
      if q6.1 = 0 then (
        f_X11_worth_45 N q6.2) else (
        (gN 11 24 q6.2 l0).bind fun a8 =>
        (aI 113 q6.2 a8 (((124 : Int32) + ((8 : Int32) * l1)) + l2)).bind fun x9 =>
        f_X11_worth_46 N x9 q6.2)))
theorem mov_X11_worth : MOV yX11_worth M_X11_worth 2 11 100 := ⟨⟨tw_107, tw_1316, ⟨by decide, by decide⟩, by decide +kernel⟩, tw_1314, tw_1315, by decide, ⟨_, rfl, rfl⟩, rfl⟩
set_option maxRecDepth 4000 in
theorem s_X11_worth_46 {Γ : Cn} {τ : Mm} {N : Nat} {t0 : Int32} {σ : Mm} {o : Int32 × Mm} (h : f_X11_worth_46 N t0 σ = some o) : Gx Γ M_X11_worth 100 τ (PI o) 0 0 46 [] [.int t0] σ := by
  unfold f_X11_worth_46 at h
  have h := Option.some.inj h
  subst h
  exact gx_iret dX11_worth_46 rfl (Nat.le_of_ble_eq_true rfl) (Nat.le_of_ble_eq_true rfl) ⟨rfl, rfl⟩
set_option maxRecDepth 4000 in
theorem s_X11_worth_45 {Γ : Cn} {τ : Mm} {N : Nat} {σ : Mm} {o : Int32 × Mm} (h : f_X11_worth_45 N σ = some o) : Gx Γ M_X11_worth 100 τ (PI o) 0 0 45 [] [] σ := by
  unfold f_X11_worth_45 at h
  refine gx_iconst (v := (-1 : Int32)) dX11_worth_45 ic_m1 ?_
  exact s_X11_worth_46  h
set_option maxRecDepth 4000 in
theorem s_X11_worth_0 {Γ : Cn} {τ : Mm} {N : Nat} {l0 : Nat} {l1 : Int32} {l2 : Int32} {σ : Mm} {o : Int32 × Mm} (h : f_X11_worth N l0 l1 l2 σ = some o) : Gx Γ M_X11_worth 100 τ (PI o) 0 0 0 [(0, .ref (Γ.B + pp l0)), (1, .int l1), (2, .int l2)] [] σ := by
  unfold f_X11_worth at h
  refine gx_aload_n 0 dX11_worth_0 rfl rfl ?_
  obtain ⟨a1, ha1, h⟩ := bnd h
  refine gx_getN dX11_worth_1 ha1 fl_X11_45 rfl ?_
  refine gx_iconst (v := (0 : Int32)) dX11_worth_4 ic_0 ?_
  obtain ⟨x2, hx2, h⟩ := bnd h
  refine gx_iald (kd := 113) dX11_worth_5 hx2 rfl rfl ?_
  refine gx_if_le 45 dX11_worth_6 (by decide) (fun c2 => ?_) (fun c2 => ?_)
  · rw [if_pos c2] at h
    exact gx_sub [] rfl (s_X11_worth_45  h)
  · rw [if_neg c2] at h
    refine gx_iload_n 1 dX11_worth_9 rfl rfl ?_
    refine gx_i2l dX11_worth_10 ?_
    refine gx_lconst (v := (0 : Int64)) dX11_worth_11 (by decide) ?_
    refine gx_ldc2 (v := (3 : Int64)) dX11_worth_12 tw_1317 ?_
    obtain ⟨q4, hq4, h⟩ := bnd h
    refine gx_cSI (As := [.long (Int32.toInt64 l1), .long (0 : Int64), .long (3 : Int64)]) (st := []) dX11_worth_15 (c_X11_in hq4) mos_X11_in tw_1206 rfl ⟨Nat.le_of_ble_eq_true rfl, Nat.le_of_ble_eq_true rfl⟩ (Nat.le_of_ble_eq_true rfl) ?_
    refine gx_if_eq 45 dX11_worth_18 (by decide) (fun c4 => ?_) (fun c4 => ?_)
    · rw [if_pos c4] at h
      exact gx_sub [] rfl (s_X11_worth_45  h)
    · rw [if_neg c4] at h
      refine gx_iload_n 2 dX11_worth_21 rfl rfl ?_
      obtain ⟨q6, hq6, h⟩ := bnd h
      refine gx_cSI (As := [.int l2]) (st := []) dX11_worth_22 (c_X11_isPoint hq6) mos_X11_isPoint tw_1318 rfl ⟨Nat.le_of_ble_eq_true rfl, Nat.le_of_ble_eq_true rfl⟩ (Nat.le_of_ble_eq_true rfl) ?_
      refine gx_if_eq 45 dX11_worth_25 (by decide) (fun c6 => ?_) (fun c6 => ?_)
      · rw [if_pos c6] at h
        exact gx_sub [] rfl (s_X11_worth_45  h)
      · rw [if_neg c6] at h
        refine gx_aload_n 0 dX11_worth_28 rfl rfl ?_
        obtain ⟨a8, ha8, h⟩ := bnd h
        refine gx_getN dX11_worth_29 ha8 fl_X11_45 rfl ?_
        refine gx_bipush (v := (124 : Int32)) dX11_worth_32 ib_124 ?_
        refine gx_bipush (v := (8 : Int32)) dX11_worth_34 ib_8 ?_
        refine gx_iload_n 1 dX11_worth_36 rfl rfl ?_
        refine gx_imul dX11_worth_37 ?_
        refine gx_iadd dX11_worth_38 ?_
        refine gx_iload_n 2 dX11_worth_39 rfl rfl ?_
        refine gx_iadd dX11_worth_40 ?_
        obtain ⟨x9, hx9, h⟩ := bnd h
        refine gx_iald (kd := 113) dX11_worth_41 hx9 rfl rfl ?_
        refine gx_goto 46 dX11_worth_42 (by decide) ?_
        exact gx_sub [] rfl (s_X11_worth_46  h)
theorem c_X11_worth {Γ : Cn} {τ : Mm} {N : Nat} {l0 : Nat} {l1 : Int32} {l2 : Int32} {σ : Mm} {o : Int32 × Mm} (h : f_X11_worth N l0 l1 l2 σ = some o) : Ct Γ M_X11_worth yX11_worth 100 τ [.ref (Γ.B + pp l0), .int l1, .int l2] σ (PI o) := ct_of (by decide) rfl (fun _ => by first | rfl | contradiction) (Nat.le_of_ble_eq_true rfl) (s_X11_worth_0  h)
abbrev M_X11_leeOf : Ms := (cX11_leeOf, RX11, 7, (some .int), false, 0, 0, 1)
def f_X11_leeOf_101 (N : Nat) (r_40 : Nat → Int32 → Int32 → Int32 → Int32 → Int32 → Int32 → Mm → Option (Int32 × Mm)) (l0 : Nat) (l1 : Int32) (l2 : Int32) (l3 : Int32) (l5 : Int32) (l6 : Int32) (t0 : Int32) (t1 : Int32) (σ : Mm) : Option (Int32 × Mm) :=
  r_40 l0 l1 l2 l3 (t0 + t1) l5 (l6 + (1 : Int32)) σ
def f_X11_leeOf_100 (N : Nat) (r_40 : Nat → Int32 → Int32 → Int32 → Int32 → Int32 → Int32 → Mm → Option (Int32 × Mm)) (l0 : Nat) (l1 : Int32) (l2 : Int32) (l3 : Int32) (l5 : Int32) (l6 : Int32) (t0 : Int32) (σ : Mm) : Option (Int32 × Mm) :=
  f_X11_leeOf_101 N r_40 l0 l1 l2 l3 l5 l6 t0 (0 : Int32) σ
def f_X11_leeOf_110 (N : Nat) (r_6 : Nat → Int32 → Int32 → Int32 → Int32 → Int32 → Mm → Option (Int32 × Mm)) (l0 : Nat) (l1 : Int32) (l2 : Int32) (l3 : Int32) (l4 : Int32) (l5 : Int32) (σ : Mm) : Option (Int32 × Mm) :=
  r_6 l0 l1 l2 l3 l4 (l5 + (1 : Int32)) σ
def f_X11_leeOf_40 (N : Nat) (r_6 : Nat → Int32 → Int32 → Int32 → Int32 → Int32 → Mm → Option (Int32 × Mm)) : Nat → Nat → Int32 → Int32 → Int32 → Int32 → Int32 → Int32 → Mm → Option (Int32 × Mm)
  | 0, _, _, _, _, _, _, _, _ => none
  | n + 1, l0, l1, l2, l3, l4, l5, l6, σ =>
      if (4 : Int32) ≤ l6 then (
        f_X11_leeOf_110 N r_6 l0 l1 l2 l3 l4 l5 σ) else (
        (ob 11 σ l0).bind fun _ =>
        (f_X11_treeOf N l0 l5 (0 : Int32) σ).bind fun q2 =>
        (ob 11 q2.2 l0).bind fun _ =>
        (f_X11_cockOf N l0 l1 (0 : Int32) q2.2).bind fun q3 =>
        (f_X11_across N l2 q3.2).bind fun q4 =>
        if q2.1 = (q3.1 + (l6 * q4.1)) then (
          (ob 11 q4.2 l0).bind fun _ =>
          (f_X11_treeOf N l0 l5 (1 : Int32) q4.2).bind fun q6 =>
          (ob 11 q6.2 l0).bind fun _ =>
          (f_X11_cockOf N l0 l1 (1 : Int32) q6.2).bind fun q7 =>
          (f_X11_down N l2 q7.2).bind fun q8 =>
          if q6.1 = (q7.1 + (l6 * q8.1)) then (
            f_X11_leeOf_101 N (f_X11_leeOf_40 N r_6 n) l0 l1 l2 l3 l5 l6 l4 (1 : Int32) q8.2) else (
            f_X11_leeOf_100 N (f_X11_leeOf_40 N r_6 n) l0 l1 l2 l3 l5 l6 l4 q8.2)) else (
          f_X11_leeOf_100 N (f_X11_leeOf_40 N r_6 n) l0 l1 l2 l3 l5 l6 l4 q4.2))
def f_X11_leeOf_6 (N : Nat) : Nat → Nat → Int32 → Int32 → Int32 → Int32 → Int32 → Mm → Option (Int32 × Mm)
  | 0, _, _, _, _, _, _, _ => none
  | n + 1, l0, l1, l2, l3, l4, l5, σ =>
      (gN 11 24 σ l0).bind fun a1 =>
      (aI 113 σ a1 (1 : Int32)).bind fun x2 =>
      if x2 ≤ l5 then (
        some (l4, σ)) else (
        if l5 = l3 then (
          f_X11_leeOf_110 N (f_X11_leeOf_6 N n) l0 l1 l2 l3 l4 l5 σ) else (
          (ob 11 σ l0).bind fun _ =>
          (f_X11_treeOf N l0 l5 (2 : Int32) σ).bind fun q5 =>
          if q5.1 = (1 : Int32) then (
            f_X11_leeOf_110 N (f_X11_leeOf_6 N n) l0 l1 l2 l3 l4 l5 q5.2) else (
            f_X11_leeOf_40 N (f_X11_leeOf_6 N n) N l0 l1 l2 l3 l4 l5 (1 : Int32) q5.2)))
def f_X11_leeOf (N : Nat) (l0 : Nat) (l1 : Int32) (l2 : Int32) (l3 : Int32) (σ : Mm) : Option (Int32 × Mm) :=
  f_X11_leeOf_6 N N l0 l1 l2 l3 (0 : Int32) (0 : Int32) σ
theorem mov_X11_leeOf : MOV yX11_leeOf M_X11_leeOf 3 11 100 := ⟨⟨tw_107, tw_1328, ⟨by decide, by decide⟩, by decide +kernel⟩, tw_1327, tw_68, by decide, ⟨_, rfl, rfl⟩, rfl⟩
set_option maxRecDepth 4000 in
theorem s_X11_leeOf_101 {Γ : Cn} {τ : Mm} {N : Nat} {r_40 : Nat → Int32 → Int32 → Int32 → Int32 → Int32 → Int32 → Mm → Option (Int32 × Mm)} (hr_40 : ∀ (l0 : Nat) (l1 : Int32) (l2 : Int32) (l3 : Int32) (l4 : Int32) (l5 : Int32) (l6 : Int32) (σ : Mm) (o : Int32 × Mm), r_40 l0 l1 l2 l3 l4 l5 l6 σ = some o → Gx Γ M_X11_leeOf 100 τ (PI o) 0 0 40 [(0, .ref (Γ.B + pp l0)), (1, .int l1), (2, .int l2), (3, .int l3), (4, .int l4), (5, .int l5), (6, .int l6)] [] σ) {l0 : Nat} {l1 : Int32} {l2 : Int32} {l3 : Int32} {l5 : Int32} {l6 : Int32} {t0 : Int32} {t1 : Int32} {σ : Mm} {o : Int32 × Mm} (h : f_X11_leeOf_101 N r_40 l0 l1 l2 l3 l5 l6 t0 t1 σ = some o) : Gx Γ M_X11_leeOf 100 τ (PI o) 0 0 101 [(0, .ref (Γ.B + pp l0)), (1, .int l1), (2, .int l2), (3, .int l3), (5, .int l5), (6, .int l6)] [.int t1, .int t0] σ := by
  unfold f_X11_leeOf_101 at h
  refine gx_iadd dX11_leeOf_101 ?_
  refine gx_istore (lv' := [(4, .int (t0 + t1)), (0, .ref (Γ.B + pp l0)), (1, .int l1), (2, .int l2), (3, .int l3), (5, .int l5), (6, .int l6)]) dX11_leeOf_102 (Nat.le_of_ble_eq_true rfl) rfl ?_
  refine gx_iinc (v := (l6 + (1 : Int32))) (lv' := [(6, .int (l6 + (1 : Int32))), (4, .int (t0 + t1)), (0, .ref (Γ.B + pp l0)), (1, .int l1), (2, .int l2), (3, .int l3), (5, .int l5)]) 6 dX11_leeOf_104 rfl (by rw [ic_1]) (Nat.le_of_ble_eq_true rfl) rfl ?_
  refine gx_goto 40 dX11_leeOf_107 (by decide) ?_
  exact gx_sub [2, 3, 4, 5, 1, 6, 0] rfl (hr_40 _ _ _ _ _ _ _ _ _ h)
set_option maxRecDepth 4000 in
theorem s_X11_leeOf_100 {Γ : Cn} {τ : Mm} {N : Nat} {r_40 : Nat → Int32 → Int32 → Int32 → Int32 → Int32 → Int32 → Mm → Option (Int32 × Mm)} (hr_40 : ∀ (l0 : Nat) (l1 : Int32) (l2 : Int32) (l3 : Int32) (l4 : Int32) (l5 : Int32) (l6 : Int32) (σ : Mm) (o : Int32 × Mm), r_40 l0 l1 l2 l3 l4 l5 l6 σ = some o → Gx Γ M_X11_leeOf 100 τ (PI o) 0 0 40 [(0, .ref (Γ.B + pp l0)), (1, .int l1), (2, .int l2), (3, .int l3), (4, .int l4), (5, .int l5), (6, .int l6)] [] σ) {l0 : Nat} {l1 : Int32} {l2 : Int32} {l3 : Int32} {l5 : Int32} {l6 : Int32} {t0 : Int32} {σ : Mm} {o : Int32 × Mm} (h : f_X11_leeOf_100 N r_40 l0 l1 l2 l3 l5 l6 t0 σ = some o) : Gx Γ M_X11_leeOf 100 τ (PI o) 0 0 100 [(0, .ref (Γ.B + pp l0)), (1, .int l1), (2, .int l2), (3, .int l3), (5, .int l5), (6, .int l6)] [.int t0] σ := by
  unfold f_X11_leeOf_100 at h
  refine gx_iconst (v := (0 : Int32)) dX11_leeOf_100 ic_0 ?_
  exact s_X11_leeOf_101 hr_40 h
set_option maxRecDepth 4000 in
theorem s_X11_leeOf_110 {Γ : Cn} {τ : Mm} {N : Nat} {r_6 : Nat → Int32 → Int32 → Int32 → Int32 → Int32 → Mm → Option (Int32 × Mm)} (hr_6 : ∀ (l0 : Nat) (l1 : Int32) (l2 : Int32) (l3 : Int32) (l4 : Int32) (l5 : Int32) (σ : Mm) (o : Int32 × Mm), r_6 l0 l1 l2 l3 l4 l5 σ = some o → Gx Γ M_X11_leeOf 100 τ (PI o) 0 0 6 [(0, .ref (Γ.B + pp l0)), (1, .int l1), (2, .int l2), (3, .int l3), (4, .int l4), (5, .int l5)] [] σ) {l0 : Nat} {l1 : Int32} {l2 : Int32} {l3 : Int32} {l4 : Int32} {l5 : Int32} {σ : Mm} {o : Int32 × Mm} (h : f_X11_leeOf_110 N r_6 l0 l1 l2 l3 l4 l5 σ = some o) : Gx Γ M_X11_leeOf 100 τ (PI o) 0 0 110 [(0, .ref (Γ.B + pp l0)), (1, .int l1), (2, .int l2), (3, .int l3), (4, .int l4), (5, .int l5)] [] σ := by
  unfold f_X11_leeOf_110 at h
  refine gx_iinc (v := (l5 + (1 : Int32))) (lv' := [(5, .int (l5 + (1 : Int32))), (0, .ref (Γ.B + pp l0)), (1, .int l1), (2, .int l2), (3, .int l3), (4, .int l4)]) 5 dX11_leeOf_110 rfl (by rw [ic_1]) (Nat.le_of_ble_eq_true rfl) rfl ?_
  refine gx_goto 6 dX11_leeOf_113 (by decide) ?_
  exact gx_sub [1, 2, 3, 4, 5, 0] rfl (hr_6 _ _ _ _ _ _ _ _ h)
set_option maxRecDepth 4000 in
theorem s_X11_leeOf_40 {Γ : Cn} {τ : Mm} {N : Nat} {r_6 : Nat → Int32 → Int32 → Int32 → Int32 → Int32 → Mm → Option (Int32 × Mm)} (hr_6 : ∀ (l0 : Nat) (l1 : Int32) (l2 : Int32) (l3 : Int32) (l4 : Int32) (l5 : Int32) (σ : Mm) (o : Int32 × Mm), r_6 l0 l1 l2 l3 l4 l5 σ = some o → Gx Γ M_X11_leeOf 100 τ (PI o) 0 0 6 [(0, .ref (Γ.B + pp l0)), (1, .int l1), (2, .int l2), (3, .int l3), (4, .int l4), (5, .int l5)] [] σ) : ∀ (n : Nat) (l0 : Nat) (l1 : Int32) (l2 : Int32) (l3 : Int32) (l4 : Int32) (l5 : Int32) (l6 : Int32) (σ : Mm) (o : Int32 × Mm), f_X11_leeOf_40 N r_6 n l0 l1 l2 l3 l4 l5 l6 σ = some o → Gx Γ M_X11_leeOf 100 τ (PI o) 0 0 40 [(0, .ref (Γ.B + pp l0)), (1, .int l1), (2, .int l2), (3, .int l3), (4, .int l4), (5, .int l5), (6, .int l6)] [] σ := by
  intro n
  induction n with
  | zero =>
    intro l0 l1 l2 l3 l4 l5 l6 σ o h
    exact absurd h (by rw [f_X11_leeOf_40]; exact fun q => nomatch q)
  | succ n ih =>
    intro l0 l1 l2 l3 l4 l5 l6 σ o h
    rw [f_X11_leeOf_40] at h
    refine gx_iload 6 dX11_leeOf_40 rfl ?_
    refine gx_iconst (v := (4 : Int32)) dX11_leeOf_42 ic_4 ?_
    refine gx_icmp_ge 110 dX11_leeOf_43 (by decide) (fun c0 => ?_) (fun c0 => ?_)
    · rw [if_pos c0] at h
      exact gx_sub [0, 1, 2, 3, 4, 5] rfl (s_X11_leeOf_110 hr_6 h)
    · rw [if_neg c0] at h
      refine gx_iload 4 dX11_leeOf_46 rfl ?_
      refine gx_aload_n 0 dX11_leeOf_48 rfl rfl ?_
      refine gx_iload 5 dX11_leeOf_49 rfl ?_
      refine gx_iconst (v := (0 : Int32)) dX11_leeOf_51 ic_0 ?_
      obtain ⟨_, hobq2, h⟩ := bnd h
      obtain ⟨q2, hq2, h⟩ := bnd h
      refine gx_cVI (As := [.int l5, .int (0 : Int32)]) (st := [.int l4]) (o := l0) dX11_leeOf_52 (c_X11_treeOf hq2) mov_X11_treeOf tw_1309 hobq2 rfl ⟨Nat.le_of_ble_eq_true rfl, Nat.le_of_ble_eq_true rfl⟩ (Nat.le_of_ble_eq_true rfl) ?_
      refine gx_aload_n 0 dX11_leeOf_55 rfl rfl ?_
      refine gx_iload_n 1 dX11_leeOf_56 rfl rfl ?_
      refine gx_iconst (v := (0 : Int32)) dX11_leeOf_57 ic_0 ?_
      obtain ⟨_, hobq3, h⟩ := bnd h
      obtain ⟨q3, hq3, h⟩ := bnd h
      refine gx_cVI (As := [.int l1, .int (0 : Int32)]) (st := [.int q2.1, .int l4]) (o := l0) dX11_leeOf_58 (c_X11_cockOf hq3) mov_X11_cockOf tw_1296 hobq3 rfl ⟨Nat.le_of_ble_eq_true rfl, Nat.le_of_ble_eq_true rfl⟩ (Nat.le_of_ble_eq_true rfl) ?_
      refine gx_iload 6 dX11_leeOf_61 rfl ?_
      refine gx_iload_n 2 dX11_leeOf_63 rfl rfl ?_
      obtain ⟨q4, hq4, h⟩ := bnd h
      refine gx_cSI (As := [.int l2]) (st := [.int l6, .int q3.1, .int q2.1, .int l4]) dX11_leeOf_64 (c_X11_across hq4) mos_X11_across tw_1329 rfl ⟨Nat.le_of_ble_eq_true rfl, Nat.le_of_ble_eq_true rfl⟩ (Nat.le_of_ble_eq_true rfl) ?_
      refine gx_imul dX11_leeOf_67 ?_
      refine gx_iadd dX11_leeOf_68 ?_
      refine gx_icmp_ne 100 dX11_leeOf_69 (by decide) (fun c4 => ?_) (fun c4 => ?_)
      · rw [if_neg c4] at h
        exact gx_sub [0, 1, 2, 3, 5, 6] rfl (s_X11_leeOf_100 ih h)
      · rw [if_pos c4] at h
        refine gx_aload_n 0 dX11_leeOf_72 rfl rfl ?_
        refine gx_iload 5 dX11_leeOf_73 rfl ?_
        refine gx_iconst (v := (1 : Int32)) dX11_leeOf_75 ic_1 ?_
        obtain ⟨_, hobq6, h⟩ := bnd h
        obtain ⟨q6, hq6, h⟩ := bnd h
        refine gx_cVI (As := [.int l5, .int (1 : Int32)]) (st := [.int l4]) (o := l0) dX11_leeOf_76 (c_X11_treeOf hq6) mov_X11_treeOf tw_1309 hobq6 rfl ⟨Nat.le_of_ble_eq_true rfl, Nat.le_of_ble_eq_true rfl⟩ (Nat.le_of_ble_eq_true rfl) ?_
        refine gx_aload_n 0 dX11_leeOf_79 rfl rfl ?_
        refine gx_iload_n 1 dX11_leeOf_80 rfl rfl ?_
        refine gx_iconst (v := (1 : Int32)) dX11_leeOf_81 ic_1 ?_
        obtain ⟨_, hobq7, h⟩ := bnd h
        obtain ⟨q7, hq7, h⟩ := bnd h
        refine gx_cVI (As := [.int l1, .int (1 : Int32)]) (st := [.int q6.1, .int l4]) (o := l0) dX11_leeOf_82 (c_X11_cockOf hq7) mov_X11_cockOf tw_1296 hobq7 rfl ⟨Nat.le_of_ble_eq_true rfl, Nat.le_of_ble_eq_true rfl⟩ (Nat.le_of_ble_eq_true rfl) ?_
        refine gx_iload 6 dX11_leeOf_85 rfl ?_
        refine gx_iload_n 2 dX11_leeOf_87 rfl rfl ?_
        obtain ⟨q8, hq8, h⟩ := bnd h
        refine gx_cSI (As := [.int l2]) (st := [.int l6, .int q7.1, .int q6.1, .int l4]) dX11_leeOf_88 (c_X11_down hq8) mos_X11_down tw_1332 rfl ⟨Nat.le_of_ble_eq_true rfl, Nat.le_of_ble_eq_true rfl⟩ (Nat.le_of_ble_eq_true rfl) ?_
        refine gx_imul dX11_leeOf_91 ?_
        refine gx_iadd dX11_leeOf_92 ?_
        refine gx_icmp_ne 100 dX11_leeOf_93 (by decide) (fun c8 => ?_) (fun c8 => ?_)
        · rw [if_neg c8] at h
          exact gx_sub [0, 1, 2, 3, 5, 6] rfl (s_X11_leeOf_100 ih h)
        · rw [if_pos c8] at h
          refine gx_iconst (v := (1 : Int32)) dX11_leeOf_96 ic_1 ?_
          refine gx_goto 101 dX11_leeOf_97 (by decide) ?_
          exact gx_sub [0, 1, 2, 3, 5, 6] rfl (s_X11_leeOf_101 ih h)
set_option maxRecDepth 4000 in
theorem s_X11_leeOf_6 {Γ : Cn} {τ : Mm} {N : Nat} : ∀ (n : Nat) (l0 : Nat) (l1 : Int32) (l2 : Int32) (l3 : Int32) (l4 : Int32) (l5 : Int32) (σ : Mm) (o : Int32 × Mm), f_X11_leeOf_6 N n l0 l1 l2 l3 l4 l5 σ = some o → Gx Γ M_X11_leeOf 100 τ (PI o) 0 0 6 [(0, .ref (Γ.B + pp l0)), (1, .int l1), (2, .int l2), (3, .int l3), (4, .int l4), (5, .int l5)] [] σ := by
  intro n
  induction n with
  | zero =>
    intro l0 l1 l2 l3 l4 l5 σ o h
    exact absurd h (by rw [f_X11_leeOf_6]; exact fun q => nomatch q)
  | succ n ih =>
    intro l0 l1 l2 l3 l4 l5 σ o h
    rw [f_X11_leeOf_6] at h
    refine gx_iload 5 dX11_leeOf_6 rfl ?_
    refine gx_aload_n 0 dX11_leeOf_8 rfl rfl ?_
    obtain ⟨a1, ha1, h⟩ := bnd h
    refine gx_getN dX11_leeOf_9 ha1 fl_X11_45 rfl ?_
    refine gx_iconst (v := (1 : Int32)) dX11_leeOf_12 ic_1 ?_
    obtain ⟨x2, hx2, h⟩ := bnd h
    refine gx_iald (kd := 113) dX11_leeOf_13 hx2 rfl rfl ?_
    refine gx_icmp_ge 116 dX11_leeOf_14 (by decide) (fun c2 => ?_) (fun c2 => ?_)
    · rw [if_pos c2] at h
      refine gx_iload 4 dX11_leeOf_116 rfl ?_
      have h := Option.some.inj h
      subst h
      exact gx_iret dX11_leeOf_118 rfl (Nat.le_of_ble_eq_true rfl) (Nat.le_of_ble_eq_true rfl) ⟨rfl, rfl⟩
    · rw [if_neg c2] at h
      refine gx_iload 5 dX11_leeOf_17 rfl ?_
      refine gx_iload_n 3 dX11_leeOf_19 rfl rfl ?_
      refine gx_icmp_eq 110 dX11_leeOf_20 (by decide) (fun c3 => ?_) (fun c3 => ?_)
      · rw [if_pos c3] at h
        exact s_X11_leeOf_110 ih h
      · rw [if_neg c3] at h
        refine gx_aload_n 0 dX11_leeOf_23 rfl rfl ?_
        refine gx_iload 5 dX11_leeOf_24 rfl ?_
        refine gx_iconst (v := (2 : Int32)) dX11_leeOf_26 ic_2 ?_
        obtain ⟨_, hobq5, h⟩ := bnd h
        obtain ⟨q5, hq5, h⟩ := bnd h
        refine gx_cVI (As := [.int l5, .int (2 : Int32)]) (st := []) (o := l0) dX11_leeOf_27 (c_X11_treeOf hq5) mov_X11_treeOf tw_1309 hobq5 rfl ⟨Nat.le_of_ble_eq_true rfl, Nat.le_of_ble_eq_true rfl⟩ (Nat.le_of_ble_eq_true rfl) ?_
        refine gx_iconst (v := (1 : Int32)) dX11_leeOf_30 ic_1 ?_
        refine gx_icmp_ne 37 dX11_leeOf_31 (by decide) (fun c5 => ?_) (fun c5 => ?_)
        · rw [if_neg c5] at h
          refine gx_iconst (v := (1 : Int32)) dX11_leeOf_37 ic_1 ?_
          refine gx_istore (lv' := [(6, .int (1 : Int32)), (0, .ref (Γ.B + pp l0)), (1, .int l1), (2, .int l2), (3, .int l3), (4, .int l4), (5, .int l5)]) dX11_leeOf_38 (Nat.le_of_ble_eq_true rfl) rfl ?_
          exact gx_sub [1, 2, 3, 4, 5, 6, 0] rfl (s_X11_leeOf_40 ih N _ _ _ _ _ _ _ _ _ h)
        · rw [if_pos c5] at h
          refine gx_goto 110 dX11_leeOf_34 (by decide) ?_
          exact s_X11_leeOf_110 ih h
set_option maxRecDepth 4000 in
theorem s_X11_leeOf_0 {Γ : Cn} {τ : Mm} {N : Nat} {l0 : Nat} {l1 : Int32} {l2 : Int32} {l3 : Int32} {σ : Mm} {o : Int32 × Mm} (h : f_X11_leeOf N l0 l1 l2 l3 σ = some o) : Gx Γ M_X11_leeOf 100 τ (PI o) 0 0 0 [(0, .ref (Γ.B + pp l0)), (1, .int l1), (2, .int l2), (3, .int l3)] [] σ := by
  unfold f_X11_leeOf at h
  refine gx_iconst (v := (0 : Int32)) dX11_leeOf_0 ic_0 ?_
  refine gx_istore (lv' := [(4, .int (0 : Int32)), (0, .ref (Γ.B + pp l0)), (1, .int l1), (2, .int l2), (3, .int l3)]) dX11_leeOf_1 (Nat.le_of_ble_eq_true rfl) rfl ?_
  refine gx_iconst (v := (0 : Int32)) dX11_leeOf_3 ic_0 ?_
  refine gx_istore (lv' := [(5, .int (0 : Int32)), (4, .int (0 : Int32)), (0, .ref (Γ.B + pp l0)), (1, .int l1), (2, .int l2), (3, .int l3)]) dX11_leeOf_4 (Nat.le_of_ble_eq_true rfl) rfl ?_
  exact gx_sub [2, 3, 4, 5, 1, 0] rfl (s_X11_leeOf_6  N _ _ _ _ _ _ _ _ h)
theorem c_X11_leeOf {Γ : Cn} {τ : Mm} {N : Nat} {l0 : Nat} {l1 : Int32} {l2 : Int32} {l3 : Int32} {σ : Mm} {o : Int32 × Mm} (h : f_X11_leeOf N l0 l1 l2 l3 σ = some o) : Ct Γ M_X11_leeOf yX11_leeOf 100 τ [.ref (Γ.B + pp l0), .int l1, .int l2, .int l3] σ (PI o) := ct_of (by decide) rfl (fun _ => by first | rfl | contradiction) (Nat.le_of_ble_eq_true rfl) (s_X11_leeOf_0  h)
abbrev M_X11_lee : Ms := (cX11_lee, RX11, 3, (some .int), false, 0, 0, 2)
def f_X11_lee_26 (N : Nat) (t0 : Int32) (σ : Mm) : Option (Int32 × Mm) :=
  some (t0, σ)
def f_X11_lee_25 (N : Nat) (σ : Mm) : Option (Int32 × Mm) :=
  f_X11_lee_26 N (-1 : Int32) σ
def f_X11_lee (N : Nat) (l0 : Nat) (l1 : Int32) (l2 : Int32) (σ : Mm) : Option (Int32 × Mm) :=
  (ob 11 σ l0).bind fun _ =>
  (f_X11_isCock N l0 l1 σ).bind fun q1 =>
  if q1.1 = 0 then (
    f_X11_lee_25 N q1.2) else (
    (f_X11_isPoint N l2 q1.2).bind fun q3 =>
    if q3.1 = 0 then (
      f_X11_lee_25 N q3.2) else (
      (ob 11 q3.2 l0).bind fun _ =>
      (f_X11_leeOf N l0 l1 l2 (-1 : Int32) q3.2).bind fun q5 =>
      f_X11_lee_26 N q5.1 q5.2))
theorem mov_X11_lee : MOV yX11_lee M_X11_lee 2 11 100 := ⟨⟨tw_107, tw_1324, ⟨by decide, by decide⟩, by decide +kernel⟩, tw_1322, tw_1323, by decide, ⟨_, rfl, rfl⟩, rfl⟩
set_option maxRecDepth 4000 in
theorem s_X11_lee_26 {Γ : Cn} {τ : Mm} {N : Nat} {t0 : Int32} {σ : Mm} {o : Int32 × Mm} (h : f_X11_lee_26 N t0 σ = some o) : Gx Γ M_X11_lee 100 τ (PI o) 0 0 26 [] [.int t0] σ := by
  unfold f_X11_lee_26 at h
  have h := Option.some.inj h
  subst h
  exact gx_iret dX11_lee_26 rfl (Nat.le_of_ble_eq_true rfl) (Nat.le_of_ble_eq_true rfl) ⟨rfl, rfl⟩
set_option maxRecDepth 4000 in
theorem s_X11_lee_25 {Γ : Cn} {τ : Mm} {N : Nat} {σ : Mm} {o : Int32 × Mm} (h : f_X11_lee_25 N σ = some o) : Gx Γ M_X11_lee 100 τ (PI o) 0 0 25 [] [] σ := by
  unfold f_X11_lee_25 at h
  refine gx_iconst (v := (-1 : Int32)) dX11_lee_25 ic_m1 ?_
  exact s_X11_lee_26  h
set_option maxRecDepth 4000 in
theorem s_X11_lee_0 {Γ : Cn} {τ : Mm} {N : Nat} {l0 : Nat} {l1 : Int32} {l2 : Int32} {σ : Mm} {o : Int32 × Mm} (h : f_X11_lee N l0 l1 l2 σ = some o) : Gx Γ M_X11_lee 100 τ (PI o) 0 0 0 [(0, .ref (Γ.B + pp l0)), (1, .int l1), (2, .int l2)] [] σ := by
  unfold f_X11_lee at h
  refine gx_aload_n 0 dX11_lee_0 rfl rfl ?_
  refine gx_iload_n 1 dX11_lee_1 rfl rfl ?_
  obtain ⟨_, hobq1, h⟩ := bnd h
  obtain ⟨q1, hq1, h⟩ := bnd h
  refine gx_cVI (As := [.int l1]) (st := []) (o := l0) dX11_lee_2 (c_X11_isCock hq1) mov_X11_isCock tw_1291 hobq1 rfl ⟨Nat.le_of_ble_eq_true rfl, Nat.le_of_ble_eq_true rfl⟩ (Nat.le_of_ble_eq_true rfl) ?_
  refine gx_if_eq 25 dX11_lee_5 (by decide) (fun c1 => ?_) (fun c1 => ?_)
  · rw [if_pos c1] at h
    exact gx_sub [] rfl (s_X11_lee_25  h)
  · rw [if_neg c1] at h
    refine gx_iload_n 2 dX11_lee_8 rfl rfl ?_
    obtain ⟨q3, hq3, h⟩ := bnd h
    refine gx_cSI (As := [.int l2]) (st := []) dX11_lee_9 (c_X11_isPoint hq3) mos_X11_isPoint tw_1318 rfl ⟨Nat.le_of_ble_eq_true rfl, Nat.le_of_ble_eq_true rfl⟩ (Nat.le_of_ble_eq_true rfl) ?_
    refine gx_if_eq 25 dX11_lee_12 (by decide) (fun c3 => ?_) (fun c3 => ?_)
    · rw [if_pos c3] at h
      exact gx_sub [] rfl (s_X11_lee_25  h)
    · rw [if_neg c3] at h
      refine gx_aload_n 0 dX11_lee_15 rfl rfl ?_
      refine gx_iload_n 1 dX11_lee_16 rfl rfl ?_
      refine gx_iload_n 2 dX11_lee_17 rfl rfl ?_
      refine gx_iconst (v := (-1 : Int32)) dX11_lee_18 ic_m1 ?_
      obtain ⟨_, hobq5, h⟩ := bnd h
      obtain ⟨q5, hq5, h⟩ := bnd h
      refine gx_cVI (As := [.int l1, .int l2, .int (-1 : Int32)]) (st := []) (o := l0) dX11_lee_19 (c_X11_leeOf hq5) mov_X11_leeOf tw_1325 hobq5 rfl ⟨Nat.le_of_ble_eq_true rfl, Nat.le_of_ble_eq_true rfl⟩ (Nat.le_of_ble_eq_true rfl) ?_
      refine gx_goto 26 dX11_lee_22 (by decide) ?_
      exact gx_sub [] rfl (s_X11_lee_26  h)
theorem c_X11_lee {Γ : Cn} {τ : Mm} {N : Nat} {l0 : Nat} {l1 : Int32} {l2 : Int32} {σ : Mm} {o : Int32 × Mm} (h : f_X11_lee N l0 l1 l2 σ = some o) : Ct Γ M_X11_lee yX11_lee 100 τ [.ref (Γ.B + pp l0), .int l1, .int l2] σ (PI o) := ct_of (by decide) rfl (fun _ => by first | rfl | contradiction) (Nat.le_of_ble_eq_true rfl) (s_X11_lee_0  h)
abbrev M_X11_turnsBy : Ms := (cX11_turnsBy, RX11, 7, (some .int), false, 0, 0, 2)
def f_X11_turnsBy_124 (N : Nat) (t0 : Int32) (σ : Mm) : Option (Int32 × Mm) :=
  some (t0, σ)
def f_X11_turnsBy_65 (N : Nat) (l0 : Nat) (l1 : Int32) (l4 : Int32) (σ : Mm) : Option (Int32 × Mm) :=
  (gN 11 5 σ l0).bind fun a1 =>
  (aI 113 σ a1 l4).bind fun x2 =>
  (gN 11 5 σ l0).bind fun a3 =>
  (aI 113 σ a3 (l4 + (1 : Int32))).bind fun x4 =>
  (ob 11 σ l0).bind fun _ =>
  (f_X11_reckons N l0 l1 x2 x4 σ).bind fun q5 =>
  if 0 ≤ (lg_cmp q5.1 (0 : Int64)) then (
    (gN 11 23 q5.2 l0).bind fun a7 =>
    (aJ 114 q5.2 a7 (5 : Int32)).bind fun x8 =>
    if (lg_cmp q5.1 x8) ≤ 0 then (
      f_X11_turnsBy_124 N (Int64.toInt32 q5.1) q5.2) else (
      (gN 11 23 q5.2 l0).bind fun a10 =>
      (aJ 114 q5.2 a10 (5 : Int32)).bind fun x11 =>
      f_X11_turnsBy_124 N (Int64.toInt32 x11) q5.2)) else (
    f_X11_turnsBy_124 N (0 : Int32) q5.2)
def f_X11_turnsBy_2 (N : Nat) : Nat → Nat → Int32 → Int32 → Mm → Option (Int32 × Mm)
  | 0, _, _, _, _ => none
  | n + 1, l0, l1, l3, σ =>
      (gN 11 6 σ l0).bind fun a1 =>
      (aI 113 σ a1 l1).bind fun x2 =>
      if x2 ≤ l3 then (
        some ((0 : Int32), σ)) else (
        (gN 11 5 σ l0).bind fun a4 =>
        (aI 113 σ a4 ((((48 : Int32) * l1) + ((4 : Int32) * l3)) + (2 : Int32))).bind fun x5 =>
        if x5 < 0 then (
          f_X11_turnsBy_65 N l0 l1 (((48 : Int32) * l1) + ((4 : Int32) * l3)) σ) else (
          (gN 11 5 σ l0).bind fun a7 =>
          (aI 113 σ a7 ((((48 : Int32) * l1) + ((4 : Int32) * l3)) + (2 : Int32))).bind fun x8 =>
          (gN 11 5 σ l0).bind fun a9 =>
          (aI 113 σ a9 ((((48 : Int32) * l1) + ((4 : Int32) * l3)) + (3 : Int32))).bind fun x10 =>
          (ob 11 σ l0).bind fun _ =>
          (f_X11_reckons N l0 l1 x8 x10 σ).bind fun q11 =>
          if (lg_cmp q11.1 (0 : Int64)) = 0 then (
            f_X11_turnsBy_2 N n l0 l1 (l3 + (1 : Int32)) q11.2) else (
            f_X11_turnsBy_65 N l0 l1 (((48 : Int32) * l1) + ((4 : Int32) * l3)) q11.2)))
def f_X11_turnsBy (N : Nat) (l0 : Nat) (l1 : Int32) (l2 : Int32) (σ : Mm) : Option (Int32 × Mm) :=
  f_X11_turnsBy_2 N N l0 l1 (0 : Int32) σ
theorem mov_X11_turnsBy : MOV yX11_turnsBy M_X11_turnsBy 2 11 100 := ⟨⟨tw_107, tw_1358, ⟨by decide, by decide⟩, by decide +kernel⟩, tw_1357, tw_72, by decide, ⟨_, rfl, rfl⟩, rfl⟩
set_option maxRecDepth 4000 in
theorem s_X11_turnsBy_124 {Γ : Cn} {τ : Mm} {N : Nat} {t0 : Int32} {σ : Mm} {o : Int32 × Mm} (h : f_X11_turnsBy_124 N t0 σ = some o) : Gx Γ M_X11_turnsBy 100 τ (PI o) 0 0 124 [] [.int t0] σ := by
  unfold f_X11_turnsBy_124 at h
  have h := Option.some.inj h
  subst h
  exact gx_iret dX11_turnsBy_124 rfl (Nat.le_of_ble_eq_true rfl) (Nat.le_of_ble_eq_true rfl) ⟨rfl, rfl⟩
set_option maxRecDepth 4000 in
theorem s_X11_turnsBy_65 {Γ : Cn} {τ : Mm} {N : Nat} {l0 : Nat} {l1 : Int32} {l4 : Int32} {σ : Mm} {o : Int32 × Mm} (h : f_X11_turnsBy_65 N l0 l1 l4 σ = some o) : Gx Γ M_X11_turnsBy 100 τ (PI o) 0 0 65 [(0, .ref (Γ.B + pp l0)), (1, .int l1), (4, .int l4)] [] σ := by
  unfold f_X11_turnsBy_65 at h
  refine gx_aload_n 0 dX11_turnsBy_65 rfl rfl ?_
  refine gx_iload_n 1 dX11_turnsBy_66 rfl rfl ?_
  refine gx_aload_n 0 dX11_turnsBy_67 rfl rfl ?_
  obtain ⟨a1, ha1, h⟩ := bnd h
  refine gx_getN dX11_turnsBy_68 ha1 fl_X11_20 rfl ?_
  refine gx_iload 2 dX11_turnsBy_71 rfl ?_
  obtain ⟨x2, hx2, h⟩ := bnd h
  refine gx_iald (kd := 113) dX11_turnsBy_73 hx2 rfl rfl ?_
  refine gx_aload_n 0 dX11_turnsBy_74 rfl rfl ?_
  obtain ⟨a3, ha3, h⟩ := bnd h
  refine gx_getN dX11_turnsBy_75 ha3 fl_X11_20 rfl ?_
  refine gx_iload 2 dX11_turnsBy_78 rfl ?_
  refine gx_iconst (v := (1 : Int32)) dX11_turnsBy_80 ic_1 ?_
  refine gx_iadd dX11_turnsBy_81 ?_
  obtain ⟨x4, hx4, h⟩ := bnd h
  refine gx_iald (kd := 113) dX11_turnsBy_82 hx4 rfl rfl ?_
  obtain ⟨_, hobq5, h⟩ := bnd h
  obtain ⟨q5, hq5, h⟩ := bnd h
  refine gx_cVJ (As := [.int l1, .int x2, .int x4]) (st := []) (o := l0) dX11_turnsBy_83 (c_X11_reckons hq5) mov_X11_reckons tw_1359 hobq5 rfl ⟨Nat.le_of_ble_eq_true rfl, Nat.le_of_ble_eq_true rfl⟩ (Nat.le_of_ble_eq_true rfl) ?_
  refine gx_lstore (lv' := [(5, .long q5.1), (0, .ref (Γ.B + pp l0)), (1, .int l1), (4, .int l4)]) dX11_turnsBy_86 (Nat.le_of_ble_eq_true rfl) rfl ?_
  refine gx_lload 0 dX11_turnsBy_88 rfl ?_
  refine gx_lconst (v := (0 : Int64)) dX11_turnsBy_90 (by decide) ?_
  refine gx_lcmp dX11_turnsBy_91 ?_
  refine gx_if_ge 99 dX11_turnsBy_92 (by decide) (fun c5 => ?_) (fun c5 => ?_)
  · rw [if_pos c5] at h
    refine gx_lload 0 dX11_turnsBy_99 rfl ?_
    refine gx_aload_n 1 dX11_turnsBy_101 rfl rfl ?_
    obtain ⟨a7, ha7, h⟩ := bnd h
    refine gx_getN dX11_turnsBy_102 ha7 fl_X11_42 rfl ?_
    refine gx_iconst (v := (5 : Int32)) dX11_turnsBy_105 ic_5 ?_
    obtain ⟨x8, hx8, h⟩ := bnd h
    refine gx_lald (kd := 114) dX11_turnsBy_106 hx8 rfl rfl ?_
    refine gx_lcmp dX11_turnsBy_107 ?_
    refine gx_if_le 121 dX11_turnsBy_108 (by decide) (fun c8 => ?_) (fun c8 => ?_)
    · rw [if_pos c8] at h
      refine gx_lload 0 dX11_turnsBy_121 rfl ?_
      refine gx_l2i dX11_turnsBy_123 ?_
      exact gx_sub [] rfl (s_X11_turnsBy_124  h)
    · rw [if_neg c8] at h
      refine gx_aload_n 1 dX11_turnsBy_111 rfl rfl ?_
      obtain ⟨a10, ha10, h⟩ := bnd h
      refine gx_getN dX11_turnsBy_112 ha10 fl_X11_42 rfl ?_
      refine gx_iconst (v := (5 : Int32)) dX11_turnsBy_115 ic_5 ?_
      obtain ⟨x11, hx11, h⟩ := bnd h
      refine gx_lald (kd := 114) dX11_turnsBy_116 hx11 rfl rfl ?_
      refine gx_l2i dX11_turnsBy_117 ?_
      refine gx_goto 124 dX11_turnsBy_118 (by decide) ?_
      exact gx_sub [] rfl (s_X11_turnsBy_124  h)
  · rw [if_neg c5] at h
    refine gx_iconst (v := (0 : Int32)) dX11_turnsBy_95 ic_0 ?_
    refine gx_goto 124 dX11_turnsBy_96 (by decide) ?_
    exact gx_sub [] rfl (s_X11_turnsBy_124  h)
set_option maxRecDepth 4000 in
theorem s_X11_turnsBy_2 {Γ : Cn} {τ : Mm} {N : Nat} : ∀ (n : Nat) (l0 : Nat) (l1 : Int32) (l3 : Int32) (σ : Mm) (o : Int32 × Mm), f_X11_turnsBy_2 N n l0 l1 l3 σ = some o → Gx Γ M_X11_turnsBy 100 τ (PI o) 0 0 2 [(0, .ref (Γ.B + pp l0)), (1, .int l1), (3, .int l3)] [] σ := by
  intro n
  induction n with
  | zero =>
    intro l0 l1 l3 σ o h
    exact absurd h (by rw [f_X11_turnsBy_2]; exact fun q => nomatch q)
  | succ n ih =>
    intro l0 l1 l3 σ o h
    rw [f_X11_turnsBy_2] at h
    refine gx_iload_n 2 dX11_turnsBy_2 rfl rfl ?_
    refine gx_aload_n 0 dX11_turnsBy_3 rfl rfl ?_
    obtain ⟨a1, ha1, h⟩ := bnd h
    refine gx_getN dX11_turnsBy_4 ha1 fl_X11_23 rfl ?_
    refine gx_iload_n 1 dX11_turnsBy_7 rfl rfl ?_
    obtain ⟨x2, hx2, h⟩ := bnd h
    refine gx_iald (kd := 113) dX11_turnsBy_8 hx2 rfl rfl ?_
    refine gx_icmp_ge 131 dX11_turnsBy_9 (by decide) (fun c2 => ?_) (fun c2 => ?_)
    · rw [if_pos c2] at h
      refine gx_iconst (v := (0 : Int32)) dX11_turnsBy_131 ic_0 ?_
      have h := Option.some.inj h
      subst h
      exact gx_iret dX11_turnsBy_132 rfl (Nat.le_of_ble_eq_true rfl) (Nat.le_of_ble_eq_true rfl) ⟨rfl, rfl⟩
    · rw [if_neg c2] at h
      refine gx_bipush (v := (48 : Int32)) dX11_turnsBy_12 ib_48 ?_
      refine gx_iload_n 1 dX11_turnsBy_14 rfl rfl ?_
      refine gx_imul dX11_turnsBy_15 ?_
      refine gx_iconst (v := (4 : Int32)) dX11_turnsBy_16 ic_4 ?_
      refine gx_iload_n 2 dX11_turnsBy_17 rfl rfl ?_
      refine gx_imul dX11_turnsBy_18 ?_
      refine gx_iadd dX11_turnsBy_19 ?_
      refine gx_istore (lv' := [(4, .int (((48 : Int32) * l1) + ((4 : Int32) * l3))), (0, .ref (Γ.B + pp l0)), (1, .int l1), (3, .int l3)]) dX11_turnsBy_20 (Nat.le_of_ble_eq_true rfl) rfl ?_
      refine gx_aload_n 1 dX11_turnsBy_22 rfl rfl ?_
      obtain ⟨a4, ha4, h⟩ := bnd h
      refine gx_getN dX11_turnsBy_23 ha4 fl_X11_20 rfl ?_
      refine gx_iload 0 dX11_turnsBy_26 rfl ?_
      refine gx_iconst (v := (2 : Int32)) dX11_turnsBy_28 ic_2 ?_
      refine gx_iadd dX11_turnsBy_29 ?_
      obtain ⟨x5, hx5, h⟩ := bnd h
      refine gx_iald (kd := 113) dX11_turnsBy_30 hx5 rfl rfl ?_
      refine gx_if_lt 65 dX11_turnsBy_31 (by decide) (fun c5 => ?_) (fun c5 => ?_)
      · rw [if_pos c5] at h
        exact gx_sub [1, 2, 0] rfl (s_X11_turnsBy_65  h)
      · rw [if_neg c5] at h
        refine gx_aload_n 1 dX11_turnsBy_34 rfl rfl ?_
        refine gx_iload_n 2 dX11_turnsBy_35 rfl rfl ?_
        refine gx_aload_n 1 dX11_turnsBy_36 rfl rfl ?_
        obtain ⟨a7, ha7, h⟩ := bnd h
        refine gx_getN dX11_turnsBy_37 ha7 fl_X11_20 rfl ?_
        refine gx_iload 0 dX11_turnsBy_40 rfl ?_
        refine gx_iconst (v := (2 : Int32)) dX11_turnsBy_42 ic_2 ?_
        refine gx_iadd dX11_turnsBy_43 ?_
        obtain ⟨x8, hx8, h⟩ := bnd h
        refine gx_iald (kd := 113) dX11_turnsBy_44 hx8 rfl rfl ?_
        refine gx_aload_n 1 dX11_turnsBy_45 rfl rfl ?_
        obtain ⟨a9, ha9, h⟩ := bnd h
        refine gx_getN dX11_turnsBy_46 ha9 fl_X11_20 rfl ?_
        refine gx_iload 0 dX11_turnsBy_49 rfl ?_
        refine gx_iconst (v := (3 : Int32)) dX11_turnsBy_51 ic_3 ?_
        refine gx_iadd dX11_turnsBy_52 ?_
        obtain ⟨x10, hx10, h⟩ := bnd h
        refine gx_iald (kd := 113) dX11_turnsBy_53 hx10 rfl rfl ?_
        obtain ⟨_, hobq11, h⟩ := bnd h
        obtain ⟨q11, hq11, h⟩ := bnd h
        refine gx_cVJ (As := [.int l1, .int x8, .int x10]) (st := []) (o := l0) dX11_turnsBy_54 (c_X11_reckons hq11) mov_X11_reckons tw_1359 hobq11 rfl ⟨Nat.le_of_ble_eq_true rfl, Nat.le_of_ble_eq_true rfl⟩ (Nat.le_of_ble_eq_true rfl) ?_
        refine gx_lconst (v := (0 : Int64)) dX11_turnsBy_57 (by decide) ?_
        refine gx_lcmp dX11_turnsBy_58 ?_
        refine gx_if_ne 65 dX11_turnsBy_59 (by decide) (fun c11 => ?_) (fun c11 => ?_)
        · rw [if_neg c11] at h
          exact gx_sub [1, 2, 0] rfl (s_X11_turnsBy_65  h)
        · rw [if_pos c11] at h
          refine gx_goto 125 dX11_turnsBy_62 (by decide) ?_
          refine gx_iinc (v := (l3 + (1 : Int32))) (lv' := [(3, .int (l3 + (1 : Int32))), (4, .int (((48 : Int32) * l1) + ((4 : Int32) * l3))), (0, .ref (Γ.B + pp l0)), (1, .int l1)]) 3 dX11_turnsBy_125 rfl (by rw [ic_1]) (Nat.le_of_ble_eq_true rfl) rfl ?_
          refine gx_goto 2 dX11_turnsBy_128 (by decide) ?_
          exact gx_sub [2, 3, 0] rfl (ih _ _ _ _ _ h)
set_option maxRecDepth 4000 in
theorem s_X11_turnsBy_0 {Γ : Cn} {τ : Mm} {N : Nat} {l0 : Nat} {l1 : Int32} {l2 : Int32} {σ : Mm} {o : Int32 × Mm} (h : f_X11_turnsBy N l0 l1 l2 σ = some o) : Gx Γ M_X11_turnsBy 100 τ (PI o) 0 0 0 [(0, .ref (Γ.B + pp l0)), (1, .int l1), (2, .int l2)] [] σ := by
  unfold f_X11_turnsBy at h
  refine gx_iconst (v := (0 : Int32)) dX11_turnsBy_0 ic_0 ?_
  refine gx_istore_n (lv' := [(3, .int (0 : Int32)), (0, .ref (Γ.B + pp l0)), (1, .int l1), (2, .int l2)]) dX11_turnsBy_1 rfl (Nat.le_of_ble_eq_true rfl) rfl ?_
  exact gx_sub [1, 2, 0] rfl (s_X11_turnsBy_2  N _ _ _ _ _ h)
theorem c_X11_turnsBy {Γ : Cn} {τ : Mm} {N : Nat} {l0 : Nat} {l1 : Int32} {l2 : Int32} {σ : Mm} {o : Int32 × Mm} (h : f_X11_turnsBy N l0 l1 l2 σ = some o) : Ct Γ M_X11_turnsBy yX11_turnsBy 100 τ [.ref (Γ.B + pp l0), .int l1, .int l2] σ (PI o) := ct_of (by decide) rfl (fun _ => by first | rfl | contradiction) (Nat.le_of_ble_eq_true rfl) (s_X11_turnsBy_0  h)
abbrev M_X11_goesTo : Ms := (cX11_goesTo, RX11, 11, (some .int), false, 0, 0, 3)
def f_X11_goesTo_155 (N : Nat) (r_6 : Nat → Int32 → Int32 → Int32 → Int32 → Int32 → Int32 → Int32 → Int32 → Mm → Option (Int32 × Mm)) (l0 : Nat) (l1 : Int32) (l2 : Int32) (l4 : Int32) (l5 : Int32) (l6 : Int32) (l7 : Int32) (l9 : Int32) (t0 : Int32) (σ : Mm) : Option (Int32 × Mm) :=
  r_6 l0 l1 l2 l4 l5 l6 l7 t0 (l9 + (1 : Int32)) σ
def f_X11_goesTo_6 (N : Nat) : Nat → Nat → Int32 → Int32 → Int32 → Int32 → Int32 → Int32 → Int32 → Int32 → Mm → Option (Int32 × Mm)
  | 0, _, _, _, _, _, _, _, _, _, _ => none
  | n + 1, l0, l1, l2, l4, l5, l6, l7, l8, l9, σ =>
      if l5 ≤ l9 then (
        some (l8, σ)) else (
        (gN 11 23 σ l0).bind fun a2 =>
        (sJ 114 σ a2 (0 : Int32) (Int32.toInt64 l2)).bind fun s3 =>
        (gN 11 23 s3 l0).bind fun a4 =>
        (sJ 114 s3 a4 (1 : Int32) (Int32.toInt64 l6)).bind fun s5 =>
        (gN 11 23 s5 l0).bind fun a6 =>
        (ob 11 s5 l0).bind fun _ =>
        (f_X11_cockOf N l0 l2 (3 : Int32) s5).bind fun q7 =>
        (sJ 114 q7.2 a6 (2 : Int32) (Int32.toInt64 q7.1)).bind fun s8 =>
        (gN 11 23 s8 l0).bind fun a9 =>
        (ob 11 s8 l0).bind fun _ =>
        (f_X11_cockOf N l0 l2 (4 : Int32) s8).bind fun q10 =>
        (sJ 114 q10.2 a9 (3 : Int32) (Int32.toInt64 q10.1)).bind fun s11 =>
        (gN 11 23 s11 l0).bind fun a12 =>
        (sJ 114 s11 a12 (4 : Int32) (Int32.toInt64 l8)).bind fun s13 =>
        (gN 11 23 s13 l0).bind fun a14 =>
        (f_X11_off N l8 l4 s13).bind fun q15 =>
        (sJ 114 q15.2 a14 (5 : Int32) (Int32.toInt64 q15.1)).bind fun s16 =>
        (gN 11 23 s16 l0).bind fun a17 =>
        (sJ 114 s16 a17 (6 : Int32) (Int32.toInt64 l4)).bind fun s18 =>
        (gN 11 23 s18 l0).bind fun a19 =>
        (ob 11 s18 l0).bind fun _ =>
        (f_X11_leeOf N l0 l2 l4 l7 s18).bind fun q20 =>
        (sJ 114 q20.2 a19 (7 : Int32) (Int32.toInt64 q20.1)).bind fun s21 =>
        (gN 11 23 s21 l0).bind fun a22 =>
        (sJ 114 s21 a22 (8 : Int32) (Int32.toInt64 l9)).bind fun s23 =>
        (ob 11 s23 l0).bind fun _ =>
        (f_X11_turnsBy N l0 l1 l2 s23).bind fun q24 =>
        if ((l4 - l8) &&& (7 : Int32)) ≤ (4 : Int32) then (
          f_X11_goesTo_155 N (f_X11_goesTo_6 N n) l0 l1 l2 l4 l5 l6 l7 l9 ((l8 + q24.1) &&& (7 : Int32)) q24.2) else (
          f_X11_goesTo_155 N (f_X11_goesTo_6 N n) l0 l1 l2 l4 l5 l6 l7 l9 ((l8 - q24.1) &&& (7 : Int32)) q24.2))
def f_X11_goesTo (N : Nat) (l0 : Nat) (l1 : Int32) (l2 : Int32) (l3 : Int32) (l4 : Int32) (l5 : Int32) (l6 : Int32) (l7 : Int32) (σ : Mm) : Option (Int32 × Mm) :=
  f_X11_goesTo_6 N N l0 l1 l2 l4 l5 l6 l7 l3 (0 : Int32) σ
theorem mov_X11_goesTo : MOV yX11_goesTo M_X11_goesTo 7 11 100 := ⟨⟨tw_107, tw_1351, ⟨by decide, by decide⟩, by decide +kernel⟩, tw_1350, tw_71, by decide, ⟨_, rfl, rfl⟩, rfl⟩
set_option maxRecDepth 4000 in
theorem s_X11_goesTo_155 {Γ : Cn} {τ : Mm} {N : Nat} {r_6 : Nat → Int32 → Int32 → Int32 → Int32 → Int32 → Int32 → Int32 → Int32 → Mm → Option (Int32 × Mm)} (hr_6 : ∀ (l0 : Nat) (l1 : Int32) (l2 : Int32) (l4 : Int32) (l5 : Int32) (l6 : Int32) (l7 : Int32) (l8 : Int32) (l9 : Int32) (σ : Mm) (o : Int32 × Mm), r_6 l0 l1 l2 l4 l5 l6 l7 l8 l9 σ = some o → Gx Γ M_X11_goesTo 100 τ (PI o) 0 0 6 [(0, .ref (Γ.B + pp l0)), (1, .int l1), (2, .int l2), (4, .int l4), (5, .int l5), (6, .int l6), (7, .int l7), (8, .int l8), (9, .int l9)] [] σ) {l0 : Nat} {l1 : Int32} {l2 : Int32} {l4 : Int32} {l5 : Int32} {l6 : Int32} {l7 : Int32} {l9 : Int32} {t0 : Int32} {σ : Mm} {o : Int32 × Mm} (h : f_X11_goesTo_155 N r_6 l0 l1 l2 l4 l5 l6 l7 l9 t0 σ = some o) : Gx Γ M_X11_goesTo 100 τ (PI o) 0 0 155 [(0, .ref (Γ.B + pp l0)), (1, .int l1), (2, .int l2), (4, .int l4), (5, .int l5), (6, .int l6), (7, .int l7), (9, .int l9)] [.int t0] σ := by
  unfold f_X11_goesTo_155 at h
  refine gx_istore (lv' := [(8, .int t0), (0, .ref (Γ.B + pp l0)), (1, .int l1), (2, .int l2), (4, .int l4), (5, .int l5), (6, .int l6), (7, .int l7), (9, .int l9)]) dX11_goesTo_155 (Nat.le_of_ble_eq_true rfl) rfl ?_
  refine gx_iinc (v := (l9 + (1 : Int32))) (lv' := [(9, .int (l9 + (1 : Int32))), (8, .int t0), (0, .ref (Γ.B + pp l0)), (1, .int l1), (2, .int l2), (4, .int l4), (5, .int l5), (6, .int l6), (7, .int l7)]) 8 dX11_goesTo_157 rfl (by rw [ic_1]) (Nat.le_of_ble_eq_true rfl) rfl ?_
  refine gx_goto 6 dX11_goesTo_160 (by decide) ?_
  exact gx_sub [2, 3, 4, 5, 6, 7, 8, 1, 0] rfl (hr_6 _ _ _ _ _ _ _ _ _ _ _ h)
set_option maxRecDepth 4000 in
theorem s_X11_goesTo_6 {Γ : Cn} {τ : Mm} {N : Nat} : ∀ (n : Nat) (l0 : Nat) (l1 : Int32) (l2 : Int32) (l4 : Int32) (l5 : Int32) (l6 : Int32) (l7 : Int32) (l8 : Int32) (l9 : Int32) (σ : Mm) (o : Int32 × Mm), f_X11_goesTo_6 N n l0 l1 l2 l4 l5 l6 l7 l8 l9 σ = some o → Gx Γ M_X11_goesTo 100 τ (PI o) 0 0 6 [(0, .ref (Γ.B + pp l0)), (1, .int l1), (2, .int l2), (4, .int l4), (5, .int l5), (6, .int l6), (7, .int l7), (8, .int l8), (9, .int l9)] [] σ := by
  intro n
  induction n with
  | zero =>
    intro l0 l1 l2 l4 l5 l6 l7 l8 l9 σ o h
    exact absurd h (by rw [f_X11_goesTo_6]; exact fun q => nomatch q)
  | succ n ih =>
    intro l0 l1 l2 l4 l5 l6 l7 l8 l9 σ o h
    rw [f_X11_goesTo_6] at h
    refine gx_iload 8 dX11_goesTo_6 rfl ?_
    refine gx_iload 4 dX11_goesTo_8 rfl ?_
    refine gx_icmp_ge 163 dX11_goesTo_10 (by decide) (fun c0 => ?_) (fun c0 => ?_)
    · rw [if_pos c0] at h
      refine gx_iload 7 dX11_goesTo_163 rfl ?_
      have h := Option.some.inj h
      subst h
      exact gx_iret dX11_goesTo_165 rfl (Nat.le_of_ble_eq_true rfl) (Nat.le_of_ble_eq_true rfl) ⟨rfl, rfl⟩
    · rw [if_neg c0] at h
      refine gx_aload_n 0 dX11_goesTo_13 rfl rfl ?_
      obtain ⟨a2, ha2, h⟩ := bnd h
      refine gx_getN dX11_goesTo_14 ha2 fl_X11_42 rfl ?_
      refine gx_iconst (v := (0 : Int32)) dX11_goesTo_17 ic_0 ?_
      refine gx_iload_n 2 dX11_goesTo_18 rfl rfl ?_
      refine gx_i2l dX11_goesTo_19 ?_
      obtain ⟨s3, hs3, h⟩ := bnd h
      refine gx_last (kd := 114) dX11_goesTo_20 hs3 rfl rfl ?_
      refine gx_aload_n 0 dX11_goesTo_21 rfl rfl ?_
      obtain ⟨a4, ha4, h⟩ := bnd h
      refine gx_getN dX11_goesTo_22 ha4 fl_X11_42 rfl ?_
      refine gx_iconst (v := (1 : Int32)) dX11_goesTo_25 ic_1 ?_
      refine gx_iload 5 dX11_goesTo_26 rfl ?_
      refine gx_i2l dX11_goesTo_28 ?_
      obtain ⟨s5, hs5, h⟩ := bnd h
      refine gx_last (kd := 114) dX11_goesTo_29 hs5 rfl rfl ?_
      refine gx_aload_n 0 dX11_goesTo_30 rfl rfl ?_
      obtain ⟨a6, ha6, h⟩ := bnd h
      refine gx_getN dX11_goesTo_31 ha6 fl_X11_42 rfl ?_
      refine gx_iconst (v := (2 : Int32)) dX11_goesTo_34 ic_2 ?_
      refine gx_aload_n 0 dX11_goesTo_35 rfl rfl ?_
      refine gx_iload_n 2 dX11_goesTo_36 rfl rfl ?_
      refine gx_iconst (v := (3 : Int32)) dX11_goesTo_37 ic_3 ?_
      obtain ⟨_, hobq7, h⟩ := bnd h
      obtain ⟨q7, hq7, h⟩ := bnd h
      refine gx_cVI (As := [.int l2, .int (3 : Int32)]) (st := [.int (2 : Int32), .ref (Γ.B + pp a6)]) (o := l0) dX11_goesTo_38 (c_X11_cockOf hq7) mov_X11_cockOf tw_1296 hobq7 rfl ⟨Nat.le_of_ble_eq_true rfl, Nat.le_of_ble_eq_true rfl⟩ (Nat.le_of_ble_eq_true rfl) ?_
      refine gx_i2l dX11_goesTo_41 ?_
      obtain ⟨s8, hs8, h⟩ := bnd h
      refine gx_last (kd := 114) dX11_goesTo_42 hs8 rfl rfl ?_
      refine gx_aload_n 0 dX11_goesTo_43 rfl rfl ?_
      obtain ⟨a9, ha9, h⟩ := bnd h
      refine gx_getN dX11_goesTo_44 ha9 fl_X11_42 rfl ?_
      refine gx_iconst (v := (3 : Int32)) dX11_goesTo_47 ic_3 ?_
      refine gx_aload_n 0 dX11_goesTo_48 rfl rfl ?_
      refine gx_iload_n 2 dX11_goesTo_49 rfl rfl ?_
      refine gx_iconst (v := (4 : Int32)) dX11_goesTo_50 ic_4 ?_
      obtain ⟨_, hobq10, h⟩ := bnd h
      obtain ⟨q10, hq10, h⟩ := bnd h
      refine gx_cVI (As := [.int l2, .int (4 : Int32)]) (st := [.int (3 : Int32), .ref (Γ.B + pp a9)]) (o := l0) dX11_goesTo_51 (c_X11_cockOf hq10) mov_X11_cockOf tw_1296 hobq10 rfl ⟨Nat.le_of_ble_eq_true rfl, Nat.le_of_ble_eq_true rfl⟩ (Nat.le_of_ble_eq_true rfl) ?_
      refine gx_i2l dX11_goesTo_54 ?_
      obtain ⟨s11, hs11, h⟩ := bnd h
      refine gx_last (kd := 114) dX11_goesTo_55 hs11 rfl rfl ?_
      refine gx_aload_n 0 dX11_goesTo_56 rfl rfl ?_
      obtain ⟨a12, ha12, h⟩ := bnd h
      refine gx_getN dX11_goesTo_57 ha12 fl_X11_42 rfl ?_
      refine gx_iconst (v := (4 : Int32)) dX11_goesTo_60 ic_4 ?_
      refine gx_iload 7 dX11_goesTo_61 rfl ?_
      refine gx_i2l dX11_goesTo_63 ?_
      obtain ⟨s13, hs13, h⟩ := bnd h
      refine gx_last (kd := 114) dX11_goesTo_64 hs13 rfl rfl ?_
      refine gx_aload_n 0 dX11_goesTo_65 rfl rfl ?_
      obtain ⟨a14, ha14, h⟩ := bnd h
      refine gx_getN dX11_goesTo_66 ha14 fl_X11_42 rfl ?_
      refine gx_iconst (v := (5 : Int32)) dX11_goesTo_69 ic_5 ?_
      refine gx_iload 7 dX11_goesTo_70 rfl ?_
      refine gx_iload 3 dX11_goesTo_72 rfl ?_
      obtain ⟨q15, hq15, h⟩ := bnd h
      refine gx_cSI (As := [.int l8, .int l4]) (st := [.int (5 : Int32), .ref (Γ.B + pp a14)]) dX11_goesTo_74 (c_X11_off hq15) mos_X11_off tw_1352 rfl ⟨Nat.le_of_ble_eq_true rfl, Nat.le_of_ble_eq_true rfl⟩ (Nat.le_of_ble_eq_true rfl) ?_
      refine gx_i2l dX11_goesTo_77 ?_
      obtain ⟨s16, hs16, h⟩ := bnd h
      refine gx_last (kd := 114) dX11_goesTo_78 hs16 rfl rfl ?_
      refine gx_aload_n 0 dX11_goesTo_79 rfl rfl ?_
      obtain ⟨a17, ha17, h⟩ := bnd h
      refine gx_getN dX11_goesTo_80 ha17 fl_X11_42 rfl ?_
      refine gx_bipush (v := (6 : Int32)) dX11_goesTo_83 ib_6 ?_
      refine gx_iload 3 dX11_goesTo_85 rfl ?_
      refine gx_i2l dX11_goesTo_87 ?_
      obtain ⟨s18, hs18, h⟩ := bnd h
      refine gx_last (kd := 114) dX11_goesTo_88 hs18 rfl rfl ?_
      refine gx_aload_n 0 dX11_goesTo_89 rfl rfl ?_
      obtain ⟨a19, ha19, h⟩ := bnd h
      refine gx_getN dX11_goesTo_90 ha19 fl_X11_42 rfl ?_
      refine gx_bipush (v := (7 : Int32)) dX11_goesTo_93 ib_7 ?_
      refine gx_aload_n 0 dX11_goesTo_95 rfl rfl ?_
      refine gx_iload_n 2 dX11_goesTo_96 rfl rfl ?_
      refine gx_iload 3 dX11_goesTo_97 rfl ?_
      refine gx_iload 6 dX11_goesTo_99 rfl ?_
      obtain ⟨_, hobq20, h⟩ := bnd h
      obtain ⟨q20, hq20, h⟩ := bnd h
      refine gx_cVI (As := [.int l2, .int l4, .int l7]) (st := [.int (7 : Int32), .ref (Γ.B + pp a19)]) (o := l0) dX11_goesTo_101 (c_X11_leeOf hq20) mov_X11_leeOf tw_1325 hobq20 rfl ⟨Nat.le_of_ble_eq_true rfl, Nat.le_of_ble_eq_true rfl⟩ (Nat.le_of_ble_eq_true rfl) ?_
      refine gx_i2l dX11_goesTo_104 ?_
      obtain ⟨s21, hs21, h⟩ := bnd h
      refine gx_last (kd := 114) dX11_goesTo_105 hs21 rfl rfl ?_
      refine gx_aload_n 0 dX11_goesTo_106 rfl rfl ?_
      obtain ⟨a22, ha22, h⟩ := bnd h
      refine gx_getN dX11_goesTo_107 ha22 fl_X11_42 rfl ?_
      refine gx_bipush (v := (8 : Int32)) dX11_goesTo_110 ib_8 ?_
      refine gx_iload 8 dX11_goesTo_112 rfl ?_
      refine gx_i2l dX11_goesTo_114 ?_
      obtain ⟨s23, hs23, h⟩ := bnd h
      refine gx_last (kd := 114) dX11_goesTo_115 hs23 rfl rfl ?_
      refine gx_aload_n 0 dX11_goesTo_116 rfl rfl ?_
      refine gx_iload_n 1 dX11_goesTo_117 rfl rfl ?_
      refine gx_iload_n 2 dX11_goesTo_118 rfl rfl ?_
      obtain ⟨_, hobq24, h⟩ := bnd h
      obtain ⟨q24, hq24, h⟩ := bnd h
      refine gx_cVI (As := [.int l1, .int l2]) (st := []) (o := l0) dX11_goesTo_119 (c_X11_turnsBy hq24) mov_X11_turnsBy tw_1355 hobq24 rfl ⟨Nat.le_of_ble_eq_true rfl, Nat.le_of_ble_eq_true rfl⟩ (Nat.le_of_ble_eq_true rfl) ?_
      refine gx_istore (lv' := [(10, .int q24.1), (0, .ref (Γ.B + pp l0)), (1, .int l1), (2, .int l2), (4, .int l4), (5, .int l5), (6, .int l6), (7, .int l7), (8, .int l8), (9, .int l9)]) dX11_goesTo_122 (Nat.le_of_ble_eq_true rfl) rfl ?_
      refine gx_iload 4 dX11_goesTo_124 rfl ?_
      refine gx_iload 8 dX11_goesTo_126 rfl ?_
      refine gx_isub dX11_goesTo_128 ?_
      refine gx_bipush (v := (7 : Int32)) dX11_goesTo_129 ib_7 ?_
      refine gx_iand dX11_goesTo_131 ?_
      refine gx_iconst (v := (4 : Int32)) dX11_goesTo_132 ic_4 ?_
      refine gx_icmp_le 147 dX11_goesTo_133 (by decide) (fun c24 => ?_) (fun c24 => ?_)
      · rw [if_pos c24] at h
        refine gx_iload 8 dX11_goesTo_147 rfl ?_
        refine gx_iload 0 dX11_goesTo_149 rfl ?_
        refine gx_iadd dX11_goesTo_151 ?_
        refine gx_bipush (v := (7 : Int32)) dX11_goesTo_152 ib_7 ?_
        refine gx_iand dX11_goesTo_154 ?_
        exact gx_sub [1, 2, 3, 4, 5, 6, 7, 9] rfl (s_X11_goesTo_155 ih h)
      · rw [if_neg c24] at h
        refine gx_iload 8 dX11_goesTo_136 rfl ?_
        refine gx_iload 0 dX11_goesTo_138 rfl ?_
        refine gx_isub dX11_goesTo_140 ?_
        refine gx_bipush (v := (7 : Int32)) dX11_goesTo_141 ib_7 ?_
        refine gx_iand dX11_goesTo_143 ?_
        refine gx_goto 155 dX11_goesTo_144 (by decide) ?_
        exact gx_sub [1, 2, 3, 4, 5, 6, 7, 9] rfl (s_X11_goesTo_155 ih h)
set_option maxRecDepth 4000 in
theorem s_X11_goesTo_0 {Γ : Cn} {τ : Mm} {N : Nat} {l0 : Nat} {l1 : Int32} {l2 : Int32} {l3 : Int32} {l4 : Int32} {l5 : Int32} {l6 : Int32} {l7 : Int32} {σ : Mm} {o : Int32 × Mm} (h : f_X11_goesTo N l0 l1 l2 l3 l4 l5 l6 l7 σ = some o) : Gx Γ M_X11_goesTo 100 τ (PI o) 0 0 0 [(0, .ref (Γ.B + pp l0)), (1, .int l1), (2, .int l2), (3, .int l3), (4, .int l4), (5, .int l5), (6, .int l6), (7, .int l7)] [] σ := by
  unfold f_X11_goesTo at h
  refine gx_iload_n 3 dX11_goesTo_0 rfl rfl ?_
  refine gx_istore (lv' := [(8, .int l3), (0, .ref (Γ.B + pp l0)), (1, .int l1), (2, .int l2), (3, .int l3), (4, .int l4), (5, .int l5), (6, .int l6), (7, .int l7)]) dX11_goesTo_1 (Nat.le_of_ble_eq_true rfl) rfl ?_
  refine gx_iconst (v := (0 : Int32)) dX11_goesTo_3 ic_0 ?_
  refine gx_istore (lv' := [(9, .int (0 : Int32)), (8, .int l3), (0, .ref (Γ.B + pp l0)), (1, .int l1), (2, .int l2), (3, .int l3), (4, .int l4), (5, .int l5), (6, .int l6), (7, .int l7)]) dX11_goesTo_4 (Nat.le_of_ble_eq_true rfl) rfl ?_
  exact gx_sub [2, 3, 4, 6, 7, 8, 9, 1, 0] rfl (s_X11_goesTo_6  N _ _ _ _ _ _ _ _ _ _ _ h)
theorem c_X11_goesTo {Γ : Cn} {τ : Mm} {N : Nat} {l0 : Nat} {l1 : Int32} {l2 : Int32} {l3 : Int32} {l4 : Int32} {l5 : Int32} {l6 : Int32} {l7 : Int32} {σ : Mm} {o : Int32 × Mm} (h : f_X11_goesTo N l0 l1 l2 l3 l4 l5 l6 l7 σ = some o) : Ct Γ M_X11_goesTo yX11_goesTo 100 τ [.ref (Γ.B + pp l0), .int l1, .int l2, .int l3, .int l4, .int l5, .int l6, .int l7] σ (PI o) := ct_of (by decide) rfl (fun _ => by first | rfl | contradiction) (Nat.le_of_ble_eq_true rfl) (s_X11_goesTo_0  h)
abbrev M_X11_canBlow : Ms := (cX11_canBlow, RX11, 4, (some .boolean), false, 0, 0, 1)
def f_X11_canBlow_41 (N : Nat) (t0 : Int32) (σ : Mm) : Option (Int32 × Mm) :=
  if t0 = 0 ∨ t0 = 1 then some (t0, σ) else none
def f_X11_canBlow_40 (N : Nat) (σ : Mm) : Option (Int32 × Mm) :=
  f_X11_canBlow_41 N (0 : Int32) σ
def f_X11_canBlow (N : Nat) (l0 : Nat) (l1 : Int32) (l2 : Int32) (l3 : Int32) (σ : Mm) : Option (Int32 × Mm) :=
  (gN 11 24 σ l0).bind fun a1 =>
  (aI 113 σ a1 (0 : Int32)).bind fun x2 =>
  if x2 ≤ 0 then (
    f_X11_canBlow_40 N σ) else (
    (ob 11 σ l0).bind fun _ =>
    (f_X11_isLaw N l0 l1 σ).bind fun q4 =>
    if q4.1 = 0 then (
      f_X11_canBlow_40 N q4.2) else (
      (f_X11_isPoint N l2 q4.2).bind fun q6 =>
      if q6.1 = 0 then (
        f_X11_canBlow_40 N q6.2) else (
        (f_X11_in N (Int32.toInt64 l3) (0 : Int64) (24 : Int64) q6.2).bind fun q8 =>
        if q8.1 = 0 then (
          f_X11_canBlow_40 N q8.2) else (
          f_X11_canBlow_41 N (1 : Int32) q8.2))))
theorem mov_X11_canBlow : MOV yX11_canBlow M_X11_canBlow 3 11 100 := ⟨⟨tw_107, tw_1342, ⟨by decide, by decide⟩, by decide +kernel⟩, tw_1341, tw_69, by decide, ⟨_, rfl, rfl⟩, rfl⟩
set_option maxRecDepth 4000 in
theorem s_X11_canBlow_41 {Γ : Cn} {τ : Mm} {N : Nat} {t0 : Int32} {σ : Mm} {o : Int32 × Mm} (h : f_X11_canBlow_41 N t0 σ = some o) : Gx Γ M_X11_canBlow 100 τ (PI o) 0 0 41 [] [.int t0] σ := by
  unfold f_X11_canBlow_41 at h
  obtain ⟨hz, h⟩ := of_if h
  have h := Option.some.inj h
  subst h
  exact gx_zret dX11_canBlow_41 rfl (nar_z hz) (Nat.le_of_ble_eq_true rfl) (Nat.le_of_ble_eq_true rfl) ⟨rfl, rfl⟩
set_option maxRecDepth 4000 in
theorem s_X11_canBlow_40 {Γ : Cn} {τ : Mm} {N : Nat} {σ : Mm} {o : Int32 × Mm} (h : f_X11_canBlow_40 N σ = some o) : Gx Γ M_X11_canBlow 100 τ (PI o) 0 0 40 [] [] σ := by
  unfold f_X11_canBlow_40 at h
  refine gx_iconst (v := (0 : Int32)) dX11_canBlow_40 ic_0 ?_
  exact s_X11_canBlow_41  h
set_option maxRecDepth 4000 in
theorem s_X11_canBlow_0 {Γ : Cn} {τ : Mm} {N : Nat} {l0 : Nat} {l1 : Int32} {l2 : Int32} {l3 : Int32} {σ : Mm} {o : Int32 × Mm} (h : f_X11_canBlow N l0 l1 l2 l3 σ = some o) : Gx Γ M_X11_canBlow 100 τ (PI o) 0 0 0 [(0, .ref (Γ.B + pp l0)), (1, .int l1), (2, .int l2), (3, .int l3)] [] σ := by
  unfold f_X11_canBlow at h
  refine gx_aload_n 0 dX11_canBlow_0 rfl rfl ?_
  obtain ⟨a1, ha1, h⟩ := bnd h
  refine gx_getN dX11_canBlow_1 ha1 fl_X11_45 rfl ?_
  refine gx_iconst (v := (0 : Int32)) dX11_canBlow_4 ic_0 ?_
  obtain ⟨x2, hx2, h⟩ := bnd h
  refine gx_iald (kd := 113) dX11_canBlow_5 hx2 rfl rfl ?_
  refine gx_if_le 40 dX11_canBlow_6 (by decide) (fun c2 => ?_) (fun c2 => ?_)
  · rw [if_pos c2] at h
    exact gx_sub [] rfl (s_X11_canBlow_40  h)
  · rw [if_neg c2] at h
    refine gx_aload_n 0 dX11_canBlow_9 rfl rfl ?_
    refine gx_iload_n 1 dX11_canBlow_10 rfl rfl ?_
    obtain ⟨_, hobq4, h⟩ := bnd h
    obtain ⟨q4, hq4, h⟩ := bnd h
    refine gx_cVI (As := [.int l1]) (st := []) (o := l0) dX11_canBlow_11 (c_X11_isLaw hq4) mov_X11_isLaw tw_1343 hobq4 rfl ⟨Nat.le_of_ble_eq_true rfl, Nat.le_of_ble_eq_true rfl⟩ (Nat.le_of_ble_eq_true rfl) ?_
    refine gx_if_eq 40 dX11_canBlow_14 (by decide) (fun c4 => ?_) (fun c4 => ?_)
    · rw [if_pos c4] at h
      exact gx_sub [] rfl (s_X11_canBlow_40  h)
    · rw [if_neg c4] at h
      refine gx_iload_n 2 dX11_canBlow_17 rfl rfl ?_
      obtain ⟨q6, hq6, h⟩ := bnd h
      refine gx_cSI (As := [.int l2]) (st := []) dX11_canBlow_18 (c_X11_isPoint hq6) mos_X11_isPoint tw_1318 rfl ⟨Nat.le_of_ble_eq_true rfl, Nat.le_of_ble_eq_true rfl⟩ (Nat.le_of_ble_eq_true rfl) ?_
      refine gx_if_eq 40 dX11_canBlow_21 (by decide) (fun c6 => ?_) (fun c6 => ?_)
      · rw [if_pos c6] at h
        exact gx_sub [] rfl (s_X11_canBlow_40  h)
      · rw [if_neg c6] at h
        refine gx_iload_n 3 dX11_canBlow_24 rfl rfl ?_
        refine gx_i2l dX11_canBlow_25 ?_
        refine gx_lconst (v := (0 : Int64)) dX11_canBlow_26 (by decide) ?_
        refine gx_ldc2 (v := (24 : Int64)) dX11_canBlow_27 tw_1347 ?_
        obtain ⟨q8, hq8, h⟩ := bnd h
        refine gx_cSI (As := [.long (Int32.toInt64 l3), .long (0 : Int64), .long (24 : Int64)]) (st := []) dX11_canBlow_30 (c_X11_in hq8) mos_X11_in tw_1206 rfl ⟨Nat.le_of_ble_eq_true rfl, Nat.le_of_ble_eq_true rfl⟩ (Nat.le_of_ble_eq_true rfl) ?_
        refine gx_if_eq 40 dX11_canBlow_33 (by decide) (fun c8 => ?_) (fun c8 => ?_)
        · rw [if_pos c8] at h
          exact gx_sub [] rfl (s_X11_canBlow_40  h)
        · rw [if_neg c8] at h
          refine gx_iconst (v := (1 : Int32)) dX11_canBlow_36 ic_1 ?_
          refine gx_goto 41 dX11_canBlow_37 (by decide) ?_
          exact gx_sub [] rfl (s_X11_canBlow_41  h)
theorem c_X11_canBlow {Γ : Cn} {τ : Mm} {N : Nat} {l0 : Nat} {l1 : Int32} {l2 : Int32} {l3 : Int32} {σ : Mm} {o : Int32 × Mm} (h : f_X11_canBlow N l0 l1 l2 l3 σ = some o) : Ct Γ M_X11_canBlow yX11_canBlow 100 τ [.ref (Γ.B + pp l0), .int l1, .int l2, .int l3] σ (PI o) := ct_of (by decide) rfl (fun _ => by first | rfl | contradiction) (Nat.le_of_ble_eq_true rfl) (s_X11_canBlow_0  h)
abbrev M_X11_blow : Ms := (cX11_blow, RX11, 7, (some .int), false, 0, 0, 4)
def f_X11_blow_14 (N : Nat) (σ : Mm) : Option (Int32 × Mm) :=
  some ((-1 : Int32), σ)
def f_X11_blow_78 (N : Nat) (r_22 : Nat → Int32 → Int32 → Int32 → Int32 → Int32 → Mm → Option (Int32 × Mm)) (l0 : Nat) (l1 : Int32) (l2 : Int32) (l3 : Int32) (l5 : Int32) (l6 : Int32) (t0 : Int32) (t1 : Int32) (σ : Mm) : Option (Int32 × Mm) :=
  (gN 11 24 σ l0).bind fun a1 =>
  (sI 113 σ a1 (((4 : Int32) + ((7 : Int32) * l5)) + (5 : Int32)) l6).bind fun s2 =>
  r_22 l0 l1 l2 l3 (t0 + t1) (l5 + (1 : Int32)) s2
def f_X11_blow_22 (N : Nat) : Nat → Nat → Int32 → Int32 → Int32 → Int32 → Int32 → Mm → Option (Int32 × Mm)
  | 0, _, _, _, _, _, _, _ => none
  | n + 1, l0, l1, l2, l3, l4, l5, σ =>
      (gN 11 24 σ l0).bind fun a1 =>
      (aI 113 σ a1 (0 : Int32)).bind fun x2 =>
      if x2 ≤ l5 then (
        some (l4, σ)) else (
        (ob 11 σ l0).bind fun _ =>
        (f_X11_cockOf N l0 l5 (5 : Int32) σ).bind fun q4 =>
        (ob 11 q4.2 l0).bind fun _ =>
        (f_X11_cockOf N l0 l5 (2 : Int32) q4.2).bind fun q5 =>
        (ob 11 q5.2 l0).bind fun _ =>
        (f_X11_goesTo N l0 l1 l5 q4.1 l2 l3 q5.1 (-1 : Int32) q5.2).bind fun q6 =>
        (ob 11 q6.2 l0).bind fun _ =>
        (f_X11_cockOf N l0 l5 (5 : Int32) q6.2).bind fun q7 =>
        if q6.1 = q7.1 then (
          f_X11_blow_78 N (f_X11_blow_22 N n) l0 l1 l2 l3 l5 q6.1 l4 (0 : Int32) q7.2) else (
          f_X11_blow_78 N (f_X11_blow_22 N n) l0 l1 l2 l3 l5 q6.1 l4 (1 : Int32) q7.2))
def f_X11_blow (N : Nat) (l0 : Nat) (l1 : Int32) (l2 : Int32) (l3 : Int32) (σ : Mm) : Option (Int32 × Mm) :=
  (ob 11 σ l0).bind fun _ =>
  (f_X11_canBlow N l0 l1 l2 l3 σ).bind fun q1 =>
  if q1.1 = 0 then (
    f_X11_blow_14 N q1.2) else (
    if l3 = 0 then (
      f_X11_blow_14 N q1.2) else (
      f_X11_blow_22 N N l0 l1 l2 l3 (0 : Int32) (0 : Int32) q1.2))
theorem mov_X11_blow : MOV yX11_blow M_X11_blow 3 11 100 := ⟨⟨tw_107, tw_1338, ⟨by decide, by decide⟩, by decide +kernel⟩, tw_1336, tw_1337, by decide, ⟨_, rfl, rfl⟩, rfl⟩
set_option maxRecDepth 4000 in
theorem s_X11_blow_14 {Γ : Cn} {τ : Mm} {N : Nat} {σ : Mm} {o : Int32 × Mm} (h : f_X11_blow_14 N σ = some o) : Gx Γ M_X11_blow 100 τ (PI o) 0 0 14 [] [] σ := by
  unfold f_X11_blow_14 at h
  refine gx_iconst (v := (-1 : Int32)) dX11_blow_14 ic_m1 ?_
  have h := Option.some.inj h
  subst h
  exact gx_iret dX11_blow_15 rfl (Nat.le_of_ble_eq_true rfl) (Nat.le_of_ble_eq_true rfl) ⟨rfl, rfl⟩
set_option maxRecDepth 4000 in
theorem s_X11_blow_78 {Γ : Cn} {τ : Mm} {N : Nat} {r_22 : Nat → Int32 → Int32 → Int32 → Int32 → Int32 → Mm → Option (Int32 × Mm)} (hr_22 : ∀ (l0 : Nat) (l1 : Int32) (l2 : Int32) (l3 : Int32) (l4 : Int32) (l5 : Int32) (σ : Mm) (o : Int32 × Mm), r_22 l0 l1 l2 l3 l4 l5 σ = some o → Gx Γ M_X11_blow 100 τ (PI o) 0 0 22 [(0, .ref (Γ.B + pp l0)), (1, .int l1), (2, .int l2), (3, .int l3), (4, .int l4), (5, .int l5)] [] σ) {l0 : Nat} {l1 : Int32} {l2 : Int32} {l3 : Int32} {l5 : Int32} {l6 : Int32} {t0 : Int32} {t1 : Int32} {σ : Mm} {o : Int32 × Mm} (h : f_X11_blow_78 N r_22 l0 l1 l2 l3 l5 l6 t0 t1 σ = some o) : Gx Γ M_X11_blow 100 τ (PI o) 0 0 78 [(0, .ref (Γ.B + pp l0)), (1, .int l1), (2, .int l2), (3, .int l3), (5, .int l5), (6, .int l6)] [.int t1, .int t0] σ := by
  unfold f_X11_blow_78 at h
  refine gx_iadd dX11_blow_78 ?_
  refine gx_istore (lv' := [(4, .int (t0 + t1)), (0, .ref (Γ.B + pp l0)), (1, .int l1), (2, .int l2), (3, .int l3), (5, .int l5), (6, .int l6)]) dX11_blow_79 (Nat.le_of_ble_eq_true rfl) rfl ?_
  refine gx_aload_n 1 dX11_blow_81 rfl rfl ?_
  obtain ⟨a1, ha1, h⟩ := bnd h
  refine gx_getN dX11_blow_82 ha1 fl_X11_45 rfl ?_
  refine gx_iconst (v := (4 : Int32)) dX11_blow_85 ic_4 ?_
  refine gx_bipush (v := (7 : Int32)) dX11_blow_86 ib_7 ?_
  refine gx_iload 5 dX11_blow_88 rfl ?_
  refine gx_imul dX11_blow_90 ?_
  refine gx_iadd dX11_blow_91 ?_
  refine gx_iconst (v := (5 : Int32)) dX11_blow_92 ic_5 ?_
  refine gx_iadd dX11_blow_93 ?_
  refine gx_iload 6 dX11_blow_94 rfl ?_
  obtain ⟨s2, hs2, h⟩ := bnd h
  refine gx_iast (kd := 113) dX11_blow_96 hs2 rfl rfl ?_
  refine gx_iinc (v := (l5 + (1 : Int32))) (lv' := [(5, .int (l5 + (1 : Int32))), (4, .int (t0 + t1)), (0, .ref (Γ.B + pp l0)), (1, .int l1), (2, .int l2), (3, .int l3), (6, .int l6)]) 5 dX11_blow_97 rfl (by rw [ic_1]) (Nat.le_of_ble_eq_true rfl) rfl ?_
  refine gx_goto 22 dX11_blow_100 (by decide) ?_
  exact gx_sub [2, 3, 4, 5, 1, 0] rfl (hr_22 _ _ _ _ _ _ _ _ h)
set_option maxRecDepth 4000 in
theorem s_X11_blow_22 {Γ : Cn} {τ : Mm} {N : Nat} : ∀ (n : Nat) (l0 : Nat) (l1 : Int32) (l2 : Int32) (l3 : Int32) (l4 : Int32) (l5 : Int32) (σ : Mm) (o : Int32 × Mm), f_X11_blow_22 N n l0 l1 l2 l3 l4 l5 σ = some o → Gx Γ M_X11_blow 100 τ (PI o) 0 0 22 [(0, .ref (Γ.B + pp l0)), (1, .int l1), (2, .int l2), (3, .int l3), (4, .int l4), (5, .int l5)] [] σ := by
  intro n
  induction n with
  | zero =>
    intro l0 l1 l2 l3 l4 l5 σ o h
    exact absurd h (by rw [f_X11_blow_22]; exact fun q => nomatch q)
  | succ n ih =>
    intro l0 l1 l2 l3 l4 l5 σ o h
    rw [f_X11_blow_22] at h
    refine gx_iload 5 dX11_blow_22 rfl ?_
    refine gx_aload_n 0 dX11_blow_24 rfl rfl ?_
    obtain ⟨a1, ha1, h⟩ := bnd h
    refine gx_getN dX11_blow_25 ha1 fl_X11_45 rfl ?_
    refine gx_iconst (v := (0 : Int32)) dX11_blow_28 ic_0 ?_
    obtain ⟨x2, hx2, h⟩ := bnd h
    refine gx_iald (kd := 113) dX11_blow_29 hx2 rfl rfl ?_
    refine gx_icmp_ge 103 dX11_blow_30 (by decide) (fun c2 => ?_) (fun c2 => ?_)
    · rw [if_pos c2] at h
      refine gx_iload 4 dX11_blow_103 rfl ?_
      have h := Option.some.inj h
      subst h
      exact gx_iret dX11_blow_105 rfl (Nat.le_of_ble_eq_true rfl) (Nat.le_of_ble_eq_true rfl) ⟨rfl, rfl⟩
    · rw [if_neg c2] at h
      refine gx_aload_n 0 dX11_blow_33 rfl rfl ?_
      refine gx_iload_n 1 dX11_blow_34 rfl rfl ?_
      refine gx_iload 5 dX11_blow_35 rfl ?_
      refine gx_aload_n 0 dX11_blow_37 rfl rfl ?_
      refine gx_iload 5 dX11_blow_38 rfl ?_
      refine gx_iconst (v := (5 : Int32)) dX11_blow_40 ic_5 ?_
      obtain ⟨_, hobq4, h⟩ := bnd h
      obtain ⟨q4, hq4, h⟩ := bnd h
      refine gx_cVI (As := [.int l5, .int (5 : Int32)]) (st := [.int l5, .int l1, .ref (Γ.B + pp l0)]) (o := l0) dX11_blow_41 (c_X11_cockOf hq4) mov_X11_cockOf tw_1296 hobq4 rfl ⟨Nat.le_of_ble_eq_true rfl, Nat.le_of_ble_eq_true rfl⟩ (Nat.le_of_ble_eq_true rfl) ?_
      refine gx_iload_n 2 dX11_blow_44 rfl rfl ?_
      refine gx_iload_n 3 dX11_blow_45 rfl rfl ?_
      refine gx_aload_n 0 dX11_blow_46 rfl rfl ?_
      refine gx_iload 5 dX11_blow_47 rfl ?_
      refine gx_iconst (v := (2 : Int32)) dX11_blow_49 ic_2 ?_
      obtain ⟨_, hobq5, h⟩ := bnd h
      obtain ⟨q5, hq5, h⟩ := bnd h
      refine gx_cVI (As := [.int l5, .int (2 : Int32)]) (st := [.int l3, .int l2, .int q4.1, .int l5, .int l1, .ref (Γ.B + pp l0)]) (o := l0) dX11_blow_50 (c_X11_cockOf hq5) mov_X11_cockOf tw_1296 hobq5 rfl ⟨Nat.le_of_ble_eq_true rfl, Nat.le_of_ble_eq_true rfl⟩ (Nat.le_of_ble_eq_true rfl) ?_
      refine gx_iconst (v := (-1 : Int32)) dX11_blow_53 ic_m1 ?_
      obtain ⟨_, hobq6, h⟩ := bnd h
      obtain ⟨q6, hq6, h⟩ := bnd h
      refine gx_cVI (As := [.int l1, .int l5, .int q4.1, .int l2, .int l3, .int q5.1, .int (-1 : Int32)]) (st := []) (o := l0) dX11_blow_54 (c_X11_goesTo hq6) mov_X11_goesTo tw_1348 hobq6 rfl ⟨Nat.le_of_ble_eq_true rfl, Nat.le_of_ble_eq_true rfl⟩ (Nat.le_of_ble_eq_true rfl) ?_
      refine gx_istore (lv' := [(6, .int q6.1), (0, .ref (Γ.B + pp l0)), (1, .int l1), (2, .int l2), (3, .int l3), (4, .int l4), (5, .int l5)]) dX11_blow_57 (Nat.le_of_ble_eq_true rfl) rfl ?_
      refine gx_iload 5 dX11_blow_59 rfl ?_
      refine gx_iload 0 dX11_blow_61 rfl ?_
      refine gx_aload_n 1 dX11_blow_63 rfl rfl ?_
      refine gx_iload 6 dX11_blow_64 rfl ?_
      refine gx_iconst (v := (5 : Int32)) dX11_blow_66 ic_5 ?_
      obtain ⟨_, hobq7, h⟩ := bnd h
      obtain ⟨q7, hq7, h⟩ := bnd h
      refine gx_cVI (As := [.int l5, .int (5 : Int32)]) (st := [.int q6.1, .int l4]) (o := l0) dX11_blow_67 (c_X11_cockOf hq7) mov_X11_cockOf tw_1296 hobq7 rfl ⟨Nat.le_of_ble_eq_true rfl, Nat.le_of_ble_eq_true rfl⟩ (Nat.le_of_ble_eq_true rfl) ?_
      refine gx_icmp_ne 77 dX11_blow_70 (by decide) (fun c7 => ?_) (fun c7 => ?_)
      · rw [if_neg c7] at h
        refine gx_iconst (v := (1 : Int32)) dX11_blow_77 ic_1 ?_
        exact gx_sub [1, 2, 3, 4, 6, 0] rfl (s_X11_blow_78 ih h)
      · rw [if_pos c7] at h
        refine gx_iconst (v := (0 : Int32)) dX11_blow_73 ic_0 ?_
        refine gx_goto 78 dX11_blow_74 (by decide) ?_
        exact gx_sub [1, 2, 3, 4, 6, 0] rfl (s_X11_blow_78 ih h)
set_option maxRecDepth 4000 in
theorem s_X11_blow_0 {Γ : Cn} {τ : Mm} {N : Nat} {l0 : Nat} {l1 : Int32} {l2 : Int32} {l3 : Int32} {σ : Mm} {o : Int32 × Mm} (h : f_X11_blow N l0 l1 l2 l3 σ = some o) : Gx Γ M_X11_blow 100 τ (PI o) 0 0 0 [(0, .ref (Γ.B + pp l0)), (1, .int l1), (2, .int l2), (3, .int l3)] [] σ := by
  unfold f_X11_blow at h
  refine gx_aload_n 0 dX11_blow_0 rfl rfl ?_
  refine gx_iload_n 1 dX11_blow_1 rfl rfl ?_
  refine gx_iload_n 2 dX11_blow_2 rfl rfl ?_
  refine gx_iload_n 3 dX11_blow_3 rfl rfl ?_
  obtain ⟨_, hobq1, h⟩ := bnd h
  obtain ⟨q1, hq1, h⟩ := bnd h
  refine gx_cVI (As := [.int l1, .int l2, .int l3]) (st := []) (o := l0) dX11_blow_4 (c_X11_canBlow hq1) mov_X11_canBlow tw_1339 hobq1 rfl ⟨Nat.le_of_ble_eq_true rfl, Nat.le_of_ble_eq_true rfl⟩ (Nat.le_of_ble_eq_true rfl) ?_
  refine gx_if_eq 14 dX11_blow_7 (by decide) (fun c1 => ?_) (fun c1 => ?_)
  · rw [if_pos c1] at h
    exact gx_sub [] rfl (s_X11_blow_14  h)
  · rw [if_neg c1] at h
    refine gx_iload_n 3 dX11_blow_10 rfl rfl ?_
    refine gx_if_ne 16 dX11_blow_11 (by decide) (fun c2 => ?_) (fun c2 => ?_)
    · rw [if_neg c2] at h
      refine gx_iconst (v := (0 : Int32)) dX11_blow_16 ic_0 ?_
      refine gx_istore (lv' := [(4, .int (0 : Int32)), (0, .ref (Γ.B + pp l0)), (1, .int l1), (2, .int l2), (3, .int l3)]) dX11_blow_17 (Nat.le_of_ble_eq_true rfl) rfl ?_
      refine gx_iconst (v := (0 : Int32)) dX11_blow_19 ic_0 ?_
      refine gx_istore (lv' := [(5, .int (0 : Int32)), (4, .int (0 : Int32)), (0, .ref (Γ.B + pp l0)), (1, .int l1), (2, .int l2), (3, .int l3)]) dX11_blow_20 (Nat.le_of_ble_eq_true rfl) rfl ?_
      exact gx_sub [2, 3, 4, 5, 1, 0] rfl (s_X11_blow_22  N _ _ _ _ _ _ _ _ h)
    · rw [if_pos c2] at h
      exact gx_sub [] rfl (s_X11_blow_14  h)
theorem c_X11_blow {Γ : Cn} {τ : Mm} {N : Nat} {l0 : Nat} {l1 : Int32} {l2 : Int32} {l3 : Int32} {σ : Mm} {o : Int32 × Mm} (h : f_X11_blow N l0 l1 l2 l3 σ = some o) : Ct Γ M_X11_blow yX11_blow 100 τ [.ref (Γ.B + pp l0), .int l1, .int l2, .int l3] σ (PI o) := ct_of (by decide) rfl (fun _ => by first | rfl | contradiction) (Nat.le_of_ble_eq_true rfl) (s_X11_blow_0  h)
abbrev M_X11_bendCost : Ms := (cX11_bendCost, RX11, 4, (some .int), false, 0, 0, 1)
def f_X11_bendCost (N : Nat) (l0 : Nat) (l1 : Int32) (l2 : Int32) (l3 : Int32) (σ : Mm) : Option (Int32 × Mm) :=
  (f_X11_off N l2 l3 σ).bind fun q1 =>
  (ob 11 q1.2 l0).bind fun _ =>
  (f_X11_cockOf N l0 l1 (2 : Int32) q1.2).bind fun q2 =>
  some ((q1.1 * (q2.1 + (1 : Int32))), q2.2)
theorem mov_X11_bendCost : MOV yX11_bendCost M_X11_bendCost 3 11 100 := ⟨⟨tw_107, tw_1381, ⟨by decide, by decide⟩, by decide +kernel⟩, tw_1380, tw_76, by decide, ⟨_, rfl, rfl⟩, rfl⟩
set_option maxRecDepth 4000 in
theorem s_X11_bendCost_0 {Γ : Cn} {τ : Mm} {N : Nat} {l0 : Nat} {l1 : Int32} {l2 : Int32} {l3 : Int32} {σ : Mm} {o : Int32 × Mm} (h : f_X11_bendCost N l0 l1 l2 l3 σ = some o) : Gx Γ M_X11_bendCost 100 τ (PI o) 0 0 0 [(0, .ref (Γ.B + pp l0)), (1, .int l1), (2, .int l2), (3, .int l3)] [] σ := by
  unfold f_X11_bendCost at h
  refine gx_iload_n 2 dX11_bendCost_0 rfl rfl ?_
  refine gx_iload_n 3 dX11_bendCost_1 rfl rfl ?_
  obtain ⟨q1, hq1, h⟩ := bnd h
  refine gx_cSI (As := [.int l2, .int l3]) (st := []) dX11_bendCost_2 (c_X11_off hq1) mos_X11_off tw_1352 rfl ⟨Nat.le_of_ble_eq_true rfl, Nat.le_of_ble_eq_true rfl⟩ (Nat.le_of_ble_eq_true rfl) ?_
  refine gx_aload_n 0 dX11_bendCost_5 rfl rfl ?_
  refine gx_iload_n 1 dX11_bendCost_6 rfl rfl ?_
  refine gx_iconst (v := (2 : Int32)) dX11_bendCost_7 ic_2 ?_
  obtain ⟨_, hobq2, h⟩ := bnd h
  obtain ⟨q2, hq2, h⟩ := bnd h
  refine gx_cVI (As := [.int l1, .int (2 : Int32)]) (st := [.int q1.1]) (o := l0) dX11_bendCost_8 (c_X11_cockOf hq2) mov_X11_cockOf tw_1296 hobq2 rfl ⟨Nat.le_of_ble_eq_true rfl, Nat.le_of_ble_eq_true rfl⟩ (Nat.le_of_ble_eq_true rfl) ?_
  refine gx_iconst (v := (1 : Int32)) dX11_bendCost_11 ic_1 ?_
  refine gx_iadd dX11_bendCost_12 ?_
  refine gx_imul dX11_bendCost_13 ?_
  have h := Option.some.inj h
  subst h
  exact gx_iret dX11_bendCost_14 rfl (Nat.le_of_ble_eq_true rfl) (Nat.le_of_ble_eq_true rfl) ⟨rfl, rfl⟩
theorem c_X11_bendCost {Γ : Cn} {τ : Mm} {N : Nat} {l0 : Nat} {l1 : Int32} {l2 : Int32} {l3 : Int32} {σ : Mm} {o : Int32 × Mm} (h : f_X11_bendCost N l0 l1 l2 l3 σ = some o) : Ct Γ M_X11_bendCost yX11_bendCost 100 τ [.ref (Γ.B + pp l0), .int l1, .int l2, .int l3] σ (PI o) := ct_of (by decide) rfl (fun _ => by first | rfl | contradiction) (Nat.le_of_ble_eq_true rfl) (s_X11_bendCost_0  h)
