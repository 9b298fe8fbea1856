abbrev M_X11_init : Ms := (cX11_init, RX11, 1, none, true, 19, 4542, 1)
def f_X11_init (N : Nat) (l0 : Nat) (σ : Mm) : Option Mm :=
  (nA 112 σ (400 : Int32)).bind fun s1 =>
  (pR 11 0 s1 l0 (some (pq (nn σ)))).bind fun s2 =>
  (nA 113 s2 (2400 : Int32)).bind fun s3 =>
  (pR 11 3 s3 l0 (some (pq (nn s2)))).bind fun s4 =>
  (nA 113 s4 (7 : Int32)).bind fun s5 =>
  (pR 11 4 s5 l0 (some (pq (nn s4)))).bind fun s6 =>
  (nA 113 s6 (288 : Int32)).bind fun s7 =>
  (pR 11 5 s7 l0 (some (pq (nn s6)))).bind fun s8 =>
  (nA 113 s8 (6 : Int32)).bind fun s9 =>
  (pR 11 6 s9 l0 (some (pq (nn s8)))).bind fun s10 =>
  (nA 113 s10 (72 : Int32)).bind fun s11 =>
  (pR 11 9 s11 l0 (some (pq (nn s10)))).bind fun s12 =>
  (nA 113 s12 (24 : Int32)).bind fun s13 =>
  (pR 11 10 s13 l0 (some (pq (nn s12)))).bind fun s14 =>
  (nA 113 s14 (32 : Int32)).bind fun s15 =>
  (pR 11 11 s15 l0 (some (pq (nn s14)))).bind fun s16 =>
  (nA 113 s16 (400 : Int32)).bind fun s17 =>
  (pR 11 19 s17 l0 (some (pq (nn s16)))).bind fun s18 =>
  (nA 114 s18 (64 : Int32)).bind fun s19 =>
  (pR 11 21 s19 l0 (some (pq (nn s18)))).bind fun s20 =>
  (nA 114 s20 (9 : Int32)).bind fun s21 =>
  (pR 11 23 s21 l0 (some (pq (nn s20)))).bind fun s22 =>
  (nA 113 s22 (156 : Int32)).bind fun s23 =>
  (pR 11 24 s23 l0 (some (pq (nn s22)))).bind fun s24 =>
  (nA 113 s24 (12 : Int32)).bind fun s25 =>
  (pR 11 25 s25 l0 (some (pq (nn s24)))).bind fun s26 =>
  (nA 113 s26 (8 : Int32)).bind fun s27 =>
  (pR 11 26 s27 l0 (some (pq (nn s26)))).bind fun s28 =>
  (nA 113 s28 (12 : Int32)).bind fun s29 =>
  (pR 11 27 s29 l0 (some (pq (nn s28)))).bind fun s30 =>
  (nA 113 s30 (12 : Int32)).bind fun s31 =>
  (pR 11 29 s31 l0 (some (pq (nn s30)))).bind fun s32 =>
  (nA 113 s32 (12 : Int32)).bind fun s33 =>
  (pR 11 30 s33 l0 (some (pq (nn s32)))).bind fun s34 =>
  (nA 113 s34 (624 : Int32)).bind fun s35 =>
  (pR 11 31 s35 l0 (some (pq (nn s34)))).bind fun s36 =>
  (nA 115 s36 (4 : Int32)).bind fun s37 =>
  (pR 11 32 s37 l0 (some (pq (nn s36)))).bind fun s38 =>
  some s38
theorem moi_X11_init : MOI yX11_init M_X11_init 0 := ⟨⟨tw_107, tw_1030, ⟨by decide, by decide⟩, by decide +kernel⟩, tw_1029, rfl, rfl⟩
set_option maxRecDepth 4000 in
theorem s_X11_init_0 {Γ : Cn} {τ : Mm} {N : Nat} {l0 : Nat} {σ : Mm} {o : Mm} (h : f_X11_init N l0 σ = some o) : Gx Γ M_X11_init 100 τ (PV o) 0 0 0 [(0, .ref (Γ.B + pp l0))] [] σ := by
  unfold f_X11_init at h
  refine gx_aload_n 0 dX11_init_0 rfl rfl ?_
  refine gx_objInit dX11_init_1 tw_1031 tw_oi tw_oc (Nat.le_of_ble_eq_true rfl) (Nat.le_of_ble_eq_true rfl) ?_
  refine gx_aload_n 0 dX11_init_4 rfl rfl ?_
  refine gx_sipush (v := (400 : Int32)) dX11_init_5 is_400 ?_
  obtain ⟨s1, hs1, h⟩ := bnd h
  refine gx_newB dX11_init_8 hs1 ac_B rfl (by decide) rfl (Nat.le_of_ble_eq_true rfl) (Nat.le_of_ble_eq_true rfl) ?_
  obtain ⟨s2, hs2, h⟩ := bnd h
  refine gx_putR (r := (some (pq (nn σ)))) dX11_init_10 hs2 fl_X11_7 fp_X11_11_0 (Or.inr ⟨_, rfl⟩) (fun _ => rfl) rfl ?_
  refine gx_aload_n 0 dX11_init_13 rfl rfl ?_
  refine gx_sipush (v := (2400 : Int32)) dX11_init_14 is_2400 ?_
  obtain ⟨s3, hs3, h⟩ := bnd h
  refine gx_newI dX11_init_17 hs3 ac_I rfl (by decide) rfl (Nat.le_of_ble_eq_true rfl) (Nat.le_of_ble_eq_true rfl) ?_
  obtain ⟨s4, hs4, h⟩ := bnd h
  refine gx_putR (r := (some (pq (nn s2)))) dX11_init_19 hs4 fl_X11_13 fp_X11_11_3 (Or.inr ⟨_, rfl⟩) (fun _ => rfl) rfl ?_
  refine gx_aload_n 0 dX11_init_22 rfl rfl ?_
  refine gx_bipush (v := (7 : Int32)) dX11_init_23 ib_7 ?_
  obtain ⟨s5, hs5, h⟩ := bnd h
  refine gx_newI dX11_init_25 hs5 ac_I rfl (by decide) rfl (Nat.le_of_ble_eq_true rfl) (Nat.le_of_ble_eq_true rfl) ?_
  obtain ⟨s6, hs6, h⟩ := bnd h
  refine gx_putR (r := (some (pq (nn s4)))) dX11_init_27 hs6 fl_X11_17 fp_X11_11_4 (Or.inr ⟨_, rfl⟩) (fun _ => rfl) rfl ?_
  refine gx_aload_n 0 dX11_init_30 rfl rfl ?_
  refine gx_sipush (v := (288 : Int32)) dX11_init_31 is_288 ?_
  obtain ⟨s7, hs7, h⟩ := bnd h
  refine gx_newI dX11_init_34 hs7 ac_I rfl (by decide) rfl (Nat.le_of_ble_eq_true rfl) (Nat.le_of_ble_eq_true rfl) ?_
  obtain ⟨s8, hs8, h⟩ := bnd h
  refine gx_putR (r := (some (pq (nn s6)))) dX11_init_36 hs8 fl_X11_20 fp_X11_11_5 (Or.inr ⟨_, rfl⟩) (fun _ => rfl) rfl ?_
  refine gx_aload_n 0 dX11_init_39 rfl rfl ?_
  refine gx_bipush (v := (6 : Int32)) dX11_init_40 ib_6 ?_
  obtain ⟨s9, hs9, h⟩ := bnd h
  refine gx_newI dX11_init_42 hs9 ac_I rfl (by decide) rfl (Nat.le_of_ble_eq_true rfl) (Nat.le_of_ble_eq_true rfl) ?_
  obtain ⟨s10, hs10, h⟩ := bnd h
  refine gx_putR (r := (some (pq (nn s8)))) dX11_init_44 hs10 fl_X11_23 fp_X11_11_6 (Or.inr ⟨_, rfl⟩) (fun _ => rfl) rfl ?_
  refine gx_aload_n 0 dX11_init_47 rfl rfl ?_
  refine gx_bipush (v := (72 : Int32)) dX11_init_48 ib_72 ?_
  obtain ⟨s11, hs11, h⟩ := bnd h
  refine gx_newI dX11_init_50 hs11 ac_I rfl (by decide) rfl (Nat.le_of_ble_eq_true rfl) (Nat.le_of_ble_eq_true rfl) ?_
  obtain ⟨s12, hs12, h⟩ := bnd h
  refine gx_putR (r := (some (pq (nn s10)))) dX11_init_52 hs12 fl_X11_26 fp_X11_11_9 (Or.inr ⟨_, rfl⟩) (fun _ => rfl) rfl ?_
  refine gx_aload_n 0 dX11_init_55 rfl rfl ?_
  refine gx_bipush (v := (24 : Int32)) dX11_init_56 ib_24 ?_
  obtain ⟨s13, hs13, h⟩ := bnd h
  refine gx_newI dX11_init_58 hs13 ac_I rfl (by decide) rfl (Nat.le_of_ble_eq_true rfl) (Nat.le_of_ble_eq_true rfl) ?_
  obtain ⟨s14, hs14, h⟩ := bnd h
  refine gx_putR (r := (some (pq (nn s12)))) dX11_init_60 hs14 fl_X11_29 fp_X11_11_10 (Or.inr ⟨_, rfl⟩) (fun _ => rfl) rfl ?_
  refine gx_aload_n 0 dX11_init_63 rfl rfl ?_
  refine gx_bipush (v := (32 : Int32)) dX11_init_64 ib_32 ?_
  obtain ⟨s15, hs15, h⟩ := bnd h
  refine gx_newI dX11_init_66 hs15 ac_I rfl (by decide) rfl (Nat.le_of_ble_eq_true rfl) (Nat.le_of_ble_eq_true rfl) ?_
  obtain ⟨s16, hs16, h⟩ := bnd h
  refine gx_putR (r := (some (pq (nn s14)))) dX11_init_68 hs16 fl_X11_32 fp_X11_11_11 (Or.inr ⟨_, rfl⟩) (fun _ => rfl) rfl ?_
  refine gx_aload_n 0 dX11_init_71 rfl rfl ?_
  refine gx_sipush (v := (400 : Int32)) dX11_init_72 is_400 ?_
  obtain ⟨s17, hs17, h⟩ := bnd h
  refine gx_newI dX11_init_75 hs17 ac_I rfl (by decide) rfl (Nat.le_of_ble_eq_true rfl) (Nat.le_of_ble_eq_true rfl) ?_
  obtain ⟨s18, hs18, h⟩ := bnd h
  refine gx_putR (r := (some (pq (nn s16)))) dX11_init_77 hs18 fl_X11_35 fp_X11_11_19 (Or.inr ⟨_, rfl⟩) (fun _ => rfl) rfl ?_
  refine gx_aload_n 0 dX11_init_80 rfl rfl ?_
  refine gx_bipush (v := (64 : Int32)) dX11_init_81 ib_64 ?_
  obtain ⟨s19, hs19, h⟩ := bnd h
  refine gx_newJ dX11_init_83 hs19 ac_J rfl (by decide) rfl (Nat.le_of_ble_eq_true rfl) (Nat.le_of_ble_eq_true rfl) ?_
  obtain ⟨s20, hs20, h⟩ := bnd h
  refine gx_putR (r := (some (pq (nn s18)))) dX11_init_85 hs20 fl_X11_38 fp_X11_11_21 (Or.inr ⟨_, rfl⟩) (fun _ => rfl) rfl ?_
  refine gx_aload_n 0 dX11_init_88 rfl rfl ?_
  refine gx_bipush (v := (9 : Int32)) dX11_init_89 ib_9 ?_
  obtain ⟨s21, hs21, h⟩ := bnd h
  refine gx_newJ dX11_init_91 hs21 ac_J rfl (by decide) rfl (Nat.le_of_ble_eq_true rfl) (Nat.le_of_ble_eq_true rfl) ?_
  obtain ⟨s22, hs22, h⟩ := bnd h
  refine gx_putR (r := (some (pq (nn s20)))) dX11_init_93 hs22 fl_X11_42 fp_X11_11_23 (Or.inr ⟨_, rfl⟩) (fun _ => rfl) rfl ?_
  refine gx_aload_n 0 dX11_init_96 rfl rfl ?_
  refine gx_sipush (v := (156 : Int32)) dX11_init_97 is_156 ?_
  obtain ⟨s23, hs23, h⟩ := bnd h
  refine gx_newI dX11_init_100 hs23 ac_I rfl (by decide) rfl (Nat.le_of_ble_eq_true rfl) (Nat.le_of_ble_eq_true rfl) ?_
  obtain ⟨s24, hs24, h⟩ := bnd h
  refine gx_putR (r := (some (pq (nn s22)))) dX11_init_102 hs24 fl_X11_45 fp_X11_11_24 (Or.inr ⟨_, rfl⟩) (fun _ => rfl) rfl ?_
  refine gx_aload_n 0 dX11_init_105 rfl rfl ?_
  refine gx_bipush (v := (12 : Int32)) dX11_init_106 ib_12 ?_
  obtain ⟨s25, hs25, h⟩ := bnd h
  refine gx_newI dX11_init_108 hs25 ac_I rfl (by decide) rfl (Nat.le_of_ble_eq_true rfl) (Nat.le_of_ble_eq_true rfl) ?_
  obtain ⟨s26, hs26, h⟩ := bnd h
  refine gx_putR (r := (some (pq (nn s24)))) dX11_init_110 hs26 fl_X11_48 fp_X11_11_25 (Or.inr ⟨_, rfl⟩) (fun _ => rfl) rfl ?_
  refine gx_aload_n 0 dX11_init_113 rfl rfl ?_
  refine gx_bipush (v := (8 : Int32)) dX11_init_114 ib_8 ?_
  obtain ⟨s27, hs27, h⟩ := bnd h
  refine gx_newI dX11_init_116 hs27 ac_I rfl (by decide) rfl (Nat.le_of_ble_eq_true rfl) (Nat.le_of_ble_eq_true rfl) ?_
  obtain ⟨s28, hs28, h⟩ := bnd h
  refine gx_putR (r := (some (pq (nn s26)))) dX11_init_118 hs28 fl_X11_51 fp_X11_11_26 (Or.inr ⟨_, rfl⟩) (fun _ => rfl) rfl ?_
  refine gx_aload_n 0 dX11_init_121 rfl rfl ?_
  refine gx_bipush (v := (12 : Int32)) dX11_init_122 ib_12 ?_
  obtain ⟨s29, hs29, h⟩ := bnd h
  refine gx_newI dX11_init_124 hs29 ac_I rfl (by decide) rfl (Nat.le_of_ble_eq_true rfl) (Nat.le_of_ble_eq_true rfl) ?_
  obtain ⟨s30, hs30, h⟩ := bnd h
  refine gx_putR (r := (some (pq (nn s28)))) dX11_init_126 hs30 fl_X11_54 fp_X11_11_27 (Or.inr ⟨_, rfl⟩) (fun _ => rfl) rfl ?_
  refine gx_aload_n 0 dX11_init_129 rfl rfl ?_
  refine gx_bipush (v := (12 : Int32)) dX11_init_130 ib_12 ?_
  obtain ⟨s31, hs31, h⟩ := bnd h
  refine gx_newI dX11_init_132 hs31 ac_I rfl (by decide) rfl (Nat.le_of_ble_eq_true rfl) (Nat.le_of_ble_eq_true rfl) ?_
  obtain ⟨s32, hs32, h⟩ := bnd h
  refine gx_putR (r := (some (pq (nn s30)))) dX11_init_134 hs32 fl_X11_57 fp_X11_11_29 (Or.inr ⟨_, rfl⟩) (fun _ => rfl) rfl ?_
  refine gx_aload_n 0 dX11_init_137 rfl rfl ?_
  refine gx_bipush (v := (12 : Int32)) dX11_init_138 ib_12 ?_
  obtain ⟨s33, hs33, h⟩ := bnd h
  refine gx_newI dX11_init_140 hs33 ac_I rfl (by decide) rfl (Nat.le_of_ble_eq_true rfl) (Nat.le_of_ble_eq_true rfl) ?_
  obtain ⟨s34, hs34, h⟩ := bnd h
  refine gx_putR (r := (some (pq (nn s32)))) dX11_init_142 hs34 fl_X11_60 fp_X11_11_30 (Or.inr ⟨_, rfl⟩) (fun _ => rfl) rfl ?_
  refine gx_aload_n 0 dX11_init_145 rfl rfl ?_
  refine gx_sipush (v := (624 : Int32)) dX11_init_146 is_624 ?_
  obtain ⟨s35, hs35, h⟩ := bnd h
  refine gx_newI dX11_init_149 hs35 ac_I rfl (by decide) rfl (Nat.le_of_ble_eq_true rfl) (Nat.le_of_ble_eq_true rfl) ?_
  obtain ⟨s36, hs36, h⟩ := bnd h
  refine gx_putR (r := (some (pq (nn s34)))) dX11_init_151 hs36 fl_X11_63 fp_X11_11_31 (Or.inr ⟨_, rfl⟩) (fun _ => rfl) rfl ?_
  refine gx_aload_n 0 dX11_init_154 rfl rfl ?_
  refine gx_iconst (v := (4 : Int32)) dX11_init_155 ic_4 ?_
  obtain ⟨s37, hs37, h⟩ := bnd h
  refine gx_newZ dX11_init_156 hs37 ac_Z rfl (by decide) rfl (Nat.le_of_ble_eq_true rfl) (Nat.le_of_ble_eq_true rfl) ?_
  obtain ⟨s38, hs38, h⟩ := bnd h
  refine gx_putR (r := (some (pq (nn s36)))) dX11_init_158 hs38 fl_X11_66 fp_X11_11_32 (Or.inr ⟨_, rfl⟩) (fun _ => rfl) rfl ?_
  have h := Option.some.inj h
  subst h
  exact gx_vret dX11_init_161 rfl (Nat.le_of_ble_eq_true rfl) (Nat.le_of_ble_eq_true rfl) ⟨rfl, rfl⟩
theorem c_X11_init {Γ : Cn} {τ : Mm} {N : Nat} {l0 : Nat} {σ : Mm} {o : Mm} (h : f_X11_init N l0 σ = some o) : Ct Γ M_X11_init yX11_init 100 τ [.ref (Γ.B + pp l0)] σ (PV o) := ct_of (by decide) rfl (fun _ => by first | rfl | contradiction) (Nat.le_of_ble_eq_true rfl) (s_X11_init_0  h)
abbrev M_X11_in : Ms := (cX11_in, RX11, 6, (some .boolean), false, 0, 0, 0)
def f_X11_in_18 (N : Nat) (t0 : Int32) (σ : Mm) : Option (Int32 × Mm) :=
  if t0 = 0 ∨ t0 = 1 then some (t0, σ) else none
def f_X11_in_17 (N : Nat) (σ : Mm) : Option (Int32 × Mm) :=
  f_X11_in_18 N (0 : Int32) σ
def f_X11_in (N : Nat) (l0 : Int64) (l2 : Int64) (l4 : Int64) (σ : Mm) : Option (Int32 × Mm) :=
  if (lg_cmp l0 l2) < 0 then (
    f_X11_in_17 N σ) else (
    if 0 < (lg_cmp l0 l4) then (
      f_X11_in_17 N σ) else (
      f_X11_in_18 N (1 : Int32) σ))
theorem mos_X11_in : MOS yX11_in M_X11_in 3 := ⟨⟨tw_107, tw_1208, ⟨by decide, by decide⟩, by decide +kernel⟩, tw_1207⟩
set_option maxRecDepth 4000 in
theorem s_X11_in_18 {Γ : Cn} {τ : Mm} {N : Nat} {t0 : Int32} {σ : Mm} {o : Int32 × Mm} (h : f_X11_in_18 N t0 σ = some o) : Gx Γ M_X11_in 100 τ (PI o) 0 0 18 [] [.int t0] σ := by
  unfold f_X11_in_18 at h
  obtain ⟨hz, h⟩ := of_if h
  have h := Option.some.inj h
  subst h
  exact gx_zret dX11_in_18 rfl (nar_z hz) (Nat.le_of_ble_eq_true rfl) (Nat.le_of_ble_eq_true rfl) ⟨rfl, rfl⟩
set_option maxRecDepth 4000 in
theorem s_X11_in_17 {Γ : Cn} {τ : Mm} {N : Nat} {σ : Mm} {o : Int32 × Mm} (h : f_X11_in_17 N σ = some o) : Gx Γ M_X11_in 100 τ (PI o) 0 0 17 [] [] σ := by
  unfold f_X11_in_17 at h
  refine gx_iconst (v := (0 : Int32)) dX11_in_17 ic_0 ?_
  exact s_X11_in_18  h
set_option maxRecDepth 4000 in
theorem s_X11_in_0 {Γ : Cn} {τ : Mm} {N : Nat} {l0 : Int64} {l2 : Int64} {l4 : Int64} {σ : Mm} {o : Int32 × Mm} (h : f_X11_in N l0 l2 l4 σ = some o) : Gx Γ M_X11_in 100 τ (PI o) 0 0 0 [(0, .long l0), (2, .long l2), (4, .long l4)] [] σ := by
  unfold f_X11_in at h
  refine gx_lload_n 0 dX11_in_0 rfl rfl ?_
  refine gx_lload_n 1 dX11_in_1 rfl rfl ?_
  refine gx_lcmp dX11_in_2 ?_
  refine gx_if_lt 17 dX11_in_3 (by decide) (fun c0 => ?_) (fun c0 => ?_)
  · rw [if_pos c0] at h
    exact gx_sub [] rfl (s_X11_in_17  h)
  · rw [if_neg c0] at h
    refine gx_lload_n 0 dX11_in_6 rfl rfl ?_
    refine gx_lload 2 dX11_in_7 rfl ?_
    refine gx_lcmp dX11_in_9 ?_
    refine gx_if_gt 17 dX11_in_10 (by decide) (fun c1 => ?_) (fun c1 => ?_)
    · rw [if_pos c1] at h
      exact gx_sub [] rfl (s_X11_in_17  h)
    · rw [if_neg c1] at h
      refine gx_iconst (v := (1 : Int32)) dX11_in_13 ic_1 ?_
      refine gx_goto 18 dX11_in_14 (by decide) ?_
      exact gx_sub [] rfl (s_X11_in_18  h)
theorem c_X11_in {Γ : Cn} {τ : Mm} {N : Nat} {l0 : Int64} {l2 : Int64} {l4 : Int64} {σ : Mm} {o : Int32 × Mm} (h : f_X11_in N l0 l2 l4 σ = some o) : Ct Γ M_X11_in yX11_in 100 τ [.long l0, .long l2, .long l4] σ (PI o) := ct_of (by decide) rfl (fun _ => by first | rfl | contradiction) (Nat.le_of_ble_eq_true rfl) (s_X11_in_0  h)
abbrev M_X11_isOf : Ms := (cX11_isOf, RX11, 2, (some .boolean), false, 0, 0, 0)
def f_X11_isOf_14 (N : Nat) (t0 : Int32) (σ : Mm) : Option (Int32 × Mm) :=
  if t0 = 0 ∨ t0 = 1 then some (t0, σ) else none
def f_X11_isOf (N : Nat) (l0 : Int32) (l1 : Int32) (σ : Mm) : Option (Int32 × Mm) :=
  if ((l0 >>> (l1 &&& 31)) &&& (1 : Int32)) = (1 : Int32) then (
    f_X11_isOf_14 N (1 : Int32) σ) else (
    f_X11_isOf_14 N (0 : Int32) σ)
theorem mos_X11_isOf : MOS yX11_isOf M_X11_isOf 2 := ⟨⟨tw_107, tw_1477, ⟨by decide, by decide⟩, by decide +kernel⟩, tw_1476⟩
set_option maxRecDepth 4000 in
theorem s_X11_isOf_14 {Γ : Cn} {τ : Mm} {N : Nat} {t0 : Int32} {σ : Mm} {o : Int32 × Mm} (h : f_X11_isOf_14 N t0 σ = some o) : Gx Γ M_X11_isOf 100 τ (PI o) 0 0 14 [] [.int t0] σ := by
  unfold f_X11_isOf_14 at h
  obtain ⟨hz, h⟩ := of_if h
  have h := Option.some.inj h
  subst h
  exact gx_zret dX11_isOf_14 rfl (nar_z hz) (Nat.le_of_ble_eq_true rfl) (Nat.le_of_ble_eq_true rfl) ⟨rfl, rfl⟩
set_option maxRecDepth 4000 in
theorem s_X11_isOf_0 {Γ : Cn} {τ : Mm} {N : Nat} {l0 : Int32} {l1 : Int32} {σ : Mm} {o : Int32 × Mm} (h : f_X11_isOf N l0 l1 σ = some o) : Gx Γ M_X11_isOf 100 τ (PI o) 0 0 0 [(0, .int l0), (1, .int l1)] [] σ := by
  unfold f_X11_isOf at h
  refine gx_iload_n 0 dX11_isOf_0 rfl rfl ?_
  refine gx_iload_n 1 dX11_isOf_1 rfl rfl ?_
  refine gx_ishr dX11_isOf_2 ?_
  refine gx_iconst (v := (1 : Int32)) dX11_isOf_3 ic_1 ?_
  refine gx_iand dX11_isOf_4 ?_
  refine gx_iconst (v := (1 : Int32)) dX11_isOf_5 ic_1 ?_
  refine gx_icmp_ne 13 dX11_isOf_6 (by decide) (fun c0 => ?_) (fun c0 => ?_)
  · rw [if_neg c0] at h
    refine gx_iconst (v := (0 : Int32)) dX11_isOf_13 ic_0 ?_
    exact gx_sub [] rfl (s_X11_isOf_14  h)
  · rw [if_pos c0] at h
    refine gx_iconst (v := (1 : Int32)) dX11_isOf_9 ic_1 ?_
    refine gx_goto 14 dX11_isOf_10 (by decide) ?_
    exact gx_sub [] rfl (s_X11_isOf_14  h)
theorem c_X11_isOf {Γ : Cn} {τ : Mm} {N : Nat} {l0 : Int32} {l1 : Int32} {σ : Mm} {o : Int32 × Mm} (h : f_X11_isOf N l0 l1 σ = some o) : Ct Γ M_X11_isOf yX11_isOf 100 τ [.int l0, .int l1] σ (PI o) := ct_of (by decide) rfl (fun _ => by first | rfl | contradiction) (Nat.le_of_ble_eq_true rfl) (s_X11_isOf_0  h)
abbrev M_X11_bits : Ms := (cX11_bits, RX11, 3, (some .int), false, 0, 0, 0)
def f_X11_bits_4 (N : Nat) : Nat → Int32 → Int32 → Mm → Option (Int32 × Mm)
  | 0, _, _, _ => none
  | n + 1, l1, l2, σ =>
      if l2 = 0 then (
        some (l1, σ)) else (
        f_X11_bits_4 N n (l1 + (1 : Int32)) (l2 &&& (l2 - (1 : Int32))) σ)
def f_X11_bits (N : Nat) (l0 : Int32) (σ : Mm) : Option (Int32 × Mm) :=
  f_X11_bits_4 N N (0 : Int32) l0 σ
theorem mos_X11_bits : MOS yX11_bits M_X11_bits 1 := ⟨⟨tw_107, tw_1480, ⟨by decide, by decide⟩, by decide +kernel⟩, tw_1479⟩
set_option maxRecDepth 4000 in
theorem s_X11_bits_4 {Γ : Cn} {τ : Mm} {N : Nat} : ∀ (n : Nat) (l1 : Int32) (l2 : Int32) (σ : Mm) (o : Int32 × Mm), f_X11_bits_4 N n l1 l2 σ = some o → Gx Γ M_X11_bits 100 τ (PI o) 0 0 4 [(1, .int l1), (2, .int l2)] [] σ := by
  intro n
  induction n with
  | zero =>
    intro l1 l2 σ o h
    exact absurd h (by rw [f_X11_bits_4]; exact fun q => nomatch q)
  | succ n ih =>
    intro l1 l2 σ o h
    rw [f_X11_bits_4] at h
    refine gx_iload_n 1 dX11_bits_4 rfl rfl ?_
    refine gx_if_eq 20 dX11_bits_5 (by decide) (fun c0 => ?_) (fun c0 => ?_)
    · rw [if_pos c0] at h
      refine gx_iload_n 0 dX11_bits_20 rfl rfl ?_
      have h := Option.some.inj h
      subst h
      exact gx_iret dX11_bits_21 rfl (Nat.le_of_ble_eq_true rfl) (Nat.le_of_ble_eq_true rfl) ⟨rfl, rfl⟩
    · rw [if_neg c0] at h
      refine gx_iinc (v := (l1 + (1 : Int32))) (lv' := [(1, .int (l1 + (1 : Int32))), (2, .int l2)]) 0 dX11_bits_8 rfl (by rw [ic_1]) (Nat.le_of_ble_eq_true rfl) rfl ?_
      refine gx_iload_n 1 dX11_bits_11 rfl rfl ?_
      refine gx_iload_n 1 dX11_bits_12 rfl rfl ?_
      refine gx_iconst (v := (1 : Int32)) dX11_bits_13 ic_1 ?_
      refine gx_isub dX11_bits_14 ?_
      refine gx_iand dX11_bits_15 ?_
      refine gx_istore_n (lv' := [(2, .int (l2 &&& (l2 - (1 : Int32)))), (1, .int (l1 + (1 : Int32)))]) dX11_bits_16 rfl (Nat.le_of_ble_eq_true rfl) rfl ?_
      refine gx_goto 4 dX11_bits_17 (by decide) ?_
      exact gx_sub [1, 0] rfl (ih _ _ _ _ h)
set_option maxRecDepth 4000 in
theorem s_X11_bits_0 {Γ : Cn} {τ : Mm} {N : Nat} {l0 : Int32} {σ : Mm} {o : Int32 × Mm} (h : f_X11_bits N l0 σ = some o) : Gx Γ M_X11_bits 100 τ (PI o) 0 0 0 [(0, .int l0)] [] σ := by
  unfold f_X11_bits at h
  refine gx_iconst (v := (0 : Int32)) dX11_bits_0 ic_0 ?_
  refine gx_istore_n (lv' := [(1, .int (0 : Int32)), (0, .int l0)]) dX11_bits_1 rfl (Nat.le_of_ble_eq_true rfl) rfl ?_
  refine gx_iload_n 1 dX11_bits_2 rfl rfl ?_
  refine gx_istore_n (lv' := [(2, .int l0), (1, .int (0 : Int32)), (0, .int l0)]) dX11_bits_3 rfl (Nat.le_of_ble_eq_true rfl) rfl ?_
  exact gx_sub [1, 0] rfl (s_X11_bits_4  N _ _ _ _ h)
theorem c_X11_bits {Γ : Cn} {τ : Mm} {N : Nat} {l0 : Int32} {σ : Mm} {o : Int32 × Mm} (h : f_X11_bits N l0 σ = some o) : Ct Γ M_X11_bits yX11_bits 100 τ [.int l0] σ (PI o) := ct_of (by decide) rfl (fun _ => by first | rfl | contradiction) (Nat.le_of_ble_eq_true rfl) (s_X11_bits_0  h)
abbrev M_X11_off : Ms := (cX11_off, RX11, 3, (some .int), false, 0, 0, 0)
def f_X11_off_20 (N : Nat) (t0 : Int32) (σ : Mm) : Option (Int32 × Mm) :=
  some (t0, σ)
def f_X11_off (N : Nat) (l0 : Int32) (l1 : Int32) (σ : Mm) : Option (Int32 × Mm) :=
  if ((l1 - l0) &&& (7 : Int32)) ≤ (4 : Int32) then (
    f_X11_off_20 N ((l1 - l0) &&& (7 : Int32)) σ) else (
    f_X11_off_20 N ((8 : Int32) - ((l1 - l0) &&& (7 : Int32))) σ)
theorem mos_X11_off : MOS yX11_off M_X11_off 2 := ⟨⟨tw_107, tw_1354, ⟨by decide, by decide⟩, by decide +kernel⟩, tw_1353⟩
set_option maxRecDepth 4000 in
theorem s_X11_off_20 {Γ : Cn} {τ : Mm} {N : Nat} {t0 : Int32} {σ : Mm} {o : Int32 × Mm} (h : f_X11_off_20 N t0 σ = some o) : Gx Γ M_X11_off 100 τ (PI o) 0 0 20 [] [.int t0] σ := by
  unfold f_X11_off_20 at h
  have h := Option.some.inj h
  subst h
  exact gx_iret dX11_off_20 rfl (Nat.le_of_ble_eq_true rfl) (Nat.le_of_ble_eq_true rfl) ⟨rfl, rfl⟩
set_option maxRecDepth 4000 in
theorem s_X11_off_0 {Γ : Cn} {τ : Mm} {N : Nat} {l0 : Int32} {l1 : Int32} {σ : Mm} {o : Int32 × Mm} (h : f_X11_off N l0 l1 σ = some o) : Gx Γ M_X11_off 100 τ (PI o) 0 0 0 [(0, .int l0), (1, .int l1)] [] σ := by
  unfold f_X11_off at h
  refine gx_iload_n 1 dX11_off_0 rfl rfl ?_
  refine gx_iload_n 0 dX11_off_1 rfl rfl ?_
  refine gx_isub dX11_off_2 ?_
  refine gx_bipush (v := (7 : Int32)) dX11_off_3 ib_7 ?_
  refine gx_iand dX11_off_5 ?_
  refine gx_istore_n (lv' := [(2, .int ((l1 - l0) &&& (7 : Int32))), (0, .int l0), (1, .int l1)]) dX11_off_6 rfl (Nat.le_of_ble_eq_true rfl) rfl ?_
  refine gx_iload_n 0 dX11_off_7 rfl rfl ?_
  refine gx_iconst (v := (4 : Int32)) dX11_off_8 ic_4 ?_
  refine gx_icmp_le 19 dX11_off_9 (by decide) (fun c0 => ?_) (fun c0 => ?_)
  · rw [if_pos c0] at h
    refine gx_iload_n 0 dX11_off_19 rfl rfl ?_
    exact gx_sub [] rfl (s_X11_off_20  h)
  · rw [if_neg c0] at h
    refine gx_bipush (v := (8 : Int32)) dX11_off_12 ib_8 ?_
    refine gx_iload_n 0 dX11_off_14 rfl rfl ?_
    refine gx_isub dX11_off_15 ?_
    refine gx_goto 20 dX11_off_16 (by decide) ?_
    exact gx_sub [] rfl (s_X11_off_20  h)
theorem c_X11_off {Γ : Cn} {τ : Mm} {N : Nat} {l0 : Int32} {l1 : Int32} {σ : Mm} {o : Int32 × Mm} (h : f_X11_off N l0 l1 σ = some o) : Ct Γ M_X11_off yX11_off 100 τ [.int l0, .int l1] σ (PI o) := ct_of (by decide) rfl (fun _ => by first | rfl | contradiction) (Nat.le_of_ble_eq_true rfl) (s_X11_off_0  h)
abbrev M_X11_across : Ms := (cX11_across, RX11, 1, (some .int), false, 0, 0, 0)
def f_X11_across_23 (N : Nat) (t0 : Int32) (σ : Mm) : Option (Int32 × Mm) :=
  some (t0, σ)
def f_X11_across_9 (N : Nat) (σ : Mm) : Option (Int32 × Mm) :=
  f_X11_across_23 N (0 : Int32) σ
def f_X11_across (N : Nat) (l0 : Int32) (σ : Mm) : Option (Int32 × Mm) :=
  if l0 = 0 then (
    f_X11_across_9 N σ) else (
    if l0 = (4 : Int32) then (
      f_X11_across_9 N σ) else (
      if (4 : Int32) ≤ l0 then (
        f_X11_across_23 N (-1 : Int32) σ) else (
        f_X11_across_23 N (1 : Int32) σ)))
theorem mos_X11_across : MOS yX11_across M_X11_across 1 := ⟨⟨tw_107, tw_1331, ⟨by decide, by decide⟩, by decide +kernel⟩, tw_1330⟩
set_option maxRecDepth 4000 in
theorem s_X11_across_23 {Γ : Cn} {τ : Mm} {N : Nat} {t0 : Int32} {σ : Mm} {o : Int32 × Mm} (h : f_X11_across_23 N t0 σ = some o) : Gx Γ M_X11_across 100 τ (PI o) 0 0 23 [] [.int t0] σ := by
  unfold f_X11_across_23 at h
  have h := Option.some.inj h
  subst h
  exact gx_iret dX11_across_23 rfl (Nat.le_of_ble_eq_true rfl) (Nat.le_of_ble_eq_true rfl) ⟨rfl, rfl⟩
set_option maxRecDepth 4000 in
theorem s_X11_across_9 {Γ : Cn} {τ : Mm} {N : Nat} {σ : Mm} {o : Int32 × Mm} (h : f_X11_across_9 N σ = some o) : Gx Γ M_X11_across 100 τ (PI o) 0 0 9 [] [] σ := by
  unfold f_X11_across_9 at h
  refine gx_iconst (v := (0 : Int32)) dX11_across_9 ic_0 ?_
  refine gx_goto 23 dX11_across_10 (by decide) ?_
  exact s_X11_across_23  h
set_option maxRecDepth 4000 in
theorem s_X11_across_0 {Γ : Cn} {τ : Mm} {N : Nat} {l0 : Int32} {σ : Mm} {o : Int32 × Mm} (h : f_X11_across N l0 σ = some o) : Gx Γ M_X11_across 100 τ (PI o) 0 0 0 [(0, .int l0)] [] σ := by
  unfold f_X11_across at h
  refine gx_iload_n 0 dX11_across_0 rfl rfl ?_
  refine gx_if_eq 9 dX11_across_1 (by decide) (fun c0 => ?_) (fun c0 => ?_)
  · rw [if_pos c0] at h
    exact gx_sub [] rfl (s_X11_across_9  h)
  · rw [if_neg c0] at h
    refine gx_iload_n 0 dX11_across_4 rfl rfl ?_
    refine gx_iconst (v := (4 : Int32)) dX11_across_5 ic_4 ?_
    refine gx_icmp_ne 13 dX11_across_6 (by decide) (fun c1 => ?_) (fun c1 => ?_)
    · rw [if_neg c1] at h
      refine gx_iload_n 0 dX11_across_13 rfl rfl ?_
      refine gx_iconst (v := (4 : Int32)) dX11_across_14 ic_4 ?_
      refine gx_icmp_ge 22 dX11_across_15 (by decide) (fun c2 => ?_) (fun c2 => ?_)
      · rw [if_pos c2] at h
        refine gx_iconst (v := (-1 : Int32)) dX11_across_22 ic_m1 ?_
        exact gx_sub [] rfl (s_X11_across_23  h)
      · rw [if_neg c2] at h
        refine gx_iconst (v := (1 : Int32)) dX11_across_18 ic_1 ?_
        refine gx_goto 23 dX11_across_19 (by decide) ?_
        exact gx_sub [] rfl (s_X11_across_23  h)
    · rw [if_pos c1] at h
      exact gx_sub [] rfl (s_X11_across_9  h)
theorem c_X11_across {Γ : Cn} {τ : Mm} {N : Nat} {l0 : Int32} {σ : Mm} {o : Int32 × Mm} (h : f_X11_across N l0 σ = some o) : Ct Γ M_X11_across yX11_across 100 τ [.int l0] σ (PI o) := ct_of (by decide) rfl (fun _ => by first | rfl | contradiction) (Nat.le_of_ble_eq_true rfl) (s_X11_across_0  h)
abbrev M_X11_down : Ms := (cX11_down, RX11, 1, (some .int), false, 0, 0, 0)
def f_X11_down_31 (N : Nat) (t0 : Int32) (σ : Mm) : Option (Int32 × Mm) :=
  some (t0, σ)
def f_X11_down_11 (N : Nat) (σ : Mm) : Option (Int32 × Mm) :=
  f_X11_down_31 N (0 : Int32) σ
def f_X11_down_30 (N : Nat) (σ : Mm) : Option (Int32 × Mm) :=
  f_X11_down_31 N (-1 : Int32) σ
def f_X11_down (N : Nat) (l0 : Int32) (σ : Mm) : Option (Int32 × Mm) :=
  if l0 = (2 : Int32) then (
    f_X11_down_11 N σ) else (
    if l0 = (6 : Int32) then (
      f_X11_down_11 N σ) else (
      if l0 ≤ (2 : Int32) then (
        f_X11_down_30 N σ) else (
        if (6 : Int32) ≤ l0 then (
          f_X11_down_30 N σ) else (
          f_X11_down_31 N (1 : Int32) σ))))
theorem mos_X11_down : MOS yX11_down M_X11_down 1 := ⟨⟨tw_107, tw_1334, ⟨by decide, by decide⟩, by decide +kernel⟩, tw_1333⟩
set_option maxRecDepth 4000 in
theorem s_X11_down_31 {Γ : Cn} {τ : Mm} {N : Nat} {t0 : Int32} {σ : Mm} {o : Int32 × Mm} (h : f_X11_down_31 N t0 σ = some o) : Gx Γ M_X11_down 100 τ (PI o) 0 0 31 [] [.int t0] σ := by
  unfold f_X11_down_31 at h
  have h := Option.some.inj h
  subst h
  exact gx_iret dX11_down_31 rfl (Nat.le_of_ble_eq_true rfl) (Nat.le_of_ble_eq_true rfl) ⟨rfl, rfl⟩
set_option maxRecDepth 4000 in
theorem s_X11_down_11 {Γ : Cn} {τ : Mm} {N : Nat} {σ : Mm} {o : Int32 × Mm} (h : f_X11_down_11 N σ = some o) : Gx Γ M_X11_down 100 τ (PI o) 0 0 11 [] [] σ := by
  unfold f_X11_down_11 at h
  refine gx_iconst (v := (0 : Int32)) dX11_down_11 ic_0 ?_
  refine gx_goto 31 dX11_down_12 (by decide) ?_
  exact s_X11_down_31  h
set_option maxRecDepth 4000 in
theorem s_X11_down_30 {Γ : Cn} {τ : Mm} {N : Nat} {σ : Mm} {o : Int32 × Mm} (h : f_X11_down_30 N σ = some o) : Gx Γ M_X11_down 100 τ (PI o) 0 0 30 [] [] σ := by
  unfold f_X11_down_30 at h
  refine gx_iconst (v := (-1 : Int32)) dX11_down_30 ic_m1 ?_
  exact s_X11_down_31  h
set_option maxRecDepth 4000 in
theorem s_X11_down_0 {Γ : Cn} {τ : Mm} {N : Nat} {l0 : Int32} {σ : Mm} {o : Int32 × Mm} (h : f_X11_down N l0 σ = some o) : Gx Γ M_X11_down 100 τ (PI o) 0 0 0 [(0, .int l0)] [] σ := by
  unfold f_X11_down at h
  refine gx_iload_n 0 dX11_down_0 rfl rfl ?_
  refine gx_iconst (v := (2 : Int32)) dX11_down_1 ic_2 ?_
  refine gx_icmp_eq 11 dX11_down_2 (by decide) (fun c0 => ?_) (fun c0 => ?_)
  · rw [if_pos c0] at h
    exact gx_sub [] rfl (s_X11_down_11  h)
  · rw [if_neg c0] at h
    refine gx_iload_n 0 dX11_down_5 rfl rfl ?_
    refine gx_bipush (v := (6 : Int32)) dX11_down_6 ib_6 ?_
    refine gx_icmp_ne 15 dX11_down_8 (by decide) (fun c1 => ?_) (fun c1 => ?_)
    · rw [if_neg c1] at h
      refine gx_iload_n 0 dX11_down_15 rfl rfl ?_
      refine gx_iconst (v := (2 : Int32)) dX11_down_16 ic_2 ?_
      refine gx_icmp_le 30 dX11_down_17 (by decide) (fun c2 => ?_) (fun c2 => ?_)
      · rw [if_pos c2] at h
        exact gx_sub [] rfl (s_X11_down_30  h)
      · rw [if_neg c2] at h
        refine gx_iload_n 0 dX11_down_20 rfl rfl ?_
        refine gx_bipush (v := (6 : Int32)) dX11_down_21 ib_6 ?_
        refine gx_icmp_ge 30 dX11_down_23 (by decide) (fun c3 => ?_) (fun c3 => ?_)
        · rw [if_pos c3] at h
          exact gx_sub [] rfl (s_X11_down_30  h)
        · rw [if_neg c3] at h
          refine gx_iconst (v := (1 : Int32)) dX11_down_26 ic_1 ?_
          refine gx_goto 31 dX11_down_27 (by decide) ?_
          exact gx_sub [] rfl (s_X11_down_31  h)
    · rw [if_pos c1] at h
      exact gx_sub [] rfl (s_X11_down_11  h)
theorem c_X11_down {Γ : Cn} {τ : Mm} {N : Nat} {l0 : Int32} {σ : Mm} {o : Int32 × Mm} (h : f_X11_down N l0 σ = some o) : Ct Γ M_X11_down yX11_down 100 τ [.int l0] σ (PI o) := ct_of (by decide) rfl (fun _ => by first | rfl | contradiction) (Nat.le_of_ble_eq_true rfl) (s_X11_down_0  h)
abbrev M_X11_four : Ms := (cX11_four, RX11, 3, none, false, 0, 0, 0)
def f_X11_four_3 (N : Nat) : Nat → Nat → Int32 → Int32 → Mm → Option Mm
  | 0, _, _, _, _ => none
  | n + 1, l0, l1, l2, σ =>
      if l2 < 0 then (
        some σ) else (
        (gN 11 0 σ l0).bind fun a2 =>
        (gI 11 1 σ l0).bind fun x3 =>
        (sB 112 σ a2 x3 (Int8.toInt32 (Int32.toInt8 (l1 >>> (l2 &&& 31))))).bind fun s4 =>
        (gI 11 1 s4 l0).bind fun x5 =>
        (pI 11 1 s4 l0 (x5 + (1 : Int32))).bind fun s6 =>
        f_X11_four_3 N n l0 l1 (l2 + (-8 : Int32)) s6)
def f_X11_four (N : Nat) (l0 : Nat) (l1 : Int32) (σ : Mm) : Option Mm :=
  f_X11_four_3 N N l0 l1 (24 : Int32) σ
theorem mov_X11_four : MOV yX11_four M_X11_four 1 11 100 := ⟨⟨tw_107, tw_1140, ⟨by decide, by decide⟩, by decide +kernel⟩, tw_1139, tw_36, by decide, ⟨_, rfl, rfl⟩, rfl⟩
set_option maxRecDepth 4000 in
theorem s_X11_four_3 {Γ : Cn} {τ : Mm} {N : Nat} : ∀ (n : Nat) (l0 : Nat) (l1 : Int32) (l2 : Int32) (σ : Mm) (o : Mm), f_X11_four_3 N n l0 l1 l2 σ = some o → Gx Γ M_X11_four 100 τ (PV o) 0 0 3 [(0, .ref (Γ.B + pp l0)), (1, .int l1), (2, .int l2)] [] σ := by
  intro n
  induction n with
  | zero =>
    intro l0 l1 l2 σ o h
    exact absurd h (by rw [f_X11_four_3]; exact fun q => nomatch q)
  | succ n ih =>
    intro l0 l1 l2 σ o h
    rw [f_X11_four_3] at h
    refine gx_iload_n 2 dX11_four_3 rfl rfl ?_
    refine gx_if_lt 36 dX11_four_4 (by decide) (fun c0 => ?_) (fun c0 => ?_)
    · rw [if_pos c0] at h
      have h := Option.some.inj h
      subst h
      exact gx_vret dX11_four_36 rfl (Nat.le_of_ble_eq_true rfl) (Nat.le_of_ble_eq_true rfl) ⟨rfl, rfl⟩
    · rw [if_neg c0] at h
      refine gx_aload_n 0 dX11_four_7 rfl rfl ?_
      obtain ⟨a2, ha2, h⟩ := bnd h
      refine gx_getN dX11_four_8 ha2 fl_X11_7 rfl ?_
      refine gx_aload_n 0 dX11_four_11 rfl rfl ?_
      obtain ⟨x3, hx3, h⟩ := bnd h
      refine gx_getI dX11_four_12 hx3 fl_X11_70 rfl ?_
      refine gx_iload_n 1 dX11_four_15 rfl rfl ?_
      refine gx_iload_n 2 dX11_four_16 rfl rfl ?_
      refine gx_ishr dX11_four_17 ?_
      refine gx_i2b dX11_four_18 ?_
      obtain ⟨s4, hs4, h⟩ := bnd h
      refine gx_bast (kd := 112) dX11_four_19 hs4 rfl rfl ?_
      refine gx_aload_n 0 dX11_four_20 rfl rfl ?_
      refine gx_dup dX11_four_21 rfl ?_
      obtain ⟨x5, hx5, h⟩ := bnd h
      refine gx_getI dX11_four_22 hx5 fl_X11_70 rfl ?_
      refine gx_iconst (v := (1 : Int32)) dX11_four_25 ic_1 ?_
      refine gx_iadd dX11_four_26 ?_
      obtain ⟨s6, hs6, h⟩ := bnd h
      refine gx_putI dX11_four_27 hs6 fl_X11_70 fp_X11_11_1 rfl ?_
      refine gx_iinc (v := (l2 + (-8 : Int32))) (lv' := [(2, .int (l2 + (-8 : Int32))), (0, .ref (Γ.B + pp l0)), (1, .int l1)]) 2 dX11_four_30 rfl (by rw [ic_m8]) (Nat.le_of_ble_eq_true rfl) rfl ?_
      refine gx_goto 3 dX11_four_33 (by decide) ?_
      exact gx_sub [1, 2, 0] rfl (ih _ _ _ _ _ h)
set_option maxRecDepth 4000 in
theorem s_X11_four_0 {Γ : Cn} {τ : Mm} {N : Nat} {l0 : Nat} {l1 : Int32} {σ : Mm} {o : Mm} (h : f_X11_four N l0 l1 σ = some o) : Gx Γ M_X11_four 100 τ (PV o) 0 0 0 [(0, .ref (Γ.B + pp l0)), (1, .int l1)] [] σ := by
  unfold f_X11_four at h
  refine gx_bipush (v := (24 : Int32)) dX11_four_0 ib_24 ?_
  refine gx_istore_n (lv' := [(2, .int (24 : Int32)), (0, .ref (Γ.B + pp l0)), (1, .int l1)]) dX11_four_2 rfl (Nat.le_of_ble_eq_true rfl) rfl ?_
  exact gx_sub [1, 2, 0] rfl (s_X11_four_3  N _ _ _ _ _ h)
theorem c_X11_four {Γ : Cn} {τ : Mm} {N : Nat} {l0 : Nat} {l1 : Int32} {σ : Mm} {o : Mm} (h : f_X11_four N l0 l1 σ = some o) : Ct Γ M_X11_four yX11_four 100 τ [.ref (Γ.B + pp l0), .int l1] σ (PV o) := ct_of (by decide) rfl (fun _ => by first | rfl | contradiction) (Nat.le_of_ble_eq_true rfl) (s_X11_four_0  h)
abbrev M_X11_feed : Ms := (cX11_feed, RX11, 6, (some .int), false, 0, 0, 1)
def f_X11_feed (N : Nat) (l0 : Nat) (l1 : Int32) (l2 : Int32) (l3 : Int32) (l4 : Int32) (l5 : Int32) (σ : Mm) : Option (Int32 × Mm) :=
  (gI 11 1 σ l0).bind fun x1 =>
  if (x1 + (20 : Int32)) ≤ (400 : Int32) then (
    (ob 11 σ l0).bind fun _ =>
    (f_X11_four N l0 l1 σ).bind fun q3 =>
    (ob 11 q3 l0).bind fun _ =>
    (f_X11_four N l0 l2 q3).bind fun q4 =>
    (ob 11 q4 l0).bind fun _ =>
    (f_X11_four N l0 l3 q4).bind fun q5 =>
    (ob 11 q5 l0).bind fun _ =>
    (f_X11_four N l0 l4 q5).bind fun q6 =>
    (ob 11 q6 l0).bind fun _ =>
    (f_X11_four N l0 l5 q6).bind fun q7 =>
    (gI 11 1 q7 l0).bind fun x8 =>
    some (x8, q7)) else (
    some ((-1 : Int32), σ))
theorem mov_X11_feed : MOV yX11_feed M_X11_feed 5 11 100 := ⟨⟨tw_107, tw_1136, ⟨by decide, by decide⟩, by decide +kernel⟩, tw_1134, tw_1135, by decide, ⟨_, rfl, rfl⟩, rfl⟩
set_option maxRecDepth 4000 in
theorem s_X11_feed_0 {Γ : Cn} {τ : Mm} {N : Nat} {l0 : Nat} {l1 : Int32} {l2 : Int32} {l3 : Int32} {l4 : Int32} {l5 : Int32} {σ : Mm} {o : Int32 × Mm} (h : f_X11_feed N l0 l1 l2 l3 l4 l5 σ = some o) : Gx Γ M_X11_feed 100 τ (PI o) 0 0 0 [(0, .ref (Γ.B + pp l0)), (1, .int l1), (2, .int l2), (3, .int l3), (4, .int l4), (5, .int l5)] [] σ := by
  unfold f_X11_feed at h
  refine gx_aload_n 0 dX11_feed_0 rfl rfl ?_
  obtain ⟨x1, hx1, h⟩ := bnd h
  refine gx_getI dX11_feed_1 hx1 fl_X11_70 rfl ?_
  refine gx_bipush (v := (20 : Int32)) dX11_feed_4 ib_20 ?_
  refine gx_iadd dX11_feed_6 ?_
  refine gx_sipush (v := (400 : Int32)) dX11_feed_7 is_400 ?_
  refine gx_icmp_le 15 dX11_feed_10 (by decide) (fun c1 => ?_) (fun c1 => ?_)
  · rw [if_pos c1] at h
    refine gx_aload_n 0 dX11_feed_15 rfl rfl ?_
    refine gx_iload_n 1 dX11_feed_16 rfl rfl ?_
    obtain ⟨_, hobq3, h⟩ := bnd h
    obtain ⟨q3, hq3, h⟩ := bnd h
    refine gx_cVV (As := [.int l1]) (st := []) (o := l0) dX11_feed_17 (c_X11_four hq3) mov_X11_four tw_1137 hobq3 rfl ⟨Nat.le_of_ble_eq_true rfl, Nat.le_of_ble_eq_true rfl⟩ (Nat.le_of_ble_eq_true rfl) ?_
    refine gx_aload_n 0 dX11_feed_20 rfl rfl ?_
    refine gx_iload_n 2 dX11_feed_21 rfl rfl ?_
    obtain ⟨_, hobq4, h⟩ := bnd h
    obtain ⟨q4, hq4, h⟩ := bnd h
    refine gx_cVV (As := [.int l2]) (st := []) (o := l0) dX11_feed_22 (c_X11_four hq4) mov_X11_four tw_1137 hobq4 rfl ⟨Nat.le_of_ble_eq_true rfl, Nat.le_of_ble_eq_true rfl⟩ (Nat.le_of_ble_eq_true rfl) ?_
    refine gx_aload_n 0 dX11_feed_25 rfl rfl ?_
    refine gx_iload_n 3 dX11_feed_26 rfl rfl ?_
    obtain ⟨_, hobq5, h⟩ := bnd h
    obtain ⟨q5, hq5, h⟩ := bnd h
    refine gx_cVV (As := [.int l3]) (st := []) (o := l0) dX11_feed_27 (c_X11_four hq5) mov_X11_four tw_1137 hobq5 rfl ⟨Nat.le_of_ble_eq_true rfl, Nat.le_of_ble_eq_true rfl⟩ (Nat.le_of_ble_eq_true rfl) ?_
    refine gx_aload_n 0 dX11_feed_30 rfl rfl ?_
    refine gx_iload 4 dX11_feed_31 rfl ?_
    obtain ⟨_, hobq6, h⟩ := bnd h
    obtain ⟨q6, hq6, h⟩ := bnd h
    refine gx_cVV (As := [.int l4]) (st := []) (o := l0) dX11_feed_33 (c_X11_four hq6) mov_X11_four tw_1137 hobq6 rfl ⟨Nat.le_of_ble_eq_true rfl, Nat.le_of_ble_eq_true rfl⟩ (Nat.le_of_ble_eq_true rfl) ?_
    refine gx_aload_n 0 dX11_feed_36 rfl rfl ?_
    refine gx_iload 5 dX11_feed_37 rfl ?_
    obtain ⟨_, hobq7, h⟩ := bnd h
    obtain ⟨q7, hq7, h⟩ := bnd h
    refine gx_cVV (As := [.int l5]) (st := []) (o := l0) dX11_feed_39 (c_X11_four hq7) mov_X11_four tw_1137 hobq7 rfl ⟨Nat.le_of_ble_eq_true rfl, Nat.le_of_ble_eq_true rfl⟩ (Nat.le_of_ble_eq_true rfl) ?_
    refine gx_aload_n 0 dX11_feed_42 rfl rfl ?_
    obtain ⟨x8, hx8, h⟩ := bnd h
    refine gx_getI dX11_feed_43 hx8 fl_X11_70 rfl ?_
    have h := Option.some.inj h
    subst h
    exact gx_iret dX11_feed_46 rfl (Nat.le_of_ble_eq_true rfl) (Nat.le_of_ble_eq_true rfl) ⟨rfl, rfl⟩
  · rw [if_neg c1] at h
    refine gx_iconst (v := (-1 : Int32)) dX11_feed_13 ic_m1 ?_
    have h := Option.some.inj h
    subst h
    exact gx_iret dX11_feed_14 rfl (Nat.le_of_ble_eq_true rfl) (Nat.le_of_ble_eq_true rfl) ⟨rfl, rfl⟩
theorem c_X11_feed {Γ : Cn} {τ : Mm} {N : Nat} {l0 : Nat} {l1 : Int32} {l2 : Int32} {l3 : Int32} {l4 : Int32} {l5 : Int32} {σ : Mm} {o : Int32 × Mm} (h : f_X11_feed N l0 l1 l2 l3 l4 l5 σ = some o) : Ct Γ M_X11_feed yX11_feed 100 τ [.ref (Γ.B + pp l0), .int l1, .int l2, .int l3, .int l4, .int l5] σ (PI o) := ct_of (by decide) rfl (fun _ => by first | rfl | contradiction) (Nat.le_of_ble_eq_true rfl) (s_X11_feed_0  h)
abbrev M_X11_end : Ms := (cX11_end, RX11, 2, (some .int), false, 0, 0, 0)
def f_X11_end_12 (N : Nat) (σ : Mm) : Option (Int32 × Mm) :=
  some ((-1 : Int32), σ)
def f_X11_end (N : Nat) (l0 : Nat) (l1 : Int32) (σ : Mm) : Option (Int32 × Mm) :=
  if l1 < 0 then (
    f_X11_end_12 N σ) else (
    (gI 11 1 σ l0).bind fun x2 =>
    if l1 ≤ x2 then (
      (pI 11 1 σ l0 l1).bind fun s4 =>
      some (l1, s4)) else (
      f_X11_end_12 N σ))
theorem mov_X11_end : MOV yX11_end M_X11_end 1 11 100 := ⟨⟨tw_107, tw_1144, ⟨by decide, by decide⟩, by decide +kernel⟩, tw_1142, tw_1143, by decide, ⟨_, rfl, rfl⟩, rfl⟩
set_option maxRecDepth 4000 in
theorem s_X11_end_12 {Γ : Cn} {τ : Mm} {N : Nat} {σ : Mm} {o : Int32 × Mm} (h : f_X11_end_12 N σ = some o) : Gx Γ M_X11_end 100 τ (PI o) 0 0 12 [] [] σ := by
  unfold f_X11_end_12 at h
  refine gx_iconst (v := (-1 : Int32)) dX11_end_12 ic_m1 ?_
  have h := Option.some.inj h
  subst h
  exact gx_iret dX11_end_13 rfl (Nat.le_of_ble_eq_true rfl) (Nat.le_of_ble_eq_true rfl) ⟨rfl, rfl⟩
set_option maxRecDepth 4000 in
theorem s_X11_end_0 {Γ : Cn} {τ : Mm} {N : Nat} {l0 : Nat} {l1 : Int32} {σ : Mm} {o : Int32 × Mm} (h : f_X11_end N l0 l1 σ = some o) : Gx Γ M_X11_end 100 τ (PI o) 0 0 0 [(0, .ref (Γ.B + pp l0)), (1, .int l1)] [] σ := by
  unfold f_X11_end at h
  refine gx_iload_n 1 dX11_end_0 rfl rfl ?_
  refine gx_if_lt 12 dX11_end_1 (by decide) (fun c0 => ?_) (fun c0 => ?_)
  · rw [if_pos c0] at h
    exact gx_sub [] rfl (s_X11_end_12  h)
  · rw [if_neg c0] at h
    refine gx_iload_n 1 dX11_end_4 rfl rfl ?_
    refine gx_aload_n 0 dX11_end_5 rfl rfl ?_
    obtain ⟨x2, hx2, h⟩ := bnd h
    refine gx_getI dX11_end_6 hx2 fl_X11_70 rfl ?_
    refine gx_icmp_le 14 dX11_end_9 (by decide) (fun c2 => ?_) (fun c2 => ?_)
    · rw [if_pos c2] at h
      refine gx_aload_n 0 dX11_end_14 rfl rfl ?_
      refine gx_iload_n 1 dX11_end_15 rfl rfl ?_
      obtain ⟨s4, hs4, h⟩ := bnd h
      refine gx_putI dX11_end_16 hs4 fl_X11_70 fp_X11_11_1 rfl ?_
      refine gx_iload_n 1 dX11_end_19 rfl rfl ?_
      have h := Option.some.inj h
      subst h
      exact gx_iret dX11_end_20 rfl (Nat.le_of_ble_eq_true rfl) (Nat.le_of_ble_eq_true rfl) ⟨rfl, rfl⟩
    · rw [if_neg c2] at h
      exact gx_sub [] rfl (s_X11_end_12  h)
theorem c_X11_end {Γ : Cn} {τ : Mm} {N : Nat} {l0 : Nat} {l1 : Int32} {σ : Mm} {o : Int32 × Mm} (h : f_X11_end N l0 l1 σ = some o) : Ct Γ M_X11_end yX11_end 100 τ [.ref (Γ.B + pp l0), .int l1] σ (PI o) := ct_of (by decide) rfl (fun _ => by first | rfl | contradiction) (Nat.le_of_ble_eq_true rfl) (s_X11_end_0  h)
abbrev M_X11_fails : Ms := (cX11_fails, RX11, 3, (some .boolean), false, 0, 0, 0)
def f_X11_fails_19 (N : Nat) (σ : Mm) : Option (Int32 × Mm) :=
  some ((0 : Int32), σ)
def f_X11_fails (N : Nat) (l0 : Nat) (l1 : Int32) (l2 : Int32) (σ : Mm) : Option (Int32 × Mm) :=
  (gI 11 13 σ l0).bind fun x1 =>
  if x1 = 0 then (
    (pI 11 13 σ l0 (((1 : Int32) + ((8 : Int32) * l2)) + l1)).bind fun s3 =>
    f_X11_fails_19 N s3) else (
    f_X11_fails_19 N σ)
theorem mov_X11_fails : MOV yX11_fails M_X11_fails 2 11 100 := ⟨⟨tw_107, tw_1176, ⟨by decide, by decide⟩, by decide +kernel⟩, tw_1175, tw_42, by decide, ⟨_, rfl, rfl⟩, rfl⟩
set_option maxRecDepth 4000 in
theorem s_X11_fails_19 {Γ : Cn} {τ : Mm} {N : Nat} {σ : Mm} {o : Int32 × Mm} (h : f_X11_fails_19 N σ = some o) : Gx Γ M_X11_fails 100 τ (PI o) 0 0 19 [] [] σ := by
  unfold f_X11_fails_19 at h
  refine gx_iconst (v := (0 : Int32)) dX11_fails_19 ic_0 ?_
  have h := Option.some.inj h
  subst h
  exact gx_zret dX11_fails_20 rfl rfl (Nat.le_of_ble_eq_true rfl) (Nat.le_of_ble_eq_true rfl) ⟨rfl, rfl⟩
set_option maxRecDepth 4000 in
theorem s_X11_fails_0 {Γ : Cn} {τ : Mm} {N : Nat} {l0 : Nat} {l1 : Int32} {l2 : Int32} {σ : Mm} {o : Int32 × Mm} (h : f_X11_fails N l0 l1 l2 σ = some o) : Gx Γ M_X11_fails 100 τ (PI o) 0 0 0 [(0, .ref (Γ.B + pp l0)), (1, .int l1), (2, .int l2)] [] σ := by
  unfold f_X11_fails at h
  refine gx_aload_n 0 dX11_fails_0 rfl rfl ?_
  obtain ⟨x1, hx1, h⟩ := bnd h
  refine gx_getI dX11_fails_1 hx1 fl_X11_78 rfl ?_
  refine gx_if_ne 19 dX11_fails_4 (by decide) (fun c1 => ?_) (fun c1 => ?_)
  · rw [if_neg c1] at h
    exact gx_sub [] rfl (s_X11_fails_19  h)
  · rw [if_pos c1] at h
    refine gx_aload_n 0 dX11_fails_7 rfl rfl ?_
    refine gx_iconst (v := (1 : Int32)) dX11_fails_8 ic_1 ?_
    refine gx_bipush (v := (8 : Int32)) dX11_fails_9 ib_8 ?_
    refine gx_iload_n 2 dX11_fails_11 rfl rfl ?_
    refine gx_imul dX11_fails_12 ?_
    refine gx_iadd dX11_fails_13 ?_
    refine gx_iload_n 1 dX11_fails_14 rfl rfl ?_
    refine gx_iadd dX11_fails_15 ?_
    obtain ⟨s3, hs3, h⟩ := bnd h
    refine gx_putI dX11_fails_16 hs3 fl_X11_78 fp_X11_11_13 rfl ?_
    exact gx_sub [] rfl (s_X11_fails_19  h)
theorem c_X11_fails {Γ : Cn} {τ : Mm} {N : Nat} {l0 : Nat} {l1 : Int32} {l2 : Int32} {σ : Mm} {o : Int32 × Mm} (h : f_X11_fails N l0 l1 l2 σ = some o) : Ct Γ M_X11_fails yX11_fails 100 τ [.ref (Γ.B + pp l0), .int l1, .int l2] σ (PI o) := ct_of (by decide) rfl (fun _ => by first | rfl | contradiction) (Nat.le_of_ble_eq_true rfl) (s_X11_fails_0  h)
abbrev M_X11_see : Ms := (cX11_see, RX11, 1, (some .int), false, 0, 0, 0)
def f_X11_see_66 (N : Nat) (t0 : Int32) (σ : Mm) : Option (Int32 × Mm) :=
  some (t0, σ)
def f_X11_see_38 (N : Nat) (l0 : Nat) (σ : Mm) : Option (Int32 × Mm) :=
  (gI 11 12 σ l0).bind fun x1 =>
  (gI 11 1 σ l0).bind fun x2 =>
  if x2 ≤ x1 then (
    f_X11_see_66 N (-1 : Int32) σ) else (
    (gN 11 0 σ l0).bind fun a4 =>
    (gI 11 12 σ l0).bind fun x5 =>
    (aI 112 σ a4 x5).bind fun x6 =>
    f_X11_see_66 N (x6 &&& (255 : Int32)) σ)
def f_X11_see_0 (N : Nat) : Nat → Nat → Mm → Option (Int32 × Mm)
  | 0, _, _ => none
  | n + 1, l0, σ =>
      (gI 11 12 σ l0).bind fun x1 =>
      (gI 11 1 σ l0).bind fun x2 =>
      if x2 ≤ x1 then (
        f_X11_see_38 N l0 σ) else (
        (gN 11 0 σ l0).bind fun a4 =>
        (gI 11 12 σ l0).bind fun x5 =>
        (aI 112 σ a4 x5).bind fun x6 =>
        if x6 = (32 : Int32) then (
          (gI 11 12 σ l0).bind fun x8 =>
          (pI 11 12 σ l0 (x8 + (1 : Int32))).bind fun s9 =>
          f_X11_see_0 N n l0 s9) else (
          f_X11_see_38 N l0 σ))
def f_X11_see (N : Nat) (l0 : Nat) (σ : Mm) : Option (Int32 × Mm) := f_X11_see_0 N N l0 σ
theorem mov_X11_see : MOV yX11_see M_X11_see 0 11 100 := ⟨⟨tw_107, tw_1160, ⟨by decide, by decide⟩, by decide +kernel⟩, tw_1159, tw_39, by decide, ⟨_, rfl, rfl⟩, rfl⟩
set_option maxRecDepth 4000 in
theorem s_X11_see_66 {Γ : Cn} {τ : Mm} {N : Nat} {t0 : Int32} {σ : Mm} {o : Int32 × Mm} (h : f_X11_see_66 N t0 σ = some o) : Gx Γ M_X11_see 100 τ (PI o) 0 0 66 [] [.int t0] σ := by
  unfold f_X11_see_66 at h
  have h := Option.some.inj h
  subst h
  exact gx_iret dX11_see_66 rfl (Nat.le_of_ble_eq_true rfl) (Nat.le_of_ble_eq_true rfl) ⟨rfl, rfl⟩
set_option maxRecDepth 4000 in
theorem s_X11_see_38 {Γ : Cn} {τ : Mm} {N : Nat} {l0 : Nat} {σ : Mm} {o : Int32 × Mm} (h : f_X11_see_38 N l0 σ = some o) : Gx Γ M_X11_see 100 τ (PI o) 0 0 38 [(0, .ref (Γ.B + pp l0))] [] σ := by
  unfold f_X11_see_38 at h
  refine gx_aload_n 0 dX11_see_38 rfl rfl ?_
  obtain ⟨x1, hx1, h⟩ := bnd h
  refine gx_getI dX11_see_39 hx1 fl_X11_81 rfl ?_
  refine gx_aload_n 0 dX11_see_42 rfl rfl ?_
  obtain ⟨x2, hx2, h⟩ := bnd h
  refine gx_getI dX11_see_43 hx2 fl_X11_70 rfl ?_
  refine gx_icmp_ge 65 dX11_see_46 (by decide) (fun c2 => ?_) (fun c2 => ?_)
  · rw [if_pos c2] at h
    refine gx_iconst (v := (-1 : Int32)) dX11_see_65 ic_m1 ?_
    exact gx_sub [] rfl (s_X11_see_66  h)
  · rw [if_neg c2] at h
    refine gx_aload_n 0 dX11_see_49 rfl rfl ?_
    obtain ⟨a4, ha4, h⟩ := bnd h
    refine gx_getN dX11_see_50 ha4 fl_X11_7 rfl ?_
    refine gx_aload_n 0 dX11_see_53 rfl rfl ?_
    obtain ⟨x5, hx5, h⟩ := bnd h
    refine gx_getI dX11_see_54 hx5 fl_X11_81 rfl ?_
    obtain ⟨x6, hx6, h⟩ := bnd h
    refine gx_bald (kd := 112) dX11_see_57 hx6 rfl rfl ?_
    refine gx_sipush (v := (255 : Int32)) dX11_see_58 is_255 ?_
    refine gx_iand dX11_see_61 ?_
    refine gx_goto 66 dX11_see_62 (by decide) ?_
    exact gx_sub [] rfl (s_X11_see_66  h)
set_option maxRecDepth 4000 in
theorem s_X11_see_0 {Γ : Cn} {τ : Mm} {N : Nat} : ∀ (n : Nat) (l0 : Nat) (σ : Mm) (o : Int32 × Mm), f_X11_see_0 N n l0 σ = some o → Gx Γ M_X11_see 100 τ (PI o) 0 0 0 [(0, .ref (Γ.B + pp l0))] [] σ := by
  intro n
  induction n with
  | zero =>
    intro l0 σ o h
    exact absurd h (by rw [f_X11_see_0]; exact fun q => nomatch q)
  | succ n ih =>
    intro l0 σ o h
    rw [f_X11_see_0] at h
    refine gx_aload_n 0 dX11_see_0 rfl rfl ?_
    obtain ⟨x1, hx1, h⟩ := bnd h
    refine gx_getI dX11_see_1 hx1 fl_X11_81 rfl ?_
    refine gx_aload_n 0 dX11_see_4 rfl rfl ?_
    obtain ⟨x2, hx2, h⟩ := bnd h
    refine gx_getI dX11_see_5 hx2 fl_X11_70 rfl ?_
    refine gx_icmp_ge 38 dX11_see_8 (by decide) (fun c2 => ?_) (fun c2 => ?_)
    · rw [if_pos c2] at h
      exact s_X11_see_38  h
    · rw [if_neg c2] at h
      refine gx_aload_n 0 dX11_see_11 rfl rfl ?_
      obtain ⟨a4, ha4, h⟩ := bnd h
      refine gx_getN dX11_see_12 ha4 fl_X11_7 rfl ?_
      refine gx_aload_n 0 dX11_see_15 rfl rfl ?_
      obtain ⟨x5, hx5, h⟩ := bnd h
      refine gx_getI dX11_see_16 hx5 fl_X11_81 rfl ?_
      obtain ⟨x6, hx6, h⟩ := bnd h
      refine gx_bald (kd := 112) dX11_see_19 hx6 rfl rfl ?_
      refine gx_bipush (v := (32 : Int32)) dX11_see_20 ib_32 ?_
      refine gx_icmp_ne 38 dX11_see_22 (by decide) (fun c6 => ?_) (fun c6 => ?_)
      · rw [if_neg c6] at h
        exact s_X11_see_38  h
      · rw [if_pos c6] at h
        refine gx_aload_n 0 dX11_see_25 rfl rfl ?_
        refine gx_dup dX11_see_26 rfl ?_
        obtain ⟨x8, hx8, h⟩ := bnd h
        refine gx_getI dX11_see_27 hx8 fl_X11_81 rfl ?_
        refine gx_iconst (v := (1 : Int32)) dX11_see_30 ic_1 ?_
        refine gx_iadd dX11_see_31 ?_
        obtain ⟨s9, hs9, h⟩ := bnd h
        refine gx_putI dX11_see_32 hs9 fl_X11_81 fp_X11_11_12 rfl ?_
        refine gx_goto 0 dX11_see_35 (by decide) ?_
        exact ih _ _ _ h
theorem c_X11_see {Γ : Cn} {τ : Mm} {N : Nat} {l0 : Nat} {σ : Mm} {o : Int32 × Mm} (h : f_X11_see N l0 σ = some o) : Ct Γ M_X11_see yX11_see 100 τ [.ref (Γ.B + pp l0)] σ (PI o) := ct_of (by decide) rfl (fun _ => by first | rfl | contradiction) (Nat.le_of_ble_eq_true rfl) (gx_sub [0] rfl (s_X11_see_0  N _ _ _ h))
abbrev M_X11_isDigit : Ms := (cX11_isDigit, RX11, 2, (some .boolean), false, 0, 0, 0)
def f_X11_isDigit_35 (N : Nat) (t0 : Int32) (σ : Mm) : Option (Int32 × Mm) :=
  if t0 = 0 ∨ t0 = 1 then some (t0, σ) else none
def f_X11_isDigit_34 (N : Nat) (σ : Mm) : Option (Int32 × Mm) :=
  f_X11_isDigit_35 N (0 : Int32) σ
def f_X11_isDigit (N : Nat) (l0 : Nat) (l1 : Int32) (σ : Mm) : Option (Int32 × Mm) :=
  (gI 11 1 σ l0).bind fun x1 =>
  if x1 ≤ l1 then (
    f_X11_isDigit_34 N σ) else (
    (gN 11 0 σ l0).bind fun a3 =>
    (aI 112 σ a3 l1).bind fun x4 =>
    if x4 < (48 : Int32) then (
      f_X11_isDigit_34 N σ) else (
      (gN 11 0 σ l0).bind fun a6 =>
      (aI 112 σ a6 l1).bind fun x7 =>
      if (57 : Int32) < x7 then (
        f_X11_isDigit_34 N σ) else (
        f_X11_isDigit_35 N (1 : Int32) σ)))
theorem mov_X11_isDigit : MOV yX11_isDigit M_X11_isDigit 1 11 100 := ⟨⟨tw_107, tw_1200, ⟨by decide, by decide⟩, by decide +kernel⟩, tw_1199, tw_48, by decide, ⟨_, rfl, rfl⟩, rfl⟩
set_option maxRecDepth 4000 in
theorem s_X11_isDigit_35 {Γ : Cn} {τ : Mm} {N : Nat} {t0 : Int32} {σ : Mm} {o : Int32 × Mm} (h : f_X11_isDigit_35 N t0 σ = some o) : Gx Γ M_X11_isDigit 100 τ (PI o) 0 0 35 [] [.int t0] σ := by
  unfold f_X11_isDigit_35 at h
  obtain ⟨hz, h⟩ := of_if h
  have h := Option.some.inj h
  subst h
  exact gx_zret dX11_isDigit_35 rfl (nar_z hz) (Nat.le_of_ble_eq_true rfl) (Nat.le_of_ble_eq_true rfl) ⟨rfl, rfl⟩
set_option maxRecDepth 4000 in
theorem s_X11_isDigit_34 {Γ : Cn} {τ : Mm} {N : Nat} {σ : Mm} {o : Int32 × Mm} (h : f_X11_isDigit_34 N σ = some o) : Gx Γ M_X11_isDigit 100 τ (PI o) 0 0 34 [] [] σ := by
  unfold f_X11_isDigit_34 at h
  refine gx_iconst (v := (0 : Int32)) dX11_isDigit_34 ic_0 ?_
  exact s_X11_isDigit_35  h
set_option maxRecDepth 4000 in
theorem s_X11_isDigit_0 {Γ : Cn} {τ : Mm} {N : Nat} {l0 : Nat} {l1 : Int32} {σ : Mm} {o : Int32 × Mm} (h : f_X11_isDigit N l0 l1 σ = some o) : Gx Γ M_X11_isDigit 100 τ (PI o) 0 0 0 [(0, .ref (Γ.B + pp l0)), (1, .int l1)] [] σ := by
  unfold f_X11_isDigit at h
  refine gx_iload_n 1 dX11_isDigit_0 rfl rfl ?_
  refine gx_aload_n 0 dX11_isDigit_1 rfl rfl ?_
  obtain ⟨x1, hx1, h⟩ := bnd h
  refine gx_getI dX11_isDigit_2 hx1 fl_X11_70 rfl ?_
  refine gx_icmp_ge 34 dX11_isDigit_5 (by decide) (fun c1 => ?_) (fun c1 => ?_)
  · rw [if_pos c1] at h
    exact gx_sub [] rfl (s_X11_isDigit_34  h)
  · rw [if_neg c1] at h
    refine gx_aload_n 0 dX11_isDigit_8 rfl rfl ?_
    obtain ⟨a3, ha3, h⟩ := bnd h
    refine gx_getN dX11_isDigit_9 ha3 fl_X11_7 rfl ?_
    refine gx_iload_n 1 dX11_isDigit_12 rfl rfl ?_
    obtain ⟨x4, hx4, h⟩ := bnd h
    refine gx_bald (kd := 112) dX11_isDigit_13 hx4 rfl rfl ?_
    refine gx_bipush (v := (48 : Int32)) dX11_isDigit_14 ib_48 ?_
    refine gx_icmp_lt 34 dX11_isDigit_16 (by decide) (fun c4 => ?_) (fun c4 => ?_)
    · rw [if_pos c4] at h
      exact gx_sub [] rfl (s_X11_isDigit_34  h)
    · rw [if_neg c4] at h
      refine gx_aload_n 0 dX11_isDigit_19 rfl rfl ?_
      obtain ⟨a6, ha6, h⟩ := bnd h
      refine gx_getN dX11_isDigit_20 ha6 fl_X11_7 rfl ?_
      refine gx_iload_n 1 dX11_isDigit_23 rfl rfl ?_
      obtain ⟨x7, hx7, h⟩ := bnd h
      refine gx_bald (kd := 112) dX11_isDigit_24 hx7 rfl rfl ?_
      refine gx_bipush (v := (57 : Int32)) dX11_isDigit_25 ib_57 ?_
      refine gx_icmp_gt 34 dX11_isDigit_27 (by decide) (fun c7 => ?_) (fun c7 => ?_)
      · rw [if_pos c7] at h
        exact gx_sub [] rfl (s_X11_isDigit_34  h)
      · rw [if_neg c7] at h
        refine gx_iconst (v := (1 : Int32)) dX11_isDigit_30 ic_1 ?_
        refine gx_goto 35 dX11_isDigit_31 (by decide) ?_
        exact gx_sub [] rfl (s_X11_isDigit_35  h)
theorem c_X11_isDigit {Γ : Cn} {τ : Mm} {N : Nat} {l0 : Nat} {l1 : Int32} {σ : Mm} {o : Int32 × Mm} (h : f_X11_isDigit N l0 l1 σ = some o) : Ct Γ M_X11_isDigit yX11_isDigit 100 τ [.ref (Γ.B + pp l0), .int l1] σ (PI o) := ct_of (by decide) rfl (fun _ => by first | rfl | contradiction) (Nat.le_of_ble_eq_true rfl) (s_X11_isDigit_0  h)
abbrev M_X11_isLetter : Ms := (cX11_isLetter, RX11, 2, (some .boolean), false, 0, 0, 0)
def f_X11_isLetter_35 (N : Nat) (t0 : Int32) (σ : Mm) : Option (Int32 × Mm) :=
  if t0 = 0 ∨ t0 = 1 then some (t0, σ) else none
def f_X11_isLetter_34 (N : Nat) (σ : Mm) : Option (Int32 × Mm) :=
  f_X11_isLetter_35 N (0 : Int32) σ
def f_X11_isLetter (N : Nat) (l0 : Nat) (l1 : Int32) (σ : Mm) : Option (Int32 × Mm) :=
  (gI 11 1 σ l0).bind fun x1 =>
  if x1 ≤ l1 then (
    f_X11_isLetter_34 N σ) else (
    (gN 11 0 σ l0).bind fun a3 =>
    (aI 112 σ a3 l1).bind fun x4 =>
    if x4 < (97 : Int32) then (
      f_X11_isLetter_34 N σ) else (
      (gN 11 0 σ l0).bind fun a6 =>
      (aI 112 σ a6 l1).bind fun x7 =>
      if (122 : Int32) < x7 then (
        f_X11_isLetter_34 N σ) else (
        f_X11_isLetter_35 N (1 : Int32) σ)))
theorem mov_X11_isLetter : MOV yX11_isLetter M_X11_isLetter 1 11 100 := ⟨⟨tw_107, tw_1169, ⟨by decide, by decide⟩, by decide +kernel⟩, tw_1168, tw_41, by decide, ⟨_, rfl, rfl⟩, rfl⟩
set_option maxRecDepth 4000 in
theorem s_X11_isLetter_35 {Γ : Cn} {τ : Mm} {N : Nat} {t0 : Int32} {σ : Mm} {o : Int32 × Mm} (h : f_X11_isLetter_35 N t0 σ = some o) : Gx Γ M_X11_isLetter 100 τ (PI o) 0 0 35 [] [.int t0] σ := by
  unfold f_X11_isLetter_35 at h
  obtain ⟨hz, h⟩ := of_if h
  have h := Option.some.inj h
  subst h
  exact gx_zret dX11_isLetter_35 rfl (nar_z hz) (Nat.le_of_ble_eq_true rfl) (Nat.le_of_ble_eq_true rfl) ⟨rfl, rfl⟩
set_option maxRecDepth 4000 in
theorem s_X11_isLetter_34 {Γ : Cn} {τ : Mm} {N : Nat} {σ : Mm} {o : Int32 × Mm} (h : f_X11_isLetter_34 N σ = some o) : Gx Γ M_X11_isLetter 100 τ (PI o) 0 0 34 [] [] σ := by
  unfold f_X11_isLetter_34 at h
  refine gx_iconst (v := (0 : Int32)) dX11_isLetter_34 ic_0 ?_
  exact s_X11_isLetter_35  h
set_option maxRecDepth 4000 in
theorem s_X11_isLetter_0 {Γ : Cn} {τ : Mm} {N : Nat} {l0 : Nat} {l1 : Int32} {σ : Mm} {o : Int32 × Mm} (h : f_X11_isLetter N l0 l1 σ = some o) : Gx Γ M_X11_isLetter 100 τ (PI o) 0 0 0 [(0, .ref (Γ.B + pp l0)), (1, .int l1)] [] σ := by
  unfold f_X11_isLetter at h
  refine gx_iload_n 1 dX11_isLetter_0 rfl rfl ?_
  refine gx_aload_n 0 dX11_isLetter_1 rfl rfl ?_
  obtain ⟨x1, hx1, h⟩ := bnd h
  refine gx_getI dX11_isLetter_2 hx1 fl_X11_70 rfl ?_
  refine gx_icmp_ge 34 dX11_isLetter_5 (by decide) (fun c1 => ?_) (fun c1 => ?_)
  · rw [if_pos c1] at h
    exact gx_sub [] rfl (s_X11_isLetter_34  h)
  · rw [if_neg c1] at h
    refine gx_aload_n 0 dX11_isLetter_8 rfl rfl ?_
    obtain ⟨a3, ha3, h⟩ := bnd h
    refine gx_getN dX11_isLetter_9 ha3 fl_X11_7 rfl ?_
    refine gx_iload_n 1 dX11_isLetter_12 rfl rfl ?_
    obtain ⟨x4, hx4, h⟩ := bnd h
    refine gx_bald (kd := 112) dX11_isLetter_13 hx4 rfl rfl ?_
    refine gx_bipush (v := (97 : Int32)) dX11_isLetter_14 ib_97 ?_
    refine gx_icmp_lt 34 dX11_isLetter_16 (by decide) (fun c4 => ?_) (fun c4 => ?_)
    · rw [if_pos c4] at h
      exact gx_sub [] rfl (s_X11_isLetter_34  h)
    · rw [if_neg c4] at h
      refine gx_aload_n 0 dX11_isLetter_19 rfl rfl ?_
      obtain ⟨a6, ha6, h⟩ := bnd h
      refine gx_getN dX11_isLetter_20 ha6 fl_X11_7 rfl ?_
      refine gx_iload_n 1 dX11_isLetter_23 rfl rfl ?_
      obtain ⟨x7, hx7, h⟩ := bnd h
      refine gx_bald (kd := 112) dX11_isLetter_24 hx7 rfl rfl ?_
      refine gx_bipush (v := (122 : Int32)) dX11_isLetter_25 ib_122 ?_
      refine gx_icmp_gt 34 dX11_isLetter_27 (by decide) (fun c7 => ?_) (fun c7 => ?_)
      · rw [if_pos c7] at h
        exact gx_sub [] rfl (s_X11_isLetter_34  h)
      · rw [if_neg c7] at h
        refine gx_iconst (v := (1 : Int32)) dX11_isLetter_30 ic_1 ?_
        refine gx_goto 35 dX11_isLetter_31 (by decide) ?_
        exact gx_sub [] rfl (s_X11_isLetter_35  h)
theorem c_X11_isLetter {Γ : Cn} {τ : Mm} {N : Nat} {l0 : Nat} {l1 : Int32} {σ : Mm} {o : Int32 × Mm} (h : f_X11_isLetter N l0 l1 σ = some o) : Ct Γ M_X11_isLetter yX11_isLetter 100 τ [.ref (Γ.B + pp l0), .int l1] σ (PI o) := ct_of (by decide) rfl (fun _ => by first | rfl | contradiction) (Nat.le_of_ble_eq_true rfl) (s_X11_isLetter_0  h)
abbrev M_X11_isWord : Ms := (cX11_isWord, RX11, 6, (some .boolean), false, 0, 0, 1)
def f_X11_isWord_50 (N : Nat) (r_10 : Nat → Int64 → Int64 → Int32 → Mm → Option (Int32 × Mm)) (l0 : Nat) (l1 : Int64) (l3 : Int64) (l5 : Int32) (σ : Mm) : Option (Int32 × Mm) :=
  r_10 l0 l1 l3 (l5 + (1 : Int32)) σ
def f_X11_isWord_79 (N : Nat) (t0 : Int32) (σ : Mm) : Option (Int32 × Mm) :=
  if t0 = 0 ∨ t0 = 1 then some (t0, σ) else none
def f_X11_isWord_78 (N : Nat) (σ : Mm) : Option (Int32 × Mm) :=
  f_X11_isWord_79 N (0 : Int32) σ
def f_X11_isWord_10 (N : Nat) : Nat → Nat → Int64 → Int64 → Int32 → Mm → Option (Int32 × Mm)
  | 0, _, _, _, _, _ => none
  | n + 1, l0, l1, l3, l5, σ =>
      (gI 11 12 σ l0).bind fun x1 =>
      (ob 11 σ l0).bind fun _ =>
      (f_X11_isLetter N l0 (x1 + l5) σ).bind fun q2 =>
      if q2.1 = 0 then (
        if l5 ≤ 0 then (
          f_X11_isWord_78 N q2.2) else (
          if (8 : Int32) ≤ l5 then (
            f_X11_isWord_78 N q2.2) else (
            if (lg_cmp l3 l1) = 0 then (
              f_X11_isWord_79 N (1 : Int32) q2.2) else (
              f_X11_isWord_78 N q2.2)))) else (
        if (8 : Int32) ≤ l5 then (
          f_X11_isWord_50 N (f_X11_isWord_10 N n) l0 l1 l3 l5 q2.2) else (
          (gN 11 0 q2.2 l0).bind fun a8 =>
          (gI 11 12 q2.2 l0).bind fun x9 =>
          (aI 112 q2.2 a8 (x9 + l5)).bind fun x10 =>
          f_X11_isWord_50 N (f_X11_isWord_10 N n) l0 l1 ((l3 <<< (Int32.toInt64 (8 : Int32) &&& 63)) ||| (Int32.toInt64 x10)) l5 q2.2))
def f_X11_isWord (N : Nat) (l0 : Nat) (l1 : Int64) (σ : Mm) : Option (Int32 × Mm) :=
  (ob 11 σ l0).bind fun _ =>
  (f_X11_see N l0 σ).bind fun q1 =>
  f_X11_isWord_10 N N l0 l1 (0 : Int64) (0 : Int32) q1.2
theorem mov_X11_isWord : MOV yX11_isWord M_X11_isWord 1 11 100 := ⟨⟨tw_107, tw_1165, ⟨by decide, by decide⟩, by decide +kernel⟩, tw_1164, tw_40, by decide, ⟨_, rfl, rfl⟩, rfl⟩
set_option maxRecDepth 4000 in
theorem s_X11_isWord_50 {Γ : Cn} {τ : Mm} {N : Nat} {r_10 : Nat → Int64 → Int64 → Int32 → Mm → Option (Int32 × Mm)} (hr_10 : ∀ (l0 : Nat) (l1 : Int64) (l3 : Int64) (l5 : Int32) (σ : Mm) (o : Int32 × Mm), r_10 l0 l1 l3 l5 σ = some o → Gx Γ M_X11_isWord 100 τ (PI o) 0 0 10 [(0, .ref (Γ.B + pp l0)), (1, .long l1), (3, .long l3), (5, .int l5)] [] σ) {l0 : Nat} {l1 : Int64} {l3 : Int64} {l5 : Int32} {σ : Mm} {o : Int32 × Mm} (h : f_X11_isWord_50 N r_10 l0 l1 l3 l5 σ = some o) : Gx Γ M_X11_isWord 100 τ (PI o) 0 0 50 [(0, .ref (Γ.B + pp l0)), (1, .long l1), (3, .long l3), (5, .int l5)] [] σ := by
  unfold f_X11_isWord_50 at h
  refine gx_iinc (v := (l5 + (1 : Int32))) (lv' := [(5, .int (l5 + (1 : Int32))), (0, .ref (Γ.B + pp l0)), (1, .long l1), (3, .long l3)]) 3 dX11_isWord_50 rfl (by rw [ic_1]) (Nat.le_of_ble_eq_true rfl) rfl ?_
  refine gx_goto 10 dX11_isWord_53 (by decide) ?_
  exact gx_sub [1, 2, 3, 0] rfl (hr_10 _ _ _ _ _ _ h)
set_option maxRecDepth 4000 in
theorem s_X11_isWord_79 {Γ : Cn} {τ : Mm} {N : Nat} {t0 : Int32} {σ : Mm} {o : Int32 × Mm} (h : f_X11_isWord_79 N t0 σ = some o) : Gx Γ M_X11_isWord 100 τ (PI o) 0 0 79 [] [.int t0] σ := by
  unfold f_X11_isWord_79 at h
  obtain ⟨hz, h⟩ := of_if h
  have h := Option.some.inj h
  subst h
  exact gx_zret dX11_isWord_79 rfl (nar_z hz) (Nat.le_of_ble_eq_true rfl) (Nat.le_of_ble_eq_true rfl) ⟨rfl, rfl⟩
set_option maxRecDepth 4000 in
theorem s_X11_isWord_78 {Γ : Cn} {τ : Mm} {N : Nat} {σ : Mm} {o : Int32 × Mm} (h : f_X11_isWord_78 N σ = some o) : Gx Γ M_X11_isWord 100 τ (PI o) 0 0 78 [] [] σ := by
  unfold f_X11_isWord_78 at h
  refine gx_iconst (v := (0 : Int32)) dX11_isWord_78 ic_0 ?_
  exact s_X11_isWord_79  h
set_option maxRecDepth 4000 in
theorem s_X11_isWord_10 {Γ : Cn} {τ : Mm} {N : Nat} : ∀ (n : Nat) (l0 : Nat) (l1 : Int64) (l3 : Int64) (l5 : Int32) (σ : Mm) (o : Int32 × Mm), f_X11_isWord_10 N n l0 l1 l3 l5 σ = some o → Gx Γ M_X11_isWord 100 τ (PI o) 0 0 10 [(0, .ref (Γ.B + pp l0)), (1, .long l1), (3, .long l3), (5, .int l5)] [] σ := by
  intro n
  induction n with
  | zero =>
    intro l0 l1 l3 l5 σ o h
    exact absurd h (by rw [f_X11_isWord_10]; exact fun q => nomatch q)
  | succ n ih =>
    intro l0 l1 l3 l5 σ o h
    rw [f_X11_isWord_10] at h
    refine gx_aload_n 0 dX11_isWord_10 rfl rfl ?_
    refine gx_aload_n 0 dX11_isWord_11 rfl rfl ?_
    obtain ⟨x1, hx1, h⟩ := bnd h
    refine gx_getI dX11_isWord_12 hx1 fl_X11_81 rfl ?_
    refine gx_iload 3 dX11_isWord_15 rfl ?_
    refine gx_iadd dX11_isWord_17 ?_
    obtain ⟨_, hobq2, h⟩ := bnd h
    obtain ⟨q2, hq2, h⟩ := bnd h
    refine gx_cVI (As := [.int (x1 + l5)]) (st := []) (o := l0) dX11_isWord_18 (c_X11_isLetter hq2) mov_X11_isLetter tw_1166 hobq2 rfl ⟨Nat.le_of_ble_eq_true rfl, Nat.le_of_ble_eq_true rfl⟩ (Nat.le_of_ble_eq_true rfl) ?_
    refine gx_if_eq 56 dX11_isWord_21 (by decide) (fun c2 => ?_) (fun c2 => ?_)
    · rw [if_pos c2] at h
      refine gx_iload 3 dX11_isWord_56 rfl ?_
      refine gx_if_le 78 dX11_isWord_58 (by decide) (fun c3 => ?_) (fun c3 => ?_)
      · rw [if_pos c3] at h
        exact gx_sub [] rfl (s_X11_isWord_78  h)
      · rw [if_neg c3] at h
        refine gx_iload 3 dX11_isWord_61 rfl ?_
        refine gx_bipush (v := (8 : Int32)) dX11_isWord_63 ib_8 ?_
        refine gx_icmp_ge 78 dX11_isWord_65 (by decide) (fun c4 => ?_) (fun c4 => ?_)
        · rw [if_pos c4] at h
          exact gx_sub [] rfl (s_X11_isWord_78  h)
        · rw [if_neg c4] at h
          refine gx_lload_n 2 dX11_isWord_68 rfl rfl ?_
          refine gx_lload_n 1 dX11_isWord_69 rfl rfl ?_
          refine gx_lcmp dX11_isWord_70 ?_
          refine gx_if_ne 78 dX11_isWord_71 (by decide) (fun c5 => ?_) (fun c5 => ?_)
          · rw [if_neg c5] at h
            exact gx_sub [] rfl (s_X11_isWord_78  h)
          · rw [if_pos c5] at h
            refine gx_iconst (v := (1 : Int32)) dX11_isWord_74 ic_1 ?_
            refine gx_goto 79 dX11_isWord_75 (by decide) ?_
            exact gx_sub [] rfl (s_X11_isWord_79  h)
    · rw [if_neg c2] at h
      refine gx_iload 3 dX11_isWord_24 rfl ?_
      refine gx_bipush (v := (8 : Int32)) dX11_isWord_26 ib_8 ?_
      refine gx_icmp_ge 50 dX11_isWord_28 (by decide) (fun c6 => ?_) (fun c6 => ?_)
      · rw [if_pos c6] at h
        exact s_X11_isWord_50 ih h
      · rw [if_neg c6] at h
        refine gx_lload_n 2 dX11_isWord_31 rfl rfl ?_
        refine gx_bipush (v := (8 : Int32)) dX11_isWord_32 ib_8 ?_
        refine gx_lshl dX11_isWord_34 ?_
        refine gx_aload_n 0 dX11_isWord_35 rfl rfl ?_
        obtain ⟨a8, ha8, h⟩ := bnd h
        refine gx_getN dX11_isWord_36 ha8 fl_X11_7 rfl ?_
        refine gx_aload_n 0 dX11_isWord_39 rfl rfl ?_
        obtain ⟨x9, hx9, h⟩ := bnd h
        refine gx_getI dX11_isWord_40 hx9 fl_X11_81 rfl ?_
        refine gx_iload 3 dX11_isWord_43 rfl ?_
        refine gx_iadd dX11_isWord_45 ?_
        obtain ⟨x10, hx10, h⟩ := bnd h
        refine gx_bald (kd := 112) dX11_isWord_46 hx10 rfl rfl ?_
        refine gx_i2l dX11_isWord_47 ?_
        refine gx_lor dX11_isWord_48 ?_
        refine gx_lstore_n (lv' := [(3, .long ((l3 <<< (Int32.toInt64 (8 : Int32) &&& 63)) ||| (Int32.toInt64 x10))), (0, .ref (Γ.B + pp l0)), (1, .long l1), (5, .int l5)]) dX11_isWord_49 rfl (Nat.le_of_ble_eq_true rfl) rfl ?_
        exact gx_sub [1, 2, 0, 3] rfl (s_X11_isWord_50 ih h)
set_option maxRecDepth 4000 in
theorem s_X11_isWord_0 {Γ : Cn} {τ : Mm} {N : Nat} {l0 : Nat} {l1 : Int64} {σ : Mm} {o : Int32 × Mm} (h : f_X11_isWord N l0 l1 σ = some o) : Gx Γ M_X11_isWord 100 τ (PI o) 0 0 0 [(0, .ref (Γ.B + pp l0)), (1, .long l1)] [] σ := by
  unfold f_X11_isWord at h
  refine gx_aload_n 0 dX11_isWord_0 rfl rfl ?_
  obtain ⟨_, hobq1, h⟩ := bnd h
  obtain ⟨q1, hq1, h⟩ := bnd h
  refine gx_cVI (As := []) (st := []) (o := l0) dX11_isWord_1 (c_X11_see hq1) mov_X11_see tw_1157 hobq1 rfl ⟨Nat.le_of_ble_eq_true rfl, Nat.le_of_ble_eq_true rfl⟩ (Nat.le_of_ble_eq_true rfl) ?_
  refine gx_pop dX11_isWord_4 rfl ?_
  refine gx_lconst (v := (0 : Int64)) dX11_isWord_5 (by decide) ?_
  refine gx_lstore_n (lv' := [(3, .long (0 : Int64)), (0, .ref (Γ.B + pp l0)), (1, .long l1)]) dX11_isWord_6 rfl (Nat.le_of_ble_eq_true rfl) rfl ?_
  refine gx_iconst (v := (0 : Int32)) dX11_isWord_7 ic_0 ?_
  refine gx_istore (lv' := [(5, .int (0 : Int32)), (3, .long (0 : Int64)), (0, .ref (Γ.B + pp l0)), (1, .long l1)]) dX11_isWord_8 (Nat.le_of_ble_eq_true rfl) rfl ?_
  exact gx_sub [2, 3, 1, 0] rfl (s_X11_isWord_10  N _ _ _ _ _ _ h)
theorem c_X11_isWord {Γ : Cn} {τ : Mm} {N : Nat} {l0 : Nat} {l1 : Int64} {σ : Mm} {o : Int32 × Mm} (h : f_X11_isWord N l0 l1 σ = some o) : Ct Γ M_X11_isWord yX11_isWord 100 τ [.ref (Γ.B + pp l0), .long l1] σ (PI o) := ct_of (by decide) rfl (fun _ => by first | rfl | contradiction) (Nat.le_of_ble_eq_true rfl) (s_X11_isWord_0  h)
abbrev M_X11_passWord : Ms := (cX11_passWord, RX11, 1, none, false, 0, 0, 1)
def f_X11_passWord_0 (N : Nat) : Nat → Nat → Mm → Option Mm
  | 0, _, _ => none
  | n + 1, l0, σ =>
      (gI 11 12 σ l0).bind fun x1 =>
      (ob 11 σ l0).bind fun _ =>
      (f_X11_isLetter N l0 x1 σ).bind fun q2 =>
      if q2.1 = 0 then (
        some q2.2) else (
        (gI 11 12 q2.2 l0).bind fun x4 =>
        (pI 11 12 q2.2 l0 (x4 + (1 : Int32))).bind fun s5 =>
        f_X11_passWord_0 N n l0 s5)
def f_X11_passWord (N : Nat) (l0 : Nat) (σ : Mm) : Option Mm := f_X11_passWord_0 N N l0 σ
theorem mov_X11_passWord : MOV yX11_passWord M_X11_passWord 0 11 100 := ⟨⟨tw_107, tw_1184, ⟨by decide, by decide⟩, by decide +kernel⟩, tw_1183, tw_44, by decide, ⟨_, rfl, rfl⟩, rfl⟩
set_option maxRecDepth 4000 in
theorem s_X11_passWord_0 {Γ : Cn} {τ : Mm} {N : Nat} : ∀ (n : Nat) (l0 : Nat) (σ : Mm) (o : Mm), f_X11_passWord_0 N n l0 σ = some o → Gx Γ M_X11_passWord 100 τ (PV o) 0 0 0 [(0, .ref (Γ.B + pp l0))] [] σ := by
  intro n
  induction n with
  | zero =>
    intro l0 σ o h
    exact absurd h (by rw [f_X11_passWord_0]; exact fun q => nomatch q)
  | succ n ih =>
    intro l0 σ o h
    rw [f_X11_passWord_0] at h
    refine gx_aload_n 0 dX11_passWord_0 rfl rfl ?_
    refine gx_aload_n 0 dX11_passWord_1 rfl rfl ?_
    obtain ⟨x1, hx1, h⟩ := bnd h
    refine gx_getI dX11_passWord_2 hx1 fl_X11_81 rfl ?_
    obtain ⟨_, hobq2, h⟩ := bnd h
    obtain ⟨q2, hq2, h⟩ := bnd h
    refine gx_cVI (As := [.int x1]) (st := []) (o := l0) dX11_passWord_5 (c_X11_isLetter hq2) mov_X11_isLetter tw_1166 hobq2 rfl ⟨Nat.le_of_ble_eq_true rfl, Nat.le_of_ble_eq_true rfl⟩ (Nat.le_of_ble_eq_true rfl) ?_
    refine gx_if_eq 24 dX11_passWord_8 (by decide) (fun c2 => ?_) (fun c2 => ?_)
    · rw [if_pos c2] at h
      have h := Option.some.inj h
      subst h
      exact gx_vret dX11_passWord_24 rfl (Nat.le_of_ble_eq_true rfl) (Nat.le_of_ble_eq_true rfl) ⟨rfl, rfl⟩
    · rw [if_neg c2] at h
      refine gx_aload_n 0 dX11_passWord_11 rfl rfl ?_
      refine gx_dup dX11_passWord_12 rfl ?_
      obtain ⟨x4, hx4, h⟩ := bnd h
      refine gx_getI dX11_passWord_13 hx4 fl_X11_81 rfl ?_
      refine gx_iconst (v := (1 : Int32)) dX11_passWord_16 ic_1 ?_
      refine gx_iadd dX11_passWord_17 ?_
      obtain ⟨s5, hs5, h⟩ := bnd h
      refine gx_putI dX11_passWord_18 hs5 fl_X11_81 fp_X11_11_12 rfl ?_
      refine gx_goto 0 dX11_passWord_21 (by decide) ?_
      exact ih _ _ _ h
theorem c_X11_passWord {Γ : Cn} {τ : Mm} {N : Nat} {l0 : Nat} {σ : Mm} {o : Mm} (h : f_X11_passWord N l0 σ = some o) : Ct Γ M_X11_passWord yX11_passWord 100 τ [.ref (Γ.B + pp l0)] σ (PV o) := ct_of (by decide) rfl (fun _ => by first | rfl | contradiction) (Nat.le_of_ble_eq_true rfl) (gx_sub [0] rfl (s_X11_passWord_0  N _ _ _ h))
abbrev M_X11_takesWord : Ms := (cX11_takesWord, RX11, 3, (some .boolean), false, 0, 0, 2)
def f_X11_takesWord (N : Nat) (l0 : Nat) (l1 : Int64) (σ : Mm) : Option (Int32 × Mm) :=
  (ob 11 σ l0).bind fun _ =>
  (f_X11_isWord N l0 l1 σ).bind fun q1 =>
  if q1.1 = 0 then (
    some ((0 : Int32), q1.2)) else (
    (ob 11 q1.2 l0).bind fun _ =>
    (f_X11_passWord N l0 q1.2).bind fun q3 =>
    some ((1 : Int32), q3))
theorem mov_X11_takesWord : MOV yX11_takesWord M_X11_takesWord 1 11 100 := ⟨⟨tw_107, tw_1233, ⟨by decide, by decide⟩, by decide +kernel⟩, tw_1232, tw_53, by decide, ⟨_, rfl, rfl⟩, rfl⟩
set_option maxRecDepth 4000 in
theorem s_X11_takesWord_0 {Γ : Cn} {τ : Mm} {N : Nat} {l0 : Nat} {l1 : Int64} {σ : Mm} {o : Int32 × Mm} (h : f_X11_takesWord N l0 l1 σ = some o) : Gx Γ M_X11_takesWord 100 τ (PI o) 0 0 0 [(0, .ref (Γ.B + pp l0)), (1, .long l1)] [] σ := by
  unfold f_X11_takesWord at h
  refine gx_aload_n 0 dX11_takesWord_0 rfl rfl ?_
  refine gx_lload_n 1 dX11_takesWord_1 rfl rfl ?_
  obtain ⟨_, hobq1, h⟩ := bnd h
  obtain ⟨q1, hq1, h⟩ := bnd h
  refine gx_cVI (As := [.long l1]) (st := []) (o := l0) dX11_takesWord_2 (c_X11_isWord hq1) mov_X11_isWord tw_1162 hobq1 rfl ⟨Nat.le_of_ble_eq_true rfl, Nat.le_of_ble_eq_true rfl⟩ (Nat.le_of_ble_eq_true rfl) ?_
  refine gx_if_ne 10 dX11_takesWord_5 (by decide) (fun c1 => ?_) (fun c1 => ?_)
  · rw [if_neg c1] at h
    refine gx_aload_n 0 dX11_takesWord_10 rfl rfl ?_
    obtain ⟨_, hobq3, h⟩ := bnd h
    obtain ⟨q3, hq3, h⟩ := bnd h
    refine gx_cVV (As := []) (st := []) (o := l0) dX11_takesWord_11 (c_X11_passWord hq3) mov_X11_passWord tw_1181 hobq3 rfl ⟨Nat.le_of_ble_eq_true rfl, Nat.le_of_ble_eq_true rfl⟩ (Nat.le_of_ble_eq_true rfl) ?_
    refine gx_iconst (v := (1 : Int32)) dX11_takesWord_14 ic_1 ?_
    have h := Option.some.inj h
    subst h
    exact gx_zret dX11_takesWord_15 rfl rfl (Nat.le_of_ble_eq_true rfl) (Nat.le_of_ble_eq_true rfl) ⟨rfl, rfl⟩
  · rw [if_pos c1] at h
    refine gx_iconst (v := (0 : Int32)) dX11_takesWord_8 ic_0 ?_
    have h := Option.some.inj h
    subst h
    exact gx_zret dX11_takesWord_9 rfl rfl (Nat.le_of_ble_eq_true rfl) (Nat.le_of_ble_eq_true rfl) ⟨rfl, rfl⟩
theorem c_X11_takesWord {Γ : Cn} {τ : Mm} {N : Nat} {l0 : Nat} {l1 : Int64} {σ : Mm} {o : Int32 × Mm} (h : f_X11_takesWord N l0 l1 σ = some o) : Ct Γ M_X11_takesWord yX11_takesWord 100 τ [.ref (Γ.B + pp l0), .long l1] σ (PI o) := ct_of (by decide) rfl (fun _ => by first | rfl | contradiction) (Nat.le_of_ble_eq_true rfl) (s_X11_takesWord_0  h)
abbrev M_X11_numberHere : Ms := (cX11_numberHere, RX11, 5, (some .boolean), false, 0, 0, 1)
def f_X11_numberHere_75 (N : Nat) (r_34 : Nat → Int32 → Int32 → Int32 → Int32 → Mm → Option (Int32 × Mm)) (l0 : Nat) (l1 : Int32) (l2 : Int32) (l3 : Int32) (l4 : Int32) (σ : Mm) : Option (Int32 × Mm) :=
  (gI 11 12 σ l0).bind fun x1 =>
  (pI 11 12 σ l0 (x1 + (1 : Int32))).bind fun s2 =>
  r_34 l0 l1 l2 l3 l4 s2
def f_X11_numberHere_131 (N : Nat) (t0 : Int32) (σ : Mm) : Option (Int32 × Mm) :=
  if t0 = 0 ∨ t0 = 1 then some (t0, σ) else none
def f_X11_numberHere_126 (N : Nat) (σ : Mm) : Option (Int32 × Mm) :=
  f_X11_numberHere_131 N (1 : Int32) σ
def f_X11_numberHere_117 (N : Nat) (l0 : Nat) (l3 : Int32) (σ : Mm) : Option (Int32 × Mm) :=
  (ob 11 σ l0).bind fun _ =>
  (f_X11_fails N l0 (1 : Int32) l3 σ).bind fun q1 =>
  if q1.1 = 0 then (
    f_X11_numberHere_131 N (0 : Int32) q1.2) else (
    f_X11_numberHere_126 N q1.2)
def f_X11_numberHere_34 (N : Nat) : Nat → Nat → Int32 → Int32 → Int32 → Int32 → Mm → Option (Int32 × Mm)
  | 0, _, _, _, _, _, _ => none
  | n + 1, l0, l1, l2, l3, l4, σ =>
      (gI 11 12 σ l0).bind fun x1 =>
      (ob 11 σ l0).bind fun _ =>
      (f_X11_isDigit N l0 x1 σ).bind fun q2 =>
      if q2.1 = 0 then (
        (pI 11 14 q2.2 l0 l4).bind fun s4 =>
        (gI 11 12 s4 l0).bind fun x5 =>
        if (5 : Int32) < (x5 - l3) then (
          f_X11_numberHere_117 N l0 l3 s4) else (
          (f_X11_in N (Int32.toInt64 l4) (Int32.toInt64 l1) (Int32.toInt64 l2) s4).bind fun q7 =>
          if q7.1 = 0 then (
            f_X11_numberHere_117 N l0 l3 q7.2) else (
            f_X11_numberHere_126 N q7.2))) else (
        (gI 11 12 q2.2 l0).bind fun x9 =>
        if (5 : Int32) ≤ (x9 - l3) then (
          f_X11_numberHere_75 N (f_X11_numberHere_34 N n) l0 l1 l2 l3 l4 q2.2) else (
          (gN 11 0 q2.2 l0).bind fun a11 =>
          (gI 11 12 q2.2 l0).bind fun x12 =>
          (aI 112 q2.2 a11 x12).bind fun x13 =>
          f_X11_numberHere_75 N (f_X11_numberHere_34 N n) l0 l1 l2 l3 ((((10 : Int32) * l4) + x13) - (48 : Int32)) q2.2))
def f_X11_numberHere (N : Nat) (l0 : Nat) (l1 : Int32) (l2 : Int32) (σ : Mm) : Option (Int32 × Mm) :=
  (ob 11 σ l0).bind fun _ =>
  (f_X11_see N l0 σ).bind fun q1 =>
  (gI 11 12 q1.2 l0).bind fun x2 =>
  (ob 11 q1.2 l0).bind fun _ =>
  (f_X11_isDigit N l0 x2 q1.2).bind fun q3 =>
  if q3.1 = 0 then (
    (gI 11 12 q3.2 l0).bind fun x6 =>
    (ob 11 q3.2 l0).bind fun _ =>
    (f_X11_fails N l0 (0 : Int32) x6 q3.2).bind fun q7 =>
    if q7.1 = 0 ∨ q7.1 = 1 then some (q7.1, q7.2) else none) else (
    (gI 11 12 q3.2 l0).bind fun x5 =>
    f_X11_numberHere_34 N N l0 l1 l2 x5 (0 : Int32) q3.2)
theorem mov_X11_numberHere : MOV yX11_numberHere M_X11_numberHere 2 11 100 := ⟨⟨tw_107, tw_1205, ⟨by decide, by decide⟩, by decide +kernel⟩, tw_1204, tw_49, by decide, ⟨_, rfl, rfl⟩, rfl⟩
set_option maxRecDepth 4000 in
theorem s_X11_numberHere_75 {Γ : Cn} {τ : Mm} {N : Nat} {r_34 : Nat → Int32 → Int32 → Int32 → Int32 → Mm → Option (Int32 × Mm)} (hr_34 : ∀ (l0 : Nat) (l1 : Int32) (l2 : Int32) (l3 : Int32) (l4 : Int32) (σ : Mm) (o : Int32 × Mm), r_34 l0 l1 l2 l3 l4 σ = some o → Gx Γ M_X11_numberHere 100 τ (PI o) 0 0 34 [(0, .ref (Γ.B + pp l0)), (1, .int l1), (2, .int l2), (3, .int l3), (4, .int l4)] [] σ) {l0 : Nat} {l1 : Int32} {l2 : Int32} {l3 : Int32} {l4 : Int32} {σ : Mm} {o : Int32 × Mm} (h : f_X11_numberHere_75 N r_34 l0 l1 l2 l3 l4 σ = some o) : Gx Γ M_X11_numberHere 100 τ (PI o) 0 0 75 [(0, .ref (Γ.B + pp l0)), (1, .int l1), (2, .int l2), (3, .int l3), (4, .int l4)] [] σ := by
  unfold f_X11_numberHere_75 at h
  refine gx_aload_n 0 dX11_numberHere_75 rfl rfl ?_
  refine gx_dup dX11_numberHere_76 rfl ?_
  obtain ⟨x1, hx1, h⟩ := bnd h
  refine gx_getI dX11_numberHere_77 hx1 fl_X11_81 rfl ?_
  refine gx_iconst (v := (1 : Int32)) dX11_numberHere_80 ic_1 ?_
  refine gx_iadd dX11_numberHere_81 ?_
  obtain ⟨s2, hs2, h⟩ := bnd h
  refine gx_putI dX11_numberHere_82 hs2 fl_X11_81 fp_X11_11_12 rfl ?_
  refine gx_goto 34 dX11_numberHere_85 (by decide) ?_
  exact hr_34 _ _ _ _ _ _ _ h
set_option maxRecDepth 4000 in
theorem s_X11_numberHere_131 {Γ : Cn} {τ : Mm} {N : Nat} {t0 : Int32} {σ : Mm} {o : Int32 × Mm} (h : f_X11_numberHere_131 N t0 σ = some o) : Gx Γ M_X11_numberHere 100 τ (PI o) 0 0 131 [] [.int t0] σ := by
  unfold f_X11_numberHere_131 at h
  obtain ⟨hz, h⟩ := of_if h
  have h := Option.some.inj h
  subst h
  exact gx_zret dX11_numberHere_131 rfl (nar_z hz) (Nat.le_of_ble_eq_true rfl) (Nat.le_of_ble_eq_true rfl) ⟨rfl, rfl⟩
set_option maxRecDepth 4000 in
theorem s_X11_numberHere_126 {Γ : Cn} {τ : Mm} {N : Nat} {σ : Mm} {o : Int32 × Mm} (h : f_X11_numberHere_126 N σ = some o) : Gx Γ M_X11_numberHere 100 τ (PI o) 0 0 126 [] [] σ := by
  unfold f_X11_numberHere_126 at h
  refine gx_iconst (v := (1 : Int32)) dX11_numberHere_126 ic_1 ?_
  refine gx_goto 131 dX11_numberHere_127 (by decide) ?_
  exact s_X11_numberHere_131  h
set_option maxRecDepth 4000 in
theorem s_X11_numberHere_117 {Γ : Cn} {τ : Mm} {N : Nat} {l0 : Nat} {l3 : Int32} {σ : Mm} {o : Int32 × Mm} (h : f_X11_numberHere_117 N l0 l3 σ = some o) : Gx Γ M_X11_numberHere 100 τ (PI o) 0 0 117 [(0, .ref (Γ.B + pp l0)), (3, .int l3)] [] σ := by
  unfold f_X11_numberHere_117 at h
  refine gx_aload_n 0 dX11_numberHere_117 rfl rfl ?_
  refine gx_iconst (v := (1 : Int32)) dX11_numberHere_118 ic_1 ?_
  refine gx_iload_n 1 dX11_numberHere_119 rfl rfl ?_
  obtain ⟨_, hobq1, h⟩ := bnd h
  obtain ⟨q1, hq1, h⟩ := bnd h
  refine gx_cVI (As := [.int (1 : Int32), .int l3]) (st := []) (o := l0) dX11_numberHere_120 (c_X11_fails hq1) mov_X11_fails tw_1173 hobq1 rfl ⟨Nat.le_of_ble_eq_true rfl, Nat.le_of_ble_eq_true rfl⟩ (Nat.le_of_ble_eq_true rfl) ?_
  refine gx_if_eq 130 dX11_numberHere_123 (by decide) (fun c1 => ?_) (fun c1 => ?_)
  · rw [if_pos c1] at h
    refine gx_iconst (v := (0 : Int32)) dX11_numberHere_130 ic_0 ?_
    exact gx_sub [] rfl (s_X11_numberHere_131  h)
  · rw [if_neg c1] at h
    exact gx_sub [] rfl (s_X11_numberHere_126  h)
set_option maxRecDepth 4000 in
theorem s_X11_numberHere_34 {Γ : Cn} {τ : Mm} {N : Nat} : ∀ (n : Nat) (l0 : Nat) (l1 : Int32) (l2 : Int32) (l3 : Int32) (l4 : Int32) (σ : Mm) (o : Int32 × Mm), f_X11_numberHere_34 N n l0 l1 l2 l3 l4 σ = some o → Gx Γ M_X11_numberHere 100 τ (PI o) 0 0 34 [(0, .ref (Γ.B + pp l0)), (1, .int l1), (2, .int l2), (3, .int l3), (4, .int l4)] [] σ := by
  intro n
  induction n with
  | zero =>
    intro l0 l1 l2 l3 l4 σ o h
    exact absurd h (by rw [f_X11_numberHere_34]; exact fun q => nomatch q)
  | succ n ih =>
    intro l0 l1 l2 l3 l4 σ o h
    rw [f_X11_numberHere_34] at h
    refine gx_aload_n 0 dX11_numberHere_34 rfl rfl ?_
    refine gx_aload_n 0 dX11_numberHere_35 rfl rfl ?_
    obtain ⟨x1, hx1, h⟩ := bnd h
    refine gx_getI dX11_numberHere_36 hx1 fl_X11_81 rfl ?_
    obtain ⟨_, hobq2, h⟩ := bnd h
    obtain ⟨q2, hq2, h⟩ := bnd h
    refine gx_cVI (As := [.int x1]) (st := []) (o := l0) dX11_numberHere_39 (c_X11_isDigit hq2) mov_X11_isDigit tw_1197 hobq2 rfl ⟨Nat.le_of_ble_eq_true rfl, Nat.le_of_ble_eq_true rfl⟩ (Nat.le_of_ble_eq_true rfl) ?_
    refine gx_if_eq 88 dX11_numberHere_42 (by decide) (fun c2 => ?_) (fun c2 => ?_)
    · rw [if_pos c2] at h
      refine gx_aload_n 0 dX11_numberHere_88 rfl rfl ?_
      refine gx_iload 4 dX11_numberHere_89 rfl ?_
      obtain ⟨s4, hs4, h⟩ := bnd h
      refine gx_putI dX11_numberHere_91 hs4 fl_X11_106 fp_X11_11_14 rfl ?_
      refine gx_aload_n 0 dX11_numberHere_94 rfl rfl ?_
      obtain ⟨x5, hx5, h⟩ := bnd h
      refine gx_getI dX11_numberHere_95 hx5 fl_X11_81 rfl ?_
      refine gx_iload_n 3 dX11_numberHere_98 rfl rfl ?_
      refine gx_isub dX11_numberHere_99 ?_
      refine gx_iconst (v := (5 : Int32)) dX11_numberHere_100 ic_5 ?_
      refine gx_icmp_gt 117 dX11_numberHere_101 (by decide) (fun c5 => ?_) (fun c5 => ?_)
      · rw [if_pos c5] at h
        exact gx_sub [0, 3] rfl (s_X11_numberHere_117  h)
      · rw [if_neg c5] at h
        refine gx_iload 4 dX11_numberHere_104 rfl ?_
        refine gx_i2l dX11_numberHere_106 ?_
        refine gx_iload_n 1 dX11_numberHere_107 rfl rfl ?_
        refine gx_i2l dX11_numberHere_108 ?_
        refine gx_iload_n 2 dX11_numberHere_109 rfl rfl ?_
        refine gx_i2l dX11_numberHere_110 ?_
        obtain ⟨q7, hq7, h⟩ := bnd h
        refine gx_cSI (As := [.long (Int32.toInt64 l4), .long (Int32.toInt64 l1), .long (Int32.toInt64 l2)]) (st := []) dX11_numberHere_111 (c_X11_in hq7) mos_X11_in tw_1206 rfl ⟨Nat.le_of_ble_eq_true rfl, Nat.le_of_ble_eq_true rfl⟩ (Nat.le_of_ble_eq_true rfl) ?_
        refine gx_if_ne 126 dX11_numberHere_114 (by decide) (fun c7 => ?_) (fun c7 => ?_)
        · rw [if_neg c7] at h
          exact gx_sub [] rfl (s_X11_numberHere_126  h)
        · rw [if_pos c7] at h
          exact gx_sub [0, 3] rfl (s_X11_numberHere_117  h)
    · rw [if_neg c2] at h
      refine gx_aload_n 0 dX11_numberHere_45 rfl rfl ?_
      obtain ⟨x9, hx9, h⟩ := bnd h
      refine gx_getI dX11_numberHere_46 hx9 fl_X11_81 rfl ?_
      refine gx_iload_n 3 dX11_numberHere_49 rfl rfl ?_
      refine gx_isub dX11_numberHere_50 ?_
      refine gx_iconst (v := (5 : Int32)) dX11_numberHere_51 ic_5 ?_
      refine gx_icmp_ge 75 dX11_numberHere_52 (by decide) (fun c9 => ?_) (fun c9 => ?_)
      · rw [if_pos c9] at h
        exact s_X11_numberHere_75 ih h
      · rw [if_neg c9] at h
        refine gx_bipush (v := (10 : Int32)) dX11_numberHere_55 ib_10 ?_
        refine gx_iload 4 dX11_numberHere_57 rfl ?_
        refine gx_imul dX11_numberHere_59 ?_
        refine gx_aload_n 0 dX11_numberHere_60 rfl rfl ?_
        obtain ⟨a11, ha11, h⟩ := bnd h
        refine gx_getN dX11_numberHere_61 ha11 fl_X11_7 rfl ?_
        refine gx_aload_n 0 dX11_numberHere_64 rfl rfl ?_
        obtain ⟨x12, hx12, h⟩ := bnd h
        refine gx_getI dX11_numberHere_65 hx12 fl_X11_81 rfl ?_
        obtain ⟨x13, hx13, h⟩ := bnd h
        refine gx_bald (kd := 112) dX11_numberHere_68 hx13 rfl rfl ?_
        refine gx_iadd dX11_numberHere_69 ?_
        refine gx_bipush (v := (48 : Int32)) dX11_numberHere_70 ib_48 ?_
        refine gx_isub dX11_numberHere_72 ?_
        refine gx_istore (lv' := [(4, .int ((((10 : Int32) * l4) + x13) - (48 : Int32))), (0, .ref (Γ.B + pp l0)), (1, .int l1), (2, .int l2), (3, .int l3)]) dX11_numberHere_73 (Nat.le_of_ble_eq_true rfl) rfl ?_
        exact gx_sub [1, 2, 3, 4, 0] rfl (s_X11_numberHere_75 ih h)
set_option maxRecDepth 4000 in
theorem s_X11_numberHere_0 {Γ : Cn} {τ : Mm} {N : Nat} {l0 : Nat} {l1 : Int32} {l2 : Int32} {σ : Mm} {o : Int32 × Mm} (h : f_X11_numberHere N l0 l1 l2 σ = some o) : Gx Γ M_X11_numberHere 100 τ (PI o) 0 0 0 [(0, .ref (Γ.B + pp l0)), (1, .int l1), (2, .int l2)] [] σ := by
  unfold f_X11_numberHere at h
  refine gx_aload_n 0 dX11_numberHere_0 rfl rfl ?_
  obtain ⟨_, hobq1, h⟩ := bnd h
  obtain ⟨q1, hq1, h⟩ := bnd h
  refine gx_cVI (As := []) (st := []) (o := l0) dX11_numberHere_1 (c_X11_see hq1) mov_X11_see tw_1157 hobq1 rfl ⟨Nat.le_of_ble_eq_true rfl, Nat.le_of_ble_eq_true rfl⟩ (Nat.le_of_ble_eq_true rfl) ?_
  refine gx_pop dX11_numberHere_4 rfl ?_
  refine gx_aload_n 0 dX11_numberHere_5 rfl rfl ?_
  refine gx_aload_n 0 dX11_numberHere_6 rfl rfl ?_
  obtain ⟨x2, hx2, h⟩ := bnd h
  refine gx_getI dX11_numberHere_7 hx2 fl_X11_81 rfl ?_
  obtain ⟨_, hobq3, h⟩ := bnd h
  obtain ⟨q3, hq3, h⟩ := bnd h
  refine gx_cVI (As := [.int x2]) (st := []) (o := l0) dX11_numberHere_10 (c_X11_isDigit hq3) mov_X11_isDigit tw_1197 hobq3 rfl ⟨Nat.le_of_ble_eq_true rfl, Nat.le_of_ble_eq_true rfl⟩ (Nat.le_of_ble_eq_true rfl) ?_
  refine gx_if_ne 26 dX11_numberHere_13 (by decide) (fun c3 => ?_) (fun c3 => ?_)
  · rw [if_neg c3] at h
    refine gx_aload_n 0 dX11_numberHere_26 rfl rfl ?_
    obtain ⟨x5, hx5, h⟩ := bnd h
    refine gx_getI dX11_numberHere_27 hx5 fl_X11_81 rfl ?_
    refine gx_istore_n (lv' := [(3, .int x5), (0, .ref (Γ.B + pp l0)), (1, .int l1), (2, .int l2)]) dX11_numberHere_30 rfl (Nat.le_of_ble_eq_true rfl) rfl ?_
    refine gx_iconst (v := (0 : Int32)) dX11_numberHere_31 ic_0 ?_
    refine gx_istore (lv' := [(4, .int (0 : Int32)), (3, .int x5), (0, .ref (Γ.B + pp l0)), (1, .int l1), (2, .int l2)]) dX11_numberHere_32 (Nat.le_of_ble_eq_true rfl) rfl ?_
    exact gx_sub [2, 3, 4, 1, 0] rfl (s_X11_numberHere_34  N _ _ _ _ _ _ _ h)
  · rw [if_pos c3] at h
    refine gx_aload_n 0 dX11_numberHere_16 rfl rfl ?_
    refine gx_iconst (v := (0 : Int32)) dX11_numberHere_17 ic_0 ?_
    refine gx_aload_n 0 dX11_numberHere_18 rfl rfl ?_
    obtain ⟨x6, hx6, h⟩ := bnd h
    refine gx_getI dX11_numberHere_19 hx6 fl_X11_81 rfl ?_
    obtain ⟨_, hobq7, h⟩ := bnd h
    obtain ⟨q7, hq7, h⟩ := bnd h
    refine gx_cVI (As := [.int (0 : Int32), .int x6]) (st := []) (o := l0) dX11_numberHere_22 (c_X11_fails hq7) mov_X11_fails tw_1173 hobq7 rfl ⟨Nat.le_of_ble_eq_true rfl, Nat.le_of_ble_eq_true rfl⟩ (Nat.le_of_ble_eq_true rfl) ?_
    obtain ⟨hz, h⟩ := of_if h
    have h := Option.some.inj h
    subst h
    exact gx_zret dX11_numberHere_25 rfl (nar_z hz) (Nat.le_of_ble_eq_true rfl) (Nat.le_of_ble_eq_true rfl) ⟨rfl, rfl⟩
theorem c_X11_numberHere {Γ : Cn} {τ : Mm} {N : Nat} {l0 : Nat} {l1 : Int32} {l2 : Int32} {σ : Mm} {o : Int32 × Mm} (h : f_X11_numberHere N l0 l1 l2 σ = some o) : Ct Γ M_X11_numberHere yX11_numberHere 100 τ [.ref (Γ.B + pp l0), .int l1, .int l2] σ (PI o) := ct_of (by decide) rfl (fun _ => by first | rfl | contradiction) (Nat.le_of_ble_eq_true rfl) (s_X11_numberHere_0  h)
abbrev M_X11_wordHere : Ms := (cX11_wordHere, RX11, 1, (some .int), false, 0, 0, 2)
def f_X11_wordHere_116 (N : Nat) (t0 : Int32) (σ : Mm) : Option (Int32 × Mm) :=
  some (t0, σ)
def f_X11_wordHere (N : Nat) (l0 : Nat) (σ : Mm) : Option (Int32 × Mm) :=
  (ob 11 σ l0).bind fun _ =>
  (f_X11_isWord N l0 (1668244331 : Int64) σ).bind fun q1 =>
  if q1.1 = 0 then (
    (ob 11 q1.2 l0).bind fun _ =>
    (f_X11_isWord N l0 (1920299892 : Int64) q1.2).bind fun q3 =>
    if q3.1 = 0 then (
      (ob 11 q3.2 l0).bind fun _ =>
      (f_X11_isWord N l0 (6383461 : Int64) q3.2).bind fun q5 =>
      if q5.1 = 0 then (
        (ob 11 q5.2 l0).bind fun _ =>
        (f_X11_isWord N l0 (478745093490 : Int64) q5.2).bind fun q7 =>
        if q7.1 = 0 then (
          (ob 11 q7.2 l0).bind fun _ =>
          (f_X11_isWord N l0 (24948 : Int64) q7.2).bind fun q9 =>
          if q9.1 = 0 then (
            (ob 11 q9.2 l0).bind fun _ =>
            (f_X11_isWord N l0 (7300710 : Int64) q9.2).bind fun q11 =>
            if q11.1 = 0 then (
              (ob 11 q11.2 l0).bind fun _ =>
              (f_X11_isWord N l0 (2003398244 : Int64) q11.2).bind fun q13 =>
              if q13.1 = 0 then (
                (ob 11 q13.2 l0).bind fun _ =>
                (f_X11_isWord N l0 (7103845 : Int64) q13.2).bind fun q15 =>
                if q15.1 = 0 then (
                  (ob 11 q15.2 l0).bind fun _ =>
                  (f_X11_isWord N l0 (1752135026 : Int64) q15.2).bind fun q17 =>
                  if q17.1 = 0 then (
                    f_X11_wordHere_116 N (-1 : Int32) q17.2) else (
                    f_X11_wordHere_116 N (8 : Int32) q17.2)) else (
                  f_X11_wordHere_116 N (7 : Int32) q15.2)) else (
                some ((6 : Int32), q13.2))) else (
              some ((5 : Int32), q11.2))) else (
            some ((4 : Int32), q9.2))) else (
          some ((3 : Int32), q7.2))) else (
        some ((2 : Int32), q5.2))) else (
      some ((1 : Int32), q3.2))) else (
    some ((0 : Int32), q1.2))
theorem mov_X11_wordHere : MOV yX11_wordHere M_X11_wordHere 0 11 100 := ⟨⟨tw_107, tw_1220, ⟨by decide, by decide⟩, by decide +kernel⟩, tw_1219, tw_52, by decide, ⟨_, rfl, rfl⟩, rfl⟩
set_option maxRecDepth 4000 in
theorem s_X11_wordHere_116 {Γ : Cn} {τ : Mm} {N : Nat} {t0 : Int32} {σ : Mm} {o : Int32 × Mm} (h : f_X11_wordHere_116 N t0 σ = some o) : Gx Γ M_X11_wordHere 100 τ (PI o) 0 0 116 [] [.int t0] σ := by
  unfold f_X11_wordHere_116 at h
  have h := Option.some.inj h
  subst h
  exact gx_iret dX11_wordHere_116 rfl (Nat.le_of_ble_eq_true rfl) (Nat.le_of_ble_eq_true rfl) ⟨rfl, rfl⟩
set_option maxRecDepth 4000 in
theorem s_X11_wordHere_0 {Γ : Cn} {τ : Mm} {N : Nat} {l0 : Nat} {σ : Mm} {o : Int32 × Mm} (h : f_X11_wordHere N l0 σ = some o) : Gx Γ M_X11_wordHere 100 τ (PI o) 0 0 0 [(0, .ref (Γ.B + pp l0))] [] σ := by
  unfold f_X11_wordHere at h
  refine gx_aload_n 0 dX11_wordHere_0 rfl rfl ?_
  refine gx_ldc2 (v := (1668244331 : Int64)) dX11_wordHere_1 tw_1161 ?_
  obtain ⟨_, hobq1, h⟩ := bnd h
  obtain ⟨q1, hq1, h⟩ := bnd h
  refine gx_cVI (As := [.long (1668244331 : Int64)]) (st := []) (o := l0) dX11_wordHere_4 (c_X11_isWord hq1) mov_X11_isWord tw_1162 hobq1 rfl ⟨Nat.le_of_ble_eq_true rfl, Nat.le_of_ble_eq_true rfl⟩ (Nat.le_of_ble_eq_true rfl) ?_
  refine gx_if_eq 12 dX11_wordHere_7 (by decide) (fun c1 => ?_) (fun c1 => ?_)
  · rw [if_pos c1] at h
    refine gx_aload_n 0 dX11_wordHere_12 rfl rfl ?_
    refine gx_ldc2 (v := (1920299892 : Int64)) dX11_wordHere_13 tw_1221 ?_
    obtain ⟨_, hobq3, h⟩ := bnd h
    obtain ⟨q3, hq3, h⟩ := bnd h
    refine gx_cVI (As := [.long (1920299892 : Int64)]) (st := []) (o := l0) dX11_wordHere_16 (c_X11_isWord hq3) mov_X11_isWord tw_1162 hobq3 rfl ⟨Nat.le_of_ble_eq_true rfl, Nat.le_of_ble_eq_true rfl⟩ (Nat.le_of_ble_eq_true rfl) ?_
    refine gx_if_eq 24 dX11_wordHere_19 (by decide) (fun c3 => ?_) (fun c3 => ?_)
    · rw [if_pos c3] at h
      refine gx_aload_n 0 dX11_wordHere_24 rfl rfl ?_
      refine gx_ldc2 (v := (6383461 : Int64)) dX11_wordHere_25 tw_1222 ?_
      obtain ⟨_, hobq5, h⟩ := bnd h
      obtain ⟨q5, hq5, h⟩ := bnd h
      refine gx_cVI (As := [.long (6383461 : Int64)]) (st := []) (o := l0) dX11_wordHere_28 (c_X11_isWord hq5) mov_X11_isWord tw_1162 hobq5 rfl ⟨Nat.le_of_ble_eq_true rfl, Nat.le_of_ble_eq_true rfl⟩ (Nat.le_of_ble_eq_true rfl) ?_
      refine gx_if_eq 36 dX11_wordHere_31 (by decide) (fun c5 => ?_) (fun c5 => ?_)
      · rw [if_pos c5] at h
        refine gx_aload_n 0 dX11_wordHere_36 rfl rfl ?_
        refine gx_ldc2 (v := (478745093490 : Int64)) dX11_wordHere_37 tw_1223 ?_
        obtain ⟨_, hobq7, h⟩ := bnd h
        obtain ⟨q7, hq7, h⟩ := bnd h
        refine gx_cVI (As := [.long (478745093490 : Int64)]) (st := []) (o := l0) dX11_wordHere_40 (c_X11_isWord hq7) mov_X11_isWord tw_1162 hobq7 rfl ⟨Nat.le_of_ble_eq_true rfl, Nat.le_of_ble_eq_true rfl⟩ (Nat.le_of_ble_eq_true rfl) ?_
        refine gx_if_eq 48 dX11_wordHere_43 (by decide) (fun c7 => ?_) (fun c7 => ?_)
        · rw [if_pos c7] at h
          refine gx_aload_n 0 dX11_wordHere_48 rfl rfl ?_
          refine gx_ldc2 (v := (24948 : Int64)) dX11_wordHere_49 tw_1224 ?_
          obtain ⟨_, hobq9, h⟩ := bnd h
          obtain ⟨q9, hq9, h⟩ := bnd h
          refine gx_cVI (As := [.long (24948 : Int64)]) (st := []) (o := l0) dX11_wordHere_52 (c_X11_isWord hq9) mov_X11_isWord tw_1162 hobq9 rfl ⟨Nat.le_of_ble_eq_true rfl, Nat.le_of_ble_eq_true rfl⟩ (Nat.le_of_ble_eq_true rfl) ?_
          refine gx_if_eq 60 dX11_wordHere_55 (by decide) (fun c9 => ?_) (fun c9 => ?_)
          · rw [if_pos c9] at h
            refine gx_aload_n 0 dX11_wordHere_60 rfl rfl ?_
            refine gx_ldc2 (v := (7300710 : Int64)) dX11_wordHere_61 tw_1225 ?_
            obtain ⟨_, hobq11, h⟩ := bnd h
            obtain ⟨q11, hq11, h⟩ := bnd h
            refine gx_cVI (As := [.long (7300710 : Int64)]) (st := []) (o := l0) dX11_wordHere_64 (c_X11_isWord hq11) mov_X11_isWord tw_1162 hobq11 rfl ⟨Nat.le_of_ble_eq_true rfl, Nat.le_of_ble_eq_true rfl⟩ (Nat.le_of_ble_eq_true rfl) ?_
            refine gx_if_eq 72 dX11_wordHere_67 (by decide) (fun c11 => ?_) (fun c11 => ?_)
            · rw [if_pos c11] at h
              refine gx_aload_n 0 dX11_wordHere_72 rfl rfl ?_
              refine gx_ldc2 (v := (2003398244 : Int64)) dX11_wordHere_73 tw_1226 ?_
              obtain ⟨_, hobq13, h⟩ := bnd h
              obtain ⟨q13, hq13, h⟩ := bnd h
              refine gx_cVI (As := [.long (2003398244 : Int64)]) (st := []) (o := l0) dX11_wordHere_76 (c_X11_isWord hq13) mov_X11_isWord tw_1162 hobq13 rfl ⟨Nat.le_of_ble_eq_true rfl, Nat.le_of_ble_eq_true rfl⟩ (Nat.le_of_ble_eq_true rfl) ?_
              refine gx_if_eq 85 dX11_wordHere_79 (by decide) (fun c13 => ?_) (fun c13 => ?_)
              · rw [if_pos c13] at h
                refine gx_aload_n 0 dX11_wordHere_85 rfl rfl ?_
                refine gx_ldc2 (v := (7103845 : Int64)) dX11_wordHere_86 tw_1227 ?_
                obtain ⟨_, hobq15, h⟩ := bnd h
                obtain ⟨q15, hq15, h⟩ := bnd h
                refine gx_cVI (As := [.long (7103845 : Int64)]) (st := []) (o := l0) dX11_wordHere_89 (c_X11_isWord hq15) mov_X11_isWord tw_1162 hobq15 rfl ⟨Nat.le_of_ble_eq_true rfl, Nat.le_of_ble_eq_true rfl⟩ (Nat.le_of_ble_eq_true rfl) ?_
                refine gx_if_eq 100 dX11_wordHere_92 (by decide) (fun c15 => ?_) (fun c15 => ?_)
                · rw [if_pos c15] at h
                  refine gx_aload_n 0 dX11_wordHere_100 rfl rfl ?_
                  refine gx_ldc2 (v := (1752135026 : Int64)) dX11_wordHere_101 tw_1228 ?_
                  obtain ⟨_, hobq17, h⟩ := bnd h
                  obtain ⟨q17, hq17, h⟩ := bnd h
                  refine gx_cVI (As := [.long (1752135026 : Int64)]) (st := []) (o := l0) dX11_wordHere_104 (c_X11_isWord hq17) mov_X11_isWord tw_1162 hobq17 rfl ⟨Nat.le_of_ble_eq_true rfl, Nat.le_of_ble_eq_true rfl⟩ (Nat.le_of_ble_eq_true rfl) ?_
                  refine gx_if_eq 115 dX11_wordHere_107 (by decide) (fun c17 => ?_) (fun c17 => ?_)
                  · rw [if_pos c17] at h
                    refine gx_iconst (v := (-1 : Int32)) dX11_wordHere_115 ic_m1 ?_
                    exact gx_sub [] rfl (s_X11_wordHere_116  h)
                  · rw [if_neg c17] at h
                    refine gx_bipush (v := (8 : Int32)) dX11_wordHere_110 ib_8 ?_
                    refine gx_goto 116 dX11_wordHere_112 (by decide) ?_
                    exact gx_sub [] rfl (s_X11_wordHere_116  h)
                · rw [if_neg c15] at h
                  refine gx_bipush (v := (7 : Int32)) dX11_wordHere_95 ib_7 ?_
                  refine gx_goto 116 dX11_wordHere_97 (by decide) ?_
                  exact gx_sub [] rfl (s_X11_wordHere_116  h)
              · rw [if_neg c13] at h
                refine gx_bipush (v := (6 : Int32)) dX11_wordHere_82 ib_6 ?_
                have h := Option.some.inj h
                subst h
                exact gx_iret dX11_wordHere_84 rfl (Nat.le_of_ble_eq_true rfl) (Nat.le_of_ble_eq_true rfl) ⟨rfl, rfl⟩
            · rw [if_neg c11] at h
              refine gx_iconst (v := (5 : Int32)) dX11_wordHere_70 ic_5 ?_
              have h := Option.some.inj h
              subst h
              exact gx_iret dX11_wordHere_71 rfl (Nat.le_of_ble_eq_true rfl) (Nat.le_of_ble_eq_true rfl) ⟨rfl, rfl⟩
          · rw [if_neg c9] at h
            refine gx_iconst (v := (4 : Int32)) dX11_wordHere_58 ic_4 ?_
            have h := Option.some.inj h
            subst h
            exact gx_iret dX11_wordHere_59 rfl (Nat.le_of_ble_eq_true rfl) (Nat.le_of_ble_eq_true rfl) ⟨rfl, rfl⟩
        · rw [if_neg c7] at h
          refine gx_iconst (v := (3 : Int32)) dX11_wordHere_46 ic_3 ?_
          have h := Option.some.inj h
          subst h
          exact gx_iret dX11_wordHere_47 rfl (Nat.le_of_ble_eq_true rfl) (Nat.le_of_ble_eq_true rfl) ⟨rfl, rfl⟩
      · rw [if_neg c5] at h
        refine gx_iconst (v := (2 : Int32)) dX11_wordHere_34 ic_2 ?_
        have h := Option.some.inj h
        subst h
        exact gx_iret dX11_wordHere_35 rfl (Nat.le_of_ble_eq_true rfl) (Nat.le_of_ble_eq_true rfl) ⟨rfl, rfl⟩
    · rw [if_neg c3] at h
      refine gx_iconst (v := (1 : Int32)) dX11_wordHere_22 ic_1 ?_
      have h := Option.some.inj h
      subst h
      exact gx_iret dX11_wordHere_23 rfl (Nat.le_of_ble_eq_true rfl) (Nat.le_of_ble_eq_true rfl) ⟨rfl, rfl⟩
  · rw [if_neg c1] at h
    refine gx_iconst (v := (0 : Int32)) dX11_wordHere_10 ic_0 ?_
    have h := Option.some.inj h
    subst h
    exact gx_iret dX11_wordHere_11 rfl (Nat.le_of_ble_eq_true rfl) (Nat.le_of_ble_eq_true rfl) ⟨rfl, rfl⟩
theorem c_X11_wordHere {Γ : Cn} {τ : Mm} {N : Nat} {l0 : Nat} {σ : Mm} {o : Int32 × Mm} (h : f_X11_wordHere N l0 σ = some o) : Ct Γ M_X11_wordHere yX11_wordHere 100 τ [.ref (Γ.B + pp l0)] σ (PI o) := ct_of (by decide) rfl (fun _ => by first | rfl | contradiction) (Nat.le_of_ble_eq_true rfl) (s_X11_wordHere_0  h)
abbrev M_X11_puts : Ms := (cX11_puts, RX11, 3, none, false, 0, 0, 0)
def f_X11_puts (N : Nat) (l0 : Nat) (l1 : Int32) (l2 : Int32) (σ : Mm) : Option Mm :=
  (gN 11 3 σ l0).bind fun a1 =>
  (gI 11 15 σ l0).bind fun x2 =>
  (gN 11 4 σ l0).bind fun a3 =>
  (gI 11 15 σ l0).bind fun x4 =>
  (aI 113 σ a3 x4).bind fun x5 =>
  (sI 113 σ a1 (((400 : Int32) * x2) + x5) (l1 + ((16 : Int32) * l2))).bind fun s6 =>
  (gN 11 4 s6 l0).bind fun a7 =>
  (gI 11 15 s6 l0).bind fun x8 =>
  (aI 113 s6 a7 x8).bind fun x9 =>
  (sI 113 s6 a7 x8 (x9 + (1 : Int32))).bind fun s10 =>
  some s10
theorem mov_X11_puts : MOV yX11_puts M_X11_puts 2 11 100 := ⟨⟨tw_107, tw_1216, ⟨by decide, by decide⟩, by decide +kernel⟩, tw_1215, tw_51, by decide, ⟨_, rfl, rfl⟩, rfl⟩
set_option maxRecDepth 4000 in
theorem s_X11_puts_0 {Γ : Cn} {τ : Mm} {N : Nat} {l0 : Nat} {l1 : Int32} {l2 : Int32} {σ : Mm} {o : Mm} (h : f_X11_puts N l0 l1 l2 σ = some o) : Gx Γ M_X11_puts 100 τ (PV o) 0 0 0 [(0, .ref (Γ.B + pp l0)), (1, .int l1), (2, .int l2)] [] σ := by
  unfold f_X11_puts at h
  refine gx_aload_n 0 dX11_puts_0 rfl rfl ?_
  obtain ⟨a1, ha1, h⟩ := bnd h
  refine gx_getN dX11_puts_1 ha1 fl_X11_13 rfl ?_
  refine gx_sipush (v := (400 : Int32)) dX11_puts_4 is_400 ?_
  refine gx_aload_n 0 dX11_puts_7 rfl rfl ?_
  obtain ⟨x2, hx2, h⟩ := bnd h
  refine gx_getI dX11_puts_8 hx2 fl_X11_131 rfl ?_
  refine gx_imul dX11_puts_11 ?_
  refine gx_aload_n 0 dX11_puts_12 rfl rfl ?_
  obtain ⟨a3, ha3, h⟩ := bnd h
  refine gx_getN dX11_puts_13 ha3 fl_X11_17 rfl ?_
  refine gx_aload_n 0 dX11_puts_16 rfl rfl ?_
  obtain ⟨x4, hx4, h⟩ := bnd h
  refine gx_getI dX11_puts_17 hx4 fl_X11_131 rfl ?_
  obtain ⟨x5, hx5, h⟩ := bnd h
  refine gx_iald (kd := 113) dX11_puts_20 hx5 rfl rfl ?_
  refine gx_iadd dX11_puts_21 ?_
  refine gx_iload_n 1 dX11_puts_22 rfl rfl ?_
  refine gx_bipush (v := (16 : Int32)) dX11_puts_23 ib_16 ?_
  refine gx_iload_n 2 dX11_puts_25 rfl rfl ?_
  refine gx_imul dX11_puts_26 ?_
  refine gx_iadd dX11_puts_27 ?_
  obtain ⟨s6, hs6, h⟩ := bnd h
  refine gx_iast (kd := 113) dX11_puts_28 hs6 rfl rfl ?_
  refine gx_aload_n 0 dX11_puts_29 rfl rfl ?_
  obtain ⟨a7, ha7, h⟩ := bnd h
  refine gx_getN dX11_puts_30 ha7 fl_X11_17 rfl ?_
  refine gx_aload_n 0 dX11_puts_33 rfl rfl ?_
  obtain ⟨x8, hx8, h⟩ := bnd h
  refine gx_getI dX11_puts_34 hx8 fl_X11_131 rfl ?_
  refine gx_dup2 dX11_puts_37 rfl rfl ?_
  obtain ⟨x9, hx9, h⟩ := bnd h
  refine gx_iald (kd := 113) dX11_puts_38 hx9 rfl rfl ?_
  refine gx_iconst (v := (1 : Int32)) dX11_puts_39 ic_1 ?_
  refine gx_iadd dX11_puts_40 ?_
  obtain ⟨s10, hs10, h⟩ := bnd h
  refine gx_iast (kd := 113) dX11_puts_41 hs10 rfl rfl ?_
  have h := Option.some.inj h
  subst h
  exact gx_vret dX11_puts_42 rfl (Nat.le_of_ble_eq_true rfl) (Nat.le_of_ble_eq_true rfl) ⟨rfl, rfl⟩
theorem c_X11_puts {Γ : Cn} {τ : Mm} {N : Nat} {l0 : Nat} {l1 : Int32} {l2 : Int32} {σ : Mm} {o : Mm} (h : f_X11_puts N l0 l1 l2 σ = some o) : Ct Γ M_X11_puts yX11_puts 100 τ [.ref (Γ.B + pp l0), .int l1, .int l2] σ (PV o) := ct_of (by decide) rfl (fun _ => by first | rfl | contradiction) (Nat.le_of_ble_eq_true rfl) (s_X11_puts_0  h)
abbrev M_X11_makes : Ms := (cX11_makes, RX11, 2, (some .boolean), false, 0, 0, 1)
def f_X11_makes (N : Nat) (l0 : Nat) (l1 : Int32) (σ : Mm) : Option (Int32 × Mm) :=
  (gI 11 16 σ l0).bind fun x1 =>
  if x1 = (60 : Int32) then (
    (ob 11 σ l0).bind fun _ =>
    (f_X11_fails N l0 (3 : Int32) l1 σ).bind fun q5 =>
    if q5.1 = 0 ∨ q5.1 = 1 then some (q5.1, q5.2) else none) else (
    (gI 11 16 σ l0).bind fun x3 =>
    (pI 11 16 σ l0 (x3 + (1 : Int32))).bind fun s4 =>
    some ((1 : Int32), s4))
theorem mov_X11_makes : MOV yX11_makes M_X11_makes 1 11 100 := ⟨⟨tw_107, tw_1212, ⟨by decide, by decide⟩, by decide +kernel⟩, tw_1211, tw_50, by decide, ⟨_, rfl, rfl⟩, rfl⟩
set_option maxRecDepth 4000 in
theorem s_X11_makes_0 {Γ : Cn} {τ : Mm} {N : Nat} {l0 : Nat} {l1 : Int32} {σ : Mm} {o : Int32 × Mm} (h : f_X11_makes N l0 l1 σ = some o) : Gx Γ M_X11_makes 100 τ (PI o) 0 0 0 [(0, .ref (Γ.B + pp l0)), (1, .int l1)] [] σ := by
  unfold f_X11_makes at h
  refine gx_aload_n 0 dX11_makes_0 rfl rfl ?_
  obtain ⟨x1, hx1, h⟩ := bnd h
  refine gx_getI dX11_makes_1 hx1 fl_X11_134 rfl ?_
  refine gx_bipush (v := (60 : Int32)) dX11_makes_4 ib_60 ?_
  refine gx_icmp_ne 16 dX11_makes_6 (by decide) (fun c1 => ?_) (fun c1 => ?_)
  · rw [if_neg c1] at h
    refine gx_aload_n 0 dX11_makes_16 rfl rfl ?_
    refine gx_dup dX11_makes_17 rfl ?_
    obtain ⟨x3, hx3, h⟩ := bnd h
    refine gx_getI dX11_makes_18 hx3 fl_X11_134 rfl ?_
    refine gx_iconst (v := (1 : Int32)) dX11_makes_21 ic_1 ?_
    refine gx_iadd dX11_makes_22 ?_
    obtain ⟨s4, hs4, h⟩ := bnd h
    refine gx_putI dX11_makes_23 hs4 fl_X11_134 fp_X11_11_16 rfl ?_
    refine gx_iconst (v := (1 : Int32)) dX11_makes_26 ic_1 ?_
    have h := Option.some.inj h
    subst h
    exact gx_zret dX11_makes_27 rfl rfl (Nat.le_of_ble_eq_true rfl) (Nat.le_of_ble_eq_true rfl) ⟨rfl, rfl⟩
  · rw [if_pos c1] at h
    refine gx_aload_n 0 dX11_makes_9 rfl rfl ?_
    refine gx_iconst (v := (3 : Int32)) dX11_makes_10 ic_3 ?_
    refine gx_iload_n 1 dX11_makes_11 rfl rfl ?_
    obtain ⟨_, hobq5, h⟩ := bnd h
    obtain ⟨q5, hq5, h⟩ := bnd h
    refine gx_cVI (As := [.int (3 : Int32), .int l1]) (st := []) (o := l0) dX11_makes_12 (c_X11_fails hq5) mov_X11_fails tw_1173 hobq5 rfl ⟨Nat.le_of_ble_eq_true rfl, Nat.le_of_ble_eq_true rfl⟩ (Nat.le_of_ble_eq_true rfl) ?_
    obtain ⟨hz, h⟩ := of_if h
    have h := Option.some.inj h
    subst h
    exact gx_zret dX11_makes_15 rfl (nar_z hz) (Nat.le_of_ble_eq_true rfl) (Nat.le_of_ble_eq_true rfl) ⟨rfl, rfl⟩
theorem c_X11_makes {Γ : Cn} {τ : Mm} {N : Nat} {l0 : Nat} {l1 : Int32} {σ : Mm} {o : Int32 × Mm} (h : f_X11_makes N l0 l1 σ = some o) : Ct Γ M_X11_makes yX11_makes 100 τ [.ref (Γ.B + pp l0), .int l1] σ (PI o) := ct_of (by decide) rfl (fun _ => by first | rfl | contradiction) (Nat.le_of_ble_eq_true rfl) (s_X11_makes_0  h)
abbrev M_X11_opens : Ms := (cX11_opens, RX11, 2, (some .boolean), false, 0, 0, 1)
def f_X11_opens (N : Nat) (l0 : Nat) (l1 : Int32) (σ : Mm) : Option (Int32 × Mm) :=
  (gI 11 17 σ l0).bind fun x1 =>
  if x1 = (10 : Int32) then (
    (gI 11 12 σ l0).bind fun x10 =>
    (ob 11 σ l0).bind fun _ =>
    (f_X11_fails N l0 (2 : Int32) x10 σ).bind fun q11 =>
    if q11.1 = 0 ∨ q11.1 = 1 then some (q11.1, q11.2) else none) else (
    (gI 11 17 σ l0).bind fun x3 =>
    (pI 11 17 σ l0 (x3 + (1 : Int32))).bind fun s4 =>
    (gN 11 19 s4 l0).bind fun a5 =>
    (gI 11 20 s4 l0).bind fun x6 =>
    (sI 113 s4 a5 x6 l1).bind fun s7 =>
    (gI 11 20 s7 l0).bind fun x8 =>
    (pI 11 20 s7 l0 (x8 + (1 : Int32))).bind fun s9 =>
    some ((1 : Int32), s9))
theorem mov_X11_opens : MOV yX11_opens M_X11_opens 1 11 100 := ⟨⟨tw_107, tw_1246, ⟨by decide, by decide⟩, by decide +kernel⟩, tw_1245, tw_56, by decide, ⟨_, rfl, rfl⟩, rfl⟩
set_option maxRecDepth 4000 in
theorem s_X11_opens_0 {Γ : Cn} {τ : Mm} {N : Nat} {l0 : Nat} {l1 : Int32} {σ : Mm} {o : Int32 × Mm} (h : f_X11_opens N l0 l1 σ = some o) : Gx Γ M_X11_opens 100 τ (PI o) 0 0 0 [(0, .ref (Γ.B + pp l0)), (1, .int l1)] [] σ := by
  unfold f_X11_opens at h
  refine gx_aload_n 0 dX11_opens_0 rfl rfl ?_
  obtain ⟨x1, hx1, h⟩ := bnd h
  refine gx_getI dX11_opens_1 hx1 fl_X11_137 rfl ?_
  refine gx_bipush (v := (10 : Int32)) dX11_opens_4 ib_10 ?_
  refine gx_icmp_ne 19 dX11_opens_6 (by decide) (fun c1 => ?_) (fun c1 => ?_)
  · rw [if_neg c1] at h
    refine gx_aload_n 0 dX11_opens_19 rfl rfl ?_
    refine gx_dup dX11_opens_20 rfl ?_
    obtain ⟨x3, hx3, h⟩ := bnd h
    refine gx_getI dX11_opens_21 hx3 fl_X11_137 rfl ?_
    refine gx_iconst (v := (1 : Int32)) dX11_opens_24 ic_1 ?_
    refine gx_iadd dX11_opens_25 ?_
    obtain ⟨s4, hs4, h⟩ := bnd h
    refine gx_putI dX11_opens_26 hs4 fl_X11_137 fp_X11_11_17 rfl ?_
    refine gx_aload_n 0 dX11_opens_29 rfl rfl ?_
    obtain ⟨a5, ha5, h⟩ := bnd h
    refine gx_getN dX11_opens_30 ha5 fl_X11_35 rfl ?_
    refine gx_aload_n 0 dX11_opens_33 rfl rfl ?_
    obtain ⟨x6, hx6, h⟩ := bnd h
    refine gx_getI dX11_opens_34 hx6 fl_X11_140 rfl ?_
    refine gx_iload_n 1 dX11_opens_37 rfl rfl ?_
    obtain ⟨s7, hs7, h⟩ := bnd h
    refine gx_iast (kd := 113) dX11_opens_38 hs7 rfl rfl ?_
    refine gx_aload_n 0 dX11_opens_39 rfl rfl ?_
    refine gx_dup dX11_opens_40 rfl ?_
    obtain ⟨x8, hx8, h⟩ := bnd h
    refine gx_getI dX11_opens_41 hx8 fl_X11_140 rfl ?_
    refine gx_iconst (v := (1 : Int32)) dX11_opens_44 ic_1 ?_
    refine gx_iadd dX11_opens_45 ?_
    obtain ⟨s9, hs9, h⟩ := bnd h
    refine gx_putI dX11_opens_46 hs9 fl_X11_140 fp_X11_11_20 rfl ?_
    refine gx_iconst (v := (1 : Int32)) dX11_opens_49 ic_1 ?_
    have h := Option.some.inj h
    subst h
    exact gx_zret dX11_opens_50 rfl rfl (Nat.le_of_ble_eq_true rfl) (Nat.le_of_ble_eq_true rfl) ⟨rfl, rfl⟩
  · rw [if_pos c1] at h
    refine gx_aload_n 0 dX11_opens_9 rfl rfl ?_
    refine gx_iconst (v := (2 : Int32)) dX11_opens_10 ic_2 ?_
    refine gx_aload_n 0 dX11_opens_11 rfl rfl ?_
    obtain ⟨x10, hx10, h⟩ := bnd h
    refine gx_getI dX11_opens_12 hx10 fl_X11_81 rfl ?_
    obtain ⟨_, hobq11, h⟩ := bnd h
    obtain ⟨q11, hq11, h⟩ := bnd h
    refine gx_cVI (As := [.int (2 : Int32), .int x10]) (st := []) (o := l0) dX11_opens_15 (c_X11_fails hq11) mov_X11_fails tw_1173 hobq11 rfl ⟨Nat.le_of_ble_eq_true rfl, Nat.le_of_ble_eq_true rfl⟩ (Nat.le_of_ble_eq_true rfl) ?_
    obtain ⟨hz, h⟩ := of_if h
    have h := Option.some.inj h
    subst h
    exact gx_zret dX11_opens_18 rfl (nar_z hz) (Nat.le_of_ble_eq_true rfl) (Nat.le_of_ble_eq_true rfl) ⟨rfl, rfl⟩
theorem c_X11_opens {Γ : Cn} {τ : Mm} {N : Nat} {l0 : Nat} {l1 : Int32} {σ : Mm} {o : Int32 × Mm} (h : f_X11_opens N l0 l1 σ = some o) : Ct Γ M_X11_opens yX11_opens 100 τ [.ref (Γ.B + pp l0), .int l1] σ (PI o) := ct_of (by decide) rfl (fun _ => by first | rfl | contradiction) (Nat.le_of_ble_eq_true rfl) (s_X11_opens_0  h)
