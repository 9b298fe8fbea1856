abbrev M_X11_cheapestSet : Ms := (cX11_cheapestSet, RX11, 7, (some .int), false, 0, 0, 4)
def f_X11_cheapestSet_96 (N : Nat) (r_6 : Nat → Int32 → Int32 → Int32 → Int32 → Int32 → Mm → Option (Int32 × Mm)) (l0 : Nat) (l1 : Int32) (l2 : Int32) (l3 : Int32) (l4 : Int32) (l5 : Int32) (σ : Mm) : Option (Int32 × Mm) :=
  r_6 l0 l1 l2 l3 l4 (l5 + (1 : Int32)) σ
def f_X11_cheapestSet_74 (N : Nat) (r_6 : Nat → Int32 → Int32 → Int32 → Int32 → Int32 → Mm → Option (Int32 × Mm)) (l0 : Nat) (l1 : Int32) (l2 : Int32) (l3 : Int32) (l4 : Int32) (l5 : Int32) (l6 : Int32) (σ : Mm) : Option (Int32 × Mm) :=
  (ob 11 σ l0).bind fun _ =>
  (f_X11_votes N l0 l1 σ).bind fun q1 =>
  if q1.1 = l2 then (
    (pI 11 28 q1.2 l0 l6).bind fun s3 =>
    f_X11_cheapestSet_96 N r_6 l0 l1 l2 l3 l5 l5 s3) else (
    f_X11_cheapestSet_96 N r_6 l0 l1 l2 l3 l4 l5 q1.2)
def f_X11_cheapestSet_6 (N : Nat) : Nat → Nat → Int32 → Int32 → Int32 → Int32 → Int32 → Mm → Option (Int32 × Mm)
  | 0, _, _, _, _, _, _, _ => none
  | n + 1, l0, l1, l2, l3, l4, l5, σ =>
      (gN 11 24 σ l0).bind fun a1 =>
      (aI 113 σ a1 (0 : Int32)).bind fun x2 =>
      if ((1 : Int32) <<< (x2 &&& 31)) ≤ l5 then (
        some (l4, σ)) else (
        if (l5 &&& l3) = 0 then (
          (ob 11 σ l0).bind fun _ =>
          (f_X11_bends N l0 l5 l2 σ).bind fun q5 =>
          if l4 < 0 then (
            f_X11_cheapestSet_74 N (f_X11_cheapestSet_6 N n) l0 l1 l2 l3 l4 l5 q5.1 q5.2) else (
            (gI 11 28 q5.2 l0).bind fun x7 =>
            if x7 < q5.1 then (
              f_X11_cheapestSet_96 N (f_X11_cheapestSet_6 N n) l0 l1 l2 l3 l4 l5 q5.2) else (
              (gI 11 28 q5.2 l0).bind fun x9 =>
              if q5.1 = x9 then (
                (f_X11_bits N l5 q5.2).bind fun q11 =>
                (f_X11_bits N l4 q11.2).bind fun q12 =>
                if q12.1 ≤ q11.1 then (
                  f_X11_cheapestSet_96 N (f_X11_cheapestSet_6 N n) l0 l1 l2 l3 l4 l5 q12.2) else (
                  f_X11_cheapestSet_74 N (f_X11_cheapestSet_6 N n) l0 l1 l2 l3 l4 l5 q5.1 q12.2)) else (
                f_X11_cheapestSet_74 N (f_X11_cheapestSet_6 N n) l0 l1 l2 l3 l4 l5 q5.1 q5.2)))) else (
          f_X11_cheapestSet_96 N (f_X11_cheapestSet_6 N n) l0 l1 l2 l3 l4 l5 σ))
def f_X11_cheapestSet (N : Nat) (l0 : Nat) (l1 : Int32) (l2 : Int32) (l3 : Int32) (σ : Mm) : Option (Int32 × Mm) :=
  f_X11_cheapestSet_6 N N l0 l1 l2 l3 (-1 : Int32) (0 : Int32) σ
theorem mov_X11_cheapestSet : MOV yX11_cheapestSet M_X11_cheapestSet 3 11 100 := ⟨⟨tw_107, tw_1470, ⟨by decide, by decide⟩, by decide +kernel⟩, tw_1469, tw_90, by decide, ⟨_, rfl, rfl⟩, rfl⟩
set_option maxRecDepth 4000 in
theorem s_X11_cheapestSet_96 {Γ : Cn} {τ : Mm} {N : Nat} {r_6 : Nat → Int32 → Int32 → Int32 → Int32 → Int32 → Mm → Option (Int32 × Mm)} (hr_6 : ∀ (l0 : Nat) (l1 : Int32) (l2 : Int32) (l3 : Int32) (l4 : Int32) (l5 : Int32) (σ : Mm) (o : Int32 × Mm), r_6 l0 l1 l2 l3 l4 l5 σ = some o → Gx Γ M_X11_cheapestSet 100 τ (PI o) 0 0 6 [(0, .ref (Γ.B + pp l0)), (1, .int l1), (2, .int l2), (3, .int l3), (4, .int l4), (5, .int l5)] [] σ) {l0 : Nat} {l1 : Int32} {l2 : Int32} {l3 : Int32} {l4 : Int32} {l5 : Int32} {σ : Mm} {o : Int32 × Mm} (h : f_X11_cheapestSet_96 N r_6 l0 l1 l2 l3 l4 l5 σ = some o) : Gx Γ M_X11_cheapestSet 100 τ (PI o) 0 0 96 [(0, .ref (Γ.B + pp l0)), (1, .int l1), (2, .int l2), (3, .int l3), (4, .int l4), (5, .int l5)] [] σ := by
  unfold f_X11_cheapestSet_96 at h
  refine gx_iinc (v := (l5 + (1 : Int32))) (lv' := [(5, .int (l5 + (1 : Int32))), (0, .ref (Γ.B + pp l0)), (1, .int l1), (2, .int l2), (3, .int l3), (4, .int l4)]) 5 dX11_cheapestSet_96 rfl (by rw [ic_1]) (Nat.le_of_ble_eq_true rfl) rfl ?_
  refine gx_goto 6 dX11_cheapestSet_99 (by decide) ?_
  exact gx_sub [1, 2, 3, 4, 5, 0] rfl (hr_6 _ _ _ _ _ _ _ _ h)
set_option maxRecDepth 4000 in
theorem s_X11_cheapestSet_74 {Γ : Cn} {τ : Mm} {N : Nat} {r_6 : Nat → Int32 → Int32 → Int32 → Int32 → Int32 → Mm → Option (Int32 × Mm)} (hr_6 : ∀ (l0 : Nat) (l1 : Int32) (l2 : Int32) (l3 : Int32) (l4 : Int32) (l5 : Int32) (σ : Mm) (o : Int32 × Mm), r_6 l0 l1 l2 l3 l4 l5 σ = some o → Gx Γ M_X11_cheapestSet 100 τ (PI o) 0 0 6 [(0, .ref (Γ.B + pp l0)), (1, .int l1), (2, .int l2), (3, .int l3), (4, .int l4), (5, .int l5)] [] σ) {l0 : Nat} {l1 : Int32} {l2 : Int32} {l3 : Int32} {l4 : Int32} {l5 : Int32} {l6 : Int32} {σ : Mm} {o : Int32 × Mm} (h : f_X11_cheapestSet_74 N r_6 l0 l1 l2 l3 l4 l5 l6 σ = some o) : Gx Γ M_X11_cheapestSet 100 τ (PI o) 0 0 74 [(0, .ref (Γ.B + pp l0)), (1, .int l1), (2, .int l2), (3, .int l3), (4, .int l4), (5, .int l5), (6, .int l6)] [] σ := by
  unfold f_X11_cheapestSet_74 at h
  refine gx_aload_n 0 dX11_cheapestSet_74 rfl rfl ?_
  refine gx_iload_n 1 dX11_cheapestSet_75 rfl rfl ?_
  obtain ⟨_, hobq1, h⟩ := bnd h
  obtain ⟨q1, hq1, h⟩ := bnd h
  refine gx_cVI (As := [.int l1]) (st := []) (o := l0) dX11_cheapestSet_76 (c_X11_votes hq1) mov_X11_votes tw_1411 hobq1 rfl ⟨Nat.le_of_ble_eq_true rfl, Nat.le_of_ble_eq_true rfl⟩ (Nat.le_of_ble_eq_true rfl) ?_
  refine gx_iload_n 2 dX11_cheapestSet_79 rfl rfl ?_
  refine gx_icmp_eq 86 dX11_cheapestSet_80 (by decide) (fun c1 => ?_) (fun c1 => ?_)
  · rw [if_pos c1] at h
    refine gx_iload 5 dX11_cheapestSet_86 rfl ?_
    refine gx_istore (lv' := [(4, .int l5), (0, .ref (Γ.B + pp l0)), (1, .int l1), (2, .int l2), (3, .int l3), (5, .int l5), (6, .int l6)]) dX11_cheapestSet_88 (Nat.le_of_ble_eq_true rfl) rfl ?_
    refine gx_aload_n 1 dX11_cheapestSet_90 rfl rfl ?_
    refine gx_iload 6 dX11_cheapestSet_91 rfl ?_
    obtain ⟨s3, hs3, h⟩ := bnd h
    refine gx_putI dX11_cheapestSet_93 hs3 fl_X11_361 fp_X11_11_28 rfl ?_
    exact gx_sub [1, 2, 3, 4, 0, 5] rfl (s_X11_cheapestSet_96 hr_6 h)
  · rw [if_neg c1] at h
    refine gx_goto 96 dX11_cheapestSet_83 (by decide) ?_
    exact gx_sub [0, 1, 2, 3, 4, 5] rfl (s_X11_cheapestSet_96 hr_6 h)
set_option maxRecDepth 4000 in
theorem s_X11_cheapestSet_6 {Γ : Cn} {τ : Mm} {N : Nat} : ∀ (n : Nat) (l0 : Nat) (l1 : Int32) (l2 : Int32) (l3 : Int32) (l4 : Int32) (l5 : Int32) (σ : Mm) (o : Int32 × Mm), f_X11_cheapestSet_6 N n l0 l1 l2 l3 l4 l5 σ = some o → Gx Γ M_X11_cheapestSet 100 τ (PI o) 0 0 6 [(0, .ref (Γ.B + pp l0)), (1, .int l1), (2, .int l2), (3, .int l3), (4, .int l4), (5, .int l5)] [] σ := by
  intro n
  induction n with
  | zero =>
    intro l0 l1 l2 l3 l4 l5 σ o h
    exact absurd h (by rw [f_X11_cheapestSet_6]; exact fun q => nomatch q)
  | succ n ih =>
    intro l0 l1 l2 l3 l4 l5 σ o h
    rw [f_X11_cheapestSet_6] at h
    refine gx_iload 5 dX11_cheapestSet_6 rfl ?_
    refine gx_iconst (v := (1 : Int32)) dX11_cheapestSet_8 ic_1 ?_
    refine gx_aload_n 0 dX11_cheapestSet_9 rfl rfl ?_
    obtain ⟨a1, ha1, h⟩ := bnd h
    refine gx_getN dX11_cheapestSet_10 ha1 fl_X11_45 rfl ?_
    refine gx_iconst (v := (0 : Int32)) dX11_cheapestSet_13 ic_0 ?_
    obtain ⟨x2, hx2, h⟩ := bnd h
    refine gx_iald (kd := 113) dX11_cheapestSet_14 hx2 rfl rfl ?_
    refine gx_ishl dX11_cheapestSet_15 ?_
    refine gx_icmp_ge 102 dX11_cheapestSet_16 (by decide) (fun c2 => ?_) (fun c2 => ?_)
    · rw [if_pos c2] at h
      refine gx_iload 4 dX11_cheapestSet_102 rfl ?_
      have h := Option.some.inj h
      subst h
      exact gx_iret dX11_cheapestSet_104 rfl (Nat.le_of_ble_eq_true rfl) (Nat.le_of_ble_eq_true rfl) ⟨rfl, rfl⟩
    · rw [if_neg c2] at h
      refine gx_iload 5 dX11_cheapestSet_19 rfl ?_
      refine gx_iload_n 3 dX11_cheapestSet_21 rfl rfl ?_
      refine gx_iand dX11_cheapestSet_22 ?_
      refine gx_if_eq 29 dX11_cheapestSet_23 (by decide) (fun c3 => ?_) (fun c3 => ?_)
      · rw [if_pos c3] at h
        refine gx_aload_n 0 dX11_cheapestSet_29 rfl rfl ?_
        refine gx_iload 5 dX11_cheapestSet_30 rfl ?_
        refine gx_iload_n 2 dX11_cheapestSet_32 rfl rfl ?_
        obtain ⟨_, hobq5, h⟩ := bnd h
        obtain ⟨q5, hq5, h⟩ := bnd h
        refine gx_cVI (As := [.int l5, .int l2]) (st := []) (o := l0) dX11_cheapestSet_33 (c_X11_bends hq5) mov_X11_bends tw_1471 hobq5 rfl ⟨Nat.le_of_ble_eq_true rfl, Nat.le_of_ble_eq_true rfl⟩ (Nat.le_of_ble_eq_true rfl) ?_
        refine gx_istore (lv' := [(6, .int q5.1), (0, .ref (Γ.B + pp l0)), (1, .int l1), (2, .int l2), (3, .int l3), (4, .int l4), (5, .int l5)]) dX11_cheapestSet_36 (Nat.le_of_ble_eq_true rfl) rfl ?_
        refine gx_iload 5 dX11_cheapestSet_38 rfl ?_
        refine gx_if_lt 74 dX11_cheapestSet_40 (by decide) (fun c5 => ?_) (fun c5 => ?_)
        · rw [if_pos c5] at h
          exact gx_sub [1, 2, 3, 4, 5, 6, 0] rfl (s_X11_cheapestSet_74 ih h)
        · rw [if_neg c5] at h
          refine gx_iload 0 dX11_cheapestSet_43 rfl ?_
          refine gx_aload_n 1 dX11_cheapestSet_45 rfl rfl ?_
          obtain ⟨x7, hx7, h⟩ := bnd h
          refine gx_getI dX11_cheapestSet_46 hx7 fl_X11_361 rfl ?_
          refine gx_icmp_gt 96 dX11_cheapestSet_49 (by decide) (fun c7 => ?_) (fun c7 => ?_)
          · rw [if_pos c7] at h
            exact gx_sub [1, 2, 3, 4, 5, 6] rfl (s_X11_cheapestSet_96 ih h)
          · rw [if_neg c7] at h
            refine gx_iload 0 dX11_cheapestSet_52 rfl ?_
            refine gx_aload_n 1 dX11_cheapestSet_54 rfl rfl ?_
            obtain ⟨x9, hx9, h⟩ := bnd h
            refine gx_getI dX11_cheapestSet_55 hx9 fl_X11_361 rfl ?_
            refine gx_icmp_ne 74 dX11_cheapestSet_58 (by decide) (fun c9 => ?_) (fun c9 => ?_)
            · rw [if_neg c9] at h
              exact gx_sub [1, 2, 3, 4, 5, 6, 0] rfl (s_X11_cheapestSet_74 ih h)
            · rw [if_pos c9] at h
              refine gx_iload 6 dX11_cheapestSet_61 rfl ?_
              obtain ⟨q11, hq11, h⟩ := bnd h
              refine gx_cSI (As := [.int l5]) (st := []) dX11_cheapestSet_63 (c_X11_bits hq11) mos_X11_bits tw_1478 rfl ⟨Nat.le_of_ble_eq_true rfl, Nat.le_of_ble_eq_true rfl⟩ (Nat.le_of_ble_eq_true rfl) ?_
              refine gx_iload 5 dX11_cheapestSet_66 rfl ?_
              obtain ⟨q12, hq12, h⟩ := bnd h
              refine gx_cSI (As := [.int l4]) (st := [.int q11.1]) dX11_cheapestSet_68 (c_X11_bits hq12) mos_X11_bits tw_1478 rfl ⟨Nat.le_of_ble_eq_true rfl, Nat.le_of_ble_eq_true rfl⟩ (Nat.le_of_ble_eq_true rfl) ?_
              refine gx_icmp_ge 96 dX11_cheapestSet_71 (by decide) (fun c12 => ?_) (fun c12 => ?_)
              · rw [if_pos c12] at h
                exact gx_sub [1, 2, 3, 4, 5, 6] rfl (s_X11_cheapestSet_96 ih h)
              · rw [if_neg c12] at h
                exact gx_sub [1, 2, 3, 4, 5, 6, 0] rfl (s_X11_cheapestSet_74 ih h)
      · rw [if_neg c3] at h
        refine gx_goto 96 dX11_cheapestSet_26 (by decide) ?_
        exact s_X11_cheapestSet_96 ih h
set_option maxRecDepth 4000 in
theorem s_X11_cheapestSet_0 {Γ : Cn} {τ : Mm} {N : Nat} {l0 : Nat} {l1 : Int32} {l2 : Int32} {l3 : Int32} {σ : Mm} {o : Int32 × Mm} (h : f_X11_cheapestSet N l0 l1 l2 l3 σ = some o) : Gx Γ M_X11_cheapestSet 100 τ (PI o) 0 0 0 [(0, .ref (Γ.B + pp l0)), (1, .int l1), (2, .int l2), (3, .int l3)] [] σ := by
  unfold f_X11_cheapestSet at h
  refine gx_iconst (v := (-1 : Int32)) dX11_cheapestSet_0 ic_m1 ?_
  refine gx_istore (lv' := [(4, .int (-1 : Int32)), (0, .ref (Γ.B + pp l0)), (1, .int l1), (2, .int l2), (3, .int l3)]) dX11_cheapestSet_1 (Nat.le_of_ble_eq_true rfl) rfl ?_
  refine gx_iconst (v := (0 : Int32)) dX11_cheapestSet_3 ic_0 ?_
  refine gx_istore (lv' := [(5, .int (0 : Int32)), (4, .int (-1 : Int32)), (0, .ref (Γ.B + pp l0)), (1, .int l1), (2, .int l2), (3, .int l3)]) dX11_cheapestSet_4 (Nat.le_of_ble_eq_true rfl) rfl ?_
  exact gx_sub [2, 3, 4, 5, 1, 0] rfl (s_X11_cheapestSet_6  N _ _ _ _ _ _ _ _ h)
theorem c_X11_cheapestSet {Γ : Cn} {τ : Mm} {N : Nat} {l0 : Nat} {l1 : Int32} {l2 : Int32} {l3 : Int32} {σ : Mm} {o : Int32 × Mm} (h : f_X11_cheapestSet N l0 l1 l2 l3 σ = some o) : Ct Γ M_X11_cheapestSet yX11_cheapestSet 100 τ [.ref (Γ.B + pp l0), .int l1, .int l2, .int l3] σ (PI o) := ct_of (by decide) rfl (fun _ => by first | rfl | contradiction) (Nat.le_of_ble_eq_true rfl) (s_X11_cheapestSet_0  h)
abbrev M_X11_canBuy : Ms := (cX11_canBuy, RX11, 4, (some .boolean), false, 0, 0, 1)
def f_X11_canBuy_36 (N : Nat) (t0 : Int32) (σ : Mm) : Option (Int32 × Mm) :=
  if t0 = 0 ∨ t0 = 1 then some (t0, σ) else none
def f_X11_canBuy_35 (N : Nat) (σ : Mm) : Option (Int32 × Mm) :=
  f_X11_canBuy_36 N (0 : Int32) σ
def f_X11_canBuy (N : Nat) (l0 : Nat) (l1 : Int32) (l2 : Int32) (l3 : Int32) (σ : Mm) : Option (Int32 × Mm) :=
  (gN 11 24 σ l0).bind fun a1 =>
  (aI 113 σ a1 (0 : Int32)).bind fun x2 =>
  if x2 ≤ 0 then (
    f_X11_canBuy_35 N σ) else (
    (f_X11_isWay N l1 σ).bind fun q4 =>
    if q4.1 = 0 then (
      f_X11_canBuy_35 N q4.2) else (
      (f_X11_isPoint N l2 q4.2).bind fun q6 =>
      if q6.1 = 0 then (
        f_X11_canBuy_35 N q6.2) else (
        (ob 11 q6.2 l0).bind fun _ =>
        (f_X11_isSet N l0 l3 q6.2).bind fun q8 =>
        if q8.1 = 0 then (
          f_X11_canBuy_35 N q8.2) else (
          f_X11_canBuy_36 N (1 : Int32) q8.2))))
theorem mov_X11_canBuy : MOV yX11_canBuy M_X11_canBuy 3 11 100 := ⟨⟨tw_107, tw_1458, ⟨by decide, by decide⟩, by decide +kernel⟩, tw_1457, tw_87, by decide, ⟨_, rfl, rfl⟩, rfl⟩
set_option maxRecDepth 4000 in
theorem s_X11_canBuy_36 {Γ : Cn} {τ : Mm} {N : Nat} {t0 : Int32} {σ : Mm} {o : Int32 × Mm} (h : f_X11_canBuy_36 N t0 σ = some o) : Gx Γ M_X11_canBuy 100 τ (PI o) 0 0 36 [] [.int t0] σ := by
  unfold f_X11_canBuy_36 at h
  obtain ⟨hz, h⟩ := of_if h
  have h := Option.some.inj h
  subst h
  exact gx_zret dX11_canBuy_36 rfl (nar_z hz) (Nat.le_of_ble_eq_true rfl) (Nat.le_of_ble_eq_true rfl) ⟨rfl, rfl⟩
set_option maxRecDepth 4000 in
theorem s_X11_canBuy_35 {Γ : Cn} {τ : Mm} {N : Nat} {σ : Mm} {o : Int32 × Mm} (h : f_X11_canBuy_35 N σ = some o) : Gx Γ M_X11_canBuy 100 τ (PI o) 0 0 35 [] [] σ := by
  unfold f_X11_canBuy_35 at h
  refine gx_iconst (v := (0 : Int32)) dX11_canBuy_35 ic_0 ?_
  exact s_X11_canBuy_36  h
set_option maxRecDepth 4000 in
theorem s_X11_canBuy_0 {Γ : Cn} {τ : Mm} {N : Nat} {l0 : Nat} {l1 : Int32} {l2 : Int32} {l3 : Int32} {σ : Mm} {o : Int32 × Mm} (h : f_X11_canBuy N l0 l1 l2 l3 σ = some o) : Gx Γ M_X11_canBuy 100 τ (PI o) 0 0 0 [(0, .ref (Γ.B + pp l0)), (1, .int l1), (2, .int l2), (3, .int l3)] [] σ := by
  unfold f_X11_canBuy at h
  refine gx_aload_n 0 dX11_canBuy_0 rfl rfl ?_
  obtain ⟨a1, ha1, h⟩ := bnd h
  refine gx_getN dX11_canBuy_1 ha1 fl_X11_45 rfl ?_
  refine gx_iconst (v := (0 : Int32)) dX11_canBuy_4 ic_0 ?_
  obtain ⟨x2, hx2, h⟩ := bnd h
  refine gx_iald (kd := 113) dX11_canBuy_5 hx2 rfl rfl ?_
  refine gx_if_le 35 dX11_canBuy_6 (by decide) (fun c2 => ?_) (fun c2 => ?_)
  · rw [if_pos c2] at h
    exact gx_sub [] rfl (s_X11_canBuy_35  h)
  · rw [if_neg c2] at h
    refine gx_iload_n 1 dX11_canBuy_9 rfl rfl ?_
    obtain ⟨q4, hq4, h⟩ := bnd h
    refine gx_cSI (As := [.int l1]) (st := []) dX11_canBuy_10 (c_X11_isWay hq4) mos_X11_isWay tw_1404 rfl ⟨Nat.le_of_ble_eq_true rfl, Nat.le_of_ble_eq_true rfl⟩ (Nat.le_of_ble_eq_true rfl) ?_
    refine gx_if_eq 35 dX11_canBuy_13 (by decide) (fun c4 => ?_) (fun c4 => ?_)
    · rw [if_pos c4] at h
      exact gx_sub [] rfl (s_X11_canBuy_35  h)
    · rw [if_neg c4] at h
      refine gx_iload_n 2 dX11_canBuy_16 rfl rfl ?_
      obtain ⟨q6, hq6, h⟩ := bnd h
      refine gx_cSI (As := [.int l2]) (st := []) dX11_canBuy_17 (c_X11_isPoint hq6) mos_X11_isPoint tw_1318 rfl ⟨Nat.le_of_ble_eq_true rfl, Nat.le_of_ble_eq_true rfl⟩ (Nat.le_of_ble_eq_true rfl) ?_
      refine gx_if_eq 35 dX11_canBuy_20 (by decide) (fun c6 => ?_) (fun c6 => ?_)
      · rw [if_pos c6] at h
        exact gx_sub [] rfl (s_X11_canBuy_35  h)
      · rw [if_neg c6] at h
        refine gx_aload_n 0 dX11_canBuy_23 rfl rfl ?_
        refine gx_iload_n 3 dX11_canBuy_24 rfl rfl ?_
        obtain ⟨_, hobq8, h⟩ := bnd h
        obtain ⟨q8, hq8, h⟩ := bnd h
        refine gx_cVI (As := [.int l3]) (st := []) (o := l0) dX11_canBuy_25 (c_X11_isSet hq8) mov_X11_isSet tw_1459 hobq8 rfl ⟨Nat.le_of_ble_eq_true rfl, Nat.le_of_ble_eq_true rfl⟩ (Nat.le_of_ble_eq_true rfl) ?_
        refine gx_if_eq 35 dX11_canBuy_28 (by decide) (fun c8 => ?_) (fun c8 => ?_)
        · rw [if_pos c8] at h
          exact gx_sub [] rfl (s_X11_canBuy_35  h)
        · rw [if_neg c8] at h
          refine gx_iconst (v := (1 : Int32)) dX11_canBuy_31 ic_1 ?_
          refine gx_goto 36 dX11_canBuy_32 (by decide) ?_
          exact gx_sub [] rfl (s_X11_canBuy_36  h)
theorem c_X11_canBuy {Γ : Cn} {τ : Mm} {N : Nat} {l0 : Nat} {l1 : Int32} {l2 : Int32} {l3 : Int32} {σ : Mm} {o : Int32 × Mm} (h : f_X11_canBuy N l0 l1 l2 l3 σ = some o) : Ct Γ M_X11_canBuy yX11_canBuy 100 τ [.ref (Γ.B + pp l0), .int l1, .int l2, .int l3] σ (PI o) := ct_of (by decide) rfl (fun _ => by first | rfl | contradiction) (Nat.le_of_ble_eq_true rfl) (s_X11_canBuy_0  h)
abbrev M_X11_cheapest : Ms := (cX11_cheapest, RX11, 6, (some .int), false, 0, 0, 5)
def f_X11_cheapest_21 (N : Nat) (σ : Mm) : Option (Int32 × Mm) :=
  some ((-1 : Int32), σ)
def f_X11_cheapest_64 (N : Nat) (t0 : Int32) (σ : Mm) : Option (Int32 × Mm) :=
  some (t0, σ)
def f_X11_cheapest (N : Nat) (l0 : Nat) (l1 : Int32) (l2 : Int32) (l3 : Int32) (l4 : Int32) (σ : Mm) : Option (Int32 × Mm) :=
  (ob 11 σ l0).bind fun _ =>
  (f_X11_canBuy N l0 l1 l2 l3 σ).bind fun q1 =>
  if q1.1 = 0 then (
    f_X11_cheapest_21 N q1.2) else (
    (f_X11_in N (Int32.toInt64 l4) (0 : Int64) (1 : Int64) q1.2).bind fun q3 =>
    if q3.1 = 0 then (
      f_X11_cheapest_21 N q3.2) else (
      (ob 11 q3.2 l0).bind fun _ =>
      (f_X11_asTheyAre N l0 q3.2).bind fun q5 =>
      (ob 11 q5 l0).bind fun _ =>
      (f_X11_keepsRow N l0 q5).bind fun q6 =>
      (ob 11 q6 l0).bind fun _ =>
      (f_X11_cheapestSet N l0 l1 l2 l3 q6).bind fun q7 =>
      if 0 ≤ q7.1 then (
        if l4 = 0 then (
          (gI 11 28 q7.2 l0).bind fun x10 =>
          f_X11_cheapest_64 N x10 q7.2) else (
          f_X11_cheapest_64 N q7.1 q7.2)) else (
        f_X11_cheapest_64 N (-2 : Int32) q7.2)))
theorem mov_X11_cheapest : MOV yX11_cheapest M_X11_cheapest 4 11 100 := ⟨⟨tw_107, tw_1454, ⟨by decide, by decide⟩, by decide +kernel⟩, tw_1452, tw_1453, by decide, ⟨_, rfl, rfl⟩, rfl⟩
set_option maxRecDepth 4000 in
theorem s_X11_cheapest_21 {Γ : Cn} {τ : Mm} {N : Nat} {σ : Mm} {o : Int32 × Mm} (h : f_X11_cheapest_21 N σ = some o) : Gx Γ M_X11_cheapest 100 τ (PI o) 0 0 21 [] [] σ := by
  unfold f_X11_cheapest_21 at h
  refine gx_iconst (v := (-1 : Int32)) dX11_cheapest_21 ic_m1 ?_
  have h := Option.some.inj h
  subst h
  exact gx_iret dX11_cheapest_22 rfl (Nat.le_of_ble_eq_true rfl) (Nat.le_of_ble_eq_true rfl) ⟨rfl, rfl⟩
set_option maxRecDepth 4000 in
theorem s_X11_cheapest_64 {Γ : Cn} {τ : Mm} {N : Nat} {t0 : Int32} {σ : Mm} {o : Int32 × Mm} (h : f_X11_cheapest_64 N t0 σ = some o) : Gx Γ M_X11_cheapest 100 τ (PI o) 0 0 64 [] [.int t0] σ := by
  unfold f_X11_cheapest_64 at h
  have h := Option.some.inj h
  subst h
  exact gx_iret dX11_cheapest_64 rfl (Nat.le_of_ble_eq_true rfl) (Nat.le_of_ble_eq_true rfl) ⟨rfl, rfl⟩
set_option maxRecDepth 4000 in
theorem s_X11_cheapest_0 {Γ : Cn} {τ : Mm} {N : Nat} {l0 : Nat} {l1 : Int32} {l2 : Int32} {l3 : Int32} {l4 : Int32} {σ : Mm} {o : Int32 × Mm} (h : f_X11_cheapest N l0 l1 l2 l3 l4 σ = some o) : Gx Γ M_X11_cheapest 100 τ (PI o) 0 0 0 [(0, .ref (Γ.B + pp l0)), (1, .int l1), (2, .int l2), (3, .int l3), (4, .int l4)] [] σ := by
  unfold f_X11_cheapest at h
  refine gx_aload_n 0 dX11_cheapest_0 rfl rfl ?_
  refine gx_iload_n 1 dX11_cheapest_1 rfl rfl ?_
  refine gx_iload_n 2 dX11_cheapest_2 rfl rfl ?_
  refine gx_iload_n 3 dX11_cheapest_3 rfl rfl ?_
  obtain ⟨_, hobq1, h⟩ := bnd h
  obtain ⟨q1, hq1, h⟩ := bnd h
  refine gx_cVI (As := [.int l1, .int l2, .int l3]) (st := []) (o := l0) dX11_cheapest_4 (c_X11_canBuy hq1) mov_X11_canBuy tw_1455 hobq1 rfl ⟨Nat.le_of_ble_eq_true rfl, Nat.le_of_ble_eq_true rfl⟩ (Nat.le_of_ble_eq_true rfl) ?_
  refine gx_if_eq 21 dX11_cheapest_7 (by decide) (fun c1 => ?_) (fun c1 => ?_)
  · rw [if_pos c1] at h
    exact gx_sub [] rfl (s_X11_cheapest_21  h)
  · rw [if_neg c1] at h
    refine gx_iload 4 dX11_cheapest_10 rfl ?_
    refine gx_i2l dX11_cheapest_12 ?_
    refine gx_lconst (v := (0 : Int64)) dX11_cheapest_13 (by decide) ?_
    refine gx_lconst (v := (1 : Int64)) dX11_cheapest_14 (by decide) ?_
    obtain ⟨q3, hq3, h⟩ := bnd h
    refine gx_cSI (As := [.long (Int32.toInt64 l4), .long (0 : Int64), .long (1 : Int64)]) (st := []) dX11_cheapest_15 (c_X11_in hq3) mos_X11_in tw_1206 rfl ⟨Nat.le_of_ble_eq_true rfl, Nat.le_of_ble_eq_true rfl⟩ (Nat.le_of_ble_eq_true rfl) ?_
    refine gx_if_ne 23 dX11_cheapest_18 (by decide) (fun c3 => ?_) (fun c3 => ?_)
    · rw [if_neg c3] at h
      refine gx_aload_n 0 dX11_cheapest_23 rfl rfl ?_
      obtain ⟨_, hobq5, h⟩ := bnd h
      obtain ⟨q5, hq5, h⟩ := bnd h
      refine gx_cVV (As := []) (st := []) (o := l0) dX11_cheapest_24 (c_X11_asTheyAre hq5) mov_X11_asTheyAre tw_1407 hobq5 rfl ⟨Nat.le_of_ble_eq_true rfl, Nat.le_of_ble_eq_true rfl⟩ (Nat.le_of_ble_eq_true rfl) ?_
      refine gx_aload_n 0 dX11_cheapest_27 rfl rfl ?_
      obtain ⟨_, hobq6, h⟩ := bnd h
      obtain ⟨q6, hq6, h⟩ := bnd h
      refine gx_cVV (As := []) (st := []) (o := l0) dX11_cheapest_28 (c_X11_keepsRow hq6) mov_X11_keepsRow tw_1463 hobq6 rfl ⟨Nat.le_of_ble_eq_true rfl, Nat.le_of_ble_eq_true rfl⟩ (Nat.le_of_ble_eq_true rfl) ?_
      refine gx_aload_n 0 dX11_cheapest_31 rfl rfl ?_
      refine gx_iload_n 1 dX11_cheapest_32 rfl rfl ?_
      refine gx_iload_n 2 dX11_cheapest_33 rfl rfl ?_
      refine gx_iload_n 3 dX11_cheapest_34 rfl rfl ?_
      obtain ⟨_, hobq7, h⟩ := bnd h
      obtain ⟨q7, hq7, h⟩ := bnd h
      refine gx_cVI (As := [.int l1, .int l2, .int l3]) (st := []) (o := l0) dX11_cheapest_35 (c_X11_cheapestSet hq7) mov_X11_cheapestSet tw_1467 hobq7 rfl ⟨Nat.le_of_ble_eq_true rfl, Nat.le_of_ble_eq_true rfl⟩ (Nat.le_of_ble_eq_true rfl) ?_
      refine gx_istore (lv' := [(5, .int q7.1), (0, .ref (Γ.B + pp l0)), (1, .int l1), (2, .int l2), (3, .int l3), (4, .int l4)]) dX11_cheapest_38 (Nat.le_of_ble_eq_true rfl) rfl ?_
      refine gx_iload 0 dX11_cheapest_40 rfl ?_
      refine gx_if_ge 50 dX11_cheapest_42 (by decide) (fun c7 => ?_) (fun c7 => ?_)
      · rw [if_pos c7] at h
        refine gx_iload 5 dX11_cheapest_50 rfl ?_
        refine gx_if_ne 62 dX11_cheapest_52 (by decide) (fun c8 => ?_) (fun c8 => ?_)
        · rw [if_neg c8] at h
          refine gx_iload 0 dX11_cheapest_62 rfl ?_
          exact gx_sub [] rfl (s_X11_cheapest_64  h)
        · rw [if_pos c8] at h
          refine gx_aload_n 1 dX11_cheapest_55 rfl rfl ?_
          obtain ⟨x10, hx10, h⟩ := bnd h
          refine gx_getI dX11_cheapest_56 hx10 fl_X11_361 rfl ?_
          refine gx_goto 64 dX11_cheapest_59 (by decide) ?_
          exact gx_sub [] rfl (s_X11_cheapest_64  h)
      · rw [if_neg c7] at h
        refine gx_bipush (v := (-2 : Int32)) dX11_cheapest_45 ib_m2 ?_
        refine gx_goto 64 dX11_cheapest_47 (by decide) ?_
        exact gx_sub [] rfl (s_X11_cheapest_64  h)
    · rw [if_pos c3] at h
      exact gx_sub [] rfl (s_X11_cheapest_21  h)
theorem c_X11_cheapest {Γ : Cn} {τ : Mm} {N : Nat} {l0 : Nat} {l1 : Int32} {l2 : Int32} {l3 : Int32} {l4 : Int32} {σ : Mm} {o : Int32 × Mm} (h : f_X11_cheapest N l0 l1 l2 l3 l4 σ = some o) : Ct Γ M_X11_cheapest yX11_cheapest 100 τ [.ref (Γ.B + pp l0), .int l1, .int l2, .int l3, .int l4] σ (PI o) := ct_of (by decide) rfl (fun _ => by first | rfl | contradiction) (Nat.le_of_ble_eq_true rfl) (s_X11_cheapest_0  h)
abbrev M_X11_answer : Ms := (cX11_answer, RX11, 8, (some .int), false, 0, 0, 5)
def f_X11_answer_33 (N : Nat) (σ : Mm) : Option (Int32 × Mm) :=
  some ((-1 : Int32), σ)
def f_X11_answer_107 (N : Nat) (t0 : Int32) (σ : Mm) : Option (Int32 × Mm) :=
  some (t0, σ)
def f_X11_answer (N : Nat) (l0 : Nat) (l1 : Int32) (l2 : Int32) (l3 : Int32) (l4 : Int32) (l5 : Int32) (l6 : Int32) (σ : Mm) : Option (Int32 × Mm) :=
  (ob 11 σ l0).bind fun _ =>
  (f_X11_canBuy N l0 l1 l2 l3 σ).bind fun q1 =>
  if q1.1 = 0 then (
    f_X11_answer_33 N q1.2) else (
    (ob 11 q1.2 l0).bind fun _ =>
    (f_X11_canBuy N l0 l1 l4 l5 q1.2).bind fun q3 =>
    if q3.1 = 0 then (
      f_X11_answer_33 N q3.2) else (
      (f_X11_in N (Int32.toInt64 l6) (0 : Int64) (1 : Int64) q3.2).bind fun q5 =>
      if q5.1 = 0 then (
        f_X11_answer_33 N q5.2) else (
        (ob 11 q5.2 l0).bind fun _ =>
        (f_X11_asTheyAre N l0 q5.2).bind fun q7 =>
        (ob 11 q7 l0).bind fun _ =>
        (f_X11_keepsRow N l0 q7).bind fun q8 =>
        (ob 11 q8 l0).bind fun _ =>
        (f_X11_cheapestSet N l0 l1 l2 l3 q8).bind fun q9 =>
        if 0 ≤ q9.1 then (
          (ob 11 q9.2 l0).bind fun _ =>
          (f_X11_bends N l0 q9.1 l2 q9.2).bind fun q11 =>
          (ob 11 q11.2 l0).bind fun _ =>
          (f_X11_keepsRow N l0 q11.2).bind fun q12 =>
          (ob 11 q12 l0).bind fun _ =>
          (f_X11_cheapestSet N l0 l1 l4 l5 q12).bind fun q13 =>
          if 0 ≤ q13.1 then (
            if l6 = 0 then (
              (gI 11 28 q13.2 l0).bind fun x16 =>
              f_X11_answer_107 N x16 q13.2) else (
              f_X11_answer_107 N q13.1 q13.2)) else (
            f_X11_answer_107 N (-2 : Int32) q13.2)) else (
          some ((-2 : Int32), q9.2)))))
theorem mov_X11_answer : MOV yX11_answer M_X11_answer 6 11 100 := ⟨⟨tw_107, tw_1484, ⟨by decide, by decide⟩, by decide +kernel⟩, tw_1482, tw_1483, by decide, ⟨_, rfl, rfl⟩, rfl⟩
set_option maxRecDepth 4000 in
theorem s_X11_answer_33 {Γ : Cn} {τ : Mm} {N : Nat} {σ : Mm} {o : Int32 × Mm} (h : f_X11_answer_33 N σ = some o) : Gx Γ M_X11_answer 100 τ (PI o) 0 0 33 [] [] σ := by
  unfold f_X11_answer_33 at h
  refine gx_iconst (v := (-1 : Int32)) dX11_answer_33 ic_m1 ?_
  have h := Option.some.inj h
  subst h
  exact gx_iret dX11_answer_34 rfl (Nat.le_of_ble_eq_true rfl) (Nat.le_of_ble_eq_true rfl) ⟨rfl, rfl⟩
set_option maxRecDepth 4000 in
theorem s_X11_answer_107 {Γ : Cn} {τ : Mm} {N : Nat} {t0 : Int32} {σ : Mm} {o : Int32 × Mm} (h : f_X11_answer_107 N t0 σ = some o) : Gx Γ M_X11_answer 100 τ (PI o) 0 0 107 [] [.int t0] σ := by
  unfold f_X11_answer_107 at h
  have h := Option.some.inj h
  subst h
  exact gx_iret dX11_answer_107 rfl (Nat.le_of_ble_eq_true rfl) (Nat.le_of_ble_eq_true rfl) ⟨rfl, rfl⟩
set_option maxRecDepth 4000 in
theorem s_X11_answer_0 {Γ : Cn} {τ : Mm} {N : Nat} {l0 : Nat} {l1 : Int32} {l2 : Int32} {l3 : Int32} {l4 : Int32} {l5 : Int32} {l6 : Int32} {σ : Mm} {o : Int32 × Mm} (h : f_X11_answer N l0 l1 l2 l3 l4 l5 l6 σ = some o) : Gx Γ M_X11_answer 100 τ (PI o) 0 0 0 [(0, .ref (Γ.B + pp l0)), (1, .int l1), (2, .int l2), (3, .int l3), (4, .int l4), (5, .int l5), (6, .int l6)] [] σ := by
  unfold f_X11_answer at h
  refine gx_aload_n 0 dX11_answer_0 rfl rfl ?_
  refine gx_iload_n 1 dX11_answer_1 rfl rfl ?_
  refine gx_iload_n 2 dX11_answer_2 rfl rfl ?_
  refine gx_iload_n 3 dX11_answer_3 rfl rfl ?_
  obtain ⟨_, hobq1, h⟩ := bnd h
  obtain ⟨q1, hq1, h⟩ := bnd h
  refine gx_cVI (As := [.int l1, .int l2, .int l3]) (st := []) (o := l0) dX11_answer_4 (c_X11_canBuy hq1) mov_X11_canBuy tw_1455 hobq1 rfl ⟨Nat.le_of_ble_eq_true rfl, Nat.le_of_ble_eq_true rfl⟩ (Nat.le_of_ble_eq_true rfl) ?_
  refine gx_if_eq 33 dX11_answer_7 (by decide) (fun c1 => ?_) (fun c1 => ?_)
  · rw [if_pos c1] at h
    exact gx_sub [] rfl (s_X11_answer_33  h)
  · rw [if_neg c1] at h
    refine gx_aload_n 0 dX11_answer_10 rfl rfl ?_
    refine gx_iload_n 1 dX11_answer_11 rfl rfl ?_
    refine gx_iload 4 dX11_answer_12 rfl ?_
    refine gx_iload 5 dX11_answer_14 rfl ?_
    obtain ⟨_, hobq3, h⟩ := bnd h
    obtain ⟨q3, hq3, h⟩ := bnd h
    refine gx_cVI (As := [.int l1, .int l4, .int l5]) (st := []) (o := l0) dX11_answer_16 (c_X11_canBuy hq3) mov_X11_canBuy tw_1455 hobq3 rfl ⟨Nat.le_of_ble_eq_true rfl, Nat.le_of_ble_eq_true rfl⟩ (Nat.le_of_ble_eq_true rfl) ?_
    refine gx_if_eq 33 dX11_answer_19 (by decide) (fun c3 => ?_) (fun c3 => ?_)
    · rw [if_pos c3] at h
      exact gx_sub [] rfl (s_X11_answer_33  h)
    · rw [if_neg c3] at h
      refine gx_iload 6 dX11_answer_22 rfl ?_
      refine gx_i2l dX11_answer_24 ?_
      refine gx_lconst (v := (0 : Int64)) dX11_answer_25 (by decide) ?_
      refine gx_lconst (v := (1 : Int64)) dX11_answer_26 (by decide) ?_
      obtain ⟨q5, hq5, h⟩ := bnd h
      refine gx_cSI (As := [.long (Int32.toInt64 l6), .long (0 : Int64), .long (1 : Int64)]) (st := []) dX11_answer_27 (c_X11_in hq5) mos_X11_in tw_1206 rfl ⟨Nat.le_of_ble_eq_true rfl, Nat.le_of_ble_eq_true rfl⟩ (Nat.le_of_ble_eq_true rfl) ?_
      refine gx_if_ne 35 dX11_answer_30 (by decide) (fun c5 => ?_) (fun c5 => ?_)
      · rw [if_neg c5] at h
        refine gx_aload_n 0 dX11_answer_35 rfl rfl ?_
        obtain ⟨_, hobq7, h⟩ := bnd h
        obtain ⟨q7, hq7, h⟩ := bnd h
        refine gx_cVV (As := []) (st := []) (o := l0) dX11_answer_36 (c_X11_asTheyAre hq7) mov_X11_asTheyAre tw_1407 hobq7 rfl ⟨Nat.le_of_ble_eq_true rfl, Nat.le_of_ble_eq_true rfl⟩ (Nat.le_of_ble_eq_true rfl) ?_
        refine gx_aload_n 0 dX11_answer_39 rfl rfl ?_
        obtain ⟨_, hobq8, h⟩ := bnd h
        obtain ⟨q8, hq8, h⟩ := bnd h
        refine gx_cVV (As := []) (st := []) (o := l0) dX11_answer_40 (c_X11_keepsRow hq8) mov_X11_keepsRow tw_1463 hobq8 rfl ⟨Nat.le_of_ble_eq_true rfl, Nat.le_of_ble_eq_true rfl⟩ (Nat.le_of_ble_eq_true rfl) ?_
        refine gx_aload_n 0 dX11_answer_43 rfl rfl ?_
        refine gx_iload_n 1 dX11_answer_44 rfl rfl ?_
        refine gx_iload_n 2 dX11_answer_45 rfl rfl ?_
        refine gx_iload_n 3 dX11_answer_46 rfl rfl ?_
        obtain ⟨_, hobq9, h⟩ := bnd h
        obtain ⟨q9, hq9, h⟩ := bnd h
        refine gx_cVI (As := [.int l1, .int l2, .int l3]) (st := []) (o := l0) dX11_answer_47 (c_X11_cheapestSet hq9) mov_X11_cheapestSet tw_1467 hobq9 rfl ⟨Nat.le_of_ble_eq_true rfl, Nat.le_of_ble_eq_true rfl⟩ (Nat.le_of_ble_eq_true rfl) ?_
        refine gx_istore (lv' := [(7, .int q9.1), (0, .ref (Γ.B + pp l0)), (1, .int l1), (2, .int l2), (3, .int l3), (4, .int l4), (5, .int l5), (6, .int l6)]) dX11_answer_50 (Nat.le_of_ble_eq_true rfl) rfl ?_
        refine gx_iload 0 dX11_answer_52 rfl ?_
        refine gx_if_ge 60 dX11_answer_54 (by decide) (fun c9 => ?_) (fun c9 => ?_)
        · rw [if_pos c9] at h
          refine gx_aload_n 1 dX11_answer_60 rfl rfl ?_
          refine gx_iload 0 dX11_answer_61 rfl ?_
          refine gx_iload_n 3 dX11_answer_63 rfl rfl ?_
          obtain ⟨_, hobq11, h⟩ := bnd h
          obtain ⟨q11, hq11, h⟩ := bnd h
          refine gx_cVI (As := [.int q9.1, .int l2]) (st := []) (o := l0) dX11_answer_64 (c_X11_bends hq11) mov_X11_bends tw_1471 hobq11 rfl ⟨Nat.le_of_ble_eq_true rfl, Nat.le_of_ble_eq_true rfl⟩ (Nat.le_of_ble_eq_true rfl) ?_
          refine gx_pop dX11_answer_67 rfl ?_
          refine gx_aload_n 1 dX11_answer_68 rfl rfl ?_
          obtain ⟨_, hobq12, h⟩ := bnd h
          obtain ⟨q12, hq12, h⟩ := bnd h
          refine gx_cVV (As := []) (st := []) (o := l0) dX11_answer_69 (c_X11_keepsRow hq12) mov_X11_keepsRow tw_1463 hobq12 rfl ⟨Nat.le_of_ble_eq_true rfl, Nat.le_of_ble_eq_true rfl⟩ (Nat.le_of_ble_eq_true rfl) ?_
          refine gx_aload_n 1 dX11_answer_72 rfl rfl ?_
          refine gx_iload_n 2 dX11_answer_73 rfl rfl ?_
          refine gx_iload 5 dX11_answer_74 rfl ?_
          refine gx_iload 6 dX11_answer_76 rfl ?_
          obtain ⟨_, hobq13, h⟩ := bnd h
          obtain ⟨q13, hq13, h⟩ := bnd h
          refine gx_cVI (As := [.int l1, .int l4, .int l5]) (st := []) (o := l0) dX11_answer_78 (c_X11_cheapestSet hq13) mov_X11_cheapestSet tw_1467 hobq13 rfl ⟨Nat.le_of_ble_eq_true rfl, Nat.le_of_ble_eq_true rfl⟩ (Nat.le_of_ble_eq_true rfl) ?_
          refine gx_istore (lv' := [(7, .int q13.1), (0, .ref (Γ.B + pp l0)), (1, .int l1), (2, .int l2), (3, .int l3), (4, .int l4), (5, .int l5), (6, .int l6)]) dX11_answer_81 (Nat.le_of_ble_eq_true rfl) rfl ?_
          refine gx_iload 0 dX11_answer_83 rfl ?_
          refine gx_if_ge 93 dX11_answer_85 (by decide) (fun c13 => ?_) (fun c13 => ?_)
          · rw [if_pos c13] at h
            refine gx_iload 7 dX11_answer_93 rfl ?_
            refine gx_if_ne 105 dX11_answer_95 (by decide) (fun c14 => ?_) (fun c14 => ?_)
            · rw [if_neg c14] at h
              refine gx_iload 0 dX11_answer_105 rfl ?_
              exact gx_sub [] rfl (s_X11_answer_107  h)
            · rw [if_pos c14] at h
              refine gx_aload_n 1 dX11_answer_98 rfl rfl ?_
              obtain ⟨x16, hx16, h⟩ := bnd h
              refine gx_getI dX11_answer_99 hx16 fl_X11_361 rfl ?_
              refine gx_goto 107 dX11_answer_102 (by decide) ?_
              exact gx_sub [] rfl (s_X11_answer_107  h)
          · rw [if_neg c13] at h
            refine gx_bipush (v := (-2 : Int32)) dX11_answer_88 ib_m2 ?_
            refine gx_goto 107 dX11_answer_90 (by decide) ?_
            exact gx_sub [] rfl (s_X11_answer_107  h)
        · rw [if_neg c9] at h
          refine gx_bipush (v := (-2 : Int32)) dX11_answer_57 ib_m2 ?_
          have h := Option.some.inj h
          subst h
          exact gx_iret dX11_answer_59 rfl (Nat.le_of_ble_eq_true rfl) (Nat.le_of_ble_eq_true rfl) ⟨rfl, rfl⟩
      · rw [if_pos c5] at h
        exact gx_sub [] rfl (s_X11_answer_33  h)
theorem c_X11_answer {Γ : Cn} {τ : Mm} {N : Nat} {l0 : Nat} {l1 : Int32} {l2 : Int32} {l3 : Int32} {l4 : Int32} {l5 : Int32} {l6 : Int32} {σ : Mm} {o : Int32 × Mm} (h : f_X11_answer N l0 l1 l2 l3 l4 l5 l6 σ = some o) : Ct Γ M_X11_answer yX11_answer 100 τ [.ref (Γ.B + pp l0), .int l1, .int l2, .int l3, .int l4, .int l5, .int l6] σ (PI o) := ct_of (by decide) rfl (fun _ => by first | rfl | contradiction) (Nat.le_of_ble_eq_true rfl) (s_X11_answer_0  h)
abbrev M_X11_bought : Ms := (cX11_bought, RX11, 6, (some .int), false, 0, 0, 4)
def f_X11_bought_28 (N : Nat) (σ : Mm) : Option (Int32 × Mm) :=
  some ((-1 : Int32), σ)
def f_X11_bought_117 (N : Nat) (r_53 : Nat → Int32 → Int32 → Int32 → Int32 → Int32 → Mm → Option (Int32 × Mm)) (l0 : Nat) (l1 : Int32) (l2 : Int32) (l3 : Int32) (l4 : Int32) (l5 : Int32) (σ : Mm) : Option (Int32 × Mm) :=
  r_53 l0 l1 l2 l3 l4 (l5 + (1 : Int32)) σ
def f_X11_bought_115 (N : Nat) (r_53 : Nat → Int32 → Int32 → Int32 → Int32 → Int32 → Mm → Option (Int32 × Mm)) (l0 : Nat) (l1 : Int32) (l2 : Int32) (l4 : Int32) (l5 : Int32) (t0 : Int32) (t1 : Int32) (σ : Mm) : Option (Int32 × Mm) :=
  f_X11_bought_117 N r_53 l0 l1 l2 (t0 ||| t1) l4 l5 σ
def f_X11_bought_123 (N : Nat) (r_43 : Nat → Int32 → Int32 → Int32 → Int32 → Mm → Option (Int32 × Mm)) (l0 : Nat) (l1 : Int32) (l2 : Int32) (l3 : Int32) (l4 : Int32) (σ : Mm) : Option (Int32 × Mm) :=
  r_43 l0 l1 l2 l3 (l4 + (1 : Int32)) σ
def f_X11_bought_53 (N : Nat) (r_43 : Nat → Int32 → Int32 → Int32 → Int32 → Mm → Option (Int32 × Mm)) : Nat → Nat → Int32 → Int32 → Int32 → Int32 → Int32 → Mm → Option (Int32 × Mm)
  | 0, _, _, _, _, _, _, _ => none
  | n + 1, l0, l1, l2, l3, l4, l5, σ =>
      (gN 11 24 σ l0).bind fun a1 =>
      (aI 113 σ a1 (0 : Int32)).bind fun x2 =>
      if ((1 : Int32) <<< (x2 &&& 31)) ≤ l5 then (
        f_X11_bought_123 N r_43 l0 l1 l2 l3 l4 σ) else (
        (f_X11_isOf N l3 l4 σ).bind fun q4 =>
        if q4.1 = 0 then (
          (f_X11_bits N l5 q4.2).bind fun q6 =>
          if q6.1 ≤ l2 then (
            (ob 11 q6.2 l0).bind fun _ =>
            (f_X11_bends N l0 l5 l4 q6.2).bind fun q8 =>
            (ob 11 q8.2 l0).bind fun _ =>
            (f_X11_votes N l0 l1 q8.2).bind fun q9 =>
            if q9.1 = l4 then (
              f_X11_bought_115 N (f_X11_bought_53 N r_43 n) l0 l1 l2 l4 l5 l3 ((1 : Int32) <<< (l4 &&& 31)) q9.2) else (
              f_X11_bought_115 N (f_X11_bought_53 N r_43 n) l0 l1 l2 l4 l5 l3 (0 : Int32) q9.2)) else (
            f_X11_bought_117 N (f_X11_bought_53 N r_43 n) l0 l1 l2 l3 l4 l5 q6.2)) else (
          f_X11_bought_123 N r_43 l0 l1 l2 l3 l4 q4.2))
def f_X11_bought_43 (N : Nat) : Nat → Nat → Int32 → Int32 → Int32 → Int32 → Mm → Option (Int32 × Mm)
  | 0, _, _, _, _, _, _ => none
  | n + 1, l0, l1, l2, l3, l4, σ =>
      if (8 : Int32) ≤ l4 then (
        some (l3, σ)) else (
        f_X11_bought_53 N (f_X11_bought_43 N n) N l0 l1 l2 l3 l4 (0 : Int32) σ)
def f_X11_bought (N : Nat) (l0 : Nat) (l1 : Int32) (l2 : Int32) (σ : Mm) : Option (Int32 × Mm) :=
  (gN 11 24 σ l0).bind fun a1 =>
  (aI 113 σ a1 (0 : Int32)).bind fun x2 =>
  if x2 = 0 then (
    f_X11_bought_28 N σ) else (
    (f_X11_isWay N l1 σ).bind fun q4 =>
    if q4.1 = 0 then (
      f_X11_bought_28 N q4.2) else (
      (f_X11_in N (Int32.toInt64 l2) (0 : Int64) (12 : Int64) q4.2).bind fun q6 =>
      if q6.1 = 0 then (
        f_X11_bought_28 N q6.2) else (
        (ob 11 q6.2 l0).bind fun _ =>
        (f_X11_asTheyAre N l0 q6.2).bind fun q8 =>
        (ob 11 q8 l0).bind fun _ =>
        (f_X11_keepsRow N l0 q8).bind fun q9 =>
        f_X11_bought_43 N N l0 l1 l2 (0 : Int32) (0 : Int32) q9)))
theorem mov_X11_bought : MOV yX11_bought M_X11_bought 2 11 100 := ⟨⟨tw_107, tw_1488, ⟨by decide, by decide⟩, by decide +kernel⟩, tw_1486, tw_1487, by decide, ⟨_, rfl, rfl⟩, rfl⟩
set_option maxRecDepth 4000 in
theorem s_X11_bought_28 {Γ : Cn} {τ : Mm} {N : Nat} {σ : Mm} {o : Int32 × Mm} (h : f_X11_bought_28 N σ = some o) : Gx Γ M_X11_bought 100 τ (PI o) 0 0 28 [] [] σ := by
  unfold f_X11_bought_28 at h
  refine gx_iconst (v := (-1 : Int32)) dX11_bought_28 ic_m1 ?_
  have h := Option.some.inj h
  subst h
  exact gx_iret dX11_bought_29 rfl (Nat.le_of_ble_eq_true rfl) (Nat.le_of_ble_eq_true rfl) ⟨rfl, rfl⟩
set_option maxRecDepth 4000 in
theorem s_X11_bought_117 {Γ : Cn} {τ : Mm} {N : Nat} {r_53 : Nat → Int32 → Int32 → Int32 → Int32 → Int32 → Mm → Option (Int32 × Mm)} (hr_53 : ∀ (l0 : Nat) (l1 : Int32) (l2 : Int32) (l3 : Int32) (l4 : Int32) (l5 : Int32) (σ : Mm) (o : Int32 × Mm), r_53 l0 l1 l2 l3 l4 l5 σ = some o → Gx Γ M_X11_bought 100 τ (PI o) 0 0 53 [(0, .ref (Γ.B + pp l0)), (1, .int l1), (2, .int l2), (3, .int l3), (4, .int l4), (5, .int l5)] [] σ) {l0 : Nat} {l1 : Int32} {l2 : Int32} {l3 : Int32} {l4 : Int32} {l5 : Int32} {σ : Mm} {o : Int32 × Mm} (h : f_X11_bought_117 N r_53 l0 l1 l2 l3 l4 l5 σ = some o) : Gx Γ M_X11_bought 100 τ (PI o) 0 0 117 [(0, .ref (Γ.B + pp l0)), (1, .int l1), (2, .int l2), (3, .int l3), (4, .int l4), (5, .int l5)] [] σ := by
  unfold f_X11_bought_117 at h
  refine gx_iinc (v := (l5 + (1 : Int32))) (lv' := [(5, .int (l5 + (1 : Int32))), (0, .ref (Γ.B + pp l0)), (1, .int l1), (2, .int l2), (3, .int l3), (4, .int l4)]) 5 dX11_bought_117 rfl (by rw [ic_1]) (Nat.le_of_ble_eq_true rfl) rfl ?_
  refine gx_goto 53 dX11_bought_120 (by decide) ?_
  exact gx_sub [1, 2, 3, 4, 5, 0] rfl (hr_53 _ _ _ _ _ _ _ _ h)
set_option maxRecDepth 4000 in
theorem s_X11_bought_115 {Γ : Cn} {τ : Mm} {N : Nat} {r_53 : Nat → Int32 → Int32 → Int32 → Int32 → Int32 → Mm → Option (Int32 × Mm)} (hr_53 : ∀ (l0 : Nat) (l1 : Int32) (l2 : Int32) (l3 : Int32) (l4 : Int32) (l5 : Int32) (σ : Mm) (o : Int32 × Mm), r_53 l0 l1 l2 l3 l4 l5 σ = some o → Gx Γ M_X11_bought 100 τ (PI o) 0 0 53 [(0, .ref (Γ.B + pp l0)), (1, .int l1), (2, .int l2), (3, .int l3), (4, .int l4), (5, .int l5)] [] σ) {l0 : Nat} {l1 : Int32} {l2 : Int32} {l4 : Int32} {l5 : Int32} {t0 : Int32} {t1 : Int32} {σ : Mm} {o : Int32 × Mm} (h : f_X11_bought_115 N r_53 l0 l1 l2 l4 l5 t0 t1 σ = some o) : Gx Γ M_X11_bought 100 τ (PI o) 0 0 115 [(0, .ref (Γ.B + pp l0)), (1, .int l1), (2, .int l2), (4, .int l4), (5, .int l5)] [.int t1, .int t0] σ := by
  unfold f_X11_bought_115 at h
  refine gx_ior dX11_bought_115 ?_
  refine gx_istore_n (lv' := [(3, .int (t0 ||| t1)), (0, .ref (Γ.B + pp l0)), (1, .int l1), (2, .int l2), (4, .int l4), (5, .int l5)]) dX11_bought_116 rfl (Nat.le_of_ble_eq_true rfl) rfl ?_
  exact gx_sub [1, 2, 3, 0, 4, 5] rfl (s_X11_bought_117 hr_53 h)
set_option maxRecDepth 4000 in
theorem s_X11_bought_123 {Γ : Cn} {τ : Mm} {N : Nat} {r_43 : Nat → Int32 → Int32 → Int32 → Int32 → Mm → Option (Int32 × Mm)} (hr_43 : ∀ (l0 : Nat) (l1 : Int32) (l2 : Int32) (l3 : Int32) (l4 : Int32) (σ : Mm) (o : Int32 × Mm), r_43 l0 l1 l2 l3 l4 σ = some o → Gx Γ M_X11_bought 100 τ (PI o) 0 0 43 [(0, .ref (Γ.B + pp l0)), (1, .int l1), (2, .int l2), (3, .int l3), (4, .int l4)] [] σ) {l0 : Nat} {l1 : Int32} {l2 : Int32} {l3 : Int32} {l4 : Int32} {σ : Mm} {o : Int32 × Mm} (h : f_X11_bought_123 N r_43 l0 l1 l2 l3 l4 σ = some o) : Gx Γ M_X11_bought 100 τ (PI o) 0 0 123 [(0, .ref (Γ.B + pp l0)), (1, .int l1), (2, .int l2), (3, .int l3), (4, .int l4)] [] σ := by
  unfold f_X11_bought_123 at h
  refine gx_iinc (v := (l4 + (1 : Int32))) (lv' := [(4, .int (l4 + (1 : Int32))), (0, .ref (Γ.B + pp l0)), (1, .int l1), (2, .int l2), (3, .int l3)]) 4 dX11_bought_123 rfl (by rw [ic_1]) (Nat.le_of_ble_eq_true rfl) rfl ?_
  refine gx_goto 43 dX11_bought_126 (by decide) ?_
  exact gx_sub [1, 2, 3, 4, 0] rfl (hr_43 _ _ _ _ _ _ _ h)
set_option maxRecDepth 4000 in
theorem s_X11_bought_53 {Γ : Cn} {τ : Mm} {N : Nat} {r_43 : Nat → Int32 → Int32 → Int32 → Int32 → Mm → Option (Int32 × Mm)} (hr_43 : ∀ (l0 : Nat) (l1 : Int32) (l2 : Int32) (l3 : Int32) (l4 : Int32) (σ : Mm) (o : Int32 × Mm), r_43 l0 l1 l2 l3 l4 σ = some o → Gx Γ M_X11_bought 100 τ (PI o) 0 0 43 [(0, .ref (Γ.B + pp l0)), (1, .int l1), (2, .int l2), (3, .int l3), (4, .int l4)] [] σ) : ∀ (n : Nat) (l0 : Nat) (l1 : Int32) (l2 : Int32) (l3 : Int32) (l4 : Int32) (l5 : Int32) (σ : Mm) (o : Int32 × Mm), f_X11_bought_53 N r_43 n l0 l1 l2 l3 l4 l5 σ = some o → Gx Γ M_X11_bought 100 τ (PI o) 0 0 53 [(0, .ref (Γ.B + pp l0)), (1, .int l1), (2, .int l2), (3, .int l3), (4, .int l4), (5, .int l5)] [] σ := by
  intro n
  induction n with
  | zero =>
    intro l0 l1 l2 l3 l4 l5 σ o h
    exact absurd h (by rw [f_X11_bought_53]; exact fun q => nomatch q)
  | succ n ih =>
    intro l0 l1 l2 l3 l4 l5 σ o h
    rw [f_X11_bought_53] at h
    refine gx_iload 5 dX11_bought_53 rfl ?_
    refine gx_iconst (v := (1 : Int32)) dX11_bought_55 ic_1 ?_
    refine gx_aload_n 0 dX11_bought_56 rfl rfl ?_
    obtain ⟨a1, ha1, h⟩ := bnd h
    refine gx_getN dX11_bought_57 ha1 fl_X11_45 rfl ?_
    refine gx_iconst (v := (0 : Int32)) dX11_bought_60 ic_0 ?_
    obtain ⟨x2, hx2, h⟩ := bnd h
    refine gx_iald (kd := 113) dX11_bought_61 hx2 rfl rfl ?_
    refine gx_ishl dX11_bought_62 ?_
    refine gx_icmp_ge 123 dX11_bought_63 (by decide) (fun c2 => ?_) (fun c2 => ?_)
    · rw [if_pos c2] at h
      exact gx_sub [0, 1, 2, 3, 4] rfl (s_X11_bought_123 hr_43 h)
    · rw [if_neg c2] at h
      refine gx_iload_n 3 dX11_bought_66 rfl rfl ?_
      refine gx_iload 4 dX11_bought_67 rfl ?_
      obtain ⟨q4, hq4, h⟩ := bnd h
      refine gx_cSI (As := [.int l3, .int l4]) (st := []) dX11_bought_69 (c_X11_isOf hq4) mos_X11_isOf tw_1475 rfl ⟨Nat.le_of_ble_eq_true rfl, Nat.le_of_ble_eq_true rfl⟩ (Nat.le_of_ble_eq_true rfl) ?_
      refine gx_if_ne 123 dX11_bought_72 (by decide) (fun c4 => ?_) (fun c4 => ?_)
      · rw [if_neg c4] at h
        exact gx_sub [0, 1, 2, 3, 4] rfl (s_X11_bought_123 hr_43 h)
      · rw [if_pos c4] at h
        refine gx_iload 5 dX11_bought_75 rfl ?_
        obtain ⟨q6, hq6, h⟩ := bnd h
        refine gx_cSI (As := [.int l5]) (st := []) dX11_bought_77 (c_X11_bits hq6) mos_X11_bits tw_1478 rfl ⟨Nat.le_of_ble_eq_true rfl, Nat.le_of_ble_eq_true rfl⟩ (Nat.le_of_ble_eq_true rfl) ?_
        refine gx_iload_n 2 dX11_bought_80 rfl rfl ?_
        refine gx_icmp_le 87 dX11_bought_81 (by decide) (fun c6 => ?_) (fun c6 => ?_)
        · rw [if_pos c6] at h
          refine gx_aload_n 0 dX11_bought_87 rfl rfl ?_
          refine gx_iload 5 dX11_bought_88 rfl ?_
          refine gx_iload 4 dX11_bought_90 rfl ?_
          obtain ⟨_, hobq8, h⟩ := bnd h
          obtain ⟨q8, hq8, h⟩ := bnd h
          refine gx_cVI (As := [.int l5, .int l4]) (st := []) (o := l0) dX11_bought_92 (c_X11_bends hq8) mov_X11_bends tw_1471 hobq8 rfl ⟨Nat.le_of_ble_eq_true rfl, Nat.le_of_ble_eq_true rfl⟩ (Nat.le_of_ble_eq_true rfl) ?_
          refine gx_pop dX11_bought_95 rfl ?_
          refine gx_iload_n 3 dX11_bought_96 rfl rfl ?_
          refine gx_aload_n 0 dX11_bought_97 rfl rfl ?_
          refine gx_iload_n 1 dX11_bought_98 rfl rfl ?_
          obtain ⟨_, hobq9, h⟩ := bnd h
          obtain ⟨q9, hq9, h⟩ := bnd h
          refine gx_cVI (As := [.int l1]) (st := [.int l3]) (o := l0) dX11_bought_99 (c_X11_votes hq9) mov_X11_votes tw_1411 hobq9 rfl ⟨Nat.le_of_ble_eq_true rfl, Nat.le_of_ble_eq_true rfl⟩ (Nat.le_of_ble_eq_true rfl) ?_
          refine gx_iload 4 dX11_bought_102 rfl ?_
          refine gx_icmp_ne 114 dX11_bought_104 (by decide) (fun c9 => ?_) (fun c9 => ?_)
          · rw [if_neg c9] at h
            refine gx_iconst (v := (0 : Int32)) dX11_bought_114 ic_0 ?_
            exact gx_sub [0, 1, 2, 4, 5] rfl (s_X11_bought_115 ih h)
          · rw [if_pos c9] at h
            refine gx_iconst (v := (1 : Int32)) dX11_bought_107 ic_1 ?_
            refine gx_iload 4 dX11_bought_108 rfl ?_
            refine gx_ishl dX11_bought_110 ?_
            refine gx_goto 115 dX11_bought_111 (by decide) ?_
            exact gx_sub [0, 1, 2, 4, 5] rfl (s_X11_bought_115 ih h)
        · rw [if_neg c6] at h
          refine gx_goto 117 dX11_bought_84 (by decide) ?_
          exact s_X11_bought_117 ih h
set_option maxRecDepth 4000 in
theorem s_X11_bought_43 {Γ : Cn} {τ : Mm} {N : Nat} : ∀ (n : Nat) (l0 : Nat) (l1 : Int32) (l2 : Int32) (l3 : Int32) (l4 : Int32) (σ : Mm) (o : Int32 × Mm), f_X11_bought_43 N n l0 l1 l2 l3 l4 σ = some o → Gx Γ M_X11_bought 100 τ (PI o) 0 0 43 [(0, .ref (Γ.B + pp l0)), (1, .int l1), (2, .int l2), (3, .int l3), (4, .int l4)] [] σ := by
  intro n
  induction n with
  | zero =>
    intro l0 l1 l2 l3 l4 σ o h
    exact absurd h (by rw [f_X11_bought_43]; exact fun q => nomatch q)
  | succ n ih =>
    intro l0 l1 l2 l3 l4 σ o h
    rw [f_X11_bought_43] at h
    refine gx_iload 4 dX11_bought_43 rfl ?_
    refine gx_bipush (v := (8 : Int32)) dX11_bought_45 ib_8 ?_
    refine gx_icmp_ge 129 dX11_bought_47 (by decide) (fun c0 => ?_) (fun c0 => ?_)
    · rw [if_pos c0] at h
      refine gx_iload_n 3 dX11_bought_129 rfl rfl ?_
      have h := Option.some.inj h
      subst h
      exact gx_iret dX11_bought_130 rfl (Nat.le_of_ble_eq_true rfl) (Nat.le_of_ble_eq_true rfl) ⟨rfl, rfl⟩
    · rw [if_neg c0] at h
      refine gx_iconst (v := (0 : Int32)) dX11_bought_50 ic_0 ?_
      refine gx_istore (lv' := [(5, .int (0 : Int32)), (0, .ref (Γ.B + pp l0)), (1, .int l1), (2, .int l2), (3, .int l3), (4, .int l4)]) dX11_bought_51 (Nat.le_of_ble_eq_true rfl) rfl ?_
      exact gx_sub [1, 2, 3, 4, 5, 0] rfl (s_X11_bought_53 ih N _ _ _ _ _ _ _ _ h)
set_option maxRecDepth 4000 in
theorem s_X11_bought_0 {Γ : Cn} {τ : Mm} {N : Nat} {l0 : Nat} {l1 : Int32} {l2 : Int32} {σ : Mm} {o : Int32 × Mm} (h : f_X11_bought N l0 l1 l2 σ = some o) : Gx Γ M_X11_bought 100 τ (PI o) 0 0 0 [(0, .ref (Γ.B + pp l0)), (1, .int l1), (2, .int l2)] [] σ := by
  unfold f_X11_bought at h
  refine gx_aload_n 0 dX11_bought_0 rfl rfl ?_
  obtain ⟨a1, ha1, h⟩ := bnd h
  refine gx_getN dX11_bought_1 ha1 fl_X11_45 rfl ?_
  refine gx_iconst (v := (0 : Int32)) dX11_bought_4 ic_0 ?_
  obtain ⟨x2, hx2, h⟩ := bnd h
  refine gx_iald (kd := 113) dX11_bought_5 hx2 rfl rfl ?_
  refine gx_if_eq 28 dX11_bought_6 (by decide) (fun c2 => ?_) (fun c2 => ?_)
  · rw [if_pos c2] at h
    exact gx_sub [] rfl (s_X11_bought_28  h)
  · rw [if_neg c2] at h
    refine gx_iload_n 1 dX11_bought_9 rfl rfl ?_
    obtain ⟨q4, hq4, h⟩ := bnd h
    refine gx_cSI (As := [.int l1]) (st := []) dX11_bought_10 (c_X11_isWay hq4) mos_X11_isWay tw_1404 rfl ⟨Nat.le_of_ble_eq_true rfl, Nat.le_of_ble_eq_true rfl⟩ (Nat.le_of_ble_eq_true rfl) ?_
    refine gx_if_eq 28 dX11_bought_13 (by decide) (fun c4 => ?_) (fun c4 => ?_)
    · rw [if_pos c4] at h
      exact gx_sub [] rfl (s_X11_bought_28  h)
    · rw [if_neg c4] at h
      refine gx_iload_n 2 dX11_bought_16 rfl rfl ?_
      refine gx_i2l dX11_bought_17 ?_
      refine gx_lconst (v := (0 : Int64)) dX11_bought_18 (by decide) ?_
      refine gx_ldc2 (v := (12 : Int64)) dX11_bought_19 tw_1489 ?_
      obtain ⟨q6, hq6, h⟩ := bnd h
      refine gx_cSI (As := [.long (Int32.toInt64 l2), .long (0 : Int64), .long (12 : Int64)]) (st := []) dX11_bought_22 (c_X11_in hq6) mos_X11_in tw_1206 rfl ⟨Nat.le_of_ble_eq_true rfl, Nat.le_of_ble_eq_true rfl⟩ (Nat.le_of_ble_eq_true rfl) ?_
      refine gx_if_ne 30 dX11_bought_25 (by decide) (fun c6 => ?_) (fun c6 => ?_)
      · rw [if_neg c6] at h
        refine gx_aload_n 0 dX11_bought_30 rfl rfl ?_
        obtain ⟨_, hobq8, h⟩ := bnd h
        obtain ⟨q8, hq8, h⟩ := bnd h
        refine gx_cVV (As := []) (st := []) (o := l0) dX11_bought_31 (c_X11_asTheyAre hq8) mov_X11_asTheyAre tw_1407 hobq8 rfl ⟨Nat.le_of_ble_eq_true rfl, Nat.le_of_ble_eq_true rfl⟩ (Nat.le_of_ble_eq_true rfl) ?_
        refine gx_aload_n 0 dX11_bought_34 rfl rfl ?_
        obtain ⟨_, hobq9, h⟩ := bnd h
        obtain ⟨q9, hq9, h⟩ := bnd h
        refine gx_cVV (As := []) (st := []) (o := l0) dX11_bought_35 (c_X11_keepsRow hq9) mov_X11_keepsRow tw_1463 hobq9 rfl ⟨Nat.le_of_ble_eq_true rfl, Nat.le_of_ble_eq_true rfl⟩ (Nat.le_of_ble_eq_true rfl) ?_
        refine gx_iconst (v := (0 : Int32)) dX11_bought_38 ic_0 ?_
        refine gx_istore_n (lv' := [(3, .int (0 : Int32)), (0, .ref (Γ.B + pp l0)), (1, .int l1), (2, .int l2)]) dX11_bought_39 rfl (Nat.le_of_ble_eq_true rfl) rfl ?_
        refine gx_iconst (v := (0 : Int32)) dX11_bought_40 ic_0 ?_
        refine gx_istore (lv' := [(4, .int (0 : Int32)), (3, .int (0 : Int32)), (0, .ref (Γ.B + pp l0)), (1, .int l1), (2, .int l2)]) dX11_bought_41 (Nat.le_of_ble_eq_true rfl) rfl ?_
        exact gx_sub [2, 3, 4, 1, 0] rfl (s_X11_bought_43  N _ _ _ _ _ _ _ h)
      · rw [if_pos c6] at h
        exact gx_sub [] rfl (s_X11_bought_28  h)
theorem c_X11_bought {Γ : Cn} {τ : Mm} {N : Nat} {l0 : Nat} {l1 : Int32} {l2 : Int32} {σ : Mm} {o : Int32 × Mm} (h : f_X11_bought N l0 l1 l2 σ = some o) : Ct Γ M_X11_bought yX11_bought 100 τ [.ref (Γ.B + pp l0), .int l1, .int l2] σ (PI o) := ct_of (by decide) rfl (fun _ => by first | rfl | contradiction) (Nat.le_of_ble_eq_true rfl) (s_X11_bought_0  h)
abbrev M_X11_swings : Ms := (cX11_swings, RX11, 8, (some .int), false, 0, 0, 4)
def f_X11_swings_45 (N : Nat) (σ : Mm) : Option (Int32 × Mm) :=
  some ((-1 : Int32), σ)
def f_X11_swings_114 (N : Nat) (r_81 : Nat → Int32 → Int32 → Int32 → Int32 → Int32 → Int32 → Int32 → Mm → Option (Int32 × Mm)) (l0 : Nat) (l1 : Int32) (l2 : Int32) (l3 : Int32) (l4 : Int32) (l5 : Int32) (l6 : Int32) (l7 : Int32) (t0 : Nat) (t1 : Int32) (t2 : Int32) (σ : Mm) : Option (Int32 × Mm) :=
  (sI 113 σ t0 t1 t2).bind fun s1 =>
  r_81 l0 l1 l2 l3 l4 l5 l6 (l7 + (1 : Int32)) s1
def f_X11_swings_155 (N : Nat) (r_53 : Nat → Int32 → Int32 → Int32 → Int32 → Int32 → Int32 → Mm → Option (Int32 × Mm)) (l0 : Nat) (l1 : Int32) (l2 : Int32) (l3 : Int32) (l4 : Int32) (l5 : Int32) (l6 : Int32) (σ : Mm) : Option (Int32 × Mm) :=
  r_53 l0 l1 l2 l3 l4 l5 (l6 + (1 : Int32)) σ
def f_X11_swings_152 (N : Nat) (r_53 : Nat → Int32 → Int32 → Int32 → Int32 → Int32 → Int32 → Mm → Option (Int32 × Mm)) (l0 : Nat) (l1 : Int32) (l2 : Int32) (l3 : Int32) (l4 : Int32) (l6 : Int32) (t0 : Int32) (t1 : Int32) (σ : Mm) : Option (Int32 × Mm) :=
  f_X11_swings_155 N r_53 l0 l1 l2 l3 l4 (t0 + t1) l6 σ
def f_X11_swings_81 (N : Nat) (r_53 : Nat → Int32 → Int32 → Int32 → Int32 → Int32 → Int32 → Mm → Option (Int32 × Mm)) : Nat → Nat → Int32 → Int32 → Int32 → Int32 → Int32 → Int32 → Int32 → Mm → Option (Int32 × Mm)
  | 0, _, _, _, _, _, _, _, _, _ => none
  | n + 1, l0, l1, l2, l3, l4, l5, l6, l7, σ =>
      (gN 11 24 σ l0).bind fun a1 =>
      (aI 113 σ a1 (0 : Int32)).bind fun x2 =>
      if x2 ≤ l7 then (
        (ob 11 σ l0).bind fun _ =>
        (f_X11_votes N l0 l1 σ).bind fun q4 =>
        (gN 11 25 q4.2 l0).bind fun a5 =>
        (sI 113 q4.2 a5 l2 l3).bind fun s6 =>
        (ob 11 s6 l0).bind fun _ =>
        (f_X11_votes N l0 l1 s6).bind fun q7 =>
        if q7.1 = q4.1 then (
          f_X11_swings_152 N r_53 l0 l1 l2 l3 l4 l6 l5 (0 : Int32) q7.2) else (
          f_X11_swings_152 N r_53 l0 l1 l2 l3 l4 l6 l5 (1 : Int32) q7.2)) else (
        (gN 11 25 σ l0).bind fun a9 =>
        (f_X11_isOf N l6 l7 σ).bind fun q10 =>
        if q10.1 = 0 then (
          f_X11_swings_114 N (f_X11_swings_81 N r_53 n) l0 l1 l2 l3 l4 l5 l6 l7 a9 l7 l4 q10.2) else (
          f_X11_swings_114 N (f_X11_swings_81 N r_53 n) l0 l1 l2 l3 l4 l5 l6 l7 a9 l7 l3 q10.2))
def f_X11_swings_53 (N : Nat) : Nat → Nat → Int32 → Int32 → Int32 → Int32 → Int32 → Int32 → Mm → Option (Int32 × Mm)
  | 0, _, _, _, _, _, _, _, _ => none
  | n + 1, l0, l1, l2, l3, l4, l5, l6, σ =>
      (gN 11 24 σ l0).bind fun a1 =>
      (aI 113 σ a1 (0 : Int32)).bind fun x2 =>
      if ((1 : Int32) <<< (x2 &&& 31)) ≤ l6 then (
        some (l5, σ)) else (
        (f_X11_isOf N l6 l2 σ).bind fun q4 =>
        if q4.1 = 0 then (
          f_X11_swings_81 N (f_X11_swings_53 N n) N l0 l1 l2 l3 l4 l5 l6 (0 : Int32) q4.2) else (
          f_X11_swings_155 N (f_X11_swings_53 N n) l0 l1 l2 l3 l4 l5 l6 q4.2))
def f_X11_swings (N : Nat) (l0 : Nat) (l1 : Int32) (l2 : Int32) (l3 : Int32) (l4 : Int32) (σ : Mm) : Option (Int32 × Mm) :=
  (gN 11 24 σ l0).bind fun a1 =>
  (aI 113 σ a1 (0 : Int32)).bind fun x2 =>
  if x2 = 0 then (
    f_X11_swings_45 N σ) else (
    (f_X11_isWay N l1 σ).bind fun q4 =>
    if q4.1 = 0 then (
      f_X11_swings_45 N q4.2) else (
      (ob 11 q4.2 l0).bind fun _ =>
      (f_X11_isCock N l0 l2 q4.2).bind fun q6 =>
      if q6.1 = 0 then (
        f_X11_swings_45 N q6.2) else (
        (f_X11_isPoint N l3 q6.2).bind fun q8 =>
        if q8.1 = 0 then (
          f_X11_swings_45 N q8.2) else (
          (f_X11_isPoint N l4 q8.2).bind fun q10 =>
          if q10.1 = 0 then (
            f_X11_swings_45 N q10.2) else (
            if l3 = l4 then (
              f_X11_swings_45 N q10.2) else (
              f_X11_swings_53 N N l0 l1 l2 l3 l4 (0 : Int32) (0 : Int32) q10.2))))))
theorem mov_X11_swings : MOV yX11_swings M_X11_swings 4 11 100 := ⟨⟨tw_107, tw_1493, ⟨by decide, by decide⟩, by decide +kernel⟩, tw_1491, tw_1492, by decide, ⟨_, rfl, rfl⟩, rfl⟩
set_option maxRecDepth 4000 in
theorem s_X11_swings_45 {Γ : Cn} {τ : Mm} {N : Nat} {σ : Mm} {o : Int32 × Mm} (h : f_X11_swings_45 N σ = some o) : Gx Γ M_X11_swings 100 τ (PI o) 0 0 45 [] [] σ := by
  unfold f_X11_swings_45 at h
  refine gx_iconst (v := (-1 : Int32)) dX11_swings_45 ic_m1 ?_
  have h := Option.some.inj h
  subst h
  exact gx_iret dX11_swings_46 rfl (Nat.le_of_ble_eq_true rfl) (Nat.le_of_ble_eq_true rfl) ⟨rfl, rfl⟩
set_option maxRecDepth 4000 in
theorem s_X11_swings_114 {Γ : Cn} {τ : Mm} {N : Nat} {r_81 : Nat → Int32 → Int32 → Int32 → Int32 → Int32 → Int32 → Int32 → Mm → Option (Int32 × Mm)} (hr_81 : ∀ (l0 : Nat) (l1 : Int32) (l2 : Int32) (l3 : Int32) (l4 : Int32) (l5 : Int32) (l6 : Int32) (l7 : Int32) (σ : Mm) (o : Int32 × Mm), r_81 l0 l1 l2 l3 l4 l5 l6 l7 σ = some o → Gx Γ M_X11_swings 100 τ (PI o) 0 0 81 [(0, .ref (Γ.B + pp l0)), (1, .int l1), (2, .int l2), (3, .int l3), (4, .int l4), (5, .int l5), (6, .int l6), (7, .int l7)] [] σ) {l0 : Nat} {l1 : Int32} {l2 : Int32} {l3 : Int32} {l4 : Int32} {l5 : Int32} {l6 : Int32} {l7 : Int32} {t0 : Nat} {t1 : Int32} {t2 : Int32} {σ : Mm} {o : Int32 × Mm} (h : f_X11_swings_114 N r_81 l0 l1 l2 l3 l4 l5 l6 l7 t0 t1 t2 σ = some o) : Gx Γ M_X11_swings 100 τ (PI o) 0 0 114 [(0, .ref (Γ.B + pp l0)), (1, .int l1), (2, .int l2), (3, .int l3), (4, .int l4), (5, .int l5), (6, .int l6), (7, .int l7)] [.int t2, .int t1, .ref (Γ.B + pp t0)] σ := by
  unfold f_X11_swings_114 at h
  obtain ⟨s1, hs1, h⟩ := bnd h
  refine gx_iast (kd := 113) dX11_swings_114 hs1 rfl rfl ?_
  refine gx_iinc (v := (l7 + (1 : Int32))) (lv' := [(7, .int (l7 + (1 : Int32))), (0, .ref (Γ.B + pp l0)), (1, .int l1), (2, .int l2), (3, .int l3), (4, .int l4), (5, .int l5), (6, .int l6)]) 7 dX11_swings_115 rfl (by rw [ic_1]) (Nat.le_of_ble_eq_true rfl) rfl ?_
  refine gx_goto 81 dX11_swings_118 (by decide) ?_
  exact gx_sub [1, 2, 3, 4, 5, 6, 7, 0] rfl (hr_81 _ _ _ _ _ _ _ _ _ _ h)
set_option maxRecDepth 4000 in
theorem s_X11_swings_155 {Γ : Cn} {τ : Mm} {N : Nat} {r_53 : Nat → Int32 → Int32 → Int32 → Int32 → Int32 → Int32 → Mm → Option (Int32 × Mm)} (hr_53 : ∀ (l0 : Nat) (l1 : Int32) (l2 : Int32) (l3 : Int32) (l4 : Int32) (l5 : Int32) (l6 : Int32) (σ : Mm) (o : Int32 × Mm), r_53 l0 l1 l2 l3 l4 l5 l6 σ = some o → Gx Γ M_X11_swings 100 τ (PI o) 0 0 53 [(0, .ref (Γ.B + pp l0)), (1, .int l1), (2, .int l2), (3, .int l3), (4, .int l4), (5, .int l5), (6, .int l6)] [] σ) {l0 : Nat} {l1 : Int32} {l2 : Int32} {l3 : Int32} {l4 : Int32} {l5 : Int32} {l6 : Int32} {σ : Mm} {o : Int32 × Mm} (h : f_X11_swings_155 N r_53 l0 l1 l2 l3 l4 l5 l6 σ = some o) : Gx Γ M_X11_swings 100 τ (PI o) 0 0 155 [(0, .ref (Γ.B + pp l0)), (1, .int l1), (2, .int l2), (3, .int l3), (4, .int l4), (5, .int l5), (6, .int l6)] [] σ := by
  unfold f_X11_swings_155 at h
  refine gx_iinc (v := (l6 + (1 : Int32))) (lv' := [(6, .int (l6 + (1 : Int32))), (0, .ref (Γ.B + pp l0)), (1, .int l1), (2, .int l2), (3, .int l3), (4, .int l4), (5, .int l5)]) 6 dX11_swings_155 rfl (by rw [ic_1]) (Nat.le_of_ble_eq_true rfl) rfl ?_
  refine gx_goto 53 dX11_swings_158 (by decide) ?_
  exact gx_sub [1, 2, 3, 4, 5, 6, 0] rfl (hr_53 _ _ _ _ _ _ _ _ _ h)
set_option maxRecDepth 4000 in
theorem s_X11_swings_152 {Γ : Cn} {τ : Mm} {N : Nat} {r_53 : Nat → Int32 → Int32 → Int32 → Int32 → Int32 → Int32 → Mm → Option (Int32 × Mm)} (hr_53 : ∀ (l0 : Nat) (l1 : Int32) (l2 : Int32) (l3 : Int32) (l4 : Int32) (l5 : Int32) (l6 : Int32) (σ : Mm) (o : Int32 × Mm), r_53 l0 l1 l2 l3 l4 l5 l6 σ = some o → Gx Γ M_X11_swings 100 τ (PI o) 0 0 53 [(0, .ref (Γ.B + pp l0)), (1, .int l1), (2, .int l2), (3, .int l3), (4, .int l4), (5, .int l5), (6, .int l6)] [] σ) {l0 : Nat} {l1 : Int32} {l2 : Int32} {l3 : Int32} {l4 : Int32} {l6 : Int32} {t0 : Int32} {t1 : Int32} {σ : Mm} {o : Int32 × Mm} (h : f_X11_swings_152 N r_53 l0 l1 l2 l3 l4 l6 t0 t1 σ = some o) : Gx Γ M_X11_swings 100 τ (PI o) 0 0 152 [(0, .ref (Γ.B + pp l0)), (1, .int l1), (2, .int l2), (3, .int l3), (4, .int l4), (6, .int l6)] [.int t1, .int t0] σ := by
  unfold f_X11_swings_152 at h
  refine gx_iadd dX11_swings_152 ?_
  refine gx_istore (lv' := [(5, .int (t0 + t1)), (0, .ref (Γ.B + pp l0)), (1, .int l1), (2, .int l2), (3, .int l3), (4, .int l4), (6, .int l6)]) dX11_swings_153 (Nat.le_of_ble_eq_true rfl) rfl ?_
  exact gx_sub [1, 2, 3, 4, 5, 0, 6] rfl (s_X11_swings_155 hr_53 h)
set_option maxRecDepth 4000 in
theorem s_X11_swings_81 {Γ : Cn} {τ : Mm} {N : Nat} {r_53 : Nat → Int32 → Int32 → Int32 → Int32 → Int32 → Int32 → Mm → Option (Int32 × Mm)} (hr_53 : ∀ (l0 : Nat) (l1 : Int32) (l2 : Int32) (l3 : Int32) (l4 : Int32) (l5 : Int32) (l6 : Int32) (σ : Mm) (o : Int32 × Mm), r_53 l0 l1 l2 l3 l4 l5 l6 σ = some o → Gx Γ M_X11_swings 100 τ (PI o) 0 0 53 [(0, .ref (Γ.B + pp l0)), (1, .int l1), (2, .int l2), (3, .int l3), (4, .int l4), (5, .int l5), (6, .int l6)] [] σ) : ∀ (n : Nat) (l0 : Nat) (l1 : Int32) (l2 : Int32) (l3 : Int32) (l4 : Int32) (l5 : Int32) (l6 : Int32) (l7 : Int32) (σ : Mm) (o : Int32 × Mm), f_X11_swings_81 N r_53 n l0 l1 l2 l3 l4 l5 l6 l7 σ = some o → Gx Γ M_X11_swings 100 τ (PI o) 0 0 81 [(0, .ref (Γ.B + pp l0)), (1, .int l1), (2, .int l2), (3, .int l3), (4, .int l4), (5, .int l5), (6, .int l6), (7, .int l7)] [] σ := by
  intro n
  induction n with
  | zero =>
    intro l0 l1 l2 l3 l4 l5 l6 l7 σ o h
    exact absurd h (by rw [f_X11_swings_81]; exact fun q => nomatch q)
  | succ n ih =>
    intro l0 l1 l2 l3 l4 l5 l6 l7 σ o h
    rw [f_X11_swings_81] at h
    refine gx_iload 7 dX11_swings_81 rfl ?_
    refine gx_aload_n 0 dX11_swings_83 rfl rfl ?_
    obtain ⟨a1, ha1, h⟩ := bnd h
    refine gx_getN dX11_swings_84 ha1 fl_X11_45 rfl ?_
    refine gx_iconst (v := (0 : Int32)) dX11_swings_87 ic_0 ?_
    obtain ⟨x2, hx2, h⟩ := bnd h
    refine gx_iald (kd := 113) dX11_swings_88 hx2 rfl rfl ?_
    refine gx_icmp_ge 121 dX11_swings_89 (by decide) (fun c2 => ?_) (fun c2 => ?_)
    · rw [if_pos c2] at h
      refine gx_aload_n 0 dX11_swings_121 rfl rfl ?_
      refine gx_iload_n 1 dX11_swings_122 rfl rfl ?_
      obtain ⟨_, hobq4, h⟩ := bnd h
      obtain ⟨q4, hq4, h⟩ := bnd h
      refine gx_cVI (As := [.int l1]) (st := []) (o := l0) dX11_swings_123 (c_X11_votes hq4) mov_X11_votes tw_1411 hobq4 rfl ⟨Nat.le_of_ble_eq_true rfl, Nat.le_of_ble_eq_true rfl⟩ (Nat.le_of_ble_eq_true rfl) ?_
      refine gx_istore (lv' := [(7, .int q4.1), (0, .ref (Γ.B + pp l0)), (1, .int l1), (2, .int l2), (3, .int l3), (4, .int l4), (5, .int l5), (6, .int l6)]) dX11_swings_126 (Nat.le_of_ble_eq_true rfl) rfl ?_
      refine gx_aload_n 1 dX11_swings_128 rfl rfl ?_
      obtain ⟨a5, ha5, h⟩ := bnd h
      refine gx_getN dX11_swings_129 ha5 fl_X11_48 rfl ?_
      refine gx_iload_n 3 dX11_swings_132 rfl rfl ?_
      refine gx_iload_n 4 dX11_swings_133 rfl rfl ?_
      obtain ⟨s6, hs6, h⟩ := bnd h
      refine gx_iast (kd := 113) dX11_swings_134 hs6 rfl rfl ?_
      refine gx_iload 6 dX11_swings_135 rfl ?_
      refine gx_aload_n 1 dX11_swings_137 rfl rfl ?_
      refine gx_iload_n 2 dX11_swings_138 rfl rfl ?_
      obtain ⟨_, hobq7, h⟩ := bnd h
      obtain ⟨q7, hq7, h⟩ := bnd h
      refine gx_cVI (As := [.int l1]) (st := [.int l5]) (o := l0) dX11_swings_139 (c_X11_votes hq7) mov_X11_votes tw_1411 hobq7 rfl ⟨Nat.le_of_ble_eq_true rfl, Nat.le_of_ble_eq_true rfl⟩ (Nat.le_of_ble_eq_true rfl) ?_
      refine gx_iload 0 dX11_swings_142 rfl ?_
      refine gx_icmp_ne 151 dX11_swings_144 (by decide) (fun c7 => ?_) (fun c7 => ?_)
      · rw [if_neg c7] at h
        refine gx_iconst (v := (1 : Int32)) dX11_swings_151 ic_1 ?_
        exact gx_sub [1, 2, 3, 4, 5, 7] rfl (s_X11_swings_152 hr_53 h)
      · rw [if_pos c7] at h
        refine gx_iconst (v := (0 : Int32)) dX11_swings_147 ic_0 ?_
        refine gx_goto 152 dX11_swings_148 (by decide) ?_
        exact gx_sub [1, 2, 3, 4, 5, 7] rfl (s_X11_swings_152 hr_53 h)
    · rw [if_neg c2] at h
      refine gx_aload_n 0 dX11_swings_92 rfl rfl ?_
      obtain ⟨a9, ha9, h⟩ := bnd h
      refine gx_getN dX11_swings_93 ha9 fl_X11_48 rfl ?_
      refine gx_iload 7 dX11_swings_96 rfl ?_
      refine gx_iload 6 dX11_swings_98 rfl ?_
      refine gx_iload 7 dX11_swings_100 rfl ?_
      obtain ⟨q10, hq10, h⟩ := bnd h
      refine gx_cSI (As := [.int l6, .int l7]) (st := [.int l7, .ref (Γ.B + pp a9)]) dX11_swings_102 (c_X11_isOf hq10) mos_X11_isOf tw_1475 rfl ⟨Nat.le_of_ble_eq_true rfl, Nat.le_of_ble_eq_true rfl⟩ (Nat.le_of_ble_eq_true rfl) ?_
      refine gx_if_eq 112 dX11_swings_105 (by decide) (fun c10 => ?_) (fun c10 => ?_)
      · rw [if_pos c10] at h
        refine gx_iload 4 dX11_swings_112 rfl ?_
        exact s_X11_swings_114 ih h
      · rw [if_neg c10] at h
        refine gx_iload_n 3 dX11_swings_108 rfl rfl ?_
        refine gx_goto 114 dX11_swings_109 (by decide) ?_
        exact s_X11_swings_114 ih h
set_option maxRecDepth 4000 in
theorem s_X11_swings_53 {Γ : Cn} {τ : Mm} {N : Nat} : ∀ (n : Nat) (l0 : Nat) (l1 : Int32) (l2 : Int32) (l3 : Int32) (l4 : Int32) (l5 : Int32) (l6 : Int32) (σ : Mm) (o : Int32 × Mm), f_X11_swings_53 N n l0 l1 l2 l3 l4 l5 l6 σ = some o → Gx Γ M_X11_swings 100 τ (PI o) 0 0 53 [(0, .ref (Γ.B + pp l0)), (1, .int l1), (2, .int l2), (3, .int l3), (4, .int l4), (5, .int l5), (6, .int l6)] [] σ := by
  intro n
  induction n with
  | zero =>
    intro l0 l1 l2 l3 l4 l5 l6 σ o h
    exact absurd h (by rw [f_X11_swings_53]; exact fun q => nomatch q)
  | succ n ih =>
    intro l0 l1 l2 l3 l4 l5 l6 σ o h
    rw [f_X11_swings_53] at h
    refine gx_iload 6 dX11_swings_53 rfl ?_
    refine gx_iconst (v := (1 : Int32)) dX11_swings_55 ic_1 ?_
    refine gx_aload_n 0 dX11_swings_56 rfl rfl ?_
    obtain ⟨a1, ha1, h⟩ := bnd h
    refine gx_getN dX11_swings_57 ha1 fl_X11_45 rfl ?_
    refine gx_iconst (v := (0 : Int32)) dX11_swings_60 ic_0 ?_
    obtain ⟨x2, hx2, h⟩ := bnd h
    refine gx_iald (kd := 113) dX11_swings_61 hx2 rfl rfl ?_
    refine gx_ishl dX11_swings_62 ?_
    refine gx_icmp_ge 161 dX11_swings_63 (by decide) (fun c2 => ?_) (fun c2 => ?_)
    · rw [if_pos c2] at h
      refine gx_iload 5 dX11_swings_161 rfl ?_
      have h := Option.some.inj h
      subst h
      exact gx_iret dX11_swings_163 rfl (Nat.le_of_ble_eq_true rfl) (Nat.le_of_ble_eq_true rfl) ⟨rfl, rfl⟩
    · rw [if_neg c2] at h
      refine gx_iload 6 dX11_swings_66 rfl ?_
      refine gx_iload_n 2 dX11_swings_68 rfl rfl ?_
      obtain ⟨q4, hq4, h⟩ := bnd h
      refine gx_cSI (As := [.int l6, .int l2]) (st := []) dX11_swings_69 (c_X11_isOf hq4) mos_X11_isOf tw_1475 rfl ⟨Nat.le_of_ble_eq_true rfl, Nat.le_of_ble_eq_true rfl⟩ (Nat.le_of_ble_eq_true rfl) ?_
      refine gx_if_eq 78 dX11_swings_72 (by decide) (fun c4 => ?_) (fun c4 => ?_)
      · rw [if_pos c4] at h
        refine gx_iconst (v := (0 : Int32)) dX11_swings_78 ic_0 ?_
        refine gx_istore (lv' := [(7, .int (0 : Int32)), (0, .ref (Γ.B + pp l0)), (1, .int l1), (2, .int l2), (3, .int l3), (4, .int l4), (5, .int l5), (6, .int l6)]) dX11_swings_79 (Nat.le_of_ble_eq_true rfl) rfl ?_
        exact gx_sub [1, 2, 3, 4, 5, 6, 7, 0] rfl (s_X11_swings_81 ih N _ _ _ _ _ _ _ _ _ _ h)
      · rw [if_neg c4] at h
        refine gx_goto 155 dX11_swings_75 (by decide) ?_
        exact s_X11_swings_155 ih h
set_option maxRecDepth 4000 in
theorem s_X11_swings_0 {Γ : Cn} {τ : Mm} {N : Nat} {l0 : Nat} {l1 : Int32} {l2 : Int32} {l3 : Int32} {l4 : Int32} {σ : Mm} {o : Int32 × Mm} (h : f_X11_swings N l0 l1 l2 l3 l4 σ = some o) : Gx Γ M_X11_swings 100 τ (PI o) 0 0 0 [(0, .ref (Γ.B + pp l0)), (1, .int l1), (2, .int l2), (3, .int l3), (4, .int l4)] [] σ := by
  unfold f_X11_swings at h
  refine gx_aload_n 0 dX11_swings_0 rfl rfl ?_
  obtain ⟨a1, ha1, h⟩ := bnd h
  refine gx_getN dX11_swings_1 ha1 fl_X11_45 rfl ?_
  refine gx_iconst (v := (0 : Int32)) dX11_swings_4 ic_0 ?_
  obtain ⟨x2, hx2, h⟩ := bnd h
  refine gx_iald (kd := 113) dX11_swings_5 hx2 rfl rfl ?_
  refine gx_if_eq 45 dX11_swings_6 (by decide) (fun c2 => ?_) (fun c2 => ?_)
  · rw [if_pos c2] at h
    exact gx_sub [] rfl (s_X11_swings_45  h)
  · rw [if_neg c2] at h
    refine gx_iload_n 1 dX11_swings_9 rfl rfl ?_
    obtain ⟨q4, hq4, h⟩ := bnd h
    refine gx_cSI (As := [.int l1]) (st := []) dX11_swings_10 (c_X11_isWay hq4) mos_X11_isWay tw_1404 rfl ⟨Nat.le_of_ble_eq_true rfl, Nat.le_of_ble_eq_true rfl⟩ (Nat.le_of_ble_eq_true rfl) ?_
    refine gx_if_eq 45 dX11_swings_13 (by decide) (fun c4 => ?_) (fun c4 => ?_)
    · rw [if_pos c4] at h
      exact gx_sub [] rfl (s_X11_swings_45  h)
    · rw [if_neg c4] at h
      refine gx_aload_n 0 dX11_swings_16 rfl rfl ?_
      refine gx_iload_n 2 dX11_swings_17 rfl rfl ?_
      obtain ⟨_, hobq6, h⟩ := bnd h
      obtain ⟨q6, hq6, h⟩ := bnd h
      refine gx_cVI (As := [.int l2]) (st := []) (o := l0) dX11_swings_18 (c_X11_isCock hq6) mov_X11_isCock tw_1291 hobq6 rfl ⟨Nat.le_of_ble_eq_true rfl, Nat.le_of_ble_eq_true rfl⟩ (Nat.le_of_ble_eq_true rfl) ?_
      refine gx_if_eq 45 dX11_swings_21 (by decide) (fun c6 => ?_) (fun c6 => ?_)
      · rw [if_pos c6] at h
        exact gx_sub [] rfl (s_X11_swings_45  h)
      · rw [if_neg c6] at h
        refine gx_iload_n 3 dX11_swings_24 rfl rfl ?_
        obtain ⟨q8, hq8, h⟩ := bnd h
        refine gx_cSI (As := [.int l3]) (st := []) dX11_swings_25 (c_X11_isPoint hq8) mos_X11_isPoint tw_1318 rfl ⟨Nat.le_of_ble_eq_true rfl, Nat.le_of_ble_eq_true rfl⟩ (Nat.le_of_ble_eq_true rfl) ?_
        refine gx_if_eq 45 dX11_swings_28 (by decide) (fun c8 => ?_) (fun c8 => ?_)
        · rw [if_pos c8] at h
          exact gx_sub [] rfl (s_X11_swings_45  h)
        · rw [if_neg c8] at h
          refine gx_iload 4 dX11_swings_31 rfl ?_
          obtain ⟨q10, hq10, h⟩ := bnd h
          refine gx_cSI (As := [.int l4]) (st := []) dX11_swings_33 (c_X11_isPoint hq10) mos_X11_isPoint tw_1318 rfl ⟨Nat.le_of_ble_eq_true rfl, Nat.le_of_ble_eq_true rfl⟩ (Nat.le_of_ble_eq_true rfl) ?_
          refine gx_if_eq 45 dX11_swings_36 (by decide) (fun c10 => ?_) (fun c10 => ?_)
          · rw [if_pos c10] at h
            exact gx_sub [] rfl (s_X11_swings_45  h)
          · rw [if_neg c10] at h
            refine gx_iload_n 3 dX11_swings_39 rfl rfl ?_
            refine gx_iload 4 dX11_swings_40 rfl ?_
            refine gx_icmp_ne 47 dX11_swings_42 (by decide) (fun c11 => ?_) (fun c11 => ?_)
            · rw [if_neg c11] at h
              refine gx_iconst (v := (0 : Int32)) dX11_swings_47 ic_0 ?_
              refine gx_istore (lv' := [(5, .int (0 : Int32)), (0, .ref (Γ.B + pp l0)), (1, .int l1), (2, .int l2), (3, .int l3), (4, .int l4)]) dX11_swings_48 (Nat.le_of_ble_eq_true rfl) rfl ?_
              refine gx_iconst (v := (0 : Int32)) dX11_swings_50 ic_0 ?_
              refine gx_istore (lv' := [(6, .int (0 : Int32)), (5, .int (0 : Int32)), (0, .ref (Γ.B + pp l0)), (1, .int l1), (2, .int l2), (3, .int l3), (4, .int l4)]) dX11_swings_51 (Nat.le_of_ble_eq_true rfl) rfl ?_
              exact gx_sub [2, 3, 4, 5, 6, 1, 0] rfl (s_X11_swings_53  N _ _ _ _ _ _ _ _ _ h)
            · rw [if_pos c11] at h
              exact gx_sub [] rfl (s_X11_swings_45  h)
theorem c_X11_swings {Γ : Cn} {τ : Mm} {N : Nat} {l0 : Nat} {l1 : Int32} {l2 : Int32} {l3 : Int32} {l4 : Int32} {σ : Mm} {o : Int32 × Mm} (h : f_X11_swings N l0 l1 l2 l3 l4 σ = some o) : Ct Γ M_X11_swings yX11_swings 100 τ [.ref (Γ.B + pp l0), .int l1, .int l2, .int l3, .int l4] σ (PI o) := ct_of (by decide) rfl (fun _ => by first | rfl | contradiction) (Nat.le_of_ble_eq_true rfl) (s_X11_swings_0  h)
abbrev M_X11_explains : Ms := (cX11_explains, RX11, 5, (some .boolean), false, 0, 0, 4)
def f_X11_explains_37 (N : Nat) (t0 : Int32) (σ : Mm) : Option (Int32 × Mm) :=
  if t0 = 0 ∨ t0 = 1 then some (t0, σ) else none
def f_X11_explains (N : Nat) (l0 : Nat) (l1 : Int32) (l2 : Int32) (l3 : Int32) (l4 : Int32) (σ : Mm) : Option (Int32 × Mm) :=
  (ob 11 σ l0).bind fun _ =>
  (f_X11_cockOf N l0 l3 (6 : Int32) σ).bind fun q1 =>
  (ob 11 q1.2 l0).bind fun _ =>
  (f_X11_cockOf N l0 l3 (2 : Int32) q1.2).bind fun q2 =>
  (ob 11 q2.2 l0).bind fun _ =>
  (f_X11_goesTo N l0 l1 l3 q1.1 l4 l2 q2.1 (-1 : Int32) q2.2).bind fun q3 =>
  (ob 11 q3.2 l0).bind fun _ =>
  (f_X11_cockOf N l0 l3 (5 : Int32) q3.2).bind fun q4 =>
  if q3.1 = q4.1 then (
    f_X11_explains_37 N (1 : Int32) q4.2) else (
    f_X11_explains_37 N (0 : Int32) q4.2)
theorem mov_X11_explains : MOV yX11_explains M_X11_explains 4 11 100 := ⟨⟨tw_107, tw_1505, ⟨by decide, by decide⟩, by decide +kernel⟩, tw_1504, tw_93, by decide, ⟨_, rfl, rfl⟩, rfl⟩
set_option maxRecDepth 4000 in
theorem s_X11_explains_37 {Γ : Cn} {τ : Mm} {N : Nat} {t0 : Int32} {σ : Mm} {o : Int32 × Mm} (h : f_X11_explains_37 N t0 σ = some o) : Gx Γ M_X11_explains 100 τ (PI o) 0 0 37 [] [.int t0] σ := by
  unfold f_X11_explains_37 at h
  obtain ⟨hz, h⟩ := of_if h
  have h := Option.some.inj h
  subst h
  exact gx_zret dX11_explains_37 rfl (nar_z hz) (Nat.le_of_ble_eq_true rfl) (Nat.le_of_ble_eq_true rfl) ⟨rfl, rfl⟩
set_option maxRecDepth 4000 in
theorem s_X11_explains_0 {Γ : Cn} {τ : Mm} {N : Nat} {l0 : Nat} {l1 : Int32} {l2 : Int32} {l3 : Int32} {l4 : Int32} {σ : Mm} {o : Int32 × Mm} (h : f_X11_explains N l0 l1 l2 l3 l4 σ = some o) : Gx Γ M_X11_explains 100 τ (PI o) 0 0 0 [(0, .ref (Γ.B + pp l0)), (1, .int l1), (2, .int l2), (3, .int l3), (4, .int l4)] [] σ := by
  unfold f_X11_explains at h
  refine gx_aload_n 0 dX11_explains_0 rfl rfl ?_
  refine gx_iload_n 1 dX11_explains_1 rfl rfl ?_
  refine gx_iload_n 3 dX11_explains_2 rfl rfl ?_
  refine gx_aload_n 0 dX11_explains_3 rfl rfl ?_
  refine gx_iload_n 3 dX11_explains_4 rfl rfl ?_
  refine gx_bipush (v := (6 : Int32)) dX11_explains_5 ib_6 ?_
  obtain ⟨_, hobq1, h⟩ := bnd h
  obtain ⟨q1, hq1, h⟩ := bnd h
  refine gx_cVI (As := [.int l3, .int (6 : Int32)]) (st := [.int l3, .int l1, .ref (Γ.B + pp l0)]) (o := l0) dX11_explains_7 (c_X11_cockOf hq1) mov_X11_cockOf tw_1296 hobq1 rfl ⟨Nat.le_of_ble_eq_true rfl, Nat.le_of_ble_eq_true rfl⟩ (Nat.le_of_ble_eq_true rfl) ?_
  refine gx_iload 4 dX11_explains_10 rfl ?_
  refine gx_iload_n 2 dX11_explains_12 rfl rfl ?_
  refine gx_aload_n 0 dX11_explains_13 rfl rfl ?_
  refine gx_iload_n 3 dX11_explains_14 rfl rfl ?_
  refine gx_iconst (v := (2 : Int32)) dX11_explains_15 ic_2 ?_
  obtain ⟨_, hobq2, h⟩ := bnd h
  obtain ⟨q2, hq2, h⟩ := bnd h
  refine gx_cVI (As := [.int l3, .int (2 : Int32)]) (st := [.int l2, .int l4, .int q1.1, .int l3, .int l1, .ref (Γ.B + pp l0)]) (o := l0) dX11_explains_16 (c_X11_cockOf hq2) mov_X11_cockOf tw_1296 hobq2 rfl ⟨Nat.le_of_ble_eq_true rfl, Nat.le_of_ble_eq_true rfl⟩ (Nat.le_of_ble_eq_true rfl) ?_
  refine gx_iconst (v := (-1 : Int32)) dX11_explains_19 ic_m1 ?_
  obtain ⟨_, hobq3, h⟩ := bnd h
  obtain ⟨q3, hq3, h⟩ := bnd h
  refine gx_cVI (As := [.int l1, .int l3, .int q1.1, .int l4, .int l2, .int q2.1, .int (-1 : Int32)]) (st := []) (o := l0) dX11_explains_20 (c_X11_goesTo hq3) mov_X11_goesTo tw_1348 hobq3 rfl ⟨Nat.le_of_ble_eq_true rfl, Nat.le_of_ble_eq_true rfl⟩ (Nat.le_of_ble_eq_true rfl) ?_
  refine gx_aload_n 0 dX11_explains_23 rfl rfl ?_
  refine gx_iload_n 3 dX11_explains_24 rfl rfl ?_
  refine gx_iconst (v := (5 : Int32)) dX11_explains_25 ic_5 ?_
  obtain ⟨_, hobq4, h⟩ := bnd h
  obtain ⟨q4, hq4, h⟩ := bnd h
  refine gx_cVI (As := [.int l3, .int (5 : Int32)]) (st := [.int q3.1]) (o := l0) dX11_explains_26 (c_X11_cockOf hq4) mov_X11_cockOf tw_1296 hobq4 rfl ⟨Nat.le_of_ble_eq_true rfl, Nat.le_of_ble_eq_true rfl⟩ (Nat.le_of_ble_eq_true rfl) ?_
  refine gx_icmp_ne 36 dX11_explains_29 (by decide) (fun c4 => ?_) (fun c4 => ?_)
  · rw [if_neg c4] at h
    refine gx_iconst (v := (0 : Int32)) dX11_explains_36 ic_0 ?_
    exact gx_sub [] rfl (s_X11_explains_37  h)
  · rw [if_pos c4] at h
    refine gx_iconst (v := (1 : Int32)) dX11_explains_32 ic_1 ?_
    refine gx_goto 37 dX11_explains_33 (by decide) ?_
    exact gx_sub [] rfl (s_X11_explains_37  h)
theorem c_X11_explains {Γ : Cn} {τ : Mm} {N : Nat} {l0 : Nat} {l1 : Int32} {l2 : Int32} {l3 : Int32} {l4 : Int32} {σ : Mm} {o : Int32 × Mm} (h : f_X11_explains N l0 l1 l2 l3 l4 σ = some o) : Ct Γ M_X11_explains yX11_explains 100 τ [.ref (Γ.B + pp l0), .int l1, .int l2, .int l3, .int l4] σ (PI o) := ct_of (by decide) rfl (fun _ => by first | rfl | contradiction) (Nat.le_of_ble_eq_true rfl) (s_X11_explains_0  h)
abbrev M_X11_canExplain : Ms := (cX11_canExplain, RX11, 3, (some .boolean), false, 0, 0, 1)
def f_X11_canExplain_34 (N : Nat) (t0 : Int32) (σ : Mm) : Option (Int32 × Mm) :=
  if t0 = 0 ∨ t0 = 1 then some (t0, σ) else none
def f_X11_canExplain_33 (N : Nat) (σ : Mm) : Option (Int32 × Mm) :=
  f_X11_canExplain_34 N (0 : Int32) σ
def f_X11_canExplain (N : Nat) (l0 : Nat) (l1 : Int32) (l2 : Int32) (σ : Mm) : Option (Int32 × Mm) :=
  (gN 11 24 σ l0).bind fun a1 =>
  (aI 113 σ a1 (0 : Int32)).bind fun x2 =>
  if x2 ≤ 0 then (
    f_X11_canExplain_33 N σ) else (
    (ob 11 σ l0).bind fun _ =>
    (f_X11_isLaw N l0 l1 σ).bind fun q4 =>
    if q4.1 = 0 then (
      f_X11_canExplain_33 N q4.2) else (
      (f_X11_in N (Int32.toInt64 l2) (0 : Int64) (24 : Int64) q4.2).bind fun q6 =>
      if q6.1 = 0 then (
        f_X11_canExplain_33 N q6.2) else (
        f_X11_canExplain_34 N (1 : Int32) q6.2)))
theorem mov_X11_canExplain : MOV yX11_canExplain M_X11_canExplain 2 11 100 := ⟨⟨tw_107, tw_1501, ⟨by decide, by decide⟩, by decide +kernel⟩, tw_1500, tw_92, by decide, ⟨_, rfl, rfl⟩, rfl⟩
set_option maxRecDepth 4000 in
theorem s_X11_canExplain_34 {Γ : Cn} {τ : Mm} {N : Nat} {t0 : Int32} {σ : Mm} {o : Int32 × Mm} (h : f_X11_canExplain_34 N t0 σ = some o) : Gx Γ M_X11_canExplain 100 τ (PI o) 0 0 34 [] [.int t0] σ := by
  unfold f_X11_canExplain_34 at h
  obtain ⟨hz, h⟩ := of_if h
  have h := Option.some.inj h
  subst h
  exact gx_zret dX11_canExplain_34 rfl (nar_z hz) (Nat.le_of_ble_eq_true rfl) (Nat.le_of_ble_eq_true rfl) ⟨rfl, rfl⟩
set_option maxRecDepth 4000 in
theorem s_X11_canExplain_33 {Γ : Cn} {τ : Mm} {N : Nat} {σ : Mm} {o : Int32 × Mm} (h : f_X11_canExplain_33 N σ = some o) : Gx Γ M_X11_canExplain 100 τ (PI o) 0 0 33 [] [] σ := by
  unfold f_X11_canExplain_33 at h
  refine gx_iconst (v := (0 : Int32)) dX11_canExplain_33 ic_0 ?_
  exact s_X11_canExplain_34  h
set_option maxRecDepth 4000 in
theorem s_X11_canExplain_0 {Γ : Cn} {τ : Mm} {N : Nat} {l0 : Nat} {l1 : Int32} {l2 : Int32} {σ : Mm} {o : Int32 × Mm} (h : f_X11_canExplain N l0 l1 l2 σ = some o) : Gx Γ M_X11_canExplain 100 τ (PI o) 0 0 0 [(0, .ref (Γ.B + pp l0)), (1, .int l1), (2, .int l2)] [] σ := by
  unfold f_X11_canExplain at h
  refine gx_aload_n 0 dX11_canExplain_0 rfl rfl ?_
  obtain ⟨a1, ha1, h⟩ := bnd h
  refine gx_getN dX11_canExplain_1 ha1 fl_X11_45 rfl ?_
  refine gx_iconst (v := (0 : Int32)) dX11_canExplain_4 ic_0 ?_
  obtain ⟨x2, hx2, h⟩ := bnd h
  refine gx_iald (kd := 113) dX11_canExplain_5 hx2 rfl rfl ?_
  refine gx_if_le 33 dX11_canExplain_6 (by decide) (fun c2 => ?_) (fun c2 => ?_)
  · rw [if_pos c2] at h
    exact gx_sub [] rfl (s_X11_canExplain_33  h)
  · rw [if_neg c2] at h
    refine gx_aload_n 0 dX11_canExplain_9 rfl rfl ?_
    refine gx_iload_n 1 dX11_canExplain_10 rfl rfl ?_
    obtain ⟨_, hobq4, h⟩ := bnd h
    obtain ⟨q4, hq4, h⟩ := bnd h
    refine gx_cVI (As := [.int l1]) (st := []) (o := l0) dX11_canExplain_11 (c_X11_isLaw hq4) mov_X11_isLaw tw_1343 hobq4 rfl ⟨Nat.le_of_ble_eq_true rfl, Nat.le_of_ble_eq_true rfl⟩ (Nat.le_of_ble_eq_true rfl) ?_
    refine gx_if_eq 33 dX11_canExplain_14 (by decide) (fun c4 => ?_) (fun c4 => ?_)
    · rw [if_pos c4] at h
      exact gx_sub [] rfl (s_X11_canExplain_33  h)
    · rw [if_neg c4] at h
      refine gx_iload_n 2 dX11_canExplain_17 rfl rfl ?_
      refine gx_i2l dX11_canExplain_18 ?_
      refine gx_lconst (v := (0 : Int64)) dX11_canExplain_19 (by decide) ?_
      refine gx_ldc2 (v := (24 : Int64)) dX11_canExplain_20 tw_1347 ?_
      obtain ⟨q6, hq6, h⟩ := bnd h
      refine gx_cSI (As := [.long (Int32.toInt64 l2), .long (0 : Int64), .long (24 : Int64)]) (st := []) dX11_canExplain_23 (c_X11_in hq6) mos_X11_in tw_1206 rfl ⟨Nat.le_of_ble_eq_true rfl, Nat.le_of_ble_eq_true rfl⟩ (Nat.le_of_ble_eq_true rfl) ?_
      refine gx_if_eq 33 dX11_canExplain_26 (by decide) (fun c6 => ?_) (fun c6 => ?_)
      · rw [if_pos c6] at h
        exact gx_sub [] rfl (s_X11_canExplain_33  h)
      · rw [if_neg c6] at h
        refine gx_iconst (v := (1 : Int32)) dX11_canExplain_29 ic_1 ?_
        refine gx_goto 34 dX11_canExplain_30 (by decide) ?_
        exact gx_sub [] rfl (s_X11_canExplain_34  h)
theorem c_X11_canExplain {Γ : Cn} {τ : Mm} {N : Nat} {l0 : Nat} {l1 : Int32} {l2 : Int32} {σ : Mm} {o : Int32 × Mm} (h : f_X11_canExplain N l0 l1 l2 σ = some o) : Ct Γ M_X11_canExplain yX11_canExplain 100 τ [.ref (Γ.B + pp l0), .int l1, .int l2] σ (PI o) := ct_of (by decide) rfl (fun _ => by first | rfl | contradiction) (Nat.le_of_ble_eq_true rfl) (s_X11_canExplain_0  h)
abbrev M_X11_explained : Ms := (cX11_explained, RX11, 6, (some .int), false, 0, 0, 5)
def f_X11_explained_17 (N : Nat) (σ : Mm) : Option (Int32 × Mm) :=
  some ((-1 : Int32), σ)
def f_X11_explained_54 (N : Nat) (r_25 : Nat → Int32 → Int32 → Int32 → Int32 → Int32 → Mm → Option (Int32 × Mm)) (l0 : Nat) (l1 : Int32) (l2 : Int32) (l3 : Int32) (l5 : Int32) (t0 : Int32) (t1 : Int32) (σ : Mm) : Option (Int32 × Mm) :=
  r_25 l0 l1 l2 l3 (t0 ||| t1) (l5 + (1 : Int32)) σ
def f_X11_explained_25 (N : Nat) : Nat → Nat → Int32 → Int32 → Int32 → Int32 → Int32 → Mm → Option (Int32 × Mm)
  | 0, _, _, _, _, _, _, _ => none
  | n + 1, l0, l1, l2, l3, l4, l5, σ =>
      if (8 : Int32) ≤ l5 then (
        some (l4, σ)) else (
        (ob 11 σ l0).bind fun _ =>
        (f_X11_explains N l0 l1 l2 l3 l5 σ).bind fun q2 =>
        if q2.1 = 0 then (
          f_X11_explained_54 N (f_X11_explained_25 N n) l0 l1 l2 l3 l5 l4 (0 : Int32) q2.2) else (
          f_X11_explained_54 N (f_X11_explained_25 N n) l0 l1 l2 l3 l5 l4 ((1 : Int32) <<< (l5 &&& 31)) q2.2))
def f_X11_explained (N : Nat) (l0 : Nat) (l1 : Int32) (l2 : Int32) (l3 : Int32) (σ : Mm) : Option (Int32 × Mm) :=
  (ob 11 σ l0).bind fun _ =>
  (f_X11_canExplain N l0 l1 l2 σ).bind fun q1 =>
  if q1.1 = 0 then (
    f_X11_explained_17 N q1.2) else (
    (ob 11 q1.2 l0).bind fun _ =>
    (f_X11_isCock N l0 l3 q1.2).bind fun q3 =>
    if q3.1 = 0 then (
      f_X11_explained_17 N q3.2) else (
      f_X11_explained_25 N N l0 l1 l2 l3 (0 : Int32) (0 : Int32) q3.2))
theorem mov_X11_explained : MOV yX11_explained M_X11_explained 3 11 100 := ⟨⟨tw_107, tw_1497, ⟨by decide, by decide⟩, by decide +kernel⟩, tw_1495, tw_1496, by decide, ⟨_, rfl, rfl⟩, rfl⟩
set_option maxRecDepth 4000 in
theorem s_X11_explained_17 {Γ : Cn} {τ : Mm} {N : Nat} {σ : Mm} {o : Int32 × Mm} (h : f_X11_explained_17 N σ = some o) : Gx Γ M_X11_explained 100 τ (PI o) 0 0 17 [] [] σ := by
  unfold f_X11_explained_17 at h
  refine gx_iconst (v := (-1 : Int32)) dX11_explained_17 ic_m1 ?_
  have h := Option.some.inj h
  subst h
  exact gx_iret dX11_explained_18 rfl (Nat.le_of_ble_eq_true rfl) (Nat.le_of_ble_eq_true rfl) ⟨rfl, rfl⟩
set_option maxRecDepth 4000 in
theorem s_X11_explained_54 {Γ : Cn} {τ : Mm} {N : Nat} {r_25 : Nat → Int32 → Int32 → Int32 → Int32 → Int32 → Mm → Option (Int32 × Mm)} (hr_25 : ∀ (l0 : Nat) (l1 : Int32) (l2 : Int32) (l3 : Int32) (l4 : Int32) (l5 : Int32) (σ : Mm) (o : Int32 × Mm), r_25 l0 l1 l2 l3 l4 l5 σ = some o → Gx Γ M_X11_explained 100 τ (PI o) 0 0 25 [(0, .ref (Γ.B + pp l0)), (1, .int l1), (2, .int l2), (3, .int l3), (4, .int l4), (5, .int l5)] [] σ) {l0 : Nat} {l1 : Int32} {l2 : Int32} {l3 : Int32} {l5 : Int32} {t0 : Int32} {t1 : Int32} {σ : Mm} {o : Int32 × Mm} (h : f_X11_explained_54 N r_25 l0 l1 l2 l3 l5 t0 t1 σ = some o) : Gx Γ M_X11_explained 100 τ (PI o) 0 0 54 [(0, .ref (Γ.B + pp l0)), (1, .int l1), (2, .int l2), (3, .int l3), (5, .int l5)] [.int t1, .int t0] σ := by
  unfold f_X11_explained_54 at h
  refine gx_ior dX11_explained_54 ?_
  refine gx_istore (lv' := [(4, .int (t0 ||| t1)), (0, .ref (Γ.B + pp l0)), (1, .int l1), (2, .int l2), (3, .int l3), (5, .int l5)]) dX11_explained_55 (Nat.le_of_ble_eq_true rfl) rfl ?_
  refine gx_iinc (v := (l5 + (1 : Int32))) (lv' := [(5, .int (l5 + (1 : Int32))), (4, .int (t0 ||| t1)), (0, .ref (Γ.B + pp l0)), (1, .int l1), (2, .int l2), (3, .int l3)]) 5 dX11_explained_57 rfl (by rw [ic_1]) (Nat.le_of_ble_eq_true rfl) rfl ?_
  refine gx_goto 25 dX11_explained_60 (by decide) ?_
  exact gx_sub [2, 3, 4, 5, 1, 0] rfl (hr_25 _ _ _ _ _ _ _ _ h)
set_option maxRecDepth 4000 in
theorem s_X11_explained_25 {Γ : Cn} {τ : Mm} {N : Nat} : ∀ (n : Nat) (l0 : Nat) (l1 : Int32) (l2 : Int32) (l3 : Int32) (l4 : Int32) (l5 : Int32) (σ : Mm) (o : Int32 × Mm), f_X11_explained_25 N n l0 l1 l2 l3 l4 l5 σ = some o → Gx Γ M_X11_explained 100 τ (PI o) 0 0 25 [(0, .ref (Γ.B + pp l0)), (1, .int l1), (2, .int l2), (3, .int l3), (4, .int l4), (5, .int l5)] [] σ := by
  intro n
  induction n with
  | zero =>
    intro l0 l1 l2 l3 l4 l5 σ o h
    exact absurd h (by rw [f_X11_explained_25]; exact fun q => nomatch q)
  | succ n ih =>
    intro l0 l1 l2 l3 l4 l5 σ o h
    rw [f_X11_explained_25] at h
    refine gx_iload 5 dX11_explained_25 rfl ?_
    refine gx_bipush (v := (8 : Int32)) dX11_explained_27 ib_8 ?_
    refine gx_icmp_ge 63 dX11_explained_29 (by decide) (fun c0 => ?_) (fun c0 => ?_)
    · rw [if_pos c0] at h
      refine gx_iload 4 dX11_explained_63 rfl ?_
      have h := Option.some.inj h
      subst h
      exact gx_iret dX11_explained_65 rfl (Nat.le_of_ble_eq_true rfl) (Nat.le_of_ble_eq_true rfl) ⟨rfl, rfl⟩
    · rw [if_neg c0] at h
      refine gx_iload 4 dX11_explained_32 rfl ?_
      refine gx_aload_n 0 dX11_explained_34 rfl rfl ?_
      refine gx_iload_n 1 dX11_explained_35 rfl rfl ?_
      refine gx_iload_n 2 dX11_explained_36 rfl rfl ?_
      refine gx_iload_n 3 dX11_explained_37 rfl rfl ?_
      refine gx_iload 5 dX11_explained_38 rfl ?_
      obtain ⟨_, hobq2, h⟩ := bnd h
      obtain ⟨q2, hq2, h⟩ := bnd h
      refine gx_cVI (As := [.int l1, .int l2, .int l3, .int l5]) (st := [.int l4]) (o := l0) dX11_explained_40 (c_X11_explains hq2) mov_X11_explains tw_1502 hobq2 rfl ⟨Nat.le_of_ble_eq_true rfl, Nat.le_of_ble_eq_true rfl⟩ (Nat.le_of_ble_eq_true rfl) ?_
      refine gx_if_eq 53 dX11_explained_43 (by decide) (fun c2 => ?_) (fun c2 => ?_)
      · rw [if_pos c2] at h
        refine gx_iconst (v := (0 : Int32)) dX11_explained_53 ic_0 ?_
        exact gx_sub [0, 1, 2, 3, 5] rfl (s_X11_explained_54 ih h)
      · rw [if_neg c2] at h
        refine gx_iconst (v := (1 : Int32)) dX11_explained_46 ic_1 ?_
        refine gx_iload 5 dX11_explained_47 rfl ?_
        refine gx_ishl dX11_explained_49 ?_
        refine gx_goto 54 dX11_explained_50 (by decide) ?_
        exact gx_sub [0, 1, 2, 3, 5] rfl (s_X11_explained_54 ih h)
set_option maxRecDepth 4000 in
theorem s_X11_explained_0 {Γ : Cn} {τ : Mm} {N : Nat} {l0 : Nat} {l1 : Int32} {l2 : Int32} {l3 : Int32} {σ : Mm} {o : Int32 × Mm} (h : f_X11_explained N l0 l1 l2 l3 σ = some o) : Gx Γ M_X11_explained 100 τ (PI o) 0 0 0 [(0, .ref (Γ.B + pp l0)), (1, .int l1), (2, .int l2), (3, .int l3)] [] σ := by
  unfold f_X11_explained at h
  refine gx_aload_n 0 dX11_explained_0 rfl rfl ?_
  refine gx_iload_n 1 dX11_explained_1 rfl rfl ?_
  refine gx_iload_n 2 dX11_explained_2 rfl rfl ?_
  obtain ⟨_, hobq1, h⟩ := bnd h
  obtain ⟨q1, hq1, h⟩ := bnd h
  refine gx_cVI (As := [.int l1, .int l2]) (st := []) (o := l0) dX11_explained_3 (c_X11_canExplain hq1) mov_X11_canExplain tw_1498 hobq1 rfl ⟨Nat.le_of_ble_eq_true rfl, Nat.le_of_ble_eq_true rfl⟩ (Nat.le_of_ble_eq_true rfl) ?_
  refine gx_if_eq 17 dX11_explained_6 (by decide) (fun c1 => ?_) (fun c1 => ?_)
  · rw [if_pos c1] at h
    exact gx_sub [] rfl (s_X11_explained_17  h)
  · rw [if_neg c1] at h
    refine gx_aload_n 0 dX11_explained_9 rfl rfl ?_
    refine gx_iload_n 3 dX11_explained_10 rfl rfl ?_
    obtain ⟨_, hobq3, h⟩ := bnd h
    obtain ⟨q3, hq3, h⟩ := bnd h
    refine gx_cVI (As := [.int l3]) (st := []) (o := l0) dX11_explained_11 (c_X11_isCock hq3) mov_X11_isCock tw_1291 hobq3 rfl ⟨Nat.le_of_ble_eq_true rfl, Nat.le_of_ble_eq_true rfl⟩ (Nat.le_of_ble_eq_true rfl) ?_
    refine gx_if_ne 19 dX11_explained_14 (by decide) (fun c3 => ?_) (fun c3 => ?_)
    · rw [if_neg c3] at h
      refine gx_iconst (v := (0 : Int32)) dX11_explained_19 ic_0 ?_
      refine gx_istore (lv' := [(4, .int (0 : Int32)), (0, .ref (Γ.B + pp l0)), (1, .int l1), (2, .int l2), (3, .int l3)]) dX11_explained_20 (Nat.le_of_ble_eq_true rfl) rfl ?_
      refine gx_iconst (v := (0 : Int32)) dX11_explained_22 ic_0 ?_
      refine gx_istore (lv' := [(5, .int (0 : Int32)), (4, .int (0 : Int32)), (0, .ref (Γ.B + pp l0)), (1, .int l1), (2, .int l2), (3, .int l3)]) dX11_explained_23 (Nat.le_of_ble_eq_true rfl) rfl ?_
      exact gx_sub [2, 3, 4, 5, 1, 0] rfl (s_X11_explained_25  N _ _ _ _ _ _ _ _ h)
    · rw [if_pos c3] at h
      exact gx_sub [] rfl (s_X11_explained_17  h)
theorem c_X11_explained {Γ : Cn} {τ : Mm} {N : Nat} {l0 : Nat} {l1 : Int32} {l2 : Int32} {l3 : Int32} {σ : Mm} {o : Int32 × Mm} (h : f_X11_explained N l0 l1 l2 l3 σ = some o) : Ct Γ M_X11_explained yX11_explained 100 τ [.ref (Γ.B + pp l0), .int l1, .int l2, .int l3] σ (PI o) := ct_of (by decide) rfl (fun _ => by first | rfl | contradiction) (Nat.le_of_ble_eq_true rfl) (s_X11_explained_0  h)
abbrev M_X11_trueWind : Ms := (cX11_trueWind, RX11, 10, (some .int), false, 0, 0, 5)
def f_X11_trueWind_21 (N : Nat) (σ : Mm) : Option (Int32 × Mm) :=
  some ((-1 : Int32), σ)
def f_X11_trueWind_82 (N : Nat) (r_48 : Nat → Int32 → Int32 → Int32 → Int32 → Int32 → Int32 → Int32 → Int32 → Int32 → Mm → Option (Int32 × Mm)) (l0 : Nat) (l1 : Int32) (l2 : Int32) (l3 : Int32) (l4 : Int32) (l5 : Int32) (l6 : Int32) (l7 : Int32) (l9 : Int32) (t0 : Int32) (t1 : Int32) (σ : Mm) : Option (Int32 × Mm) :=
  r_48 l0 l1 l2 l3 l4 l5 l6 l7 (t0 ||| t1) (l9 + (1 : Int32)) σ
def f_X11_trueWind_127 (N : Nat) (r_35 : Nat → Int32 → Int32 → Int32 → Int32 → Int32 → Int32 → Int32 → Mm → Option (Int32 × Mm)) (l0 : Nat) (l1 : Int32) (l2 : Int32) (l3 : Int32) (l4 : Int32) (l5 : Int32) (l6 : Int32) (l7 : Int32) (σ : Mm) : Option (Int32 × Mm) :=
  r_35 l0 l1 l2 l3 l4 l5 l6 (l7 + (1 : Int32)) σ
def f_X11_trueWind_48 (N : Nat) (r_35 : Nat → Int32 → Int32 → Int32 → Int32 → Int32 → Int32 → Int32 → Mm → Option (Int32 × Mm)) : Nat → Nat → Int32 → Int32 → Int32 → Int32 → Int32 → Int32 → Int32 → Int32 → Int32 → Mm → Option (Int32 × Mm)
  | 0, _, _, _, _, _, _, _, _, _, _, _ => none
  | n + 1, l0, l1, l2, l3, l4, l5, l6, l7, l8, l9, σ =>
      (gN 11 24 σ l0).bind fun a1 =>
      (aI 113 σ a1 (0 : Int32)).bind fun x2 =>
      if x2 ≤ l9 then (
        (gN 11 24 σ l0).bind fun a4 =>
        (aI 113 σ a4 (0 : Int32)).bind fun x5 =>
        (f_X11_bits N l8 σ).bind fun q6 =>
        if l5 < (x5 - q6.1) then (
          f_X11_trueWind_127 N r_35 l0 l1 l2 l3 l7 (x5 - q6.1) l8 l7 q6.2) else (
          f_X11_trueWind_127 N r_35 l0 l1 l2 l3 l4 l5 l6 l7 q6.2)) else (
        (ob 11 σ l0).bind fun _ =>
        (f_X11_explains N l0 l1 l2 l9 l7 σ).bind fun q8 =>
        if q8.1 = 0 then (
          f_X11_trueWind_82 N (f_X11_trueWind_48 N r_35 n) l0 l1 l2 l3 l4 l5 l6 l7 l9 l8 ((1 : Int32) <<< (l9 &&& 31)) q8.2) else (
          f_X11_trueWind_82 N (f_X11_trueWind_48 N r_35 n) l0 l1 l2 l3 l4 l5 l6 l7 l9 l8 (0 : Int32) q8.2))
def f_X11_trueWind_154 (N : Nat) (t0 : Int32) (σ : Mm) : Option (Int32 × Mm) :=
  some (t0, σ)
def f_X11_trueWind_35 (N : Nat) : Nat → Nat → Int32 → Int32 → Int32 → Int32 → Int32 → Int32 → Int32 → Mm → Option (Int32 × Mm)
  | 0, _, _, _, _, _, _, _, _, _ => none
  | n + 1, l0, l1, l2, l3, l4, l5, l6, l7, σ =>
      if (8 : Int32) ≤ l7 then (
        if l3 = 0 then (
          f_X11_trueWind_154 N l4 σ) else (
          if l3 = (1 : Int32) then (
            f_X11_trueWind_154 N l5 σ) else (
            f_X11_trueWind_154 N l6 σ))) else (
        f_X11_trueWind_48 N (f_X11_trueWind_35 N n) N l0 l1 l2 l3 l4 l5 l6 l7 (0 : Int32) (0 : Int32) σ)
def f_X11_trueWind (N : Nat) (l0 : Nat) (l1 : Int32) (l2 : Int32) (l3 : Int32) (σ : Mm) : Option (Int32 × Mm) :=
  (ob 11 σ l0).bind fun _ =>
  (f_X11_canExplain N l0 l1 l2 σ).bind fun q1 =>
  if q1.1 = 0 then (
    f_X11_trueWind_21 N q1.2) else (
    (f_X11_in N (Int32.toInt64 l3) (0 : Int64) (2 : Int64) q1.2).bind fun q3 =>
    if q3.1 = 0 then (
      f_X11_trueWind_21 N q3.2) else (
      f_X11_trueWind_35 N N l0 l1 l2 l3 (0 : Int32) (-1 : Int32) (0 : Int32) (0 : Int32) q3.2))
theorem mov_X11_trueWind : MOV yX11_trueWind M_X11_trueWind 3 11 100 := ⟨⟨tw_107, tw_1509, ⟨by decide, by decide⟩, by decide +kernel⟩, tw_1507, tw_1508, by decide, ⟨_, rfl, rfl⟩, rfl⟩
set_option maxRecDepth 4000 in
theorem s_X11_trueWind_21 {Γ : Cn} {τ : Mm} {N : Nat} {σ : Mm} {o : Int32 × Mm} (h : f_X11_trueWind_21 N σ = some o) : Gx Γ M_X11_trueWind 100 τ (PI o) 0 0 21 [] [] σ := by
  unfold f_X11_trueWind_21 at h
  refine gx_iconst (v := (-1 : Int32)) dX11_trueWind_21 ic_m1 ?_
  have h := Option.some.inj h
  subst h
  exact gx_iret dX11_trueWind_22 rfl (Nat.le_of_ble_eq_true rfl) (Nat.le_of_ble_eq_true rfl) ⟨rfl, rfl⟩
set_option maxRecDepth 4000 in
theorem s_X11_trueWind_82 {Γ : Cn} {τ : Mm} {N : Nat} {r_48 : Nat → Int32 → Int32 → Int32 → Int32 → Int32 → Int32 → Int32 → Int32 → Int32 → Mm → Option (Int32 × Mm)} (hr_48 : ∀ (l0 : Nat) (l1 : Int32) (l2 : Int32) (l3 : Int32) (l4 : Int32) (l5 : Int32) (l6 : Int32) (l7 : Int32) (l8 : Int32) (l9 : Int32) (σ : Mm) (o : Int32 × Mm), r_48 l0 l1 l2 l3 l4 l5 l6 l7 l8 l9 σ = some o → Gx Γ M_X11_trueWind 100 τ (PI o) 0 0 48 [(0, .ref (Γ.B + pp l0)), (1, .int l1), (2, .int l2), (3, .int l3), (4, .int l4), (5, .int l5), (6, .int l6), (7, .int l7), (8, .int l8), (9, .int l9)] [] σ) {l0 : Nat} {l1 : Int32} {l2 : Int32} {l3 : Int32} {l4 : Int32} {l5 : Int32} {l6 : Int32} {l7 : Int32} {l9 : Int32} {t0 : Int32} {t1 : Int32} {σ : Mm} {o : Int32 × Mm} (h : f_X11_trueWind_82 N r_48 l0 l1 l2 l3 l4 l5 l6 l7 l9 t0 t1 σ = some o) : Gx Γ M_X11_trueWind 100 τ (PI o) 0 0 82 [(0, .ref (Γ.B + pp l0)), (1, .int l1), (2, .int l2), (3, .int l3), (4, .int l4), (5, .int l5), (6, .int l6), (7, .int l7), (9, .int l9)] [.int t1, .int t0] σ := by
  unfold f_X11_trueWind_82 at h
  refine gx_ior dX11_trueWind_82 ?_
  refine gx_istore (lv' := [(8, .int (t0 ||| t1)), (0, .ref (Γ.B + pp l0)), (1, .int l1), (2, .int l2), (3, .int l3), (4, .int l4), (5, .int l5), (6, .int l6), (7, .int l7), (9, .int l9)]) dX11_trueWind_83 (Nat.le_of_ble_eq_true rfl) rfl ?_
  refine gx_iinc (v := (l9 + (1 : Int32))) (lv' := [(9, .int (l9 + (1 : Int32))), (8, .int (t0 ||| t1)), (0, .ref (Γ.B + pp l0)), (1, .int l1), (2, .int l2), (3, .int l3), (4, .int l4), (5, .int l5), (6, .int l6), (7, .int l7)]) 9 dX11_trueWind_85 rfl (by rw [ic_1]) (Nat.le_of_ble_eq_true rfl) rfl ?_
  refine gx_goto 48 dX11_trueWind_88 (by decide) ?_
  exact gx_sub [2, 3, 4, 5, 6, 7, 8, 9, 1, 0] rfl (hr_48 _ _ _ _ _ _ _ _ _ _ _ _ h)
set_option maxRecDepth 4000 in
theorem s_X11_trueWind_127 {Γ : Cn} {τ : Mm} {N : Nat} {r_35 : Nat → Int32 → Int32 → Int32 → Int32 → Int32 → Int32 → Int32 → Mm → Option (Int32 × Mm)} (hr_35 : ∀ (l0 : Nat) (l1 : Int32) (l2 : Int32) (l3 : Int32) (l4 : Int32) (l5 : Int32) (l6 : Int32) (l7 : Int32) (σ : Mm) (o : Int32 × Mm), r_35 l0 l1 l2 l3 l4 l5 l6 l7 σ = some o → Gx Γ M_X11_trueWind 100 τ (PI o) 0 0 35 [(0, .ref (Γ.B + pp l0)), (1, .int l1), (2, .int l2), (3, .int l3), (4, .int l4), (5, .int l5), (6, .int l6), (7, .int l7)] [] σ) {l0 : Nat} {l1 : Int32} {l2 : Int32} {l3 : Int32} {l4 : Int32} {l5 : Int32} {l6 : Int32} {l7 : Int32} {σ : Mm} {o : Int32 × Mm} (h : f_X11_trueWind_127 N r_35 l0 l1 l2 l3 l4 l5 l6 l7 σ = some o) : Gx Γ M_X11_trueWind 100 τ (PI o) 0 0 127 [(0, .ref (Γ.B + pp l0)), (1, .int l1), (2, .int l2), (3, .int l3), (4, .int l4), (5, .int l5), (6, .int l6), (7, .int l7)] [] σ := by
  unfold f_X11_trueWind_127 at h
  refine gx_iinc (v := (l7 + (1 : Int32))) (lv' := [(7, .int (l7 + (1 : Int32))), (0, .ref (Γ.B + pp l0)), (1, .int l1), (2, .int l2), (3, .int l3), (4, .int l4), (5, .int l5), (6, .int l6)]) 7 dX11_trueWind_127 rfl (by rw [ic_1]) (Nat.le_of_ble_eq_true rfl) rfl ?_
  refine gx_goto 35 dX11_trueWind_130 (by decide) ?_
  exact gx_sub [1, 2, 3, 4, 5, 6, 7, 0] rfl (hr_35 _ _ _ _ _ _ _ _ _ _ h)
set_option maxRecDepth 4000 in
theorem s_X11_trueWind_48 {Γ : Cn} {τ : Mm} {N : Nat} {r_35 : Nat → Int32 → Int32 → Int32 → Int32 → Int32 → Int32 → Int32 → Mm → Option (Int32 × Mm)} (hr_35 : ∀ (l0 : Nat) (l1 : Int32) (l2 : Int32) (l3 : Int32) (l4 : Int32) (l5 : Int32) (l6 : Int32) (l7 : Int32) (σ : Mm) (o : Int32 × Mm), r_35 l0 l1 l2 l3 l4 l5 l6 l7 σ = some o → Gx Γ M_X11_trueWind 100 τ (PI o) 0 0 35 [(0, .ref (Γ.B + pp l0)), (1, .int l1), (2, .int l2), (3, .int l3), (4, .int l4), (5, .int l5), (6, .int l6), (7, .int l7)] [] σ) : ∀ (n : Nat) (l0 : Nat) (l1 : Int32) (l2 : Int32) (l3 : Int32) (l4 : Int32) (l5 : Int32) (l6 : Int32) (l7 : Int32) (l8 : Int32) (l9 : Int32) (σ : Mm) (o : Int32 × Mm), f_X11_trueWind_48 N r_35 n l0 l1 l2 l3 l4 l5 l6 l7 l8 l9 σ = some o → Gx Γ M_X11_trueWind 100 τ (PI o) 0 0 48 [(0, .ref (Γ.B + pp l0)), (1, .int l1), (2, .int l2), (3, .int l3), (4, .int l4), (5, .int l5), (6, .int l6), (7, .int l7), (8, .int l8), (9, .int l9)] [] σ := by
  intro n
  induction n with
  | zero =>
    intro l0 l1 l2 l3 l4 l5 l6 l7 l8 l9 σ o h
    exact absurd h (by rw [f_X11_trueWind_48]; exact fun q => nomatch q)
  | succ n ih =>
    intro l0 l1 l2 l3 l4 l5 l6 l7 l8 l9 σ o h
    rw [f_X11_trueWind_48] at h
    refine gx_iload 9 dX11_trueWind_48 rfl ?_
    refine gx_aload_n 0 dX11_trueWind_50 rfl rfl ?_
    obtain ⟨a1, ha1, h⟩ := bnd h
    refine gx_getN dX11_trueWind_51 ha1 fl_X11_45 rfl ?_
    refine gx_iconst (v := (0 : Int32)) dX11_trueWind_54 ic_0 ?_
    obtain ⟨x2, hx2, h⟩ := bnd h
    refine gx_iald (kd := 113) dX11_trueWind_55 hx2 rfl rfl ?_
    refine gx_icmp_ge 91 dX11_trueWind_56 (by decide) (fun c2 => ?_) (fun c2 => ?_)
    · rw [if_pos c2] at h
      refine gx_aload_n 0 dX11_trueWind_91 rfl rfl ?_
      obtain ⟨a4, ha4, h⟩ := bnd h
      refine gx_getN dX11_trueWind_92 ha4 fl_X11_45 rfl ?_
      refine gx_iconst (v := (0 : Int32)) dX11_trueWind_95 ic_0 ?_
      obtain ⟨x5, hx5, h⟩ := bnd h
      refine gx_iald (kd := 113) dX11_trueWind_96 hx5 rfl rfl ?_
      refine gx_iload 8 dX11_trueWind_97 rfl ?_
      obtain ⟨q6, hq6, h⟩ := bnd h
      refine gx_cSI (As := [.int l8]) (st := [.int x5]) dX11_trueWind_99 (c_X11_bits hq6) mos_X11_bits tw_1478 rfl ⟨Nat.le_of_ble_eq_true rfl, Nat.le_of_ble_eq_true rfl⟩ (Nat.le_of_ble_eq_true rfl) ?_
      refine gx_isub dX11_trueWind_102 ?_
      refine gx_istore (lv' := [(9, .int (x5 - q6.1)), (0, .ref (Γ.B + pp l0)), (1, .int l1), (2, .int l2), (3, .int l3), (4, .int l4), (5, .int l5), (6, .int l6), (7, .int l7), (8, .int l8)]) dX11_trueWind_103 (Nat.le_of_ble_eq_true rfl) rfl ?_
      refine gx_iload 0 dX11_trueWind_105 rfl ?_
      refine gx_iload 6 dX11_trueWind_107 rfl ?_
      refine gx_icmp_gt 115 dX11_trueWind_109 (by decide) (fun c6 => ?_) (fun c6 => ?_)
      · rw [if_pos c6] at h
        refine gx_iload 8 dX11_trueWind_115 rfl ?_
        refine gx_istore (lv' := [(4, .int l7), (9, .int (x5 - q6.1)), (0, .ref (Γ.B + pp l0)), (1, .int l1), (2, .int l2), (3, .int l3), (5, .int l5), (6, .int l6), (7, .int l7), (8, .int l8)]) dX11_trueWind_117 (Nat.le_of_ble_eq_true rfl) rfl ?_
        refine gx_iload 1 dX11_trueWind_119 rfl ?_
        refine gx_istore (lv' := [(5, .int (x5 - q6.1)), (4, .int l7), (9, .int (x5 - q6.1)), (0, .ref (Γ.B + pp l0)), (1, .int l1), (2, .int l2), (3, .int l3), (6, .int l6), (7, .int l7), (8, .int l8)]) dX11_trueWind_121 (Nat.le_of_ble_eq_true rfl) rfl ?_
        refine gx_iload 9 dX11_trueWind_123 rfl ?_
        refine gx_istore (lv' := [(6, .int l8), (5, .int (x5 - q6.1)), (4, .int l7), (9, .int (x5 - q6.1)), (0, .ref (Γ.B + pp l0)), (1, .int l1), (2, .int l2), (3, .int l3), (7, .int l7), (8, .int l8)]) dX11_trueWind_125 (Nat.le_of_ble_eq_true rfl) rfl ?_
        exact gx_sub [4, 5, 6, 7, 2, 1, 0, 8] rfl (s_X11_trueWind_127 hr_35 h)
      · rw [if_neg c6] at h
        refine gx_goto 127 dX11_trueWind_112 (by decide) ?_
        exact gx_sub [1, 2, 3, 4, 5, 6, 7, 8] rfl (s_X11_trueWind_127 hr_35 h)
    · rw [if_neg c2] at h
      refine gx_iload 8 dX11_trueWind_59 rfl ?_
      refine gx_aload_n 0 dX11_trueWind_61 rfl rfl ?_
      refine gx_iload_n 1 dX11_trueWind_62 rfl rfl ?_
      refine gx_iload_n 2 dX11_trueWind_63 rfl rfl ?_
      refine gx_iload 9 dX11_trueWind_64 rfl ?_
      refine gx_iload 7 dX11_trueWind_66 rfl ?_
      obtain ⟨_, hobq8, h⟩ := bnd h
      obtain ⟨q8, hq8, h⟩ := bnd h
      refine gx_cVI (As := [.int l1, .int l2, .int l9, .int l7]) (st := [.int l8]) (o := l0) dX11_trueWind_68 (c_X11_explains hq8) mov_X11_explains tw_1502 hobq8 rfl ⟨Nat.le_of_ble_eq_true rfl, Nat.le_of_ble_eq_true rfl⟩ (Nat.le_of_ble_eq_true rfl) ?_
      refine gx_if_eq 78 dX11_trueWind_71 (by decide) (fun c8 => ?_) (fun c8 => ?_)
      · rw [if_pos c8] at h
        refine gx_iconst (v := (1 : Int32)) dX11_trueWind_78 ic_1 ?_
        refine gx_iload 9 dX11_trueWind_79 rfl ?_
        refine gx_ishl dX11_trueWind_81 ?_
        exact gx_sub [0, 1, 2, 3, 4, 5, 6, 7, 9] rfl (s_X11_trueWind_82 ih h)
      · rw [if_neg c8] at h
        refine gx_iconst (v := (0 : Int32)) dX11_trueWind_74 ic_0 ?_
        refine gx_goto 82 dX11_trueWind_75 (by decide) ?_
        exact gx_sub [0, 1, 2, 3, 4, 5, 6, 7, 9] rfl (s_X11_trueWind_82 ih h)
set_option maxRecDepth 4000 in
theorem s_X11_trueWind_154 {Γ : Cn} {τ : Mm} {N : Nat} {t0 : Int32} {σ : Mm} {o : Int32 × Mm} (h : f_X11_trueWind_154 N t0 σ = some o) : Gx Γ M_X11_trueWind 100 τ (PI o) 0 0 154 [] [.int t0] σ := by
  unfold f_X11_trueWind_154 at h
  have h := Option.some.inj h
  subst h
  exact gx_iret dX11_trueWind_154 rfl (Nat.le_of_ble_eq_true rfl) (Nat.le_of_ble_eq_true rfl) ⟨rfl, rfl⟩
set_option maxRecDepth 4000 in
theorem s_X11_trueWind_35 {Γ : Cn} {τ : Mm} {N : Nat} : ∀ (n : Nat) (l0 : Nat) (l1 : Int32) (l2 : Int32) (l3 : Int32) (l4 : Int32) (l5 : Int32) (l6 : Int32) (l7 : Int32) (σ : Mm) (o : Int32 × Mm), f_X11_trueWind_35 N n l0 l1 l2 l3 l4 l5 l6 l7 σ = some o → Gx Γ M_X11_trueWind 100 τ (PI o) 0 0 35 [(0, .ref (Γ.B + pp l0)), (1, .int l1), (2, .int l2), (3, .int l3), (4, .int l4), (5, .int l5), (6, .int l6), (7, .int l7)] [] σ := by
  intro n
  induction n with
  | zero =>
    intro l0 l1 l2 l3 l4 l5 l6 l7 σ o h
    exact absurd h (by rw [f_X11_trueWind_35]; exact fun q => nomatch q)
  | succ n ih =>
    intro l0 l1 l2 l3 l4 l5 l6 l7 σ o h
    rw [f_X11_trueWind_35] at h
    refine gx_iload 7 dX11_trueWind_35 rfl ?_
    refine gx_bipush (v := (8 : Int32)) dX11_trueWind_37 ib_8 ?_
    refine gx_icmp_ge 133 dX11_trueWind_39 (by decide) (fun c0 => ?_) (fun c0 => ?_)
    · rw [if_pos c0] at h
      refine gx_iload_n 3 dX11_trueWind_133 rfl rfl ?_
      refine gx_if_ne 142 dX11_trueWind_134 (by decide) (fun c1 => ?_) (fun c1 => ?_)
      · rw [if_neg c1] at h
        refine gx_iload_n 3 dX11_trueWind_142 rfl rfl ?_
        refine gx_iconst (v := (1 : Int32)) dX11_trueWind_143 ic_1 ?_
        refine gx_icmp_ne 152 dX11_trueWind_144 (by decide) (fun c2 => ?_) (fun c2 => ?_)
        · rw [if_neg c2] at h
          refine gx_iload 6 dX11_trueWind_152 rfl ?_
          exact gx_sub [] rfl (s_X11_trueWind_154  h)
        · rw [if_pos c2] at h
          refine gx_iload 5 dX11_trueWind_147 rfl ?_
          refine gx_goto 154 dX11_trueWind_149 (by decide) ?_
          exact gx_sub [] rfl (s_X11_trueWind_154  h)
      · rw [if_pos c1] at h
        refine gx_iload 4 dX11_trueWind_137 rfl ?_
        refine gx_goto 154 dX11_trueWind_139 (by decide) ?_
        exact gx_sub [] rfl (s_X11_trueWind_154  h)
    · rw [if_neg c0] at h
      refine gx_iconst (v := (0 : Int32)) dX11_trueWind_42 ic_0 ?_
      refine gx_istore (lv' := [(8, .int (0 : Int32)), (0, .ref (Γ.B + pp l0)), (1, .int l1), (2, .int l2), (3, .int l3), (4, .int l4), (5, .int l5), (6, .int l6), (7, .int l7)]) dX11_trueWind_43 (Nat.le_of_ble_eq_true rfl) rfl ?_
      refine gx_iconst (v := (0 : Int32)) dX11_trueWind_45 ic_0 ?_
      refine gx_istore (lv' := [(9, .int (0 : Int32)), (8, .int (0 : Int32)), (0, .ref (Γ.B + pp l0)), (1, .int l1), (2, .int l2), (3, .int l3), (4, .int l4), (5, .int l5), (6, .int l6), (7, .int l7)]) dX11_trueWind_46 (Nat.le_of_ble_eq_true rfl) rfl ?_
      exact gx_sub [2, 3, 4, 5, 6, 7, 8, 9, 1, 0] rfl (s_X11_trueWind_48 ih N _ _ _ _ _ _ _ _ _ _ _ _ h)
set_option maxRecDepth 4000 in
theorem s_X11_trueWind_0 {Γ : Cn} {τ : Mm} {N : Nat} {l0 : Nat} {l1 : Int32} {l2 : Int32} {l3 : Int32} {σ : Mm} {o : Int32 × Mm} (h : f_X11_trueWind N l0 l1 l2 l3 σ = some o) : Gx Γ M_X11_trueWind 100 τ (PI o) 0 0 0 [(0, .ref (Γ.B + pp l0)), (1, .int l1), (2, .int l2), (3, .int l3)] [] σ := by
  unfold f_X11_trueWind at h
  refine gx_aload_n 0 dX11_trueWind_0 rfl rfl ?_
  refine gx_iload_n 1 dX11_trueWind_1 rfl rfl ?_
  refine gx_iload_n 2 dX11_trueWind_2 rfl rfl ?_
  obtain ⟨_, hobq1, h⟩ := bnd h
  obtain ⟨q1, hq1, h⟩ := bnd h
  refine gx_cVI (As := [.int l1, .int l2]) (st := []) (o := l0) dX11_trueWind_3 (c_X11_canExplain hq1) mov_X11_canExplain tw_1498 hobq1 rfl ⟨Nat.le_of_ble_eq_true rfl, Nat.le_of_ble_eq_true rfl⟩ (Nat.le_of_ble_eq_true rfl) ?_
  refine gx_if_eq 21 dX11_trueWind_6 (by decide) (fun c1 => ?_) (fun c1 => ?_)
  · rw [if_pos c1] at h
    exact gx_sub [] rfl (s_X11_trueWind_21  h)
  · rw [if_neg c1] at h
    refine gx_iload_n 3 dX11_trueWind_9 rfl rfl ?_
    refine gx_i2l dX11_trueWind_10 ?_
    refine gx_lconst (v := (0 : Int64)) dX11_trueWind_11 (by decide) ?_
    refine gx_ldc2 (v := (2 : Int64)) dX11_trueWind_12 tw_1308 ?_
    obtain ⟨q3, hq3, h⟩ := bnd h
    refine gx_cSI (As := [.long (Int32.toInt64 l3), .long (0 : Int64), .long (2 : Int64)]) (st := []) dX11_trueWind_15 (c_X11_in hq3) mos_X11_in tw_1206 rfl ⟨Nat.le_of_ble_eq_true rfl, Nat.le_of_ble_eq_true rfl⟩ (Nat.le_of_ble_eq_true rfl) ?_
    refine gx_if_ne 23 dX11_trueWind_18 (by decide) (fun c3 => ?_) (fun c3 => ?_)
    · rw [if_neg c3] at h
      refine gx_iconst (v := (0 : Int32)) dX11_trueWind_23 ic_0 ?_
      refine gx_istore (lv' := [(4, .int (0 : Int32)), (0, .ref (Γ.B + pp l0)), (1, .int l1), (2, .int l2), (3, .int l3)]) dX11_trueWind_24 (Nat.le_of_ble_eq_true rfl) rfl ?_
      refine gx_iconst (v := (-1 : Int32)) dX11_trueWind_26 ic_m1 ?_
      refine gx_istore (lv' := [(5, .int (-1 : Int32)), (4, .int (0 : Int32)), (0, .ref (Γ.B + pp l0)), (1, .int l1), (2, .int l2), (3, .int l3)]) dX11_trueWind_27 (Nat.le_of_ble_eq_true rfl) rfl ?_
      refine gx_iconst (v := (0 : Int32)) dX11_trueWind_29 ic_0 ?_
      refine gx_istore (lv' := [(6, .int (0 : Int32)), (5, .int (-1 : Int32)), (4, .int (0 : Int32)), (0, .ref (Γ.B + pp l0)), (1, .int l1), (2, .int l2), (3, .int l3)]) dX11_trueWind_30 (Nat.le_of_ble_eq_true rfl) rfl ?_
      refine gx_iconst (v := (0 : Int32)) dX11_trueWind_32 ic_0 ?_
      refine gx_istore (lv' := [(7, .int (0 : Int32)), (6, .int (0 : Int32)), (5, .int (-1 : Int32)), (4, .int (0 : Int32)), (0, .ref (Γ.B + pp l0)), (1, .int l1), (2, .int l2), (3, .int l3)]) dX11_trueWind_33 (Nat.le_of_ble_eq_true rfl) rfl ?_
      exact gx_sub [4, 5, 6, 7, 3, 2, 1, 0] rfl (s_X11_trueWind_35  N _ _ _ _ _ _ _ _ _ _ h)
    · rw [if_pos c3] at h
      exact gx_sub [] rfl (s_X11_trueWind_21  h)
theorem c_X11_trueWind {Γ : Cn} {τ : Mm} {N : Nat} {l0 : Nat} {l1 : Int32} {l2 : Int32} {l3 : Int32} {σ : Mm} {o : Int32 × Mm} (h : f_X11_trueWind N l0 l1 l2 l3 σ = some o) : Ct Γ M_X11_trueWind yX11_trueWind 100 τ [.ref (Γ.B + pp l0), .int l1, .int l2, .int l3] σ (PI o) := ct_of (by decide) rfl (fun _ => by first | rfl | contradiction) (Nat.le_of_ble_eq_true rfl) (s_X11_trueWind_0  h)
abbrev M_X11_goes : Ms := (cX11_goes, RX11, 6, none, false, 0, 0, 4)
def f_X11_goes_3 (N : Nat) : Nat → Nat → Int32 → Int32 → Int32 → Int32 → Int32 → Mm → Option Mm
  | 0, _, _, _, _, _, _, _ => none
  | n + 1, l0, l1, l2, l3, l4, l5, σ =>
      (gN 11 24 σ l0).bind fun a1 =>
      (aI 113 σ a1 (0 : Int32)).bind fun x2 =>
      if x2 ≤ l5 then (
        some σ) else (
        (gN 11 25 σ l0).bind fun a4 =>
        (ob 11 σ l0).bind fun _ =>
        (f_X11_cockOf N l0 l5 (5 : Int32) σ).bind fun q5 =>
        (ob 11 q5.2 l0).bind fun _ =>
        (f_X11_cockOf N l0 l5 (2 : Int32) q5.2).bind fun q6 =>
        (ob 11 q6.2 l0).bind fun _ =>
        (f_X11_goesTo N l0 l1 l5 q5.1 l2 l3 q6.1 l4 q6.2).bind fun q7 =>
        (sI 113 q7.2 a4 l5 q7.1).bind fun s8 =>
        f_X11_goes_3 N n l0 l1 l2 l3 l4 (l5 + (1 : Int32)) s8)
def f_X11_goes (N : Nat) (l0 : Nat) (l1 : Int32) (l2 : Int32) (l3 : Int32) (l4 : Int32) (σ : Mm) : Option Mm :=
  f_X11_goes_3 N N l0 l1 l2 l3 l4 (0 : Int32) σ
theorem mov_X11_goes : MOV yX11_goes M_X11_goes 4 11 100 := ⟨⟨tw_107, tw_1517, ⟨by decide, by decide⟩, by decide +kernel⟩, tw_1516, tw_94, by decide, ⟨_, rfl, rfl⟩, rfl⟩
set_option maxRecDepth 4000 in
theorem s_X11_goes_3 {Γ : Cn} {τ : Mm} {N : Nat} : ∀ (n : Nat) (l0 : Nat) (l1 : Int32) (l2 : Int32) (l3 : Int32) (l4 : Int32) (l5 : Int32) (σ : Mm) (o : Mm), f_X11_goes_3 N n l0 l1 l2 l3 l4 l5 σ = some o → Gx Γ M_X11_goes 100 τ (PV o) 0 0 3 [(0, .ref (Γ.B + pp l0)), (1, .int l1), (2, .int l2), (3, .int l3), (4, .int l4), (5, .int l5)] [] σ := by
  intro n
  induction n with
  | zero =>
    intro l0 l1 l2 l3 l4 l5 σ o h
    exact absurd h (by rw [f_X11_goes_3]; exact fun q => nomatch q)
  | succ n ih =>
    intro l0 l1 l2 l3 l4 l5 σ o h
    rw [f_X11_goes_3] at h
    refine gx_iload 5 dX11_goes_3 rfl ?_
    refine gx_aload_n 0 dX11_goes_5 rfl rfl ?_
    obtain ⟨a1, ha1, h⟩ := bnd h
    refine gx_getN dX11_goes_6 ha1 fl_X11_45 rfl ?_
    refine gx_iconst (v := (0 : Int32)) dX11_goes_9 ic_0 ?_
    obtain ⟨x2, hx2, h⟩ := bnd h
    refine gx_iald (kd := 113) dX11_goes_10 hx2 rfl rfl ?_
    refine gx_icmp_ge 52 dX11_goes_11 (by decide) (fun c2 => ?_) (fun c2 => ?_)
    · rw [if_pos c2] at h
      have h := Option.some.inj h
      subst h
      exact gx_vret dX11_goes_52 rfl (Nat.le_of_ble_eq_true rfl) (Nat.le_of_ble_eq_true rfl) ⟨rfl, rfl⟩
    · rw [if_neg c2] at h
      refine gx_aload_n 0 dX11_goes_14 rfl rfl ?_
      obtain ⟨a4, ha4, h⟩ := bnd h
      refine gx_getN dX11_goes_15 ha4 fl_X11_48 rfl ?_
      refine gx_iload 5 dX11_goes_18 rfl ?_
      refine gx_aload_n 0 dX11_goes_20 rfl rfl ?_
      refine gx_iload_n 1 dX11_goes_21 rfl rfl ?_
      refine gx_iload 5 dX11_goes_22 rfl ?_
      refine gx_aload_n 0 dX11_goes_24 rfl rfl ?_
      refine gx_iload 5 dX11_goes_25 rfl ?_
      refine gx_iconst (v := (5 : Int32)) dX11_goes_27 ic_5 ?_
      obtain ⟨_, hobq5, h⟩ := bnd h
      obtain ⟨q5, hq5, h⟩ := bnd h
      refine gx_cVI (As := [.int l5, .int (5 : Int32)]) (st := [.int l5, .int l1, .ref (Γ.B + pp l0), .int l5, .ref (Γ.B + pp a4)]) (o := l0) dX11_goes_28 (c_X11_cockOf hq5) mov_X11_cockOf tw_1296 hobq5 rfl ⟨Nat.le_of_ble_eq_true rfl, Nat.le_of_ble_eq_true rfl⟩ (Nat.le_of_ble_eq_true rfl) ?_
      refine gx_iload_n 2 dX11_goes_31 rfl rfl ?_
      refine gx_iload_n 3 dX11_goes_32 rfl rfl ?_
      refine gx_aload_n 0 dX11_goes_33 rfl rfl ?_
      refine gx_iload 5 dX11_goes_34 rfl ?_
      refine gx_iconst (v := (2 : Int32)) dX11_goes_36 ic_2 ?_
      obtain ⟨_, hobq6, h⟩ := bnd h
      obtain ⟨q6, hq6, h⟩ := bnd h
      refine gx_cVI (As := [.int l5, .int (2 : Int32)]) (st := [.int l3, .int l2, .int q5.1, .int l5, .int l1, .ref (Γ.B + pp l0), .int l5, .ref (Γ.B + pp a4)]) (o := l0) dX11_goes_37 (c_X11_cockOf hq6) mov_X11_cockOf tw_1296 hobq6 rfl ⟨Nat.le_of_ble_eq_true rfl, Nat.le_of_ble_eq_true rfl⟩ (Nat.le_of_ble_eq_true rfl) ?_
      refine gx_iload 4 dX11_goes_40 rfl ?_
      obtain ⟨_, hobq7, h⟩ := bnd h
      obtain ⟨q7, hq7, h⟩ := bnd h
      refine gx_cVI (As := [.int l1, .int l5, .int q5.1, .int l2, .int l3, .int q6.1, .int l4]) (st := [.int l5, .ref (Γ.B + pp a4)]) (o := l0) dX11_goes_42 (c_X11_goesTo hq7) mov_X11_goesTo tw_1348 hobq7 rfl ⟨Nat.le_of_ble_eq_true rfl, Nat.le_of_ble_eq_true rfl⟩ (Nat.le_of_ble_eq_true rfl) ?_
      obtain ⟨s8, hs8, h⟩ := bnd h
      refine gx_iast (kd := 113) dX11_goes_45 hs8 rfl rfl ?_
      refine gx_iinc (v := (l5 + (1 : Int32))) (lv' := [(5, .int (l5 + (1 : Int32))), (0, .ref (Γ.B + pp l0)), (1, .int l1), (2, .int l2), (3, .int l3), (4, .int l4)]) 5 dX11_goes_46 rfl (by rw [ic_1]) (Nat.le_of_ble_eq_true rfl) rfl ?_
      refine gx_goto 3 dX11_goes_49 (by decide) ?_
      exact gx_sub [1, 2, 3, 4, 5, 0] rfl (ih _ _ _ _ _ _ _ _ h)
set_option maxRecDepth 4000 in
theorem s_X11_goes_0 {Γ : Cn} {τ : Mm} {N : Nat} {l0 : Nat} {l1 : Int32} {l2 : Int32} {l3 : Int32} {l4 : Int32} {σ : Mm} {o : Mm} (h : f_X11_goes N l0 l1 l2 l3 l4 σ = some o) : Gx Γ M_X11_goes 100 τ (PV o) 0 0 0 [(0, .ref (Γ.B + pp l0)), (1, .int l1), (2, .int l2), (3, .int l3), (4, .int l4)] [] σ := by
  unfold f_X11_goes at h
  refine gx_iconst (v := (0 : Int32)) dX11_goes_0 ic_0 ?_
  refine gx_istore (lv' := [(5, .int (0 : Int32)), (0, .ref (Γ.B + pp l0)), (1, .int l1), (2, .int l2), (3, .int l3), (4, .int l4)]) dX11_goes_1 (Nat.le_of_ble_eq_true rfl) rfl ?_
  exact gx_sub [1, 2, 3, 4, 5, 0] rfl (s_X11_goes_3  N _ _ _ _ _ _ _ _ h)
theorem c_X11_goes {Γ : Cn} {τ : Mm} {N : Nat} {l0 : Nat} {l1 : Int32} {l2 : Int32} {l3 : Int32} {l4 : Int32} {σ : Mm} {o : Mm} (h : f_X11_goes N l0 l1 l2 l3 l4 σ = some o) : Ct Γ M_X11_goes yX11_goes 100 τ [.ref (Γ.B + pp l0), .int l1, .int l2, .int l3, .int l4] σ (PV o) := ct_of (by decide) rfl (fun _ => by first | rfl | contradiction) (Nat.le_of_ble_eq_true rfl) (s_X11_goes_0  h)
abbrev M_X11_after : Ms := (cX11_after, RX11, 7, (some .int), false, 0, 0, 5)
def f_X11_after_29 (N : Nat) (σ : Mm) : Option (Int32 × Mm) :=
  some ((-1 : Int32), σ)
def f_X11_after_63 (N : Nat) (t0 : Int32) (σ : Mm) : Option (Int32 × Mm) :=
  some (t0, σ)
def f_X11_after (N : Nat) (l0 : Nat) (l1 : Int32) (l2 : Int32) (l3 : Int32) (l4 : Int32) (l5 : Int32) (σ : Mm) : Option (Int32 × Mm) :=
  (ob 11 σ l0).bind fun _ =>
  (f_X11_canBlow N l0 l1 l2 l3 σ).bind fun q1 =>
  if q1.1 = 0 then (
    f_X11_after_29 N q1.2) else (
    (f_X11_isWay N l4 q1.2).bind fun q3 =>
    if q3.1 = 0 then (
      f_X11_after_29 N q3.2) else (
      (f_X11_in N (Int32.toInt64 l5) (0 : Int64) (1 : Int64) q3.2).bind fun q5 =>
      if q5.1 = 0 then (
        f_X11_after_29 N q5.2) else (
        (ob 11 q5.2 l0).bind fun _ =>
        (f_X11_goes N l0 l1 l2 l3 (-1 : Int32) q5.2).bind fun q7 =>
        (ob 11 q7 l0).bind fun _ =>
        (f_X11_votes N l0 l4 q7).bind fun q8 =>
        if l5 = 0 then (
          f_X11_after_63 N q8.1 q8.2) else (
          (f_X11_off N q8.1 l2 q8.2).bind fun q10 =>
          f_X11_after_63 N q10.1 q10.2))))
theorem mov_X11_after : MOV yX11_after M_X11_after 5 11 100 := ⟨⟨tw_107, tw_1513, ⟨by decide, by decide⟩, by decide +kernel⟩, tw_1511, tw_1512, by decide, ⟨_, rfl, rfl⟩, rfl⟩
set_option maxRecDepth 4000 in
theorem s_X11_after_29 {Γ : Cn} {τ : Mm} {N : Nat} {σ : Mm} {o : Int32 × Mm} (h : f_X11_after_29 N σ = some o) : Gx Γ M_X11_after 100 τ (PI o) 0 0 29 [] [] σ := by
  unfold f_X11_after_29 at h
  refine gx_iconst (v := (-1 : Int32)) dX11_after_29 ic_m1 ?_
  have h := Option.some.inj h
  subst h
  exact gx_iret dX11_after_30 rfl (Nat.le_of_ble_eq_true rfl) (Nat.le_of_ble_eq_true rfl) ⟨rfl, rfl⟩
set_option maxRecDepth 4000 in
theorem s_X11_after_63 {Γ : Cn} {τ : Mm} {N : Nat} {t0 : Int32} {σ : Mm} {o : Int32 × Mm} (h : f_X11_after_63 N t0 σ = some o) : Gx Γ M_X11_after 100 τ (PI o) 0 0 63 [] [.int t0] σ := by
  unfold f_X11_after_63 at h
  have h := Option.some.inj h
  subst h
  exact gx_iret dX11_after_63 rfl (Nat.le_of_ble_eq_true rfl) (Nat.le_of_ble_eq_true rfl) ⟨rfl, rfl⟩
set_option maxRecDepth 4000 in
theorem s_X11_after_0 {Γ : Cn} {τ : Mm} {N : Nat} {l0 : Nat} {l1 : Int32} {l2 : Int32} {l3 : Int32} {l4 : Int32} {l5 : Int32} {σ : Mm} {o : Int32 × Mm} (h : f_X11_after N l0 l1 l2 l3 l4 l5 σ = some o) : Gx Γ M_X11_after 100 τ (PI o) 0 0 0 [(0, .ref (Γ.B + pp l0)), (1, .int l1), (2, .int l2), (3, .int l3), (4, .int l4), (5, .int l5)] [] σ := by
  unfold f_X11_after at h
  refine gx_aload_n 0 dX11_after_0 rfl rfl ?_
  refine gx_iload_n 1 dX11_after_1 rfl rfl ?_
  refine gx_iload_n 2 dX11_after_2 rfl rfl ?_
  refine gx_iload_n 3 dX11_after_3 rfl rfl ?_
  obtain ⟨_, hobq1, h⟩ := bnd h
  obtain ⟨q1, hq1, h⟩ := bnd h
  refine gx_cVI (As := [.int l1, .int l2, .int l3]) (st := []) (o := l0) dX11_after_4 (c_X11_canBlow hq1) mov_X11_canBlow tw_1339 hobq1 rfl ⟨Nat.le_of_ble_eq_true rfl, Nat.le_of_ble_eq_true rfl⟩ (Nat.le_of_ble_eq_true rfl) ?_
  refine gx_if_eq 29 dX11_after_7 (by decide) (fun c1 => ?_) (fun c1 => ?_)
  · rw [if_pos c1] at h
    exact gx_sub [] rfl (s_X11_after_29  h)
  · rw [if_neg c1] at h
    refine gx_iload 4 dX11_after_10 rfl ?_
    obtain ⟨q3, hq3, h⟩ := bnd h
    refine gx_cSI (As := [.int l4]) (st := []) dX11_after_12 (c_X11_isWay hq3) mos_X11_isWay tw_1404 rfl ⟨Nat.le_of_ble_eq_true rfl, Nat.le_of_ble_eq_true rfl⟩ (Nat.le_of_ble_eq_true rfl) ?_
    refine gx_if_eq 29 dX11_after_15 (by decide) (fun c3 => ?_) (fun c3 => ?_)
    · rw [if_pos c3] at h
      exact gx_sub [] rfl (s_X11_after_29  h)
    · rw [if_neg c3] at h
      refine gx_iload 5 dX11_after_18 rfl ?_
      refine gx_i2l dX11_after_20 ?_
      refine gx_lconst (v := (0 : Int64)) dX11_after_21 (by decide) ?_
      refine gx_lconst (v := (1 : Int64)) dX11_after_22 (by decide) ?_
      obtain ⟨q5, hq5, h⟩ := bnd h
      refine gx_cSI (As := [.long (Int32.toInt64 l5), .long (0 : Int64), .long (1 : Int64)]) (st := []) dX11_after_23 (c_X11_in hq5) mos_X11_in tw_1206 rfl ⟨Nat.le_of_ble_eq_true rfl, Nat.le_of_ble_eq_true rfl⟩ (Nat.le_of_ble_eq_true rfl) ?_
      refine gx_if_ne 31 dX11_after_26 (by decide) (fun c5 => ?_) (fun c5 => ?_)
      · rw [if_neg c5] at h
        refine gx_aload_n 0 dX11_after_31 rfl rfl ?_
        refine gx_iload_n 1 dX11_after_32 rfl rfl ?_
        refine gx_iload_n 2 dX11_after_33 rfl rfl ?_
        refine gx_iload_n 3 dX11_after_34 rfl rfl ?_
        refine gx_iconst (v := (-1 : Int32)) dX11_after_35 ic_m1 ?_
        obtain ⟨_, hobq7, h⟩ := bnd h
        obtain ⟨q7, hq7, h⟩ := bnd h
        refine gx_cVV (As := [.int l1, .int l2, .int l3, .int (-1 : Int32)]) (st := []) (o := l0) dX11_after_36 (c_X11_goes hq7) mov_X11_goes tw_1514 hobq7 rfl ⟨Nat.le_of_ble_eq_true rfl, Nat.le_of_ble_eq_true rfl⟩ (Nat.le_of_ble_eq_true rfl) ?_
        refine gx_aload_n 0 dX11_after_39 rfl rfl ?_
        refine gx_iload 4 dX11_after_40 rfl ?_
        obtain ⟨_, hobq8, h⟩ := bnd h
        obtain ⟨q8, hq8, h⟩ := bnd h
        refine gx_cVI (As := [.int l4]) (st := []) (o := l0) dX11_after_42 (c_X11_votes hq8) mov_X11_votes tw_1411 hobq8 rfl ⟨Nat.le_of_ble_eq_true rfl, Nat.le_of_ble_eq_true rfl⟩ (Nat.le_of_ble_eq_true rfl) ?_
        refine gx_istore (lv' := [(6, .int q8.1), (0, .ref (Γ.B + pp l0)), (1, .int l1), (2, .int l2), (3, .int l3), (4, .int l4), (5, .int l5)]) dX11_after_45 (Nat.le_of_ble_eq_true rfl) rfl ?_
        refine gx_iload 6 dX11_after_47 rfl ?_
        refine gx_if_ne 57 dX11_after_49 (by decide) (fun c8 => ?_) (fun c8 => ?_)
        · rw [if_neg c8] at h
          refine gx_iload 0 dX11_after_57 rfl ?_
          refine gx_iload_n 3 dX11_after_59 rfl rfl ?_
          obtain ⟨q10, hq10, h⟩ := bnd h
          refine gx_cSI (As := [.int q8.1, .int l2]) (st := []) dX11_after_60 (c_X11_off hq10) mos_X11_off tw_1352 rfl ⟨Nat.le_of_ble_eq_true rfl, Nat.le_of_ble_eq_true rfl⟩ (Nat.le_of_ble_eq_true rfl) ?_
          exact gx_sub [] rfl (s_X11_after_63  h)
        · rw [if_pos c8] at h
          refine gx_iload 0 dX11_after_52 rfl ?_
          refine gx_goto 63 dX11_after_54 (by decide) ?_
          exact gx_sub [] rfl (s_X11_after_63  h)
      · rw [if_pos c5] at h
        exact gx_sub [] rfl (s_X11_after_29  h)
theorem c_X11_after {Γ : Cn} {τ : Mm} {N : Nat} {l0 : Nat} {l1 : Int32} {l2 : Int32} {l3 : Int32} {l4 : Int32} {l5 : Int32} {σ : Mm} {o : Int32 × Mm} (h : f_X11_after N l0 l1 l2 l3 l4 l5 σ = some o) : Ct Γ M_X11_after yX11_after 100 τ [.ref (Γ.B + pp l0), .int l1, .int l2, .int l3, .int l4, .int l5] σ (PI o) := ct_of (by decide) rfl (fun _ => by first | rfl | contradiction) (Nat.le_of_ble_eq_true rfl) (s_X11_after_0  h)
