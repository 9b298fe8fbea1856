abbrev M_X4_listFree : Ms := (cX4_listFree, RX4, 4, none, false, 0, 0, 2)
def f_X4_listFree_49 (N : Nat) (r_7 : Nat → Nat → Int32 → Int32 → Mm → Option Mm) (l0 : Nat) (l1 : Nat) (l2 : Int32) (l3 : Int32) (σ : Mm) : Option Mm :=
  r_7 l0 l1 l2 (l3 + (1 : Int32)) σ
def f_X4_listFree_55 (N : Nat) (σ : Mm) : Option Mm :=
  some σ
def f_X4_listFree_7 (N : Nat) : Nat → Nat → Nat → Int32 → Int32 → Mm → Option Mm
  | 0, _, _, _, _, _ => none
  | n + 1, l0, l1, l2, l3, σ =>
      (gI 7 0 σ l1).bind fun x1 =>
      if x1 ≤ l3 then (
        f_X4_listFree_55 N σ) else (
        if (12 : Int32) ≤ l3 then (
          f_X4_listFree_55 N σ) else (
          if ((l2 >>> (l3 &&& 31)) &&& (1 : Int32)) = 0 then (
            f_X4_listFree_49 N (f_X4_listFree_7 N n) l0 l1 l2 l3 σ) else (
            (gN 4 1 σ l0).bind fun a5 =>
            (aI 13 σ a5 l3).bind fun x6 =>
            (gN 4 2 σ l0).bind fun a7 =>
            (aI 13 σ a7 l3).bind fun x8 =>
            if x6 = x8 then (
              f_X4_listFree_49 N (f_X4_listFree_7 N n) l0 l1 l2 l3 σ) else (
              (ob 4 σ l0).bind fun _ =>
              (f_X4_addFree N l0 l3 σ).bind fun q10 =>
              f_X4_listFree_49 N (f_X4_listFree_7 N n) l0 l1 l2 l3 q10))))
def f_X4_listFree (N : Nat) (l0 : Nat) (l1 : Nat) (l2 : Int32) (σ : Mm) : Option Mm :=
  (pI 4 5 σ l0 (0 : Int32)).bind fun s1 =>
  f_X4_listFree_7 N N l0 l1 l2 (0 : Int32) s1
theorem mov_X4_listFree : MOV yX4_listFree M_X4_listFree 2 4 0 := ⟨⟨tw_105, tw_875, ⟨by decide, by decide⟩, by decide +kernel⟩, tw_874, tw_28, by decide, ⟨_, rfl, rfl⟩, rfl⟩
set_option maxRecDepth 4000 in
theorem s_X4_listFree_49 {Γ : Cn} {τ : Mm} {N : Nat} {r_7 : Nat → Nat → Int32 → Int32 → Mm → Option Mm} (hr_7 : ∀ (l0 : Nat) (l1 : Nat) (l2 : Int32) (l3 : Int32) (σ : Mm) (o : Mm), r_7 l0 l1 l2 l3 σ = some o → Gx Γ M_X4_listFree 0 τ (PV o) 0 0 7 [(0, .ref (Γ.B + pp l0)), (1, .ref (Γ.B + pp l1)), (2, .int l2), (3, .int l3)] [] σ) {l0 : Nat} {l1 : Nat} {l2 : Int32} {l3 : Int32} {σ : Mm} {o : Mm} (h : f_X4_listFree_49 N r_7 l0 l1 l2 l3 σ = some o) : Gx Γ M_X4_listFree 0 τ (PV o) 0 0 49 [(0, .ref (Γ.B + pp l0)), (1, .ref (Γ.B + pp l1)), (2, .int l2), (3, .int l3)] [] σ := by
  unfold f_X4_listFree_49 at h
  refine gx_iinc (v := (l3 + (1 : Int32))) (lv' := [(3, .int (l3 + (1 : Int32))), (0, .ref (Γ.B + pp l0)), (1, .ref (Γ.B + pp l1)), (2, .int l2)]) 3 dX4_listFree_49 rfl (by rw [ic_1]) (Nat.le_of_ble_eq_true rfl) rfl ?_
  refine gx_goto 7 dX4_listFree_52 (by decide) ?_
  exact gx_sub [1, 2, 3, 0] rfl (hr_7 _ _ _ _ _ _ h)
set_option maxRecDepth 4000 in
theorem s_X4_listFree_55 {Γ : Cn} {τ : Mm} {N : Nat} {σ : Mm} {o : Mm} (h : f_X4_listFree_55 N σ = some o) : Gx Γ M_X4_listFree 0 τ (PV o) 0 0 55 [] [] σ := by
  unfold f_X4_listFree_55 at h
  have h := Option.some.inj h
  subst h
  exact gx_vret dX4_listFree_55 rfl (Nat.le_of_ble_eq_true rfl) (Nat.le_of_ble_eq_true rfl) ⟨rfl, rfl⟩
set_option maxRecDepth 4000 in
theorem s_X4_listFree_7 {Γ : Cn} {τ : Mm} {N : Nat} : ∀ (n : Nat) (l0 : Nat) (l1 : Nat) (l2 : Int32) (l3 : Int32) (σ : Mm) (o : Mm), f_X4_listFree_7 N n l0 l1 l2 l3 σ = some o → Gx Γ M_X4_listFree 0 τ (PV o) 0 0 7 [(0, .ref (Γ.B + pp l0)), (1, .ref (Γ.B + pp l1)), (2, .int l2), (3, .int l3)] [] σ := by
  intro n
  induction n with
  | zero =>
    intro l0 l1 l2 l3 σ o h
    exact absurd h (by rw [f_X4_listFree_7]; exact fun q => nomatch q)
  | succ n ih =>
    intro l0 l1 l2 l3 σ o h
    rw [f_X4_listFree_7] at h
    refine gx_iload_n 3 dX4_listFree_7 rfl rfl ?_
    refine gx_aload_n 1 dX4_listFree_8 rfl rfl ?_
    obtain ⟨x1, hx1, h⟩ := bnd h
    refine gx_getI dX4_listFree_9 hx1 fl_X4_53 rfl ?_
    refine gx_icmp_ge 55 dX4_listFree_12 (by decide) (fun c1 => ?_) (fun c1 => ?_)
    · rw [if_pos c1] at h
      exact gx_sub [] rfl (s_X4_listFree_55  h)
    · rw [if_neg c1] at h
      refine gx_iload_n 3 dX4_listFree_15 rfl rfl ?_
      refine gx_bipush (v := (12 : Int32)) dX4_listFree_16 ib_12 ?_
      refine gx_icmp_ge 55 dX4_listFree_18 (by decide) (fun c2 => ?_) (fun c2 => ?_)
      · rw [if_pos c2] at h
        exact gx_sub [] rfl (s_X4_listFree_55  h)
      · rw [if_neg c2] at h
        refine gx_iload_n 2 dX4_listFree_21 rfl rfl ?_
        refine gx_iload_n 3 dX4_listFree_22 rfl rfl ?_
        refine gx_ishr dX4_listFree_23 ?_
        refine gx_iconst (v := (1 : Int32)) dX4_listFree_24 ic_1 ?_
        refine gx_iand dX4_listFree_25 ?_
        refine gx_if_eq 49 dX4_listFree_26 (by decide) (fun c3 => ?_) (fun c3 => ?_)
        · rw [if_pos c3] at h
          exact s_X4_listFree_49 ih h
        · rw [if_neg c3] at h
          refine gx_aload_n 0 dX4_listFree_29 rfl rfl ?_
          obtain ⟨a5, ha5, h⟩ := bnd h
          refine gx_getN dX4_listFree_30 ha5 fl_X4_9 rfl ?_
          refine gx_iload_n 3 dX4_listFree_33 rfl rfl ?_
          obtain ⟨x6, hx6, h⟩ := bnd h
          refine gx_iald (kd := 13) dX4_listFree_34 hx6 rfl rfl ?_
          refine gx_aload_n 0 dX4_listFree_35 rfl rfl ?_
          obtain ⟨a7, ha7, h⟩ := bnd h
          refine gx_getN dX4_listFree_36 ha7 fl_X4_15 rfl ?_
          refine gx_iload_n 3 dX4_listFree_39 rfl rfl ?_
          obtain ⟨x8, hx8, h⟩ := bnd h
          refine gx_iald (kd := 13) dX4_listFree_40 hx8 rfl rfl ?_
          refine gx_icmp_eq 49 dX4_listFree_41 (by decide) (fun c8 => ?_) (fun c8 => ?_)
          · rw [if_pos c8] at h
            exact s_X4_listFree_49 ih h
          · rw [if_neg c8] at h
            refine gx_aload_n 0 dX4_listFree_44 rfl rfl ?_
            refine gx_iload_n 3 dX4_listFree_45 rfl rfl ?_
            obtain ⟨_, hobq10, h⟩ := bnd h
            obtain ⟨q10, hq10, h⟩ := bnd h
            refine gx_cVV (As := [.int l3]) (st := []) (o := l0) dX4_listFree_46 (c_X4_addFree hq10) mov_X4_addFree tw_876 hobq10 rfl ⟨Nat.le_of_ble_eq_true rfl, Nat.le_of_ble_eq_true rfl⟩ (Nat.le_of_ble_eq_true rfl) ?_
            exact s_X4_listFree_49 ih h
set_option maxRecDepth 4000 in
theorem s_X4_listFree_0 {Γ : Cn} {τ : Mm} {N : Nat} {l0 : Nat} {l1 : Nat} {l2 : Int32} {σ : Mm} {o : Mm} (h : f_X4_listFree N l0 l1 l2 σ = some o) : Gx Γ M_X4_listFree 0 τ (PV o) 0 0 0 [(0, .ref (Γ.B + pp l0)), (1, .ref (Γ.B + pp l1)), (2, .int l2)] [] σ := by
  unfold f_X4_listFree at h
  refine gx_aload_n 0 dX4_listFree_0 rfl rfl ?_
  refine gx_iconst (v := (0 : Int32)) dX4_listFree_1 ic_0 ?_
  obtain ⟨s1, hs1, h⟩ := bnd h
  refine gx_putI dX4_listFree_2 hs1 fl_X4_24 fp_X4_4_5 rfl ?_
  refine gx_iconst (v := (0 : Int32)) dX4_listFree_5 ic_0 ?_
  refine gx_istore_n (lv' := [(3, .int (0 : Int32)), (0, .ref (Γ.B + pp l0)), (1, .ref (Γ.B + pp l1)), (2, .int l2)]) dX4_listFree_6 rfl (Nat.le_of_ble_eq_true rfl) rfl ?_
  exact gx_sub [1, 2, 3, 0] rfl (s_X4_listFree_7  N _ _ _ _ _ _ h)
theorem c_X4_listFree {Γ : Cn} {τ : Mm} {N : Nat} {l0 : Nat} {l1 : Nat} {l2 : Int32} {σ : Mm} {o : Mm} (h : f_X4_listFree N l0 l1 l2 σ = some o) : Ct Γ M_X4_listFree yX4_listFree 0 τ [.ref (Γ.B + pp l0), .ref (Γ.B + pp l1), .int l2] σ (PV o) := ct_of (by decide) rfl (fun _ => by first | rfl | contradiction) (Nat.le_of_ble_eq_true rfl) (s_X4_listFree_0  h)
abbrev M_X4_flip : Ms := (cX4_flip, RX4, 7, (some .int), false, 0, 0, 2)
def f_X4_flip_134 (N : Nat) (r_19 : Nat → Int32 → Int32 → Int32 → Int32 → Mm → Option (Int32 × Mm)) (l0 : Nat) (l1 : Int32) (l2 : Int32) (l3 : Int32) (l4 : Int32) (σ : Mm) : Option (Int32 × Mm) :=
  r_19 l0 l1 l2 l3 (l4 + (1 : Int32)) σ
def f_X4_flip_132 (N : Nat) (r_19 : Nat → Int32 → Int32 → Int32 → Int32 → Mm → Option (Int32 × Mm)) (l0 : Nat) (l1 : Int32) (l2 : Int32) (l4 : Int32) (t0 : Int32) (t1 : Int32) (σ : Mm) : Option (Int32 × Mm) :=
  f_X4_flip_134 N r_19 l0 l1 l2 (t0 + t1) l4 σ
def f_X4_flip_105 (N : Nat) (r_19 : Nat → Int32 → Int32 → Int32 → Int32 → Mm → Option (Int32 × Mm)) (l0 : Nat) (l1 : Int32) (l2 : Int32) (l3 : Int32) (l4 : Int32) (l5 : Int32) (l6 : Int32) (t0 : Nat) (t1 : Int32) (t2 : Int32) (σ : Mm) : Option (Int32 × Mm) :=
  (ob 1 σ t0).bind fun _ =>
  (f_X1_put N t0 t1 t2 σ).bind fun q1 =>
  if l6 = 0 then (
    (gN 4 3 q1 l0).bind fun a3 =>
    (aI 13 q1 a3 l5).bind fun x4 =>
    f_X4_flip_132 N r_19 l0 l1 l2 l4 l3 (-x4) q1) else (
    (gN 4 3 q1 l0).bind fun a5 =>
    (aI 13 q1 a5 l5).bind fun x6 =>
    f_X4_flip_132 N r_19 l0 l1 l2 l4 l3 x6 q1)
def f_X4_flip_65 (N : Nat) (r_19 : Nat → Int32 → Int32 → Int32 → Int32 → Mm → Option (Int32 × Mm)) (l0 : Nat) (l1 : Int32) (l2 : Int32) (l3 : Int32) (l4 : Int32) (l5 : Int32) (t0 : Int32) (σ : Mm) : Option (Int32 × Mm) :=
  (f_X10_isBelow N l5 (12 : Int32) σ).bind fun q1 =>
  if q1.1 = 0 then (
    f_X4_flip_134 N r_19 l0 l1 l2 l3 l4 q1.2) else (
    (gN 4 0 q1.2 l0).bind fun a3 =>
    if t0 = 0 then (
      (gN 4 1 q1.2 l0).bind fun a5 =>
      (aI 13 q1.2 a5 l5).bind fun x6 =>
      f_X4_flip_105 N r_19 l0 l1 l2 l3 l4 l5 t0 a3 l5 x6 q1.2) else (
      (gN 4 2 q1.2 l0).bind fun a7 =>
      (aI 13 q1.2 a7 l5).bind fun x8 =>
      f_X4_flip_105 N r_19 l0 l1 l2 l3 l4 l5 t0 a3 l5 x8 q1.2))
def f_X4_flip_140 (N : Nat) (l3 : Int32) (σ : Mm) : Option (Int32 × Mm) :=
  some (l3, σ)
def f_X4_flip_19 (N : Nat) : Nat → Nat → Int32 → Int32 → Int32 → Int32 → Mm → Option (Int32 × Mm)
  | 0, _, _, _, _, _, _ => none
  | n + 1, l0, l1, l2, l3, l4, σ =>
      (gI 4 5 σ l0).bind fun x1 =>
      if x1 ≤ l4 then (
        f_X4_flip_140 N l3 σ) else (
        if (12 : Int32) ≤ l4 then (
          f_X4_flip_140 N l3 σ) else (
          if (l2 >>> (l4 &&& 31)) = 0 then (
            f_X4_flip_140 N l3 σ) else (
            (gN 4 4 σ l0).bind fun a5 =>
            (aI 13 σ a5 l4).bind fun x6 =>
            if ((l1 >>> (l4 &&& 31)) &&& (1 : Int32)) = 0 then (
              f_X4_flip_65 N (f_X4_flip_19 N n) l0 l1 l2 l3 l4 x6 (0 : Int32) σ) else (
              f_X4_flip_65 N (f_X4_flip_19 N n) l0 l1 l2 l3 l4 x6 (1 : Int32) σ))))
def f_X4_flip_13 (N : Nat) (l0 : Nat) (l1 : Int32) (t0 : Int32) (σ : Mm) : Option (Int32 × Mm) :=
  f_X4_flip_19 N N l0 l1 t0 (0 : Int32) (0 : Int32) σ
def f_X4_flip (N : Nat) (l0 : Nat) (l1 : Int32) (σ : Mm) : Option (Int32 × Mm) :=
  if l1 = 0 then (
    f_X4_flip_13 N l0 l1 (0 : Int32) σ) else (
    f_X4_flip_13 N l0 l1 (l1 ^^^ (l1 - (1 : Int32))) σ)
theorem mov_X4_flip : MOV yX4_flip M_X4_flip 1 4 0 := ⟨⟨tw_105, tw_885, ⟨by decide, by decide⟩, by decide +kernel⟩, tw_884, tw_30, by decide, ⟨_, rfl, rfl⟩, rfl⟩
set_option maxRecDepth 4000 in
theorem s_X4_flip_134 {Γ : Cn} {τ : Mm} {N : Nat} {r_19 : Nat → Int32 → Int32 → Int32 → Int32 → Mm → Option (Int32 × Mm)} (hr_19 : ∀ (l0 : Nat) (l1 : Int32) (l2 : Int32) (l3 : Int32) (l4 : Int32) (σ : Mm) (o : Int32 × Mm), r_19 l0 l1 l2 l3 l4 σ = some o → Gx Γ M_X4_flip 0 τ (PI o) 0 0 19 [(0, .ref (Γ.B + pp l0)), (1, .int l1), (2, .int l2), (3, .int l3), (4, .int l4)] [] σ) {l0 : Nat} {l1 : Int32} {l2 : Int32} {l3 : Int32} {l4 : Int32} {σ : Mm} {o : Int32 × Mm} (h : f_X4_flip_134 N r_19 l0 l1 l2 l3 l4 σ = some o) : Gx Γ M_X4_flip 0 τ (PI o) 0 0 134 [(0, .ref (Γ.B + pp l0)), (1, .int l1), (2, .int l2), (3, .int l3), (4, .int l4)] [] σ := by
  unfold f_X4_flip_134 at h
  refine gx_iinc (v := (l4 + (1 : Int32))) (lv' := [(4, .int (l4 + (1 : Int32))), (0, .ref (Γ.B + pp l0)), (1, .int l1), (2, .int l2), (3, .int l3)]) 4 dX4_flip_134 rfl (by rw [ic_1]) (Nat.le_of_ble_eq_true rfl) rfl ?_
  refine gx_goto 19 dX4_flip_137 (by decide) ?_
  exact gx_sub [1, 2, 3, 4, 0] rfl (hr_19 _ _ _ _ _ _ _ h)
set_option maxRecDepth 4000 in
theorem s_X4_flip_132 {Γ : Cn} {τ : Mm} {N : Nat} {r_19 : Nat → Int32 → Int32 → Int32 → Int32 → Mm → Option (Int32 × Mm)} (hr_19 : ∀ (l0 : Nat) (l1 : Int32) (l2 : Int32) (l3 : Int32) (l4 : Int32) (σ : Mm) (o : Int32 × Mm), r_19 l0 l1 l2 l3 l4 σ = some o → Gx Γ M_X4_flip 0 τ (PI o) 0 0 19 [(0, .ref (Γ.B + pp l0)), (1, .int l1), (2, .int l2), (3, .int l3), (4, .int l4)] [] σ) {l0 : Nat} {l1 : Int32} {l2 : Int32} {l4 : Int32} {t0 : Int32} {t1 : Int32} {σ : Mm} {o : Int32 × Mm} (h : f_X4_flip_132 N r_19 l0 l1 l2 l4 t0 t1 σ = some o) : Gx Γ M_X4_flip 0 τ (PI o) 0 0 132 [(0, .ref (Γ.B + pp l0)), (1, .int l1), (2, .int l2), (4, .int l4)] [.int t1, .int t0] σ := by
  unfold f_X4_flip_132 at h
  refine gx_iadd dX4_flip_132 ?_
  refine gx_istore_n (lv' := [(3, .int (t0 + t1)), (0, .ref (Γ.B + pp l0)), (1, .int l1), (2, .int l2), (4, .int l4)]) dX4_flip_133 rfl (Nat.le_of_ble_eq_true rfl) rfl ?_
  exact gx_sub [1, 2, 3, 0, 4] rfl (s_X4_flip_134 hr_19 h)
set_option maxRecDepth 4000 in
theorem s_X4_flip_105 {Γ : Cn} {τ : Mm} {N : Nat} {r_19 : Nat → Int32 → Int32 → Int32 → Int32 → Mm → Option (Int32 × Mm)} (hr_19 : ∀ (l0 : Nat) (l1 : Int32) (l2 : Int32) (l3 : Int32) (l4 : Int32) (σ : Mm) (o : Int32 × Mm), r_19 l0 l1 l2 l3 l4 σ = some o → Gx Γ M_X4_flip 0 τ (PI o) 0 0 19 [(0, .ref (Γ.B + pp l0)), (1, .int l1), (2, .int l2), (3, .int l3), (4, .int l4)] [] σ) {l0 : Nat} {l1 : Int32} {l2 : Int32} {l3 : Int32} {l4 : Int32} {l5 : Int32} {l6 : Int32} {t0 : Nat} {t1 : Int32} {t2 : Int32} {σ : Mm} {o : Int32 × Mm} (h : f_X4_flip_105 N r_19 l0 l1 l2 l3 l4 l5 l6 t0 t1 t2 σ = some o) : Gx Γ M_X4_flip 0 τ (PI o) 0 0 105 [(0, .ref (Γ.B + pp l0)), (1, .int l1), (2, .int l2), (3, .int l3), (4, .int l4), (5, .int l5), (6, .int l6)] [.int t2, .int t1, .ref (Γ.B + pp t0)] σ := by
  unfold f_X4_flip_105 at h
  obtain ⟨_, hobq1, h⟩ := bnd h
  obtain ⟨q1, hq1, h⟩ := bnd h
  refine gx_cVV (As := [.int t1, .int t2]) (st := []) (o := t0) dX4_flip_105 (c_X1_put hq1) mov_X1_put tw_886 hobq1 rfl ⟨Nat.le_of_ble_eq_true rfl, Nat.le_of_ble_eq_true rfl⟩ (Nat.le_of_ble_eq_true rfl) ?_
  refine gx_iload_n 3 dX4_flip_108 rfl rfl ?_
  refine gx_iload 6 dX4_flip_109 rfl ?_
  refine gx_if_eq 124 dX4_flip_111 (by decide) (fun c1 => ?_) (fun c1 => ?_)
  · rw [if_pos c1] at h
    refine gx_aload_n 0 dX4_flip_124 rfl rfl ?_
    obtain ⟨a3, ha3, h⟩ := bnd h
    refine gx_getN dX4_flip_125 ha3 fl_X4_18 rfl ?_
    refine gx_iload 5 dX4_flip_128 rfl ?_
    obtain ⟨x4, hx4, h⟩ := bnd h
    refine gx_iald (kd := 13) dX4_flip_130 hx4 rfl rfl ?_
    refine gx_ineg dX4_flip_131 ?_
    exact gx_sub [0, 1, 2, 4] rfl (s_X4_flip_132 hr_19 h)
  · rw [if_neg c1] at h
    refine gx_aload_n 0 dX4_flip_114 rfl rfl ?_
    obtain ⟨a5, ha5, h⟩ := bnd h
    refine gx_getN dX4_flip_115 ha5 fl_X4_18 rfl ?_
    refine gx_iload 5 dX4_flip_118 rfl ?_
    obtain ⟨x6, hx6, h⟩ := bnd h
    refine gx_iald (kd := 13) dX4_flip_120 hx6 rfl rfl ?_
    refine gx_goto 132 dX4_flip_121 (by decide) ?_
    exact gx_sub [0, 1, 2, 4] rfl (s_X4_flip_132 hr_19 h)
set_option maxRecDepth 4000 in
theorem s_X4_flip_65 {Γ : Cn} {τ : Mm} {N : Nat} {r_19 : Nat → Int32 → Int32 → Int32 → Int32 → Mm → Option (Int32 × Mm)} (hr_19 : ∀ (l0 : Nat) (l1 : Int32) (l2 : Int32) (l3 : Int32) (l4 : Int32) (σ : Mm) (o : Int32 × Mm), r_19 l0 l1 l2 l3 l4 σ = some o → Gx Γ M_X4_flip 0 τ (PI o) 0 0 19 [(0, .ref (Γ.B + pp l0)), (1, .int l1), (2, .int l2), (3, .int l3), (4, .int l4)] [] σ) {l0 : Nat} {l1 : Int32} {l2 : Int32} {l3 : Int32} {l4 : Int32} {l5 : Int32} {t0 : Int32} {σ : Mm} {o : Int32 × Mm} (h : f_X4_flip_65 N r_19 l0 l1 l2 l3 l4 l5 t0 σ = some o) : Gx Γ M_X4_flip 0 τ (PI o) 0 0 65 [(0, .ref (Γ.B + pp l0)), (1, .int l1), (2, .int l2), (3, .int l3), (4, .int l4), (5, .int l5)] [.int t0] σ := by
  unfold f_X4_flip_65 at h
  refine gx_istore (lv' := [(6, .int t0), (0, .ref (Γ.B + pp l0)), (1, .int l1), (2, .int l2), (3, .int l3), (4, .int l4), (5, .int l5)]) dX4_flip_65 (Nat.le_of_ble_eq_true rfl) rfl ?_
  refine gx_iload 6 dX4_flip_67 rfl ?_
  refine gx_bipush (v := (12 : Int32)) dX4_flip_69 ib_12 ?_
  obtain ⟨q1, hq1, h⟩ := bnd h
  refine gx_cSNI (As := [.int l5, .int (12 : Int32)]) (st := []) dX4_flip_71 (c_X10_isBelow hq1) mos_X10_isBelow (by decide) rfl ⟨Nat.le_of_ble_eq_true rfl, Nat.le_of_ble_eq_true rfl⟩ (Nat.le_of_ble_eq_true rfl) ?_
  refine gx_if_eq 134 dX4_flip_74 (by decide) (fun c1 => ?_) (fun c1 => ?_)
  · rw [if_pos c1] at h
    exact gx_sub [1, 2, 3, 4, 5] rfl (s_X4_flip_134 hr_19 h)
  · rw [if_neg c1] at h
    refine gx_aload_n 1 dX4_flip_77 rfl rfl ?_
    obtain ⟨a3, ha3, h⟩ := bnd h
    refine gx_getN dX4_flip_78 ha3 fl_X4_38 rfl ?_
    refine gx_iload 6 dX4_flip_81 rfl ?_
    refine gx_iload 0 dX4_flip_83 rfl ?_
    refine gx_if_eq 98 dX4_flip_85 (by decide) (fun c3 => ?_) (fun c3 => ?_)
    · rw [if_pos c3] at h
      refine gx_aload_n 1 dX4_flip_98 rfl rfl ?_
      obtain ⟨a5, ha5, h⟩ := bnd h
      refine gx_getN dX4_flip_99 ha5 fl_X4_9 rfl ?_
      refine gx_iload 6 dX4_flip_102 rfl ?_
      obtain ⟨x6, hx6, h⟩ := bnd h
      refine gx_iald (kd := 13) dX4_flip_104 hx6 rfl rfl ?_
      exact gx_sub [1, 2, 3, 4, 5, 6, 0] rfl (s_X4_flip_105 hr_19 h)
    · rw [if_neg c3] at h
      refine gx_aload_n 1 dX4_flip_88 rfl rfl ?_
      obtain ⟨a7, ha7, h⟩ := bnd h
      refine gx_getN dX4_flip_89 ha7 fl_X4_15 rfl ?_
      refine gx_iload 6 dX4_flip_92 rfl ?_
      obtain ⟨x8, hx8, h⟩ := bnd h
      refine gx_iald (kd := 13) dX4_flip_94 hx8 rfl rfl ?_
      refine gx_goto 105 dX4_flip_95 (by decide) ?_
      exact gx_sub [1, 2, 3, 4, 5, 6, 0] rfl (s_X4_flip_105 hr_19 h)
set_option maxRecDepth 4000 in
theorem s_X4_flip_140 {Γ : Cn} {τ : Mm} {N : Nat} {l3 : Int32} {σ : Mm} {o : Int32 × Mm} (h : f_X4_flip_140 N l3 σ = some o) : Gx Γ M_X4_flip 0 τ (PI o) 0 0 140 [(3, .int l3)] [] σ := by
  unfold f_X4_flip_140 at h
  refine gx_iload_n 0 dX4_flip_140 rfl rfl ?_
  have h := Option.some.inj h
  subst h
  exact gx_iret dX4_flip_141 rfl (Nat.le_of_ble_eq_true rfl) (Nat.le_of_ble_eq_true rfl) ⟨rfl, rfl⟩
set_option maxRecDepth 4000 in
theorem s_X4_flip_19 {Γ : Cn} {τ : Mm} {N : Nat} : ∀ (n : Nat) (l0 : Nat) (l1 : Int32) (l2 : Int32) (l3 : Int32) (l4 : Int32) (σ : Mm) (o : Int32 × Mm), f_X4_flip_19 N n l0 l1 l2 l3 l4 σ = some o → Gx Γ M_X4_flip 0 τ (PI o) 0 0 19 [(0, .ref (Γ.B + pp l0)), (1, .int l1), (2, .int l2), (3, .int l3), (4, .int l4)] [] σ := by
  intro n
  induction n with
  | zero =>
    intro l0 l1 l2 l3 l4 σ o h
    exact absurd h (by rw [f_X4_flip_19]; exact fun q => nomatch q)
  | succ n ih =>
    intro l0 l1 l2 l3 l4 σ o h
    rw [f_X4_flip_19] at h
    refine gx_iload 4 dX4_flip_19 rfl ?_
    refine gx_aload_n 0 dX4_flip_21 rfl rfl ?_
    obtain ⟨x1, hx1, h⟩ := bnd h
    refine gx_getI dX4_flip_22 hx1 fl_X4_24 rfl ?_
    refine gx_icmp_ge 140 dX4_flip_25 (by decide) (fun c1 => ?_) (fun c1 => ?_)
    · rw [if_pos c1] at h
      exact gx_sub [3] rfl (s_X4_flip_140  h)
    · rw [if_neg c1] at h
      refine gx_iload 4 dX4_flip_28 rfl ?_
      refine gx_bipush (v := (12 : Int32)) dX4_flip_30 ib_12 ?_
      refine gx_icmp_ge 140 dX4_flip_32 (by decide) (fun c2 => ?_) (fun c2 => ?_)
      · rw [if_pos c2] at h
        exact gx_sub [3] rfl (s_X4_flip_140  h)
      · rw [if_neg c2] at h
        refine gx_iload_n 2 dX4_flip_35 rfl rfl ?_
        refine gx_iload 4 dX4_flip_36 rfl ?_
        refine gx_ishr dX4_flip_38 ?_
        refine gx_if_eq 140 dX4_flip_39 (by decide) (fun c3 => ?_) (fun c3 => ?_)
        · rw [if_pos c3] at h
          exact gx_sub [3] rfl (s_X4_flip_140  h)
        · rw [if_neg c3] at h
          refine gx_aload_n 0 dX4_flip_42 rfl rfl ?_
          obtain ⟨a5, ha5, h⟩ := bnd h
          refine gx_getN dX4_flip_43 ha5 fl_X4_21 rfl ?_
          refine gx_iload 4 dX4_flip_46 rfl ?_
          obtain ⟨x6, hx6, h⟩ := bnd h
          refine gx_iald (kd := 13) dX4_flip_48 hx6 rfl rfl ?_
          refine gx_istore (lv' := [(5, .int x6), (0, .ref (Γ.B + pp l0)), (1, .int l1), (2, .int l2), (3, .int l3), (4, .int l4)]) dX4_flip_49 (Nat.le_of_ble_eq_true rfl) rfl ?_
          refine gx_iload_n 2 dX4_flip_51 rfl rfl ?_
          refine gx_iload 5 dX4_flip_52 rfl ?_
          refine gx_ishr dX4_flip_54 ?_
          refine gx_iconst (v := (1 : Int32)) dX4_flip_55 ic_1 ?_
          refine gx_iand dX4_flip_56 ?_
          refine gx_if_eq 64 dX4_flip_57 (by decide) (fun c6 => ?_) (fun c6 => ?_)
          · rw [if_pos c6] at h
            refine gx_iconst (v := (0 : Int32)) dX4_flip_64 ic_0 ?_
            exact gx_sub [1, 2, 3, 4, 5, 0] rfl (s_X4_flip_65 ih h)
          · rw [if_neg c6] at h
            refine gx_iconst (v := (1 : Int32)) dX4_flip_60 ic_1 ?_
            refine gx_goto 65 dX4_flip_61 (by decide) ?_
            exact gx_sub [1, 2, 3, 4, 5, 0] rfl (s_X4_flip_65 ih h)
set_option maxRecDepth 4000 in
theorem s_X4_flip_13 {Γ : Cn} {τ : Mm} {N : Nat} {l0 : Nat} {l1 : Int32} {t0 : Int32} {σ : Mm} {o : Int32 × Mm} (h : f_X4_flip_13 N l0 l1 t0 σ = some o) : Gx Γ M_X4_flip 0 τ (PI o) 0 0 13 [(0, .ref (Γ.B + pp l0)), (1, .int l1)] [.int t0] σ := by
  unfold f_X4_flip_13 at h
  refine gx_istore_n (lv' := [(2, .int t0), (0, .ref (Γ.B + pp l0)), (1, .int l1)]) dX4_flip_13 rfl (Nat.le_of_ble_eq_true rfl) rfl ?_
  refine gx_iconst (v := (0 : Int32)) dX4_flip_14 ic_0 ?_
  refine gx_istore_n (lv' := [(3, .int (0 : Int32)), (2, .int t0), (0, .ref (Γ.B + pp l0)), (1, .int l1)]) dX4_flip_15 rfl (Nat.le_of_ble_eq_true rfl) rfl ?_
  refine gx_iconst (v := (0 : Int32)) dX4_flip_16 ic_0 ?_
  refine gx_istore (lv' := [(4, .int (0 : Int32)), (3, .int (0 : Int32)), (2, .int t0), (0, .ref (Γ.B + pp l0)), (1, .int l1)]) dX4_flip_17 (Nat.le_of_ble_eq_true rfl) rfl ?_
  exact gx_sub [3, 4, 2, 1, 0] rfl (s_X4_flip_19  N _ _ _ _ _ _ _ h)
set_option maxRecDepth 4000 in
theorem s_X4_flip_0 {Γ : Cn} {τ : Mm} {N : Nat} {l0 : Nat} {l1 : Int32} {σ : Mm} {o : Int32 × Mm} (h : f_X4_flip N l0 l1 σ = some o) : Gx Γ M_X4_flip 0 τ (PI o) 0 0 0 [(0, .ref (Γ.B + pp l0)), (1, .int l1)] [] σ := by
  unfold f_X4_flip at h
  refine gx_iload_n 1 dX4_flip_0 rfl rfl ?_
  refine gx_if_ne 8 dX4_flip_1 (by decide) (fun c0 => ?_) (fun c0 => ?_)
  · rw [if_neg c0] at h
    refine gx_iload_n 1 dX4_flip_8 rfl rfl ?_
    refine gx_iload_n 1 dX4_flip_9 rfl rfl ?_
    refine gx_iconst (v := (1 : Int32)) dX4_flip_10 ic_1 ?_
    refine gx_isub dX4_flip_11 ?_
    refine gx_ixor dX4_flip_12 ?_
    exact s_X4_flip_13  h
  · rw [if_pos c0] at h
    refine gx_iconst (v := (0 : Int32)) dX4_flip_4 ic_0 ?_
    refine gx_goto 13 dX4_flip_5 (by decide) ?_
    exact s_X4_flip_13  h
theorem c_X4_flip {Γ : Cn} {τ : Mm} {N : Nat} {l0 : Nat} {l1 : Int32} {σ : Mm} {o : Int32 × Mm} (h : f_X4_flip N l0 l1 σ = some o) : Ct Γ M_X4_flip yX4_flip 0 τ [.ref (Γ.B + pp l0), .int l1] σ (PI o) := ct_of (by decide) rfl (fun _ => by first | rfl | contradiction) (Nat.le_of_ble_eq_true rfl) (s_X4_flip_0  h)
abbrev M_J6_bitCount_0f7a4 : Ms := (cJ6_bitCount_0f7a4, RJ6, 1, (some .int), false, 0, 0, 0)
def f_J6_bitCount_0f7a4 (N : Nat) (l0 : Int32) (σ : Mm) : Option (Int32 × Mm) :=
  some (((((((((l0 - ((UInt32.toInt32 (Int32.toUInt32 l0 >>> (Int32.toUInt32 (1 : Int32) &&& Int32.toUInt32 31))) &&& (1431655765 : Int32))) &&& (858993459 : Int32)) + ((UInt32.toInt32 (Int32.toUInt32 (l0 - ((UInt32.toInt32 (Int32.toUInt32 l0 >>> (Int32.toUInt32 (1 : Int32) &&& Int32.toUInt32 31))) &&& (1431655765 : Int32))) >>> (Int32.toUInt32 (2 : Int32) &&& Int32.toUInt32 31))) &&& (858993459 : Int32))) + (UInt32.toInt32 (Int32.toUInt32 (((l0 - ((UInt32.toInt32 (Int32.toUInt32 l0 >>> (Int32.toUInt32 (1 : Int32) &&& Int32.toUInt32 31))) &&& (1431655765 : Int32))) &&& (858993459 : Int32)) + ((UInt32.toInt32 (Int32.toUInt32 (l0 - ((UInt32.toInt32 (Int32.toUInt32 l0 >>> (Int32.toUInt32 (1 : Int32) &&& Int32.toUInt32 31))) &&& (1431655765 : Int32))) >>> (Int32.toUInt32 (2 : Int32) &&& Int32.toUInt32 31))) &&& (858993459 : Int32))) >>> (Int32.toUInt32 (4 : Int32) &&& Int32.toUInt32 31)))) &&& (252645135 : Int32)) + (UInt32.toInt32 (Int32.toUInt32 (((((l0 - ((UInt32.toInt32 (Int32.toUInt32 l0 >>> (Int32.toUInt32 (1 : Int32) &&& Int32.toUInt32 31))) &&& (1431655765 : Int32))) &&& (858993459 : Int32)) + ((UInt32.toInt32 (Int32.toUInt32 (l0 - ((UInt32.toInt32 (Int32.toUInt32 l0 >>> (Int32.toUInt32 (1 : Int32) &&& Int32.toUInt32 31))) &&& (1431655765 : Int32))) >>> (Int32.toUInt32 (2 : Int32) &&& Int32.toUInt32 31))) &&& (858993459 : Int32))) + (UInt32.toInt32 (Int32.toUInt32 (((l0 - ((UInt32.toInt32 (Int32.toUInt32 l0 >>> (Int32.toUInt32 (1 : Int32) &&& Int32.toUInt32 31))) &&& (1431655765 : Int32))) &&& (858993459 : Int32)) + ((UInt32.toInt32 (Int32.toUInt32 (l0 - ((UInt32.toInt32 (Int32.toUInt32 l0 >>> (Int32.toUInt32 (1 : Int32) &&& Int32.toUInt32 31))) &&& (1431655765 : Int32))) >>> (Int32.toUInt32 (2 : Int32) &&& Int32.toUInt32 31))) &&& (858993459 : Int32))) >>> (Int32.toUInt32 (4 : Int32) &&& Int32.toUInt32 31)))) &&& (252645135 : Int32)) >>> (Int32.toUInt32 (8 : Int32) &&& Int32.toUInt32 31)))) + (UInt32.toInt32 (Int32.toUInt32 ((((((l0 - ((UInt32.toInt32 (Int32.toUInt32 l0 >>> (Int32.toUInt32 (1 : Int32) &&& Int32.toUInt32 31))) &&& (1431655765 : Int32))) &&& (858993459 : Int32)) + ((UInt32.toInt32 (Int32.toUInt32 (l0 - ((UInt32.toInt32 (Int32.toUInt32 l0 >>> (Int32.toUInt32 (1 : Int32) &&& Int32.toUInt32 31))) &&& (1431655765 : Int32))) >>> (Int32.toUInt32 (2 : Int32) &&& Int32.toUInt32 31))) &&& (858993459 : Int32))) + (UInt32.toInt32 (Int32.toUInt32 (((l0 - ((UInt32.toInt32 (Int32.toUInt32 l0 >>> (Int32.toUInt32 (1 : Int32) &&& Int32.toUInt32 31))) &&& (1431655765 : Int32))) &&& (858993459 : Int32)) + ((UInt32.toInt32 (Int32.toUInt32 (l0 - ((UInt32.toInt32 (Int32.toUInt32 l0 >>> (Int32.toUInt32 (1 : Int32) &&& Int32.toUInt32 31))) &&& (1431655765 : Int32))) >>> (Int32.toUInt32 (2 : Int32) &&& Int32.toUInt32 31))) &&& (858993459 : Int32))) >>> (Int32.toUInt32 (4 : Int32) &&& Int32.toUInt32 31)))) &&& (252645135 : Int32)) + (UInt32.toInt32 (Int32.toUInt32 (((((l0 - ((UInt32.toInt32 (Int32.toUInt32 l0 >>> (Int32.toUInt32 (1 : Int32) &&& Int32.toUInt32 31))) &&& (1431655765 : Int32))) &&& (858993459 : Int32)) + ((UInt32.toInt32 (Int32.toUInt32 (l0 - ((UInt32.toInt32 (Int32.toUInt32 l0 >>> (Int32.toUInt32 (1 : Int32) &&& Int32.toUInt32 31))) &&& (1431655765 : Int32))) >>> (Int32.toUInt32 (2 : Int32) &&& Int32.toUInt32 31))) &&& (858993459 : Int32))) + (UInt32.toInt32 (Int32.toUInt32 (((l0 - ((UInt32.toInt32 (Int32.toUInt32 l0 >>> (Int32.toUInt32 (1 : Int32) &&& Int32.toUInt32 31))) &&& (1431655765 : Int32))) &&& (858993459 : Int32)) + ((UInt32.toInt32 (Int32.toUInt32 (l0 - ((UInt32.toInt32 (Int32.toUInt32 l0 >>> (Int32.toUInt32 (1 : Int32) &&& Int32.toUInt32 31))) &&& (1431655765 : Int32))) >>> (Int32.toUInt32 (2 : Int32) &&& Int32.toUInt32 31))) &&& (858993459 : Int32))) >>> (Int32.toUInt32 (4 : Int32) &&& Int32.toUInt32 31)))) &&& (252645135 : Int32)) >>> (Int32.toUInt32 (8 : Int32) &&& Int32.toUInt32 31)))) >>> (Int32.toUInt32 (16 : Int32) &&& Int32.toUInt32 31)))) &&& (63 : Int32)), σ)
theorem mos_J6_bitCount_0f7a4 : MOS yJ6_bitCount_0f7a4 M_J6_bitCount_0f7a4 1 := ⟨⟨tw_114, tw_892, ⟨by decide, by decide⟩, by decide +kernel⟩, tw_891⟩
set_option maxRecDepth 4000 in
theorem s_J6_bitCount_0f7a4_0 {Γ : Cn} {τ : Mm} {N : Nat} {l0 : Int32} {σ : Mm} {o : Int32 × Mm} (h : f_J6_bitCount_0f7a4 N l0 σ = some o) : Gx Γ M_J6_bitCount_0f7a4 0 τ (PI o) 0 0 0 [(0, .int l0)] [] σ := by
  unfold f_J6_bitCount_0f7a4 at h
  refine gx_iload_n 0 dJ6_bitCount_0f7a4_0 rfl rfl ?_
  refine gx_iload_n 0 dJ6_bitCount_0f7a4_1 rfl rfl ?_
  refine gx_iconst (v := (1 : Int32)) dJ6_bitCount_0f7a4_2 ic_1 ?_
  refine gx_iushr dJ6_bitCount_0f7a4_3 ?_
  refine gx_ldcw (v := (1431655765 : Int32)) dJ6_bitCount_0f7a4_4 tw_893 ?_
  refine gx_iand dJ6_bitCount_0f7a4_7 ?_
  refine gx_isub dJ6_bitCount_0f7a4_8 ?_
  refine gx_istore_n (lv' := [(0, .int (l0 - ((UInt32.toInt32 (Int32.toUInt32 l0 >>> (Int32.toUInt32 (1 : Int32) &&& Int32.toUInt32 31))) &&& (1431655765 : Int32))))]) dJ6_bitCount_0f7a4_9 rfl (Nat.le_of_ble_eq_true rfl) rfl ?_
  refine gx_iload_n 0 dJ6_bitCount_0f7a4_10 rfl rfl ?_
  refine gx_ldcw (v := (858993459 : Int32)) dJ6_bitCount_0f7a4_11 tw_894 ?_
  refine gx_iand dJ6_bitCount_0f7a4_14 ?_
  refine gx_iload_n 0 dJ6_bitCount_0f7a4_15 rfl rfl ?_
  refine gx_iconst (v := (2 : Int32)) dJ6_bitCount_0f7a4_16 ic_2 ?_
  refine gx_iushr dJ6_bitCount_0f7a4_17 ?_
  refine gx_ldcw (v := (858993459 : Int32)) dJ6_bitCount_0f7a4_18 tw_894 ?_
  refine gx_iand dJ6_bitCount_0f7a4_21 ?_
  refine gx_iadd dJ6_bitCount_0f7a4_22 ?_
  refine gx_istore_n (lv' := [(0, .int (((l0 - ((UInt32.toInt32 (Int32.toUInt32 l0 >>> (Int32.toUInt32 (1 : Int32) &&& Int32.toUInt32 31))) &&& (1431655765 : Int32))) &&& (858993459 : Int32)) + ((UInt32.toInt32 (Int32.toUInt32 (l0 - ((UInt32.toInt32 (Int32.toUInt32 l0 >>> (Int32.toUInt32 (1 : Int32) &&& Int32.toUInt32 31))) &&& (1431655765 : Int32))) >>> (Int32.toUInt32 (2 : Int32) &&& Int32.toUInt32 31))) &&& (858993459 : Int32))))]) dJ6_bitCount_0f7a4_23 rfl (Nat.le_of_ble_eq_true rfl) rfl ?_
  refine gx_iload_n 0 dJ6_bitCount_0f7a4_24 rfl rfl ?_
  refine gx_iload_n 0 dJ6_bitCount_0f7a4_25 rfl rfl ?_
  refine gx_iconst (v := (4 : Int32)) dJ6_bitCount_0f7a4_26 ic_4 ?_
  refine gx_iushr dJ6_bitCount_0f7a4_27 ?_
  refine gx_iadd dJ6_bitCount_0f7a4_28 ?_
  refine gx_ldcw (v := (252645135 : Int32)) dJ6_bitCount_0f7a4_29 tw_895 ?_
  refine gx_iand dJ6_bitCount_0f7a4_32 ?_
  refine gx_istore_n (lv' := [(0, .int (((((l0 - ((UInt32.toInt32 (Int32.toUInt32 l0 >>> (Int32.toUInt32 (1 : Int32) &&& Int32.toUInt32 31))) &&& (1431655765 : Int32))) &&& (858993459 : Int32)) + ((UInt32.toInt32 (Int32.toUInt32 (l0 - ((UInt32.toInt32 (Int32.toUInt32 l0 >>> (Int32.toUInt32 (1 : Int32) &&& Int32.toUInt32 31))) &&& (1431655765 : Int32))) >>> (Int32.toUInt32 (2 : Int32) &&& Int32.toUInt32 31))) &&& (858993459 : Int32))) + (UInt32.toInt32 (Int32.toUInt32 (((l0 - ((UInt32.toInt32 (Int32.toUInt32 l0 >>> (Int32.toUInt32 (1 : Int32) &&& Int32.toUInt32 31))) &&& (1431655765 : Int32))) &&& (858993459 : Int32)) + ((UInt32.toInt32 (Int32.toUInt32 (l0 - ((UInt32.toInt32 (Int32.toUInt32 l0 >>> (Int32.toUInt32 (1 : Int32) &&& Int32.toUInt32 31))) &&& (1431655765 : Int32))) >>> (Int32.toUInt32 (2 : Int32) &&& Int32.toUInt32 31))) &&& (858993459 : Int32))) >>> (Int32.toUInt32 (4 : Int32) &&& Int32.toUInt32 31)))) &&& (252645135 : Int32)))]) dJ6_bitCount_0f7a4_33 rfl (Nat.le_of_ble_eq_true rfl) rfl ?_
  refine gx_iload_n 0 dJ6_bitCount_0f7a4_34 rfl rfl ?_
  refine gx_iload_n 0 dJ6_bitCount_0f7a4_35 rfl rfl ?_
  refine gx_bipush (v := (8 : Int32)) dJ6_bitCount_0f7a4_36 ib_8 ?_
  refine gx_iushr dJ6_bitCount_0f7a4_38 ?_
  refine gx_iadd dJ6_bitCount_0f7a4_39 ?_
  refine gx_istore_n (lv' := [(0, .int ((((((l0 - ((UInt32.toInt32 (Int32.toUInt32 l0 >>> (Int32.toUInt32 (1 : Int32) &&& Int32.toUInt32 31))) &&& (1431655765 : Int32))) &&& (858993459 : Int32)) + ((UInt32.toInt32 (Int32.toUInt32 (l0 - ((UInt32.toInt32 (Int32.toUInt32 l0 >>> (Int32.toUInt32 (1 : Int32) &&& Int32.toUInt32 31))) &&& (1431655765 : Int32))) >>> (Int32.toUInt32 (2 : Int32) &&& Int32.toUInt32 31))) &&& (858993459 : Int32))) + (UInt32.toInt32 (Int32.toUInt32 (((l0 - ((UInt32.toInt32 (Int32.toUInt32 l0 >>> (Int32.toUInt32 (1 : Int32) &&& Int32.toUInt32 31))) &&& (1431655765 : Int32))) &&& (858993459 : Int32)) + ((UInt32.toInt32 (Int32.toUInt32 (l0 - ((UInt32.toInt32 (Int32.toUInt32 l0 >>> (Int32.toUInt32 (1 : Int32) &&& Int32.toUInt32 31))) &&& (1431655765 : Int32))) >>> (Int32.toUInt32 (2 : Int32) &&& Int32.toUInt32 31))) &&& (858993459 : Int32))) >>> (Int32.toUInt32 (4 : Int32) &&& Int32.toUInt32 31)))) &&& (252645135 : Int32)) + (UInt32.toInt32 (Int32.toUInt32 (((((l0 - ((UInt32.toInt32 (Int32.toUInt32 l0 >>> (Int32.toUInt32 (1 : Int32) &&& Int32.toUInt32 31))) &&& (1431655765 : Int32))) &&& (858993459 : Int32)) + ((UInt32.toInt32 (Int32.toUInt32 (l0 - ((UInt32.toInt32 (Int32.toUInt32 l0 >>> (Int32.toUInt32 (1 : Int32) &&& Int32.toUInt32 31))) &&& (1431655765 : Int32))) >>> (Int32.toUInt32 (2 : Int32) &&& Int32.toUInt32 31))) &&& (858993459 : Int32))) + (UInt32.toInt32 (Int32.toUInt32 (((l0 - ((UInt32.toInt32 (Int32.toUInt32 l0 >>> (Int32.toUInt32 (1 : Int32) &&& Int32.toUInt32 31))) &&& (1431655765 : Int32))) &&& (858993459 : Int32)) + ((UInt32.toInt32 (Int32.toUInt32 (l0 - ((UInt32.toInt32 (Int32.toUInt32 l0 >>> (Int32.toUInt32 (1 : Int32) &&& Int32.toUInt32 31))) &&& (1431655765 : Int32))) >>> (Int32.toUInt32 (2 : Int32) &&& Int32.toUInt32 31))) &&& (858993459 : Int32))) >>> (Int32.toUInt32 (4 : Int32) &&& Int32.toUInt32 31)))) &&& (252645135 : Int32)) >>> (Int32.toUInt32 (8 : Int32) &&& Int32.toUInt32 31)))))]) dJ6_bitCount_0f7a4_40 rfl (Nat.le_of_ble_eq_true rfl) rfl ?_
  refine gx_iload_n 0 dJ6_bitCount_0f7a4_41 rfl rfl ?_
  refine gx_iload_n 0 dJ6_bitCount_0f7a4_42 rfl rfl ?_
  refine gx_bipush (v := (16 : Int32)) dJ6_bitCount_0f7a4_43 ib_16 ?_
  refine gx_iushr dJ6_bitCount_0f7a4_45 ?_
  refine gx_iadd dJ6_bitCount_0f7a4_46 ?_
  refine gx_istore_n (lv' := [(0, .int (((((((l0 - ((UInt32.toInt32 (Int32.toUInt32 l0 >>> (Int32.toUInt32 (1 : Int32) &&& Int32.toUInt32 31))) &&& (1431655765 : Int32))) &&& (858993459 : Int32)) + ((UInt32.toInt32 (Int32.toUInt32 (l0 - ((UInt32.toInt32 (Int32.toUInt32 l0 >>> (Int32.toUInt32 (1 : Int32) &&& Int32.toUInt32 31))) &&& (1431655765 : Int32))) >>> (Int32.toUInt32 (2 : Int32) &&& Int32.toUInt32 31))) &&& (858993459 : Int32))) + (UInt32.toInt32 (Int32.toUInt32 (((l0 - ((UInt32.toInt32 (Int32.toUInt32 l0 >>> (Int32.toUInt32 (1 : Int32) &&& Int32.toUInt32 31))) &&& (1431655765 : Int32))) &&& (858993459 : Int32)) + ((UInt32.toInt32 (Int32.toUInt32 (l0 - ((UInt32.toInt32 (Int32.toUInt32 l0 >>> (Int32.toUInt32 (1 : Int32) &&& Int32.toUInt32 31))) &&& (1431655765 : Int32))) >>> (Int32.toUInt32 (2 : Int32) &&& Int32.toUInt32 31))) &&& (858993459 : Int32))) >>> (Int32.toUInt32 (4 : Int32) &&& Int32.toUInt32 31)))) &&& (252645135 : Int32)) + (UInt32.toInt32 (Int32.toUInt32 (((((l0 - ((UInt32.toInt32 (Int32.toUInt32 l0 >>> (Int32.toUInt32 (1 : Int32) &&& Int32.toUInt32 31))) &&& (1431655765 : Int32))) &&& (858993459 : Int32)) + ((UInt32.toInt32 (Int32.toUInt32 (l0 - ((UInt32.toInt32 (Int32.toUInt32 l0 >>> (Int32.toUInt32 (1 : Int32) &&& Int32.toUInt32 31))) &&& (1431655765 : Int32))) >>> (Int32.toUInt32 (2 : Int32) &&& Int32.toUInt32 31))) &&& (858993459 : Int32))) + (UInt32.toInt32 (Int32.toUInt32 (((l0 - ((UInt32.toInt32 (Int32.toUInt32 l0 >>> (Int32.toUInt32 (1 : Int32) &&& Int32.toUInt32 31))) &&& (1431655765 : Int32))) &&& (858993459 : Int32)) + ((UInt32.toInt32 (Int32.toUInt32 (l0 - ((UInt32.toInt32 (Int32.toUInt32 l0 >>> (Int32.toUInt32 (1 : Int32) &&& Int32.toUInt32 31))) &&& (1431655765 : Int32))) >>> (Int32.toUInt32 (2 : Int32) &&& Int32.toUInt32 31))) &&& (858993459 : Int32))) >>> (Int32.toUInt32 (4 : Int32) &&& Int32.toUInt32 31)))) &&& (252645135 : Int32)) >>> (Int32.toUInt32 (8 : Int32) &&& Int32.toUInt32 31)))) + (UInt32.toInt32 (Int32.toUInt32 ((((((l0 - ((UInt32.toInt32 (Int32.toUInt32 l0 >>> (Int32.toUInt32 (1 : Int32) &&& Int32.toUInt32 31))) &&& (1431655765 : Int32))) &&& (858993459 : Int32)) + ((UInt32.toInt32 (Int32.toUInt32 (l0 - ((UInt32.toInt32 (Int32.toUInt32 l0 >>> (Int32.toUInt32 (1 : Int32) &&& Int32.toUInt32 31))) &&& (1431655765 : Int32))) >>> (Int32.toUInt32 (2 : Int32) &&& Int32.toUInt32 31))) &&& (858993459 : Int32))) + (UInt32.toInt32 (Int32.toUInt32 (((l0 - ((UInt32.toInt32 (Int32.toUInt32 l0 >>> (Int32.toUInt32 (1 : Int32) &&& Int32.toUInt32 31))) &&& (1431655765 : Int32))) &&& (858993459 : Int32)) + ((UInt32.toInt32 (Int32.toUInt32 (l0 - ((UInt32.toInt32 (Int32.toUInt32 l0 >>> (Int32.toUInt32 (1 : Int32) &&& Int32.toUInt32 31))) &&& (1431655765 : Int32))) >>> (Int32.toUInt32 (2 : Int32) &&& Int32.toUInt32 31))) &&& (858993459 : Int32))) >>> (Int32.toUInt32 (4 : Int32) &&& Int32.toUInt32 31)))) &&& (252645135 : Int32)) + (UInt32.toInt32 (Int32.toUInt32 (((((l0 - ((UInt32.toInt32 (Int32.toUInt32 l0 >>> (Int32.toUInt32 (1 : Int32) &&& Int32.toUInt32 31))) &&& (1431655765 : Int32))) &&& (858993459 : Int32)) + ((UInt32.toInt32 (Int32.toUInt32 (l0 - ((UInt32.toInt32 (Int32.toUInt32 l0 >>> (Int32.toUInt32 (1 : Int32) &&& Int32.toUInt32 31))) &&& (1431655765 : Int32))) >>> (Int32.toUInt32 (2 : Int32) &&& Int32.toUInt32 31))) &&& (858993459 : Int32))) + (UInt32.toInt32 (Int32.toUInt32 (((l0 - ((UInt32.toInt32 (Int32.toUInt32 l0 >>> (Int32.toUInt32 (1 : Int32) &&& Int32.toUInt32 31))) &&& (1431655765 : Int32))) &&& (858993459 : Int32)) + ((UInt32.toInt32 (Int32.toUInt32 (l0 - ((UInt32.toInt32 (Int32.toUInt32 l0 >>> (Int32.toUInt32 (1 : Int32) &&& Int32.toUInt32 31))) &&& (1431655765 : Int32))) >>> (Int32.toUInt32 (2 : Int32) &&& Int32.toUInt32 31))) &&& (858993459 : Int32))) >>> (Int32.toUInt32 (4 : Int32) &&& Int32.toUInt32 31)))) &&& (252645135 : Int32)) >>> (Int32.toUInt32 (8 : Int32) &&& Int32.toUInt32 31)))) >>> (Int32.toUInt32 (16 : Int32) &&& Int32.toUInt32 31)))))]) dJ6_bitCount_0f7a4_47 rfl (Nat.le_of_ble_eq_true rfl) rfl ?_
  refine gx_iload_n 0 dJ6_bitCount_0f7a4_48 rfl rfl ?_
  refine gx_bipush (v := (63 : Int32)) dJ6_bitCount_0f7a4_49 ib_63 ?_
  refine gx_iand dJ6_bitCount_0f7a4_51 ?_
  have h := Option.some.inj h
  subst h
  exact gx_iret dJ6_bitCount_0f7a4_52 rfl (Nat.le_of_ble_eq_true rfl) (Nat.le_of_ble_eq_true rfl) ⟨rfl, rfl⟩
theorem c_J6_bitCount_0f7a4 {Γ : Cn} {τ : Mm} {N : Nat} {l0 : Int32} {σ : Mm} {o : Int32 × Mm} (h : f_J6_bitCount_0f7a4 N l0 σ = some o) : Ct Γ M_J6_bitCount_0f7a4 yJ6_bitCount_0f7a4 0 τ [.int l0] σ (PI o) := ct_of (by decide) rfl (fun _ => by first | rfl | contradiction) (Nat.le_of_ble_eq_true rfl) (s_J6_bitCount_0f7a4_0  h)
abbrev M_X4_cocksOf : Ms := (cX4_cocksOf, RX4, 4, (some .int), false, 0, 0, 0)
def f_X4_cocksOf_37 (N : Nat) (r_4 : Nat → Int32 → Int32 → Int32 → Mm → Option (Int32 × Mm)) (l0 : Nat) (l1 : Int32) (l2 : Int32) (l3 : Int32) (σ : Mm) : Option (Int32 × Mm) :=
  r_4 l0 l1 l2 (l3 + (1 : Int32)) σ
def f_X4_cocksOf_43 (N : Nat) (l2 : Int32) (σ : Mm) : Option (Int32 × Mm) :=
  some (l2, σ)
def f_X4_cocksOf_4 (N : Nat) : Nat → Nat → Int32 → Int32 → Int32 → Mm → Option (Int32 × Mm)
  | 0, _, _, _, _, _ => none
  | n + 1, l0, l1, l2, l3, σ =>
      (gI 4 5 σ l0).bind fun x1 =>
      if x1 ≤ l3 then (
        f_X4_cocksOf_43 N l2 σ) else (
        if (12 : Int32) ≤ l3 then (
          f_X4_cocksOf_43 N l2 σ) else (
          if ((l1 >>> (l3 &&& 31)) &&& (1 : Int32)) = 0 then (
            f_X4_cocksOf_37 N (f_X4_cocksOf_4 N n) l0 l1 l2 l3 σ) else (
            (gN 4 4 σ l0).bind fun a5 =>
            (aI 13 σ a5 l3).bind fun x6 =>
            f_X4_cocksOf_37 N (f_X4_cocksOf_4 N n) l0 l1 (l2 ||| ((1 : Int32) <<< (x6 &&& 31))) l3 σ)))
def f_X4_cocksOf (N : Nat) (l0 : Nat) (l1 : Int32) (σ : Mm) : Option (Int32 × Mm) :=
  f_X4_cocksOf_4 N N l0 l1 (0 : Int32) (0 : Int32) σ
theorem mov_X4_cocksOf : MOV yX4_cocksOf M_X4_cocksOf 1 4 0 := ⟨⟨tw_105, tw_900, ⟨by decide, by decide⟩, by decide +kernel⟩, tw_899, tw_31, by decide, ⟨_, rfl, rfl⟩, rfl⟩
set_option maxRecDepth 4000 in
theorem s_X4_cocksOf_37 {Γ : Cn} {τ : Mm} {N : Nat} {r_4 : Nat → Int32 → Int32 → Int32 → Mm → Option (Int32 × Mm)} (hr_4 : ∀ (l0 : Nat) (l1 : Int32) (l2 : Int32) (l3 : Int32) (σ : Mm) (o : Int32 × Mm), r_4 l0 l1 l2 l3 σ = some o → Gx Γ M_X4_cocksOf 0 τ (PI o) 0 0 4 [(0, .ref (Γ.B + pp l0)), (1, .int l1), (2, .int l2), (3, .int l3)] [] σ) {l0 : Nat} {l1 : Int32} {l2 : Int32} {l3 : Int32} {σ : Mm} {o : Int32 × Mm} (h : f_X4_cocksOf_37 N r_4 l0 l1 l2 l3 σ = some o) : Gx Γ M_X4_cocksOf 0 τ (PI o) 0 0 37 [(0, .ref (Γ.B + pp l0)), (1, .int l1), (2, .int l2), (3, .int l3)] [] σ := by
  unfold f_X4_cocksOf_37 at h
  refine gx_iinc (v := (l3 + (1 : Int32))) (lv' := [(3, .int (l3 + (1 : Int32))), (0, .ref (Γ.B + pp l0)), (1, .int l1), (2, .int l2)]) 3 dX4_cocksOf_37 rfl (by rw [ic_1]) (Nat.le_of_ble_eq_true rfl) rfl ?_
  refine gx_goto 4 dX4_cocksOf_40 (by decide) ?_
  exact gx_sub [1, 2, 3, 0] rfl (hr_4 _ _ _ _ _ _ h)
set_option maxRecDepth 4000 in
theorem s_X4_cocksOf_43 {Γ : Cn} {τ : Mm} {N : Nat} {l2 : Int32} {σ : Mm} {o : Int32 × Mm} (h : f_X4_cocksOf_43 N l2 σ = some o) : Gx Γ M_X4_cocksOf 0 τ (PI o) 0 0 43 [(2, .int l2)] [] σ := by
  unfold f_X4_cocksOf_43 at h
  refine gx_iload_n 0 dX4_cocksOf_43 rfl rfl ?_
  have h := Option.some.inj h
  subst h
  exact gx_iret dX4_cocksOf_44 rfl (Nat.le_of_ble_eq_true rfl) (Nat.le_of_ble_eq_true rfl) ⟨rfl, rfl⟩
set_option maxRecDepth 4000 in
theorem s_X4_cocksOf_4 {Γ : Cn} {τ : Mm} {N : Nat} : ∀ (n : Nat) (l0 : Nat) (l1 : Int32) (l2 : Int32) (l3 : Int32) (σ : Mm) (o : Int32 × Mm), f_X4_cocksOf_4 N n l0 l1 l2 l3 σ = some o → Gx Γ M_X4_cocksOf 0 τ (PI o) 0 0 4 [(0, .ref (Γ.B + pp l0)), (1, .int l1), (2, .int l2), (3, .int l3)] [] σ := by
  intro n
  induction n with
  | zero =>
    intro l0 l1 l2 l3 σ o h
    exact absurd h (by rw [f_X4_cocksOf_4]; exact fun q => nomatch q)
  | succ n ih =>
    intro l0 l1 l2 l3 σ o h
    rw [f_X4_cocksOf_4] at h
    refine gx_iload_n 3 dX4_cocksOf_4 rfl rfl ?_
    refine gx_aload_n 0 dX4_cocksOf_5 rfl rfl ?_
    obtain ⟨x1, hx1, h⟩ := bnd h
    refine gx_getI dX4_cocksOf_6 hx1 fl_X4_24 rfl ?_
    refine gx_icmp_ge 43 dX4_cocksOf_9 (by decide) (fun c1 => ?_) (fun c1 => ?_)
    · rw [if_pos c1] at h
      exact gx_sub [2] rfl (s_X4_cocksOf_43  h)
    · rw [if_neg c1] at h
      refine gx_iload_n 3 dX4_cocksOf_12 rfl rfl ?_
      refine gx_bipush (v := (12 : Int32)) dX4_cocksOf_13 ib_12 ?_
      refine gx_icmp_ge 43 dX4_cocksOf_15 (by decide) (fun c2 => ?_) (fun c2 => ?_)
      · rw [if_pos c2] at h
        exact gx_sub [2] rfl (s_X4_cocksOf_43  h)
      · rw [if_neg c2] at h
        refine gx_iload_n 1 dX4_cocksOf_18 rfl rfl ?_
        refine gx_iload_n 3 dX4_cocksOf_19 rfl rfl ?_
        refine gx_ishr dX4_cocksOf_20 ?_
        refine gx_iconst (v := (1 : Int32)) dX4_cocksOf_21 ic_1 ?_
        refine gx_iand dX4_cocksOf_22 ?_
        refine gx_if_eq 37 dX4_cocksOf_23 (by decide) (fun c3 => ?_) (fun c3 => ?_)
        · rw [if_pos c3] at h
          exact s_X4_cocksOf_37 ih h
        · rw [if_neg c3] at h
          refine gx_iload_n 2 dX4_cocksOf_26 rfl rfl ?_
          refine gx_iconst (v := (1 : Int32)) dX4_cocksOf_27 ic_1 ?_
          refine gx_aload_n 0 dX4_cocksOf_28 rfl rfl ?_
          obtain ⟨a5, ha5, h⟩ := bnd h
          refine gx_getN dX4_cocksOf_29 ha5 fl_X4_21 rfl ?_
          refine gx_iload_n 3 dX4_cocksOf_32 rfl rfl ?_
          obtain ⟨x6, hx6, h⟩ := bnd h
          refine gx_iald (kd := 13) dX4_cocksOf_33 hx6 rfl rfl ?_
          refine gx_ishl dX4_cocksOf_34 ?_
          refine gx_ior dX4_cocksOf_35 ?_
          refine gx_istore_n (lv' := [(2, .int (l2 ||| ((1 : Int32) <<< (x6 &&& 31)))), (0, .ref (Γ.B + pp l0)), (1, .int l1), (3, .int l3)]) dX4_cocksOf_36 rfl (Nat.le_of_ble_eq_true rfl) rfl ?_
          exact gx_sub [1, 2, 0, 3] rfl (s_X4_cocksOf_37 ih h)
set_option maxRecDepth 4000 in
theorem s_X4_cocksOf_0 {Γ : Cn} {τ : Mm} {N : Nat} {l0 : Nat} {l1 : Int32} {σ : Mm} {o : Int32 × Mm} (h : f_X4_cocksOf N l0 l1 σ = some o) : Gx Γ M_X4_cocksOf 0 τ (PI o) 0 0 0 [(0, .ref (Γ.B + pp l0)), (1, .int l1)] [] σ := by
  unfold f_X4_cocksOf at h
  refine gx_iconst (v := (0 : Int32)) dX4_cocksOf_0 ic_0 ?_
  refine gx_istore_n (lv' := [(2, .int (0 : Int32)), (0, .ref (Γ.B + pp l0)), (1, .int l1)]) dX4_cocksOf_1 rfl (Nat.le_of_ble_eq_true rfl) rfl ?_
  refine gx_iconst (v := (0 : Int32)) dX4_cocksOf_2 ic_0 ?_
  refine gx_istore_n (lv' := [(3, .int (0 : Int32)), (2, .int (0 : Int32)), (0, .ref (Γ.B + pp l0)), (1, .int l1)]) dX4_cocksOf_3 rfl (Nat.le_of_ble_eq_true rfl) rfl ?_
  exact gx_sub [2, 3, 1, 0] rfl (s_X4_cocksOf_4  N _ _ _ _ _ _ h)
theorem c_X4_cocksOf {Γ : Cn} {τ : Mm} {N : Nat} {l0 : Nat} {l1 : Int32} {σ : Mm} {o : Int32 × Mm} (h : f_X4_cocksOf N l0 l1 σ = some o) : Ct Γ M_X4_cocksOf yX4_cocksOf 0 τ [.ref (Γ.B + pp l0), .int l1] σ (PI o) := ct_of (by decide) rfl (fun _ => by first | rfl | contradiction) (Nat.le_of_ble_eq_true rfl) (s_X4_cocksOf_0  h)
abbrev M_X4_run : Ms := (cX4_run, RX4, 9, none, false, 0, 0, 4)
def f_X4_run_165 (N : Nat) (r_43 : Nat → Int32 → Int32 → Int32 → Int32 → Int32 → Mm → Option Mm) (l0 : Nat) (l2 : Int32) (l3 : Int32) (l5 : Int32) (l6 : Int32) (l7 : Int32) (σ : Mm) : Option Mm :=
  r_43 l0 l2 l3 l5 l6 (l7 + (1 : Int32)) σ
def f_X4_run_171 (N : Nat) (l0 : Nat) (l5 : Int32) (σ : Mm) : Option Mm :=
  (ob 4 σ l0).bind fun _ =>
  (f_X4_cocksOf N l0 l5 σ).bind fun q1 =>
  (pI 4 8 q1.2 l0 q1.1).bind fun s2 =>
  some s2
def f_X4_run_150 (N : Nat) (r_43 : Nat → Int32 → Int32 → Int32 → Int32 → Int32 → Mm → Option Mm) (l0 : Nat) (l2 : Int32) (l3 : Int32) (l5 : Int32) (l6 : Int32) (l7 : Int32) (σ : Mm) : Option Mm :=
  (gI 4 6 σ l0).bind fun x1 =>
  if x1 = 0 then (
    f_X4_run_165 N r_43 l0 l2 l3 l5 l6 l7 σ) else (
    if l5 = 0 then (
      f_X4_run_171 N l0 l5 σ) else (
      f_X4_run_165 N r_43 l0 l2 l3 l5 l6 l7 σ))
def f_X4_run_116 (N : Nat) (r_43 : Nat → Int32 → Int32 → Int32 → Int32 → Int32 → Mm → Option Mm) (l0 : Nat) (l2 : Int32) (l3 : Int32) (l5 : Int32) (l6 : Int32) (l7 : Int32) (t0 : Int32) (σ : Mm) : Option Mm :=
  if t0 = 0 then (
    f_X4_run_150 N r_43 l0 l2 l3 l5 l6 l7 σ) else (
    (gN 4 0 σ l0).bind fun a2 =>
    (ob 1 σ a2).bind fun _ =>
    (f_X1_winner N a2 l2 σ).bind fun q3 =>
    if q3.1 = l3 then (
      (pZ 4 6 q3.2 l0 (1 : Int32)).bind fun s5 =>
      (pI 4 7 s5 l0 l6).bind fun s6 =>
      f_X4_run_150 N r_43 l0 l2 l3 l7 l6 l7 s6) else (
      f_X4_run_150 N r_43 l0 l2 l3 l5 l6 l7 q3.2))
def f_X4_run_111 (N : Nat) (r_43 : Nat → Int32 → Int32 → Int32 → Int32 → Int32 → Mm → Option Mm) (l0 : Nat) (l2 : Int32) (l3 : Int32) (l5 : Int32) (l6 : Int32) (l7 : Int32) (σ : Mm) : Option Mm :=
  f_X4_run_116 N r_43 l0 l2 l3 l5 l6 l7 (1 : Int32) σ
def f_X4_run_115 (N : Nat) (r_43 : Nat → Int32 → Int32 → Int32 → Int32 → Int32 → Mm → Option Mm) (l0 : Nat) (l2 : Int32) (l3 : Int32) (l5 : Int32) (l6 : Int32) (l7 : Int32) (σ : Mm) : Option Mm :=
  f_X4_run_116 N r_43 l0 l2 l3 l5 l6 l7 (0 : Int32) σ
def f_X4_run_43 (N : Nat) : Nat → Nat → Int32 → Int32 → Int32 → Int32 → Int32 → Mm → Option Mm
  | 0, _, _, _, _, _, _, _ => none
  | n + 1, l0, l2, l3, l5, l6, l7, σ =>
      (gI 4 5 σ l0).bind fun x1 =>
      if ((1 : Int32) <<< (x1 &&& 31)) ≤ l7 then (
        f_X4_run_171 N l0 l5 σ) else (
        if (4096 : Int32) ≤ l7 then (
          f_X4_run_171 N l0 l5 σ) else (
          (ob 4 σ l0).bind fun _ =>
          (f_X4_flip N l0 l7 σ).bind fun q4 =>
          (gI 4 6 q4.2 l0).bind fun x5 =>
          if x5 = 0 then (
            f_X4_run_111 N (f_X4_run_43 N n) l0 l2 l3 l5 (l6 + q4.1) l7 q4.2) else (
            (gI 4 7 q4.2 l0).bind fun x7 =>
            if (l6 + q4.1) < x7 then (
              f_X4_run_111 N (f_X4_run_43 N n) l0 l2 l3 l5 (l6 + q4.1) l7 q4.2) else (
              (gI 4 7 q4.2 l0).bind fun x9 =>
              if (l6 + q4.1) = x9 then (
                (f_J6_bitCount_0f7a4 N l7 q4.2).bind fun q11 =>
                (f_J6_bitCount_0f7a4 N l5 q11.2).bind fun q12 =>
                if q12.1 ≤ q11.1 then (
                  f_X4_run_115 N (f_X4_run_43 N n) l0 l2 l3 l5 (l6 + q4.1) l7 q12.2) else (
                  f_X4_run_111 N (f_X4_run_43 N n) l0 l2 l3 l5 (l6 + q4.1) l7 q12.2)) else (
                f_X4_run_115 N (f_X4_run_43 N n) l0 l2 l3 l5 (l6 + q4.1) l7 q4.2)))))
def f_X4_run (N : Nat) (l0 : Nat) (l1 : Nat) (l2 : Int32) (l3 : Int32) (l4 : Int32) (σ : Mm) : Option Mm :=
  (ob 4 σ l0).bind fun _ =>
  (f_X4_listFree N l0 l1 l4 σ).bind fun q1 =>
  (gN 4 0 q1 l0).bind fun a2 =>
  (gN 4 1 q1 l0).bind fun a3 =>
  (ob 1 q1 a2).bind fun _ =>
  (f_X1_open N a2 l1 a3 q1).bind fun q4 =>
  (pZ 4 6 q4 l0 (0 : Int32)).bind fun s5 =>
  (pI 4 7 s5 l0 (0 : Int32)).bind fun s6 =>
  (pI 4 8 s6 l0 (0 : Int32)).bind fun s7 =>
  f_X4_run_43 N N l0 l2 l3 (0 : Int32) (0 : Int32) (0 : Int32) s7
theorem mov_X4_run : MOV yX4_run M_X4_run 4 4 0 := ⟨⟨tw_105, tw_871, ⟨by decide, by decide⟩, by decide +kernel⟩, tw_869, tw_870, by decide, ⟨_, rfl, rfl⟩, rfl⟩
set_option maxRecDepth 4000 in
theorem s_X4_run_165 {Γ : Cn} {τ : Mm} {N : Nat} {r_43 : Nat → Int32 → Int32 → Int32 → Int32 → Int32 → Mm → Option Mm} (hr_43 : ∀ (l0 : Nat) (l2 : Int32) (l3 : Int32) (l5 : Int32) (l6 : Int32) (l7 : Int32) (σ : Mm) (o : Mm), r_43 l0 l2 l3 l5 l6 l7 σ = some o → Gx Γ M_X4_run 0 τ (PV o) 0 0 43 [(0, .ref (Γ.B + pp l0)), (2, .int l2), (3, .int l3), (5, .int l5), (6, .int l6), (7, .int l7)] [] σ) {l0 : Nat} {l2 : Int32} {l3 : Int32} {l5 : Int32} {l6 : Int32} {l7 : Int32} {σ : Mm} {o : Mm} (h : f_X4_run_165 N r_43 l0 l2 l3 l5 l6 l7 σ = some o) : Gx Γ M_X4_run 0 τ (PV o) 0 0 165 [(0, .ref (Γ.B + pp l0)), (2, .int l2), (3, .int l3), (5, .int l5), (6, .int l6), (7, .int l7)] [] σ := by
  unfold f_X4_run_165 at h
  refine gx_iinc (v := (l7 + (1 : Int32))) (lv' := [(7, .int (l7 + (1 : Int32))), (0, .ref (Γ.B + pp l0)), (2, .int l2), (3, .int l3), (5, .int l5), (6, .int l6)]) 5 dX4_run_165 rfl (by rw [ic_1]) (Nat.le_of_ble_eq_true rfl) rfl ?_
  refine gx_goto 43 dX4_run_168 (by decide) ?_
  exact gx_sub [1, 2, 3, 4, 5, 0] rfl (hr_43 _ _ _ _ _ _ _ _ h)
set_option maxRecDepth 4000 in
theorem s_X4_run_171 {Γ : Cn} {τ : Mm} {N : Nat} {l0 : Nat} {l5 : Int32} {σ : Mm} {o : Mm} (h : f_X4_run_171 N l0 l5 σ = some o) : Gx Γ M_X4_run 0 τ (PV o) 0 0 171 [(0, .ref (Γ.B + pp l0)), (5, .int l5)] [] σ := by
  unfold f_X4_run_171 at h
  refine gx_aload_n 0 dX4_run_171 rfl rfl ?_
  refine gx_aload_n 0 dX4_run_172 rfl rfl ?_
  refine gx_iload 1 dX4_run_173 rfl ?_
  obtain ⟨_, hobq1, h⟩ := bnd h
  obtain ⟨q1, hq1, h⟩ := bnd h
  refine gx_cVI (As := [.int l5]) (st := [.ref (Γ.B + pp l0)]) (o := l0) dX4_run_175 (c_X4_cocksOf hq1) mov_X4_cocksOf tw_897 hobq1 rfl ⟨Nat.le_of_ble_eq_true rfl, Nat.le_of_ble_eq_true rfl⟩ (Nat.le_of_ble_eq_true rfl) ?_
  obtain ⟨s2, hs2, h⟩ := bnd h
  refine gx_putI dX4_run_178 hs2 fl_X4_35 fp_X4_4_8 rfl ?_
  have h := Option.some.inj h
  subst h
  exact gx_vret dX4_run_181 rfl (Nat.le_of_ble_eq_true rfl) (Nat.le_of_ble_eq_true rfl) ⟨rfl, rfl⟩
set_option maxRecDepth 4000 in
theorem s_X4_run_150 {Γ : Cn} {τ : Mm} {N : Nat} {r_43 : Nat → Int32 → Int32 → Int32 → Int32 → Int32 → Mm → Option Mm} (hr_43 : ∀ (l0 : Nat) (l2 : Int32) (l3 : Int32) (l5 : Int32) (l6 : Int32) (l7 : Int32) (σ : Mm) (o : Mm), r_43 l0 l2 l3 l5 l6 l7 σ = some o → Gx Γ M_X4_run 0 τ (PV o) 0 0 43 [(0, .ref (Γ.B + pp l0)), (2, .int l2), (3, .int l3), (5, .int l5), (6, .int l6), (7, .int l7)] [] σ) {l0 : Nat} {l2 : Int32} {l3 : Int32} {l5 : Int32} {l6 : Int32} {l7 : Int32} {σ : Mm} {o : Mm} (h : f_X4_run_150 N r_43 l0 l2 l3 l5 l6 l7 σ = some o) : Gx Γ M_X4_run 0 τ (PV o) 0 0 150 [(0, .ref (Γ.B + pp l0)), (2, .int l2), (3, .int l3), (5, .int l5), (6, .int l6), (7, .int l7)] [] σ := by
  unfold f_X4_run_150 at h
  refine gx_aload_n 0 dX4_run_150 rfl rfl ?_
  obtain ⟨x1, hx1, h⟩ := bnd h
  refine gx_getI dX4_run_151 hx1 fl_X4_28 rfl ?_
  refine gx_if_eq 165 dX4_run_154 (by decide) (fun c1 => ?_) (fun c1 => ?_)
  · rw [if_pos c1] at h
    exact s_X4_run_165 hr_43 h
  · rw [if_neg c1] at h
    refine gx_iload 3 dX4_run_157 rfl ?_
    refine gx_if_ne 165 dX4_run_159 (by decide) (fun c2 => ?_) (fun c2 => ?_)
    · rw [if_neg c2] at h
      exact s_X4_run_165 hr_43 h
    · rw [if_pos c2] at h
      refine gx_goto 171 dX4_run_162 (by decide) ?_
      exact gx_sub [0, 3] rfl (s_X4_run_171  h)
set_option maxRecDepth 4000 in
theorem s_X4_run_116 {Γ : Cn} {τ : Mm} {N : Nat} {r_43 : Nat → Int32 → Int32 → Int32 → Int32 → Int32 → Mm → Option Mm} (hr_43 : ∀ (l0 : Nat) (l2 : Int32) (l3 : Int32) (l5 : Int32) (l6 : Int32) (l7 : Int32) (σ : Mm) (o : Mm), r_43 l0 l2 l3 l5 l6 l7 σ = some o → Gx Γ M_X4_run 0 τ (PV o) 0 0 43 [(0, .ref (Γ.B + pp l0)), (2, .int l2), (3, .int l3), (5, .int l5), (6, .int l6), (7, .int l7)] [] σ) {l0 : Nat} {l2 : Int32} {l3 : Int32} {l5 : Int32} {l6 : Int32} {l7 : Int32} {t0 : Int32} {σ : Mm} {o : Mm} (h : f_X4_run_116 N r_43 l0 l2 l3 l5 l6 l7 t0 σ = some o) : Gx Γ M_X4_run 0 τ (PV o) 0 0 116 [(0, .ref (Γ.B + pp l0)), (2, .int l2), (3, .int l3), (5, .int l5), (6, .int l6), (7, .int l7)] [.int t0] σ := by
  unfold f_X4_run_116 at h
  refine gx_istore (lv' := [(8, .int t0), (0, .ref (Γ.B + pp l0)), (2, .int l2), (3, .int l3), (5, .int l5), (6, .int l6), (7, .int l7)]) dX4_run_116 (Nat.le_of_ble_eq_true rfl) rfl ?_
  refine gx_iload 0 dX4_run_118 rfl ?_
  refine gx_if_eq 150 dX4_run_120 (by decide) (fun c0 => ?_) (fun c0 => ?_)
  · rw [if_pos c0] at h
    exact gx_sub [1, 2, 3, 4, 5, 6] rfl (s_X4_run_150 hr_43 h)
  · rw [if_neg c0] at h
    refine gx_aload_n 1 dX4_run_123 rfl rfl ?_
    obtain ⟨a2, ha2, h⟩ := bnd h
    refine gx_getN dX4_run_124 ha2 fl_X4_38 rfl ?_
    refine gx_iload_n 2 dX4_run_127 rfl rfl ?_
    obtain ⟨_, hobq3, h⟩ := bnd h
    obtain ⟨q3, hq3, h⟩ := bnd h
    refine gx_cVI (As := [.int l2]) (st := []) (o := a2) dX4_run_128 (c_X1_winner hq3) mov_X1_winner tw_896 hobq3 rfl ⟨Nat.le_of_ble_eq_true rfl, Nat.le_of_ble_eq_true rfl⟩ (Nat.le_of_ble_eq_true rfl) ?_
    refine gx_iload_n 3 dX4_run_131 rfl rfl ?_
    refine gx_icmp_ne 150 dX4_run_132 (by decide) (fun c3 => ?_) (fun c3 => ?_)
    · rw [if_neg c3] at h
      exact gx_sub [1, 2, 3, 4, 5, 6] rfl (s_X4_run_150 hr_43 h)
    · rw [if_pos c3] at h
      refine gx_aload_n 1 dX4_run_135 rfl rfl ?_
      refine gx_iconst (v := (1 : Int32)) dX4_run_136 ic_1 ?_
      obtain ⟨s5, hs5, h⟩ := bnd h
      refine gx_putZ dX4_run_137 hs5 fl_X4_28 fp_X4_4_6 rfl ?_
      refine gx_aload_n 1 dX4_run_140 rfl rfl ?_
      refine gx_iload 5 dX4_run_141 rfl ?_
      obtain ⟨s6, hs6, h⟩ := bnd h
      refine gx_putI dX4_run_143 hs6 fl_X4_32 fp_X4_4_7 rfl ?_
      refine gx_iload 6 dX4_run_146 rfl ?_
      refine gx_istore (lv' := [(5, .int l7), (8, .int t0), (0, .ref (Γ.B + pp l0)), (2, .int l2), (3, .int l3), (6, .int l6), (7, .int l7)]) dX4_run_148 (Nat.le_of_ble_eq_true rfl) rfl ?_
      exact gx_sub [2, 3, 4, 0, 5, 6] rfl (s_X4_run_150 hr_43 h)
set_option maxRecDepth 4000 in
theorem s_X4_run_111 {Γ : Cn} {τ : Mm} {N : Nat} {r_43 : Nat → Int32 → Int32 → Int32 → Int32 → Int32 → Mm → Option Mm} (hr_43 : ∀ (l0 : Nat) (l2 : Int32) (l3 : Int32) (l5 : Int32) (l6 : Int32) (l7 : Int32) (σ : Mm) (o : Mm), r_43 l0 l2 l3 l5 l6 l7 σ = some o → Gx Γ M_X4_run 0 τ (PV o) 0 0 43 [(0, .ref (Γ.B + pp l0)), (2, .int l2), (3, .int l3), (5, .int l5), (6, .int l6), (7, .int l7)] [] σ) {l0 : Nat} {l2 : Int32} {l3 : Int32} {l5 : Int32} {l6 : Int32} {l7 : Int32} {σ : Mm} {o : Mm} (h : f_X4_run_111 N r_43 l0 l2 l3 l5 l6 l7 σ = some o) : Gx Γ M_X4_run 0 τ (PV o) 0 0 111 [(0, .ref (Γ.B + pp l0)), (2, .int l2), (3, .int l3), (5, .int l5), (6, .int l6), (7, .int l7)] [] σ := by
  unfold f_X4_run_111 at h
  refine gx_iconst (v := (1 : Int32)) dX4_run_111 ic_1 ?_
  refine gx_goto 116 dX4_run_112 (by decide) ?_
  exact s_X4_run_116 hr_43 h
set_option maxRecDepth 4000 in
theorem s_X4_run_115 {Γ : Cn} {τ : Mm} {N : Nat} {r_43 : Nat → Int32 → Int32 → Int32 → Int32 → Int32 → Mm → Option Mm} (hr_43 : ∀ (l0 : Nat) (l2 : Int32) (l3 : Int32) (l5 : Int32) (l6 : Int32) (l7 : Int32) (σ : Mm) (o : Mm), r_43 l0 l2 l3 l5 l6 l7 σ = some o → Gx Γ M_X4_run 0 τ (PV o) 0 0 43 [(0, .ref (Γ.B + pp l0)), (2, .int l2), (3, .int l3), (5, .int l5), (6, .int l6), (7, .int l7)] [] σ) {l0 : Nat} {l2 : Int32} {l3 : Int32} {l5 : Int32} {l6 : Int32} {l7 : Int32} {σ : Mm} {o : Mm} (h : f_X4_run_115 N r_43 l0 l2 l3 l5 l6 l7 σ = some o) : Gx Γ M_X4_run 0 τ (PV o) 0 0 115 [(0, .ref (Γ.B + pp l0)), (2, .int l2), (3, .int l3), (5, .int l5), (6, .int l6), (7, .int l7)] [] σ := by
  unfold f_X4_run_115 at h
  refine gx_iconst (v := (0 : Int32)) dX4_run_115 ic_0 ?_
  exact s_X4_run_116 hr_43 h
set_option maxRecDepth 4000 in
theorem s_X4_run_43 {Γ : Cn} {τ : Mm} {N : Nat} : ∀ (n : Nat) (l0 : Nat) (l2 : Int32) (l3 : Int32) (l5 : Int32) (l6 : Int32) (l7 : Int32) (σ : Mm) (o : Mm), f_X4_run_43 N n l0 l2 l3 l5 l6 l7 σ = some o → Gx Γ M_X4_run 0 τ (PV o) 0 0 43 [(0, .ref (Γ.B + pp l0)), (2, .int l2), (3, .int l3), (5, .int l5), (6, .int l6), (7, .int l7)] [] σ := by
  intro n
  induction n with
  | zero =>
    intro l0 l2 l3 l5 l6 l7 σ o h
    exact absurd h (by rw [f_X4_run_43]; exact fun q => nomatch q)
  | succ n ih =>
    intro l0 l2 l3 l5 l6 l7 σ o h
    rw [f_X4_run_43] at h
    refine gx_iload 5 dX4_run_43 rfl ?_
    refine gx_iconst (v := (1 : Int32)) dX4_run_45 ic_1 ?_
    refine gx_aload_n 0 dX4_run_46 rfl rfl ?_
    obtain ⟨x1, hx1, h⟩ := bnd h
    refine gx_getI dX4_run_47 hx1 fl_X4_24 rfl ?_
    refine gx_ishl dX4_run_50 ?_
    refine gx_icmp_ge 171 dX4_run_51 (by decide) (fun c1 => ?_) (fun c1 => ?_)
    · rw [if_pos c1] at h
      exact gx_sub [0, 3] rfl (s_X4_run_171  h)
    · rw [if_neg c1] at h
      refine gx_iload 5 dX4_run_54 rfl ?_
      refine gx_sipush (v := (4096 : Int32)) dX4_run_56 is_4096 ?_
      refine gx_icmp_ge 171 dX4_run_59 (by decide) (fun c2 => ?_) (fun c2 => ?_)
      · rw [if_pos c2] at h
        exact gx_sub [0, 3] rfl (s_X4_run_171  h)
      · rw [if_neg c2] at h
        refine gx_iload 4 dX4_run_62 rfl ?_
        refine gx_aload_n 0 dX4_run_64 rfl rfl ?_
        refine gx_iload 5 dX4_run_65 rfl ?_
        obtain ⟨_, hobq4, h⟩ := bnd h
        obtain ⟨q4, hq4, h⟩ := bnd h
        refine gx_cVI (As := [.int l7]) (st := [.int l6]) (o := l0) dX4_run_67 (c_X4_flip hq4) mov_X4_flip tw_882 hobq4 rfl ⟨Nat.le_of_ble_eq_true rfl, Nat.le_of_ble_eq_true rfl⟩ (Nat.le_of_ble_eq_true rfl) ?_
        refine gx_iadd dX4_run_70 ?_
        refine gx_istore (lv' := [(6, .int (l6 + q4.1)), (0, .ref (Γ.B + pp l0)), (2, .int l2), (3, .int l3), (5, .int l5), (7, .int l7)]) dX4_run_71 (Nat.le_of_ble_eq_true rfl) rfl ?_
        refine gx_aload_n 1 dX4_run_73 rfl rfl ?_
        obtain ⟨x5, hx5, h⟩ := bnd h
        refine gx_getI dX4_run_74 hx5 fl_X4_28 rfl ?_
        refine gx_if_eq 111 dX4_run_77 (by decide) (fun c5 => ?_) (fun c5 => ?_)
        · rw [if_pos c5] at h
          exact gx_sub [1, 2, 3, 4, 0, 5] rfl (s_X4_run_111 ih h)
        · rw [if_neg c5] at h
          refine gx_iload 0 dX4_run_80 rfl ?_
          refine gx_aload_n 1 dX4_run_82 rfl rfl ?_
          obtain ⟨x7, hx7, h⟩ := bnd h
          refine gx_getI dX4_run_83 hx7 fl_X4_32 rfl ?_
          refine gx_icmp_lt 111 dX4_run_86 (by decide) (fun c7 => ?_) (fun c7 => ?_)
          · rw [if_pos c7] at h
            exact gx_sub [1, 2, 3, 4, 0, 5] rfl (s_X4_run_111 ih h)
          · rw [if_neg c7] at h
            refine gx_iload 0 dX4_run_89 rfl ?_
            refine gx_aload_n 1 dX4_run_91 rfl rfl ?_
            obtain ⟨x9, hx9, h⟩ := bnd h
            refine gx_getI dX4_run_92 hx9 fl_X4_32 rfl ?_
            refine gx_icmp_ne 115 dX4_run_95 (by decide) (fun c9 => ?_) (fun c9 => ?_)
            · rw [if_neg c9] at h
              exact gx_sub [1, 2, 3, 4, 0, 5] rfl (s_X4_run_115 ih h)
            · rw [if_pos c9] at h
              refine gx_iload 5 dX4_run_98 rfl ?_
              obtain ⟨q11, hq11, h⟩ := bnd h
              refine gx_cSI (As := [.int l7]) (st := []) dX4_run_100 (c_J6_bitCount_0f7a4 hq11) mos_J6_bitCount_0f7a4 tw_890 rfl ⟨Nat.le_of_ble_eq_true rfl, Nat.le_of_ble_eq_true rfl⟩ (Nat.le_of_ble_eq_true rfl) ?_
              refine gx_iload 4 dX4_run_103 rfl ?_
              obtain ⟨q12, hq12, h⟩ := bnd h
              refine gx_cSI (As := [.int l5]) (st := [.int q11.1]) dX4_run_105 (c_J6_bitCount_0f7a4 hq12) mos_J6_bitCount_0f7a4 tw_890 rfl ⟨Nat.le_of_ble_eq_true rfl, Nat.le_of_ble_eq_true rfl⟩ (Nat.le_of_ble_eq_true rfl) ?_
              refine gx_icmp_ge 115 dX4_run_108 (by decide) (fun c12 => ?_) (fun c12 => ?_)
              · rw [if_pos c12] at h
                exact gx_sub [1, 2, 3, 4, 0, 5] rfl (s_X4_run_115 ih h)
              · rw [if_neg c12] at h
                exact gx_sub [1, 2, 3, 4, 0, 5] rfl (s_X4_run_111 ih h)
set_option maxRecDepth 4000 in
theorem s_X4_run_0 {Γ : Cn} {τ : Mm} {N : Nat} {l0 : Nat} {l1 : Nat} {l2 : Int32} {l3 : Int32} {l4 : Int32} {σ : Mm} {o : Mm} (h : f_X4_run N l0 l1 l2 l3 l4 σ = some o) : Gx Γ M_X4_run 0 τ (PV o) 0 0 0 [(0, .ref (Γ.B + pp l0)), (1, .ref (Γ.B + pp l1)), (2, .int l2), (3, .int l3), (4, .int l4)] [] σ := by
  unfold f_X4_run at h
  refine gx_aload_n 0 dX4_run_0 rfl rfl ?_
  refine gx_aload_n 1 dX4_run_1 rfl rfl ?_
  refine gx_iload 4 dX4_run_2 rfl ?_
  obtain ⟨_, hobq1, h⟩ := bnd h
  obtain ⟨q1, hq1, h⟩ := bnd h
  refine gx_cVV (As := [.ref (Γ.B + pp l1), .int l4]) (st := []) (o := l0) dX4_run_4 (c_X4_listFree hq1) mov_X4_listFree tw_872 hobq1 rfl ⟨Nat.le_of_ble_eq_true rfl, Nat.le_of_ble_eq_true rfl⟩ (Nat.le_of_ble_eq_true rfl) ?_
  refine gx_aload_n 0 dX4_run_7 rfl rfl ?_
  obtain ⟨a2, ha2, h⟩ := bnd h
  refine gx_getN dX4_run_8 ha2 fl_X4_38 rfl ?_
  refine gx_aload_n 1 dX4_run_11 rfl rfl ?_
  refine gx_aload_n 0 dX4_run_12 rfl rfl ?_
  obtain ⟨a3, ha3, h⟩ := bnd h
  refine gx_getN dX4_run_13 ha3 fl_X4_9 rfl ?_
  obtain ⟨_, hobq4, h⟩ := bnd h
  obtain ⟨q4, hq4, h⟩ := bnd h
  refine gx_cVV (As := [.ref (Γ.B + pp l1), .ref (Γ.B + pp a3)]) (st := []) (o := a2) dX4_run_16 (c_X1_open hq4) mov_X1_open tw_881 hobq4 rfl ⟨Nat.le_of_ble_eq_true rfl, Nat.le_of_ble_eq_true rfl⟩ (Nat.le_of_ble_eq_true rfl) ?_
  refine gx_aload_n 0 dX4_run_19 rfl rfl ?_
  refine gx_iconst (v := (0 : Int32)) dX4_run_20 ic_0 ?_
  obtain ⟨s5, hs5, h⟩ := bnd h
  refine gx_putZ dX4_run_21 hs5 fl_X4_28 fp_X4_4_6 rfl ?_
  refine gx_aload_n 0 dX4_run_24 rfl rfl ?_
  refine gx_iconst (v := (0 : Int32)) dX4_run_25 ic_0 ?_
  obtain ⟨s6, hs6, h⟩ := bnd h
  refine gx_putI dX4_run_26 hs6 fl_X4_32 fp_X4_4_7 rfl ?_
  refine gx_aload_n 0 dX4_run_29 rfl rfl ?_
  refine gx_iconst (v := (0 : Int32)) dX4_run_30 ic_0 ?_
  obtain ⟨s7, hs7, h⟩ := bnd h
  refine gx_putI dX4_run_31 hs7 fl_X4_35 fp_X4_4_8 rfl ?_
  refine gx_iconst (v := (0 : Int32)) dX4_run_34 ic_0 ?_
  refine gx_istore (lv' := [(5, .int (0 : Int32)), (0, .ref (Γ.B + pp l0)), (1, .ref (Γ.B + pp l1)), (2, .int l2), (3, .int l3), (4, .int l4)]) dX4_run_35 (Nat.le_of_ble_eq_true rfl) rfl ?_
  refine gx_iconst (v := (0 : Int32)) dX4_run_37 ic_0 ?_
  refine gx_istore (lv' := [(6, .int (0 : Int32)), (5, .int (0 : Int32)), (0, .ref (Γ.B + pp l0)), (1, .ref (Γ.B + pp l1)), (2, .int l2), (3, .int l3), (4, .int l4)]) dX4_run_38 (Nat.le_of_ble_eq_true rfl) rfl ?_
  refine gx_iconst (v := (0 : Int32)) dX4_run_40 ic_0 ?_
  refine gx_istore (lv' := [(7, .int (0 : Int32)), (6, .int (0 : Int32)), (5, .int (0 : Int32)), (0, .ref (Γ.B + pp l0)), (1, .ref (Γ.B + pp l1)), (2, .int l2), (3, .int l3), (4, .int l4)]) dX4_run_41 (Nat.le_of_ble_eq_true rfl) rfl ?_
  exact gx_sub [3, 5, 6, 2, 1, 0] rfl (s_X4_run_43  N _ _ _ _ _ _ _ _ h)
theorem c_X4_run {Γ : Cn} {τ : Mm} {N : Nat} {l0 : Nat} {l1 : Nat} {l2 : Int32} {l3 : Int32} {l4 : Int32} {σ : Mm} {o : Mm} (h : f_X4_run N l0 l1 l2 l3 l4 σ = some o) : Ct Γ M_X4_run yX4_run 0 τ [.ref (Γ.B + pp l0), .ref (Γ.B + pp l1), .int l2, .int l3, .int l4] σ (PV o) := ct_of (by decide) rfl (fun _ => by first | rfl | contradiction) (Nat.le_of_ble_eq_true rfl) (s_X4_run_0  h)
abbrev M_X4_unlikeCases : Ms := (cX4_unlikeCases, RX4, 9, (some .int), false, 0, 0, 4)
def f_X4_unlikeCases_54 (N : Nat) (r_8 : Nat → Nat → Int32 → Int32 → Int32 → Int32 → Int32 → Mm → Option (Int32 × Mm)) (l0 : Nat) (l1 : Nat) (l2 : Int32) (l3 : Int32) (l4 : Int32) (l5 : Int32) (l6 : Int32) (σ : Mm) : Option (Int32 × Mm) :=
  r_8 l0 l1 l2 l3 l4 l5 (l6 + (1 : Int32)) σ
def f_X4_unlikeCases_150 (N : Nat) (r_78 : Nat → Int32 → Int32 → Int32 → Int32 → Int32 → Int32 → Mm → Option (Int32 × Mm)) (l0 : Nat) (l2 : Int32) (l3 : Int32) (l4 : Int32) (l5 : Int32) (l6 : Int32) (l7 : Int32) (σ : Mm) : Option (Int32 × Mm) :=
  r_78 l0 l2 l3 l4 l5 l6 (l7 + (1 : Int32)) σ
def f_X4_unlikeCases_156 (N : Nat) (l6 : Int32) (σ : Mm) : Option (Int32 × Mm) :=
  some (l6, σ)
def f_X4_unlikeCases_78 (N : Nat) : Nat → Nat → Int32 → Int32 → Int32 → Int32 → Int32 → Int32 → Mm → Option (Int32 × Mm)
  | 0, _, _, _, _, _, _, _, _ => none
  | n + 1, l0, l2, l3, l4, l5, l6, l7, σ =>
      (gI 4 5 σ l0).bind fun x1 =>
      if ((1 : Int32) <<< (x1 &&& 31)) ≤ l7 then (
        f_X4_unlikeCases_156 N l6 σ) else (
        if (4096 : Int32) ≤ l7 then (
          f_X4_unlikeCases_156 N l6 σ) else (
          (ob 4 σ l0).bind fun _ =>
          (f_X4_flip N l0 l7 σ).bind fun q4 =>
          (gN 4 0 q4.2 l0).bind fun a5 =>
          (ob 1 q4.2 a5).bind fun _ =>
          (f_X1_put N a5 l3 l4 q4.2).bind fun q6 =>
          (gN 4 0 q6 l0).bind fun a7 =>
          (ob 1 q6 a7).bind fun _ =>
          (f_X1_winner N a7 l2 q6).bind fun q8 =>
          (gN 4 0 q8.2 l0).bind fun a9 =>
          (ob 1 q8.2 a9).bind fun _ =>
          (f_X1_put N a9 l3 l5 q8.2).bind fun q10 =>
          (gN 4 0 q10 l0).bind fun a11 =>
          (ob 1 q10 a11).bind fun _ =>
          (f_X1_winner N a11 l2 q10).bind fun q12 =>
          if q12.1 = q8.1 then (
            f_X4_unlikeCases_150 N (f_X4_unlikeCases_78 N n) l0 l2 l3 l4 l5 l6 l7 q12.2) else (
            f_X4_unlikeCases_150 N (f_X4_unlikeCases_78 N n) l0 l2 l3 l4 l5 (l6 + (1 : Int32)) l7 q12.2)))
def f_X4_unlikeCases_60 (N : Nat) (l0 : Nat) (l1 : Nat) (l2 : Int32) (l3 : Int32) (l4 : Int32) (l5 : Int32) (σ : Mm) : Option (Int32 × Mm) :=
  (gN 4 0 σ l0).bind fun a1 =>
  (gN 4 1 σ l0).bind fun a2 =>
  (ob 1 σ a1).bind fun _ =>
  (f_X1_open N a1 l1 a2 σ).bind fun q3 =>
  f_X4_unlikeCases_78 N N l0 l2 l3 l4 l5 (0 : Int32) (0 : Int32) q3
def f_X4_unlikeCases_8 (N : Nat) : Nat → Nat → Nat → Int32 → Int32 → Int32 → Int32 → Int32 → Mm → Option (Int32 × Mm)
  | 0, _, _, _, _, _, _, _, _ => none
  | n + 1, l0, l1, l2, l3, l4, l5, l6, σ =>
      (gI 7 0 σ l1).bind fun x1 =>
      if x1 ≤ l6 then (
        f_X4_unlikeCases_60 N l0 l1 l2 l3 l4 l5 σ) else (
        if (12 : Int32) ≤ l6 then (
          f_X4_unlikeCases_60 N l0 l1 l2 l3 l4 l5 σ) else (
          (gN 4 1 σ l0).bind fun a4 =>
          (sI 13 σ a4 l6 l4).bind fun s5 =>
          (gN 4 2 s5 l0).bind fun a6 =>
          (sI 13 s5 a6 l6 l5).bind fun s7 =>
          if l6 = l3 then (
            f_X4_unlikeCases_54 N (f_X4_unlikeCases_8 N n) l0 l1 l2 l3 l4 l5 l6 s7) else (
            (ob 4 s7 l0).bind fun _ =>
            (f_X4_addFree N l0 l6 s7).bind fun q9 =>
            f_X4_unlikeCases_54 N (f_X4_unlikeCases_8 N n) l0 l1 l2 l3 l4 l5 l6 q9)))
def f_X4_unlikeCases (N : Nat) (l0 : Nat) (l1 : Nat) (l2 : Int32) (l3 : Int32) (l4 : Int32) (l5 : Int32) (σ : Mm) : Option (Int32 × Mm) :=
  (pI 4 5 σ l0 (0 : Int32)).bind fun s1 =>
  f_X4_unlikeCases_8 N N l0 l1 l2 l3 l4 l5 (0 : Int32) s1
theorem mov_X4_unlikeCases : MOV yX4_unlikeCases M_X4_unlikeCases 5 4 0 := ⟨⟨tw_105, tw_928, ⟨by decide, by decide⟩, by decide +kernel⟩, tw_926, tw_927, by decide, ⟨_, rfl, rfl⟩, rfl⟩
set_option maxRecDepth 4000 in
theorem s_X4_unlikeCases_54 {Γ : Cn} {τ : Mm} {N : Nat} {r_8 : Nat → Nat → Int32 → Int32 → Int32 → Int32 → Int32 → Mm → Option (Int32 × Mm)} (hr_8 : ∀ (l0 : Nat) (l1 : Nat) (l2 : Int32) (l3 : Int32) (l4 : Int32) (l5 : Int32) (l6 : Int32) (σ : Mm) (o : Int32 × Mm), r_8 l0 l1 l2 l3 l4 l5 l6 σ = some o → Gx Γ M_X4_unlikeCases 0 τ (PI o) 0 0 8 [(0, .ref (Γ.B + pp l0)), (1, .ref (Γ.B + pp l1)), (2, .int l2), (3, .int l3), (4, .int l4), (5, .int l5), (6, .int l6)] [] σ) {l0 : Nat} {l1 : Nat} {l2 : Int32} {l3 : Int32} {l4 : Int32} {l5 : Int32} {l6 : Int32} {σ : Mm} {o : Int32 × Mm} (h : f_X4_unlikeCases_54 N r_8 l0 l1 l2 l3 l4 l5 l6 σ = some o) : Gx Γ M_X4_unlikeCases 0 τ (PI o) 0 0 54 [(0, .ref (Γ.B + pp l0)), (1, .ref (Γ.B + pp l1)), (2, .int l2), (3, .int l3), (4, .int l4), (5, .int l5), (6, .int l6)] [] σ := by
  unfold f_X4_unlikeCases_54 at h
  refine gx_iinc (v := (l6 + (1 : Int32))) (lv' := [(6, .int (l6 + (1 : Int32))), (0, .ref (Γ.B + pp l0)), (1, .ref (Γ.B + pp l1)), (2, .int l2), (3, .int l3), (4, .int l4), (5, .int l5)]) 6 dX4_unlikeCases_54 rfl (by rw [ic_1]) (Nat.le_of_ble_eq_true rfl) rfl ?_
  refine gx_goto 8 dX4_unlikeCases_57 (by decide) ?_
  exact gx_sub [1, 2, 3, 4, 5, 6, 0] rfl (hr_8 _ _ _ _ _ _ _ _ _ h)
set_option maxRecDepth 4000 in
theorem s_X4_unlikeCases_150 {Γ : Cn} {τ : Mm} {N : Nat} {r_78 : Nat → Int32 → Int32 → Int32 → Int32 → Int32 → Int32 → Mm → Option (Int32 × Mm)} (hr_78 : ∀ (l0 : Nat) (l2 : Int32) (l3 : Int32) (l4 : Int32) (l5 : Int32) (l6 : Int32) (l7 : Int32) (σ : Mm) (o : Int32 × Mm), r_78 l0 l2 l3 l4 l5 l6 l7 σ = some o → Gx Γ M_X4_unlikeCases 0 τ (PI o) 0 0 78 [(0, .ref (Γ.B + pp l0)), (2, .int l2), (3, .int l3), (4, .int l4), (5, .int l5), (6, .int l6), (7, .int l7)] [] σ) {l0 : Nat} {l2 : Int32} {l3 : Int32} {l4 : Int32} {l5 : Int32} {l6 : Int32} {l7 : Int32} {σ : Mm} {o : Int32 × Mm} (h : f_X4_unlikeCases_150 N r_78 l0 l2 l3 l4 l5 l6 l7 σ = some o) : Gx Γ M_X4_unlikeCases 0 τ (PI o) 0 0 150 [(0, .ref (Γ.B + pp l0)), (2, .int l2), (3, .int l3), (4, .int l4), (5, .int l5), (6, .int l6), (7, .int l7)] [] σ := by
  unfold f_X4_unlikeCases_150 at h
  refine gx_iinc (v := (l7 + (1 : Int32))) (lv' := [(7, .int (l7 + (1 : Int32))), (0, .ref (Γ.B + pp l0)), (2, .int l2), (3, .int l3), (4, .int l4), (5, .int l5), (6, .int l6)]) 6 dX4_unlikeCases_150 rfl (by rw [ic_1]) (Nat.le_of_ble_eq_true rfl) rfl ?_
  refine gx_goto 78 dX4_unlikeCases_153 (by decide) ?_
  exact gx_sub [1, 2, 3, 4, 5, 6, 0] rfl (hr_78 _ _ _ _ _ _ _ _ _ h)
set_option maxRecDepth 4000 in
theorem s_X4_unlikeCases_156 {Γ : Cn} {τ : Mm} {N : Nat} {l6 : Int32} {σ : Mm} {o : Int32 × Mm} (h : f_X4_unlikeCases_156 N l6 σ = some o) : Gx Γ M_X4_unlikeCases 0 τ (PI o) 0 0 156 [(6, .int l6)] [] σ := by
  unfold f_X4_unlikeCases_156 at h
  refine gx_iload 0 dX4_unlikeCases_156 rfl ?_
  have h := Option.some.inj h
  subst h
  exact gx_iret dX4_unlikeCases_158 rfl (Nat.le_of_ble_eq_true rfl) (Nat.le_of_ble_eq_true rfl) ⟨rfl, rfl⟩
set_option maxRecDepth 4000 in
theorem s_X4_unlikeCases_78 {Γ : Cn} {τ : Mm} {N : Nat} : ∀ (n : Nat) (l0 : Nat) (l2 : Int32) (l3 : Int32) (l4 : Int32) (l5 : Int32) (l6 : Int32) (l7 : Int32) (σ : Mm) (o : Int32 × Mm), f_X4_unlikeCases_78 N n l0 l2 l3 l4 l5 l6 l7 σ = some o → Gx Γ M_X4_unlikeCases 0 τ (PI o) 0 0 78 [(0, .ref (Γ.B + pp l0)), (2, .int l2), (3, .int l3), (4, .int l4), (5, .int l5), (6, .int l6), (7, .int l7)] [] σ := by
  intro n
  induction n with
  | zero =>
    intro l0 l2 l3 l4 l5 l6 l7 σ o h
    exact absurd h (by rw [f_X4_unlikeCases_78]; exact fun q => nomatch q)
  | succ n ih =>
    intro l0 l2 l3 l4 l5 l6 l7 σ o h
    rw [f_X4_unlikeCases_78] at h
    refine gx_iload 6 dX4_unlikeCases_78 rfl ?_
    refine gx_iconst (v := (1 : Int32)) dX4_unlikeCases_80 ic_1 ?_
    refine gx_aload_n 0 dX4_unlikeCases_81 rfl rfl ?_
    obtain ⟨x1, hx1, h⟩ := bnd h
    refine gx_getI dX4_unlikeCases_82 hx1 fl_X4_24 rfl ?_
    refine gx_ishl dX4_unlikeCases_85 ?_
    refine gx_icmp_ge 156 dX4_unlikeCases_86 (by decide) (fun c1 => ?_) (fun c1 => ?_)
    · rw [if_pos c1] at h
      exact gx_sub [5] rfl (s_X4_unlikeCases_156  h)
    · rw [if_neg c1] at h
      refine gx_iload 6 dX4_unlikeCases_89 rfl ?_
      refine gx_sipush (v := (4096 : Int32)) dX4_unlikeCases_91 is_4096 ?_
      refine gx_icmp_ge 156 dX4_unlikeCases_94 (by decide) (fun c2 => ?_) (fun c2 => ?_)
      · rw [if_pos c2] at h
        exact gx_sub [5] rfl (s_X4_unlikeCases_156  h)
      · rw [if_neg c2] at h
        refine gx_aload_n 0 dX4_unlikeCases_97 rfl rfl ?_
        refine gx_iload 6 dX4_unlikeCases_98 rfl ?_
        obtain ⟨_, hobq4, h⟩ := bnd h
        obtain ⟨q4, hq4, h⟩ := bnd h
        refine gx_cVI (As := [.int l7]) (st := []) (o := l0) dX4_unlikeCases_100 (c_X4_flip hq4) mov_X4_flip tw_882 hobq4 rfl ⟨Nat.le_of_ble_eq_true rfl, Nat.le_of_ble_eq_true rfl⟩ (Nat.le_of_ble_eq_true rfl) ?_
        refine gx_pop dX4_unlikeCases_103 rfl ?_
        refine gx_aload_n 0 dX4_unlikeCases_104 rfl rfl ?_
        obtain ⟨a5, ha5, h⟩ := bnd h
        refine gx_getN dX4_unlikeCases_105 ha5 fl_X4_38 rfl ?_
        refine gx_iload_n 2 dX4_unlikeCases_108 rfl rfl ?_
        refine gx_iload 3 dX4_unlikeCases_109 rfl ?_
        obtain ⟨_, hobq6, h⟩ := bnd h
        obtain ⟨q6, hq6, h⟩ := bnd h
        refine gx_cVV (As := [.int l3, .int l4]) (st := []) (o := a5) dX4_unlikeCases_111 (c_X1_put hq6) mov_X1_put tw_886 hobq6 rfl ⟨Nat.le_of_ble_eq_true rfl, Nat.le_of_ble_eq_true rfl⟩ (Nat.le_of_ble_eq_true rfl) ?_
        refine gx_aload_n 0 dX4_unlikeCases_114 rfl rfl ?_
        obtain ⟨a7, ha7, h⟩ := bnd h
        refine gx_getN dX4_unlikeCases_115 ha7 fl_X4_38 rfl ?_
        refine gx_iload_n 1 dX4_unlikeCases_118 rfl rfl ?_
        obtain ⟨_, hobq8, h⟩ := bnd h
        obtain ⟨q8, hq8, h⟩ := bnd h
        refine gx_cVI (As := [.int l2]) (st := []) (o := a7) dX4_unlikeCases_119 (c_X1_winner hq8) mov_X1_winner tw_896 hobq8 rfl ⟨Nat.le_of_ble_eq_true rfl, Nat.le_of_ble_eq_true rfl⟩ (Nat.le_of_ble_eq_true rfl) ?_
        refine gx_istore (lv' := [(8, .int q8.1), (0, .ref (Γ.B + pp l0)), (2, .int l2), (3, .int l3), (4, .int l4), (5, .int l5), (6, .int l6), (7, .int l7)]) dX4_unlikeCases_122 (Nat.le_of_ble_eq_true rfl) rfl ?_
        refine gx_aload_n 1 dX4_unlikeCases_124 rfl rfl ?_
        obtain ⟨a9, ha9, h⟩ := bnd h
        refine gx_getN dX4_unlikeCases_125 ha9 fl_X4_38 rfl ?_
        refine gx_iload_n 3 dX4_unlikeCases_128 rfl rfl ?_
        refine gx_iload 5 dX4_unlikeCases_129 rfl ?_
        obtain ⟨_, hobq10, h⟩ := bnd h
        obtain ⟨q10, hq10, h⟩ := bnd h
        refine gx_cVV (As := [.int l3, .int l5]) (st := []) (o := a9) dX4_unlikeCases_131 (c_X1_put hq10) mov_X1_put tw_886 hobq10 rfl ⟨Nat.le_of_ble_eq_true rfl, Nat.le_of_ble_eq_true rfl⟩ (Nat.le_of_ble_eq_true rfl) ?_
        refine gx_aload_n 1 dX4_unlikeCases_134 rfl rfl ?_
        obtain ⟨a11, ha11, h⟩ := bnd h
        refine gx_getN dX4_unlikeCases_135 ha11 fl_X4_38 rfl ?_
        refine gx_iload_n 2 dX4_unlikeCases_138 rfl rfl ?_
        obtain ⟨_, hobq12, h⟩ := bnd h
        obtain ⟨q12, hq12, h⟩ := bnd h
        refine gx_cVI (As := [.int l2]) (st := []) (o := a11) dX4_unlikeCases_139 (c_X1_winner hq12) mov_X1_winner tw_896 hobq12 rfl ⟨Nat.le_of_ble_eq_true rfl, Nat.le_of_ble_eq_true rfl⟩ (Nat.le_of_ble_eq_true rfl) ?_
        refine gx_iload 0 dX4_unlikeCases_142 rfl ?_
        refine gx_icmp_eq 150 dX4_unlikeCases_144 (by decide) (fun c12 => ?_) (fun c12 => ?_)
        · rw [if_pos c12] at h
          exact gx_sub [1, 2, 3, 4, 5, 6, 7] rfl (s_X4_unlikeCases_150 ih h)
        · rw [if_neg c12] at h
          refine gx_iinc (v := (l6 + (1 : Int32))) (lv' := [(6, .int (l6 + (1 : Int32))), (8, .int q8.1), (0, .ref (Γ.B + pp l0)), (2, .int l2), (3, .int l3), (4, .int l4), (5, .int l5), (7, .int l7)]) 6 dX4_unlikeCases_147 rfl (by rw [ic_1]) (Nat.le_of_ble_eq_true rfl) rfl ?_
          exact gx_sub [2, 3, 4, 5, 6, 0, 7] rfl (s_X4_unlikeCases_150 ih h)
set_option maxRecDepth 4000 in
theorem s_X4_unlikeCases_60 {Γ : Cn} {τ : Mm} {N : Nat} {l0 : Nat} {l1 : Nat} {l2 : Int32} {l3 : Int32} {l4 : Int32} {l5 : Int32} {σ : Mm} {o : Int32 × Mm} (h : f_X4_unlikeCases_60 N l0 l1 l2 l3 l4 l5 σ = some o) : Gx Γ M_X4_unlikeCases 0 τ (PI o) 0 0 60 [(0, .ref (Γ.B + pp l0)), (1, .ref (Γ.B + pp l1)), (2, .int l2), (3, .int l3), (4, .int l4), (5, .int l5)] [] σ := by
  unfold f_X4_unlikeCases_60 at h
  refine gx_aload_n 0 dX4_unlikeCases_60 rfl rfl ?_
  obtain ⟨a1, ha1, h⟩ := bnd h
  refine gx_getN dX4_unlikeCases_61 ha1 fl_X4_38 rfl ?_
  refine gx_aload_n 1 dX4_unlikeCases_64 rfl rfl ?_
  refine gx_aload_n 0 dX4_unlikeCases_65 rfl rfl ?_
  obtain ⟨a2, ha2, h⟩ := bnd h
  refine gx_getN dX4_unlikeCases_66 ha2 fl_X4_9 rfl ?_
  obtain ⟨_, hobq3, h⟩ := bnd h
  obtain ⟨q3, hq3, h⟩ := bnd h
  refine gx_cVV (As := [.ref (Γ.B + pp l1), .ref (Γ.B + pp a2)]) (st := []) (o := a1) dX4_unlikeCases_69 (c_X1_open hq3) mov_X1_open tw_881 hobq3 rfl ⟨Nat.le_of_ble_eq_true rfl, Nat.le_of_ble_eq_true rfl⟩ (Nat.le_of_ble_eq_true rfl) ?_
  refine gx_iconst (v := (0 : Int32)) dX4_unlikeCases_72 ic_0 ?_
  refine gx_istore (lv' := [(6, .int (0 : Int32)), (0, .ref (Γ.B + pp l0)), (1, .ref (Γ.B + pp l1)), (2, .int l2), (3, .int l3), (4, .int l4), (5, .int l5)]) dX4_unlikeCases_73 (Nat.le_of_ble_eq_true rfl) rfl ?_
  refine gx_iconst (v := (0 : Int32)) dX4_unlikeCases_75 ic_0 ?_
  refine gx_istore (lv' := [(7, .int (0 : Int32)), (6, .int (0 : Int32)), (0, .ref (Γ.B + pp l0)), (1, .ref (Γ.B + pp l1)), (2, .int l2), (3, .int l3), (4, .int l4), (5, .int l5)]) dX4_unlikeCases_76 (Nat.le_of_ble_eq_true rfl) rfl ?_
  exact gx_sub [2, 4, 5, 6, 7, 1, 0] rfl (s_X4_unlikeCases_78  N _ _ _ _ _ _ _ _ _ h)
set_option maxRecDepth 4000 in
theorem s_X4_unlikeCases_8 {Γ : Cn} {τ : Mm} {N : Nat} : ∀ (n : Nat) (l0 : Nat) (l1 : Nat) (l2 : Int32) (l3 : Int32) (l4 : Int32) (l5 : Int32) (l6 : Int32) (σ : Mm) (o : Int32 × Mm), f_X4_unlikeCases_8 N n l0 l1 l2 l3 l4 l5 l6 σ = some o → Gx Γ M_X4_unlikeCases 0 τ (PI o) 0 0 8 [(0, .ref (Γ.B + pp l0)), (1, .ref (Γ.B + pp l1)), (2, .int l2), (3, .int l3), (4, .int l4), (5, .int l5), (6, .int l6)] [] σ := by
  intro n
  induction n with
  | zero =>
    intro l0 l1 l2 l3 l4 l5 l6 σ o h
    exact absurd h (by rw [f_X4_unlikeCases_8]; exact fun q => nomatch q)
  | succ n ih =>
    intro l0 l1 l2 l3 l4 l5 l6 σ o h
    rw [f_X4_unlikeCases_8] at h
    refine gx_iload 6 dX4_unlikeCases_8 rfl ?_
    refine gx_aload_n 1 dX4_unlikeCases_10 rfl rfl ?_
    obtain ⟨x1, hx1, h⟩ := bnd h
    refine gx_getI dX4_unlikeCases_11 hx1 fl_X4_53 rfl ?_
    refine gx_icmp_ge 60 dX4_unlikeCases_14 (by decide) (fun c1 => ?_) (fun c1 => ?_)
    · rw [if_pos c1] at h
      exact gx_sub [0, 1, 2, 3, 4, 5] rfl (s_X4_unlikeCases_60  h)
    · rw [if_neg c1] at h
      refine gx_iload 6 dX4_unlikeCases_17 rfl ?_
      refine gx_bipush (v := (12 : Int32)) dX4_unlikeCases_19 ib_12 ?_
      refine gx_icmp_ge 60 dX4_unlikeCases_21 (by decide) (fun c2 => ?_) (fun c2 => ?_)
      · rw [if_pos c2] at h
        exact gx_sub [0, 1, 2, 3, 4, 5] rfl (s_X4_unlikeCases_60  h)
      · rw [if_neg c2] at h
        refine gx_aload_n 0 dX4_unlikeCases_24 rfl rfl ?_
        obtain ⟨a4, ha4, h⟩ := bnd h
        refine gx_getN dX4_unlikeCases_25 ha4 fl_X4_9 rfl ?_
        refine gx_iload 6 dX4_unlikeCases_28 rfl ?_
        refine gx_iload 4 dX4_unlikeCases_30 rfl ?_
        obtain ⟨s5, hs5, h⟩ := bnd h
        refine gx_iast (kd := 13) dX4_unlikeCases_32 hs5 rfl rfl ?_
        refine gx_aload_n 0 dX4_unlikeCases_33 rfl rfl ?_
        obtain ⟨a6, ha6, h⟩ := bnd h
        refine gx_getN dX4_unlikeCases_34 ha6 fl_X4_15 rfl ?_
        refine gx_iload 6 dX4_unlikeCases_37 rfl ?_
        refine gx_iload 5 dX4_unlikeCases_39 rfl ?_
        obtain ⟨s7, hs7, h⟩ := bnd h
        refine gx_iast (kd := 13) dX4_unlikeCases_41 hs7 rfl rfl ?_
        refine gx_iload 6 dX4_unlikeCases_42 rfl ?_
        refine gx_iload_n 3 dX4_unlikeCases_44 rfl rfl ?_
        refine gx_icmp_eq 54 dX4_unlikeCases_45 (by decide) (fun c7 => ?_) (fun c7 => ?_)
        · rw [if_pos c7] at h
          exact s_X4_unlikeCases_54 ih h
        · rw [if_neg c7] at h
          refine gx_aload_n 0 dX4_unlikeCases_48 rfl rfl ?_
          refine gx_iload 6 dX4_unlikeCases_49 rfl ?_
          obtain ⟨_, hobq9, h⟩ := bnd h
          obtain ⟨q9, hq9, h⟩ := bnd h
          refine gx_cVV (As := [.int l6]) (st := []) (o := l0) dX4_unlikeCases_51 (c_X4_addFree hq9) mov_X4_addFree tw_876 hobq9 rfl ⟨Nat.le_of_ble_eq_true rfl, Nat.le_of_ble_eq_true rfl⟩ (Nat.le_of_ble_eq_true rfl) ?_
          exact s_X4_unlikeCases_54 ih h
set_option maxRecDepth 4000 in
theorem s_X4_unlikeCases_0 {Γ : Cn} {τ : Mm} {N : Nat} {l0 : Nat} {l1 : Nat} {l2 : Int32} {l3 : Int32} {l4 : Int32} {l5 : Int32} {σ : Mm} {o : Int32 × Mm} (h : f_X4_unlikeCases N l0 l1 l2 l3 l4 l5 σ = some o) : Gx Γ M_X4_unlikeCases 0 τ (PI o) 0 0 0 [(0, .ref (Γ.B + pp l0)), (1, .ref (Γ.B + pp l1)), (2, .int l2), (3, .int l3), (4, .int l4), (5, .int l5)] [] σ := by
  unfold f_X4_unlikeCases at h
  refine gx_aload_n 0 dX4_unlikeCases_0 rfl rfl ?_
  refine gx_iconst (v := (0 : Int32)) dX4_unlikeCases_1 ic_0 ?_
  obtain ⟨s1, hs1, h⟩ := bnd h
  refine gx_putI dX4_unlikeCases_2 hs1 fl_X4_24 fp_X4_4_5 rfl ?_
  refine gx_iconst (v := (0 : Int32)) dX4_unlikeCases_5 ic_0 ?_
  refine gx_istore (lv' := [(6, .int (0 : Int32)), (0, .ref (Γ.B + pp l0)), (1, .ref (Γ.B + pp l1)), (2, .int l2), (3, .int l3), (4, .int l4), (5, .int l5)]) dX4_unlikeCases_6 (Nat.le_of_ble_eq_true rfl) rfl ?_
  exact gx_sub [1, 2, 3, 4, 5, 6, 0] rfl (s_X4_unlikeCases_8  N _ _ _ _ _ _ _ _ _ h)
theorem c_X4_unlikeCases {Γ : Cn} {τ : Mm} {N : Nat} {l0 : Nat} {l1 : Nat} {l2 : Int32} {l3 : Int32} {l4 : Int32} {l5 : Int32} {σ : Mm} {o : Int32 × Mm} (h : f_X4_unlikeCases N l0 l1 l2 l3 l4 l5 σ = some o) : Ct Γ M_X4_unlikeCases yX4_unlikeCases 0 τ [.ref (Γ.B + pp l0), .ref (Γ.B + pp l1), .int l2, .int l3, .int l4, .int l5] σ (PI o) := ct_of (by decide) rfl (fun _ => by first | rfl | contradiction) (Nat.le_of_ble_eq_true rfl) (s_X4_unlikeCases_0  h)
abbrev M_X5_init : Ms := (cX5_init, RX5, 1, none, true, 1, 400, 1)
def f_X5_init (N : Nat) (l0 : Nat) (σ : Mm) : Option Mm :=
  (nA 13 σ (400 : Int32)).bind fun s1 =>
  (pR 5 0 s1 l0 (some (pq (nn σ)))).bind fun s2 =>
  (pI 5 1 s2 l0 (0 : Int32)).bind fun s3 =>
  some s3
theorem moi_X5_init : MOI yX5_init M_X5_init 0 := ⟨⟨tw_97, tw_127, ⟨by decide, by decide⟩, by decide +kernel⟩, tw_126, rfl, rfl⟩
set_option maxRecDepth 4000 in
theorem s_X5_init_0 {Γ : Cn} {τ : Mm} {N : Nat} {l0 : Nat} {σ : Mm} {o : Mm} (h : f_X5_init N l0 σ = some o) : Gx Γ M_X5_init 0 τ (PV o) 0 0 0 [(0, .ref (Γ.B + pp l0))] [] σ := by
  unfold f_X5_init at h
  refine gx_aload_n 0 dX5_init_0 rfl rfl ?_
  refine gx_objInit dX5_init_1 tw_128 tw_oi tw_oc (Nat.le_of_ble_eq_true rfl) (Nat.le_of_ble_eq_true rfl) ?_
  refine gx_aload_n 0 dX5_init_4 rfl rfl ?_
  refine gx_sipush (v := (400 : Int32)) dX5_init_5 is_400 ?_
  obtain ⟨s1, hs1, h⟩ := bnd h
  refine gx_newI dX5_init_8 hs1 ac_I rfl (by decide) rfl (Nat.le_of_ble_eq_true rfl) (Nat.le_of_ble_eq_true rfl) ?_
  obtain ⟨s2, hs2, h⟩ := bnd h
  refine gx_putR (r := (some (pq (nn σ)))) dX5_init_10 hs2 fl_X5_9 fp_X5_5_0 (Or.inr ⟨_, rfl⟩) (fun _ => rfl) rfl ?_
  refine gx_aload_n 0 dX5_init_13 rfl rfl ?_
  refine gx_iconst (v := (0 : Int32)) dX5_init_14 ic_0 ?_
  obtain ⟨s3, hs3, h⟩ := bnd h
  refine gx_putI dX5_init_15 hs3 fl_X5_15 fp_X5_5_1 rfl ?_
  have h := Option.some.inj h
  subst h
  exact gx_vret dX5_init_18 rfl (Nat.le_of_ble_eq_true rfl) (Nat.le_of_ble_eq_true rfl) ⟨rfl, rfl⟩
theorem c_X5_init {Γ : Cn} {τ : Mm} {N : Nat} {l0 : Nat} {σ : Mm} {o : Mm} (h : f_X5_init N l0 σ = some o) : Ct Γ M_X5_init yX5_init 0 τ [.ref (Γ.B + pp l0)] σ (PV o) := ct_of (by decide) rfl (fun _ => by first | rfl | contradiction) (Nat.le_of_ble_eq_true rfl) (s_X5_init_0  h)
abbrev M_X5_append : Ms := (cX5_append, RX5, 3, none, false, 0, 0, 0)
def f_X5_append_43 (N : Nat) (r_3 : Nat → Int32 → Int32 → Mm → Option Mm) (l0 : Nat) (l1 : Int32) (l2 : Int32) (σ : Mm) : Option Mm :=
  r_3 l0 l1 (l2 + (-8 : Int32)) σ
def f_X5_append_3 (N : Nat) : Nat → Nat → Int32 → Int32 → Mm → Option Mm
  | 0, _, _, _, _ => none
  | n + 1, l0, l1, l2, σ =>
      if l2 < 0 then (
        some σ) else (
        (gI 5 1 σ l0).bind fun x2 =>
        if (400 : Int32) ≤ x2 then (
          f_X5_append_43 N (f_X5_append_3 N n) l0 l1 l2 σ) else (
          (gN 5 0 σ l0).bind fun a4 =>
          (gI 5 1 σ l0).bind fun x5 =>
          (sI 13 σ a4 x5 ((l1 >>> (l2 &&& 31)) &&& (255 : Int32))).bind fun s6 =>
          (gI 5 1 s6 l0).bind fun x7 =>
          (pI 5 1 s6 l0 (x7 + (1 : Int32))).bind fun s8 =>
          f_X5_append_43 N (f_X5_append_3 N n) l0 l1 l2 s8))
def f_X5_append (N : Nat) (l0 : Nat) (l1 : Int32) (σ : Mm) : Option Mm :=
  f_X5_append_3 N N l0 l1 (24 : Int32) σ
theorem mov_X5_append : MOV yX5_append M_X5_append 1 5 0 := ⟨⟨tw_97, tw_461, ⟨by decide, by decide⟩, by decide +kernel⟩, tw_459, tw_460, by decide, ⟨_, rfl, rfl⟩, rfl⟩
set_option maxRecDepth 4000 in
theorem s_X5_append_43 {Γ : Cn} {τ : Mm} {N : Nat} {r_3 : Nat → Int32 → Int32 → Mm → Option Mm} (hr_3 : ∀ (l0 : Nat) (l1 : Int32) (l2 : Int32) (σ : Mm) (o : Mm), r_3 l0 l1 l2 σ = some o → Gx Γ M_X5_append 0 τ (PV o) 0 0 3 [(0, .ref (Γ.B + pp l0)), (1, .int l1), (2, .int l2)] [] σ) {l0 : Nat} {l1 : Int32} {l2 : Int32} {σ : Mm} {o : Mm} (h : f_X5_append_43 N r_3 l0 l1 l2 σ = some o) : Gx Γ M_X5_append 0 τ (PV o) 0 0 43 [(0, .ref (Γ.B + pp l0)), (1, .int l1), (2, .int l2)] [] σ := by
  unfold f_X5_append_43 at h
  refine gx_iinc (v := (l2 + (-8 : Int32))) (lv' := [(2, .int (l2 + (-8 : Int32))), (0, .ref (Γ.B + pp l0)), (1, .int l1)]) 2 dX5_append_43 rfl (by rw [ic_m8]) (Nat.le_of_ble_eq_true rfl) rfl ?_
  refine gx_goto 3 dX5_append_46 (by decide) ?_
  exact gx_sub [1, 2, 0] rfl (hr_3 _ _ _ _ _ h)
set_option maxRecDepth 4000 in
theorem s_X5_append_3 {Γ : Cn} {τ : Mm} {N : Nat} : ∀ (n : Nat) (l0 : Nat) (l1 : Int32) (l2 : Int32) (σ : Mm) (o : Mm), f_X5_append_3 N n l0 l1 l2 σ = some o → Gx Γ M_X5_append 0 τ (PV o) 0 0 3 [(0, .ref (Γ.B + pp l0)), (1, .int l1), (2, .int l2)] [] σ := by
  intro n
  induction n with
  | zero =>
    intro l0 l1 l2 σ o h
    exact absurd h (by rw [f_X5_append_3]; exact fun q => nomatch q)
  | succ n ih =>
    intro l0 l1 l2 σ o h
    rw [f_X5_append_3] at h
    refine gx_iload_n 2 dX5_append_3 rfl rfl ?_
    refine gx_if_lt 49 dX5_append_4 (by decide) (fun c0 => ?_) (fun c0 => ?_)
    · rw [if_pos c0] at h
      have h := Option.some.inj h
      subst h
      exact gx_vret dX5_append_49 rfl (Nat.le_of_ble_eq_true rfl) (Nat.le_of_ble_eq_true rfl) ⟨rfl, rfl⟩
    · rw [if_neg c0] at h
      refine gx_aload_n 0 dX5_append_7 rfl rfl ?_
      obtain ⟨x2, hx2, h⟩ := bnd h
      refine gx_getI dX5_append_8 hx2 fl_X5_15 rfl ?_
      refine gx_sipush (v := (400 : Int32)) dX5_append_11 is_400 ?_
      refine gx_icmp_ge 43 dX5_append_14 (by decide) (fun c2 => ?_) (fun c2 => ?_)
      · rw [if_pos c2] at h
        exact s_X5_append_43 ih h
      · rw [if_neg c2] at h
        refine gx_aload_n 0 dX5_append_17 rfl rfl ?_
        obtain ⟨a4, ha4, h⟩ := bnd h
        refine gx_getN dX5_append_18 ha4 fl_X5_9 rfl ?_
        refine gx_aload_n 0 dX5_append_21 rfl rfl ?_
        obtain ⟨x5, hx5, h⟩ := bnd h
        refine gx_getI dX5_append_22 hx5 fl_X5_15 rfl ?_
        refine gx_iload_n 1 dX5_append_25 rfl rfl ?_
        refine gx_iload_n 2 dX5_append_26 rfl rfl ?_
        refine gx_ishr dX5_append_27 ?_
        refine gx_sipush (v := (255 : Int32)) dX5_append_28 is_255 ?_
        refine gx_iand dX5_append_31 ?_
        obtain ⟨s6, hs6, h⟩ := bnd h
        refine gx_iast (kd := 13) dX5_append_32 hs6 rfl rfl ?_
        refine gx_aload_n 0 dX5_append_33 rfl rfl ?_
        refine gx_dup dX5_append_34 rfl ?_
        obtain ⟨x7, hx7, h⟩ := bnd h
        refine gx_getI dX5_append_35 hx7 fl_X5_15 rfl ?_
        refine gx_iconst (v := (1 : Int32)) dX5_append_38 ic_1 ?_
        refine gx_iadd dX5_append_39 ?_
        obtain ⟨s8, hs8, h⟩ := bnd h
        refine gx_putI dX5_append_40 hs8 fl_X5_15 fp_X5_5_1 rfl ?_
        exact s_X5_append_43 ih h
set_option maxRecDepth 4000 in
theorem s_X5_append_0 {Γ : Cn} {τ : Mm} {N : Nat} {l0 : Nat} {l1 : Int32} {σ : Mm} {o : Mm} (h : f_X5_append N l0 l1 σ = some o) : Gx Γ M_X5_append 0 τ (PV o) 0 0 0 [(0, .ref (Γ.B + pp l0)), (1, .int l1)] [] σ := by
  unfold f_X5_append at h
  refine gx_bipush (v := (24 : Int32)) dX5_append_0 ib_24 ?_
  refine gx_istore_n (lv' := [(2, .int (24 : Int32)), (0, .ref (Γ.B + pp l0)), (1, .int l1)]) dX5_append_2 rfl (Nat.le_of_ble_eq_true rfl) rfl ?_
  exact gx_sub [1, 2, 0] rfl (s_X5_append_3  N _ _ _ _ _ h)
theorem c_X5_append {Γ : Cn} {τ : Mm} {N : Nat} {l0 : Nat} {l1 : Int32} {σ : Mm} {o : Mm} (h : f_X5_append N l0 l1 σ = some o) : Ct Γ M_X5_append yX5_append 0 τ [.ref (Γ.B + pp l0), .int l1] σ (PV o) := ct_of (by decide) rfl (fun _ => by first | rfl | contradiction) (Nat.le_of_ble_eq_true rfl) (s_X5_append_0  h)
abbrev M_X5_at : Ms := (cX5_at, RX5, 2, (some .int), false, 0, 0, 0)
def f_X5_at_29 (N : Nat) (t0 : Int32) (σ : Mm) : Option (Int32 × Mm) :=
  some (t0, σ)
def f_X5_at_28 (N : Nat) (σ : Mm) : Option (Int32 × Mm) :=
  f_X5_at_29 N (0 : Int32) σ
def f_X5_at (N : Nat) (l0 : Nat) (l1 : Int32) (σ : Mm) : Option (Int32 × Mm) :=
  if l1 < 0 then (
    f_X5_at_28 N σ) else (
    (gI 5 1 σ l0).bind fun x2 =>
    if x2 ≤ l1 then (
      f_X5_at_28 N σ) else (
      if (400 : Int32) ≤ l1 then (
        f_X5_at_28 N σ) else (
        (gN 5 0 σ l0).bind fun a5 =>
        (aI 13 σ a5 l1).bind fun x6 =>
        f_X5_at_29 N x6 σ)))
theorem mov_X5_at : MOV yX5_at M_X5_at 1 5 0 := ⟨⟨tw_97, tw_481, ⟨by decide, by decide⟩, by decide +kernel⟩, tw_479, tw_480, by decide, ⟨_, rfl, rfl⟩, rfl⟩
set_option maxRecDepth 4000 in
theorem s_X5_at_29 {Γ : Cn} {τ : Mm} {N : Nat} {t0 : Int32} {σ : Mm} {o : Int32 × Mm} (h : f_X5_at_29 N t0 σ = some o) : Gx Γ M_X5_at 0 τ (PI o) 0 0 29 [] [.int t0] σ := by
  unfold f_X5_at_29 at h
  have h := Option.some.inj h
  subst h
  exact gx_iret dX5_at_29 rfl (Nat.le_of_ble_eq_true rfl) (Nat.le_of_ble_eq_true rfl) ⟨rfl, rfl⟩
set_option maxRecDepth 4000 in
theorem s_X5_at_28 {Γ : Cn} {τ : Mm} {N : Nat} {σ : Mm} {o : Int32 × Mm} (h : f_X5_at_28 N σ = some o) : Gx Γ M_X5_at 0 τ (PI o) 0 0 28 [] [] σ := by
  unfold f_X5_at_28 at h
  refine gx_iconst (v := (0 : Int32)) dX5_at_28 ic_0 ?_
  exact s_X5_at_29  h
set_option maxRecDepth 4000 in
theorem s_X5_at_0 {Γ : Cn} {τ : Mm} {N : Nat} {l0 : Nat} {l1 : Int32} {σ : Mm} {o : Int32 × Mm} (h : f_X5_at N l0 l1 σ = some o) : Gx Γ M_X5_at 0 τ (PI o) 0 0 0 [(0, .ref (Γ.B + pp l0)), (1, .int l1)] [] σ := by
  unfold f_X5_at at h
  refine gx_iload_n 1 dX5_at_0 rfl rfl ?_
  refine gx_if_lt 28 dX5_at_1 (by decide) (fun c0 => ?_) (fun c0 => ?_)
  · rw [if_pos c0] at h
    exact gx_sub [] rfl (s_X5_at_28  h)
  · rw [if_neg c0] at h
    refine gx_iload_n 1 dX5_at_4 rfl rfl ?_
    refine gx_aload_n 0 dX5_at_5 rfl rfl ?_
    obtain ⟨x2, hx2, h⟩ := bnd h
    refine gx_getI dX5_at_6 hx2 fl_X5_15 rfl ?_
    refine gx_icmp_ge 28 dX5_at_9 (by decide) (fun c2 => ?_) (fun c2 => ?_)
    · rw [if_pos c2] at h
      exact gx_sub [] rfl (s_X5_at_28  h)
    · rw [if_neg c2] at h
      refine gx_iload_n 1 dX5_at_12 rfl rfl ?_
      refine gx_sipush (v := (400 : Int32)) dX5_at_13 is_400 ?_
      refine gx_icmp_ge 28 dX5_at_16 (by decide) (fun c3 => ?_) (fun c3 => ?_)
      · rw [if_pos c3] at h
        exact gx_sub [] rfl (s_X5_at_28  h)
      · rw [if_neg c3] at h
        refine gx_aload_n 0 dX5_at_19 rfl rfl ?_
        obtain ⟨a5, ha5, h⟩ := bnd h
        refine gx_getN dX5_at_20 ha5 fl_X5_9 rfl ?_
        refine gx_iload_n 1 dX5_at_23 rfl rfl ?_
        obtain ⟨x6, hx6, h⟩ := bnd h
        refine gx_iald (kd := 13) dX5_at_24 hx6 rfl rfl ?_
        refine gx_goto 29 dX5_at_25 (by decide) ?_
        exact gx_sub [] rfl (s_X5_at_29  h)
theorem c_X5_at {Γ : Cn} {τ : Mm} {N : Nat} {l0 : Nat} {l1 : Int32} {σ : Mm} {o : Int32 × Mm} (h : f_X5_at N l0 l1 σ = some o) : Ct Γ M_X5_at yX5_at 0 τ [.ref (Γ.B + pp l0), .int l1] σ (PI o) := ct_of (by decide) rfl (fun _ => by first | rfl | contradiction) (Nat.le_of_ble_eq_true rfl) (s_X5_at_0  h)
abbrev M_X6_init : Ms := (cX6_init, RX6, 1, none, true, 3, 1203, 1)
def f_X6_init (N : Nat) (l0 : Nat) (σ : Mm) : Option Mm :=
  (nA 13 σ (401 : Int32)).bind fun s1 =>
  (pR 6 0 s1 l0 (some (pq (nn σ)))).bind fun s2 =>
  (nA 13 s2 (401 : Int32)).bind fun s3 =>
  (pR 6 1 s3 l0 (some (pq (nn s2)))).bind fun s4 =>
  (nA 13 s4 (401 : Int32)).bind fun s5 =>
  (pR 6 2 s5 l0 (some (pq (nn s4)))).bind fun s6 =>
  (pI 6 3 s6 l0 (0 : Int32)).bind fun s7 =>
  (pI 6 4 s7 l0 (0 : Int32)).bind fun s8 =>
  (pI 6 5 s8 l0 (0 : Int32)).bind fun s9 =>
  some s9
theorem moi_X6_init : MOI yX6_init M_X6_init 0 := ⟨⟨tw_98, tw_143, ⟨by decide, by decide⟩, by decide +kernel⟩, tw_142, rfl, rfl⟩
set_option maxRecDepth 4000 in
theorem s_X6_init_0 {Γ : Cn} {τ : Mm} {N : Nat} {l0 : Nat} {σ : Mm} {o : Mm} (h : f_X6_init N l0 σ = some o) : Gx Γ M_X6_init 0 τ (PV o) 0 0 0 [(0, .ref (Γ.B + pp l0))] [] σ := by
  unfold f_X6_init at h
  refine gx_aload_n 0 dX6_init_0 rfl rfl ?_
  refine gx_objInit dX6_init_1 tw_144 tw_oi tw_oc (Nat.le_of_ble_eq_true rfl) (Nat.le_of_ble_eq_true rfl) ?_
  refine gx_aload_n 0 dX6_init_4 rfl rfl ?_
  refine gx_sipush (v := (401 : Int32)) dX6_init_5 is_401 ?_
  obtain ⟨s1, hs1, h⟩ := bnd h
  refine gx_newI dX6_init_8 hs1 ac_I rfl (by decide) rfl (Nat.le_of_ble_eq_true rfl) (Nat.le_of_ble_eq_true rfl) ?_
  obtain ⟨s2, hs2, h⟩ := bnd h
  refine gx_putR (r := (some (pq (nn σ)))) dX6_init_10 hs2 fl_X6_9 fp_X6_6_0 (Or.inr ⟨_, rfl⟩) (fun _ => rfl) rfl ?_
  refine gx_aload_n 0 dX6_init_13 rfl rfl ?_
  refine gx_sipush (v := (401 : Int32)) dX6_init_14 is_401 ?_
  obtain ⟨s3, hs3, h⟩ := bnd h
  refine gx_newI dX6_init_17 hs3 ac_I rfl (by decide) rfl (Nat.le_of_ble_eq_true rfl) (Nat.le_of_ble_eq_true rfl) ?_
  obtain ⟨s4, hs4, h⟩ := bnd h
  refine gx_putR (r := (some (pq (nn s2)))) dX6_init_19 hs4 fl_X6_15 fp_X6_6_1 (Or.inr ⟨_, rfl⟩) (fun _ => rfl) rfl ?_
  refine gx_aload_n 0 dX6_init_22 rfl rfl ?_
  refine gx_sipush (v := (401 : Int32)) dX6_init_23 is_401 ?_
  obtain ⟨s5, hs5, h⟩ := bnd h
  refine gx_newI dX6_init_26 hs5 ac_I rfl (by decide) rfl (Nat.le_of_ble_eq_true rfl) (Nat.le_of_ble_eq_true rfl) ?_
  obtain ⟨s6, hs6, h⟩ := bnd h
  refine gx_putR (r := (some (pq (nn s4)))) dX6_init_28 hs6 fl_X6_18 fp_X6_6_2 (Or.inr ⟨_, rfl⟩) (fun _ => rfl) rfl ?_
  refine gx_aload_n 0 dX6_init_31 rfl rfl ?_
  refine gx_iconst (v := (0 : Int32)) dX6_init_32 ic_0 ?_
  obtain ⟨s7, hs7, h⟩ := bnd h
  refine gx_putI dX6_init_33 hs7 fl_X6_21 fp_X6_6_3 rfl ?_
  refine gx_aload_n 0 dX6_init_36 rfl rfl ?_
  refine gx_iconst (v := (0 : Int32)) dX6_init_37 ic_0 ?_
  obtain ⟨s8, hs8, h⟩ := bnd h
  refine gx_putI dX6_init_38 hs8 fl_X6_25 fp_X6_6_4 rfl ?_
  refine gx_aload_n 0 dX6_init_41 rfl rfl ?_
  refine gx_iconst (v := (0 : Int32)) dX6_init_42 ic_0 ?_
  obtain ⟨s9, hs9, h⟩ := bnd h
  refine gx_putI dX6_init_43 hs9 fl_X6_28 fp_X6_6_5 rfl ?_
  have h := Option.some.inj h
  subst h
  exact gx_vret dX6_init_46 rfl (Nat.le_of_ble_eq_true rfl) (Nat.le_of_ble_eq_true rfl) ⟨rfl, rfl⟩
theorem c_X6_init {Γ : Cn} {τ : Mm} {N : Nat} {l0 : Nat} {σ : Mm} {o : Mm} (h : f_X6_init N l0 σ = some o) : Ct Γ M_X6_init yX6_init 0 τ [.ref (Γ.B + pp l0)] σ (PV o) := ct_of (by decide) rfl (fun _ => by first | rfl | contradiction) (Nat.le_of_ble_eq_true rfl) (s_X6_init_0  h)
abbrev M_X6_isDigit : Ms := (cX6_isDigit, RX6, 1, (some .boolean), false, 0, 0, 0)
def f_X6_isDigit_17 (N : Nat) (t0 : Int32) (σ : Mm) : Option (Int32 × Mm) :=
  if t0 = 0 ∨ t0 = 1 then some (t0, σ) else none
def f_X6_isDigit_16 (N : Nat) (σ : Mm) : Option (Int32 × Mm) :=
  f_X6_isDigit_17 N (0 : Int32) σ
def f_X6_isDigit (N : Nat) (l0 : Int32) (σ : Mm) : Option (Int32 × Mm) :=
  if l0 < (48 : Int32) then (
    f_X6_isDigit_16 N σ) else (
    if (57 : Int32) < l0 then (
      f_X6_isDigit_16 N σ) else (
      f_X6_isDigit_17 N (1 : Int32) σ))
theorem mos_X6_isDigit : MOS yX6_isDigit M_X6_isDigit 1 := ⟨⟨tw_98, tw_484, ⟨by decide, by decide⟩, by decide +kernel⟩, tw_483⟩
set_option maxRecDepth 4000 in
theorem s_X6_isDigit_17 {Γ : Cn} {τ : Mm} {N : Nat} {t0 : Int32} {σ : Mm} {o : Int32 × Mm} (h : f_X6_isDigit_17 N t0 σ = some o) : Gx Γ M_X6_isDigit 0 τ (PI o) 0 0 17 [] [.int t0] σ := by
  unfold f_X6_isDigit_17 at h
  obtain ⟨hz, h⟩ := of_if h
  have h := Option.some.inj h
  subst h
  exact gx_zret dX6_isDigit_17 rfl (nar_z hz) (Nat.le_of_ble_eq_true rfl) (Nat.le_of_ble_eq_true rfl) ⟨rfl, rfl⟩
set_option maxRecDepth 4000 in
theorem s_X6_isDigit_16 {Γ : Cn} {τ : Mm} {N : Nat} {σ : Mm} {o : Int32 × Mm} (h : f_X6_isDigit_16 N σ = some o) : Gx Γ M_X6_isDigit 0 τ (PI o) 0 0 16 [] [] σ := by
  unfold f_X6_isDigit_16 at h
  refine gx_iconst (v := (0 : Int32)) dX6_isDigit_16 ic_0 ?_
  exact s_X6_isDigit_17  h
set_option maxRecDepth 4000 in
theorem s_X6_isDigit_0 {Γ : Cn} {τ : Mm} {N : Nat} {l0 : Int32} {σ : Mm} {o : Int32 × Mm} (h : f_X6_isDigit N l0 σ = some o) : Gx Γ M_X6_isDigit 0 τ (PI o) 0 0 0 [(0, .int l0)] [] σ := by
  unfold f_X6_isDigit at h
  refine gx_iload_n 0 dX6_isDigit_0 rfl rfl ?_
  refine gx_bipush (v := (48 : Int32)) dX6_isDigit_1 ib_48 ?_
  refine gx_icmp_lt 16 dX6_isDigit_3 (by decide) (fun c0 => ?_) (fun c0 => ?_)
  · rw [if_pos c0] at h
    exact gx_sub [] rfl (s_X6_isDigit_16  h)
  · rw [if_neg c0] at h
    refine gx_iload_n 0 dX6_isDigit_6 rfl rfl ?_
    refine gx_bipush (v := (57 : Int32)) dX6_isDigit_7 ib_57 ?_
    refine gx_icmp_gt 16 dX6_isDigit_9 (by decide) (fun c1 => ?_) (fun c1 => ?_)
    · rw [if_pos c1] at h
      exact gx_sub [] rfl (s_X6_isDigit_16  h)
    · rw [if_neg c1] at h
      refine gx_iconst (v := (1 : Int32)) dX6_isDigit_12 ic_1 ?_
      refine gx_goto 17 dX6_isDigit_13 (by decide) ?_
      exact gx_sub [] rfl (s_X6_isDigit_17  h)
theorem c_X6_isDigit {Γ : Cn} {τ : Mm} {N : Nat} {l0 : Int32} {σ : Mm} {o : Int32 × Mm} (h : f_X6_isDigit N l0 σ = some o) : Ct Γ M_X6_isDigit yX6_isDigit 0 τ [.int l0] σ (PI o) := ct_of (by decide) rfl (fun _ => by first | rfl | contradiction) (Nat.le_of_ble_eq_true rfl) (s_X6_isDigit_0  h)
abbrev M_X6_add : Ms := (cX6_add, RX6, 4, none, false, 0, 0, 0)
def f_X6_add_57 (N : Nat) (σ : Mm) : Option Mm :=
  some σ
def f_X6_add (N : Nat) (l0 : Nat) (l1 : Int32) (l2 : Int32) (l3 : Int32) (σ : Mm) : Option Mm :=
  (gI 6 3 σ l0).bind fun x1 =>
  if x1 < 0 then (
    f_X6_add_57 N σ) else (
    (gI 6 3 σ l0).bind fun x3 =>
    if (400 : Int32) < x3 then (
      f_X6_add_57 N σ) else (
      (gN 6 0 σ l0).bind fun a5 =>
      (gI 6 3 σ l0).bind fun x6 =>
      (sI 13 σ a5 x6 l1).bind fun s7 =>
      (gN 6 1 s7 l0).bind fun a8 =>
      (gI 6 3 s7 l0).bind fun x9 =>
      (sI 13 s7 a8 x9 l2).bind fun s10 =>
      (gN 6 2 s10 l0).bind fun a11 =>
      (gI 6 3 s10 l0).bind fun x12 =>
      (sI 13 s10 a11 x12 l3).bind fun s13 =>
      (gI 6 3 s13 l0).bind fun x14 =>
      (pI 6 3 s13 l0 (x14 + (1 : Int32))).bind fun s15 =>
      f_X6_add_57 N s15))
theorem mov_X6_add : MOV yX6_add M_X6_add 3 6 0 := ⟨⟨tw_98, tw_492, ⟨by decide, by decide⟩, by decide +kernel⟩, tw_491, tw_2, by decide, ⟨_, rfl, rfl⟩, rfl⟩
set_option maxRecDepth 4000 in
theorem s_X6_add_57 {Γ : Cn} {τ : Mm} {N : Nat} {σ : Mm} {o : Mm} (h : f_X6_add_57 N σ = some o) : Gx Γ M_X6_add 0 τ (PV o) 0 0 57 [] [] σ := by
  unfold f_X6_add_57 at h
  have h := Option.some.inj h
  subst h
  exact gx_vret dX6_add_57 rfl (Nat.le_of_ble_eq_true rfl) (Nat.le_of_ble_eq_true rfl) ⟨rfl, rfl⟩
set_option maxRecDepth 4000 in
theorem s_X6_add_0 {Γ : Cn} {τ : Mm} {N : Nat} {l0 : Nat} {l1 : Int32} {l2 : Int32} {l3 : Int32} {σ : Mm} {o : Mm} (h : f_X6_add N l0 l1 l2 l3 σ = some o) : Gx Γ M_X6_add 0 τ (PV o) 0 0 0 [(0, .ref (Γ.B + pp l0)), (1, .int l1), (2, .int l2), (3, .int l3)] [] σ := by
  unfold f_X6_add at h
  refine gx_aload_n 0 dX6_add_0 rfl rfl ?_
  obtain ⟨x1, hx1, h⟩ := bnd h
  refine gx_getI dX6_add_1 hx1 fl_X6_21 rfl ?_
  refine gx_if_lt 57 dX6_add_4 (by decide) (fun c1 => ?_) (fun c1 => ?_)
  · rw [if_pos c1] at h
    exact gx_sub [] rfl (s_X6_add_57  h)
  · rw [if_neg c1] at h
    refine gx_aload_n 0 dX6_add_7 rfl rfl ?_
    obtain ⟨x3, hx3, h⟩ := bnd h
    refine gx_getI dX6_add_8 hx3 fl_X6_21 rfl ?_
    refine gx_sipush (v := (400 : Int32)) dX6_add_11 is_400 ?_
    refine gx_icmp_gt 57 dX6_add_14 (by decide) (fun c3 => ?_) (fun c3 => ?_)
    · rw [if_pos c3] at h
      exact gx_sub [] rfl (s_X6_add_57  h)
    · rw [if_neg c3] at h
      refine gx_aload_n 0 dX6_add_17 rfl rfl ?_
      obtain ⟨a5, ha5, h⟩ := bnd h
      refine gx_getN dX6_add_18 ha5 fl_X6_9 rfl ?_
      refine gx_aload_n 0 dX6_add_21 rfl rfl ?_
      obtain ⟨x6, hx6, h⟩ := bnd h
      refine gx_getI dX6_add_22 hx6 fl_X6_21 rfl ?_
      refine gx_iload_n 1 dX6_add_25 rfl rfl ?_
      obtain ⟨s7, hs7, h⟩ := bnd h
      refine gx_iast (kd := 13) dX6_add_26 hs7 rfl rfl ?_
      refine gx_aload_n 0 dX6_add_27 rfl rfl ?_
      obtain ⟨a8, ha8, h⟩ := bnd h
      refine gx_getN dX6_add_28 ha8 fl_X6_15 rfl ?_
      refine gx_aload_n 0 dX6_add_31 rfl rfl ?_
      obtain ⟨x9, hx9, h⟩ := bnd h
      refine gx_getI dX6_add_32 hx9 fl_X6_21 rfl ?_
      refine gx_iload_n 2 dX6_add_35 rfl rfl ?_
      obtain ⟨s10, hs10, h⟩ := bnd h
      refine gx_iast (kd := 13) dX6_add_36 hs10 rfl rfl ?_
      refine gx_aload_n 0 dX6_add_37 rfl rfl ?_
      obtain ⟨a11, ha11, h⟩ := bnd h
      refine gx_getN dX6_add_38 ha11 fl_X6_18 rfl ?_
      refine gx_aload_n 0 dX6_add_41 rfl rfl ?_
      obtain ⟨x12, hx12, h⟩ := bnd h
      refine gx_getI dX6_add_42 hx12 fl_X6_21 rfl ?_
      refine gx_iload_n 3 dX6_add_45 rfl rfl ?_
      obtain ⟨s13, hs13, h⟩ := bnd h
      refine gx_iast (kd := 13) dX6_add_46 hs13 rfl rfl ?_
      refine gx_aload_n 0 dX6_add_47 rfl rfl ?_
      refine gx_dup dX6_add_48 rfl ?_
      obtain ⟨x14, hx14, h⟩ := bnd h
      refine gx_getI dX6_add_49 hx14 fl_X6_21 rfl ?_
      refine gx_iconst (v := (1 : Int32)) dX6_add_52 ic_1 ?_
      refine gx_iadd dX6_add_53 ?_
      obtain ⟨s15, hs15, h⟩ := bnd h
      refine gx_putI dX6_add_54 hs15 fl_X6_21 fp_X6_6_3 rfl ?_
      exact gx_sub [] rfl (s_X6_add_57  h)
theorem c_X6_add {Γ : Cn} {τ : Mm} {N : Nat} {l0 : Nat} {l1 : Int32} {l2 : Int32} {l3 : Int32} {σ : Mm} {o : Mm} (h : f_X6_add N l0 l1 l2 l3 σ = some o) : Ct Γ M_X6_add yX6_add 0 τ [.ref (Γ.B + pp l0), .int l1, .int l2, .int l3] σ (PV o) := ct_of (by decide) rfl (fun _ => by first | rfl | contradiction) (Nat.le_of_ble_eq_true rfl) (s_X6_add_0  h)
abbrev M_X6_cutNumber : Ms := (cX6_cutNumber, RX6, 6, (some .int), false, 0, 0, 1)
def f_X6_cutNumber_52 (N : Nat) (r_8 : Nat → Nat → Int32 → Int32 → Int32 → Int32 → Mm → Option (Int32 × Mm)) (l0 : Nat) (l1 : Nat) (l2 : Int32) (l3 : Int32) (l5 : Int32) (t0 : Int32) (σ : Mm) : Option (Int32 × Mm) :=
  r_8 l0 l1 l2 (l3 + (1 : Int32)) t0 (l5 + (1 : Int32)) σ
def f_X6_cutNumber_63 (N : Nat) (l0 : Nat) (l2 : Int32) (l3 : Int32) (l4 : Int32) (σ : Mm) : Option (Int32 × Mm) :=
  (ob 6 σ l0).bind fun _ =>
  (f_X6_add N l0 (3 : Int32) l2 l4 σ).bind fun q1 =>
  some (l3, q1)
def f_X6_cutNumber_8 (N : Nat) : Nat → Nat → Nat → Int32 → Int32 → Int32 → Int32 → Mm → Option (Int32 × Mm)
  | 0, _, _, _, _, _, _, _ => none
  | n + 1, l0, l1, l2, l3, l4, l5, σ =>
      if (400 : Int32) ≤ l5 then (
        f_X6_cutNumber_63 N l0 l2 l3 l4 σ) else (
        (ob 5 σ l1).bind fun _ =>
        (f_X5_at N l1 l3 σ).bind fun q2 =>
        (f_X6_isDigit N q2.1 q2.2).bind fun q3 =>
        if q3.1 = 0 then (
          f_X6_cutNumber_63 N l0 l2 l3 l4 q3.2) else (
          if (5 : Int32) ≤ (l3 - l2) then (
            f_X6_cutNumber_52 N (f_X6_cutNumber_8 N n) l0 l1 l2 l3 l5 (-1 : Int32) q3.2) else (
            (ob 5 q3.2 l1).bind fun _ =>
            (f_X5_at N l1 l3 q3.2).bind fun q6 =>
            f_X6_cutNumber_52 N (f_X6_cutNumber_8 N n) l0 l1 l2 l3 l5 (((l4 * (10 : Int32)) + q6.1) - (48 : Int32)) q6.2)))
def f_X6_cutNumber (N : Nat) (l0 : Nat) (l1 : Nat) (l2 : Int32) (σ : Mm) : Option (Int32 × Mm) :=
  f_X6_cutNumber_8 N N l0 l1 l2 l2 (0 : Int32) (0 : Int32) σ
theorem mov_X6_cutNumber : MOV yX6_cutNumber M_X6_cutNumber 2 6 0 := ⟨⟨tw_98, tw_488, ⟨by decide, by decide⟩, by decide +kernel⟩, tw_487, tw_1, by decide, ⟨_, rfl, rfl⟩, rfl⟩
set_option maxRecDepth 4000 in
theorem s_X6_cutNumber_52 {Γ : Cn} {τ : Mm} {N : Nat} {r_8 : Nat → Nat → Int32 → Int32 → Int32 → Int32 → Mm → Option (Int32 × Mm)} (hr_8 : ∀ (l0 : Nat) (l1 : Nat) (l2 : Int32) (l3 : Int32) (l4 : Int32) (l5 : Int32) (σ : Mm) (o : Int32 × Mm), r_8 l0 l1 l2 l3 l4 l5 σ = some o → Gx Γ M_X6_cutNumber 0 τ (PI o) 0 0 8 [(0, .ref (Γ.B + pp l0)), (1, .ref (Γ.B + pp l1)), (2, .int l2), (3, .int l3), (4, .int l4), (5, .int l5)] [] σ) {l0 : Nat} {l1 : Nat} {l2 : Int32} {l3 : Int32} {l5 : Int32} {t0 : Int32} {σ : Mm} {o : Int32 × Mm} (h : f_X6_cutNumber_52 N r_8 l0 l1 l2 l3 l5 t0 σ = some o) : Gx Γ M_X6_cutNumber 0 τ (PI o) 0 0 52 [(0, .ref (Γ.B + pp l0)), (1, .ref (Γ.B + pp l1)), (2, .int l2), (3, .int l3), (5, .int l5)] [.int t0] σ := by
  unfold f_X6_cutNumber_52 at h
  refine gx_istore (lv' := [(4, .int t0), (0, .ref (Γ.B + pp l0)), (1, .ref (Γ.B + pp l1)), (2, .int l2), (3, .int l3), (5, .int l5)]) dX6_cutNumber_52 (Nat.le_of_ble_eq_true rfl) rfl ?_
  refine gx_iinc (v := (l3 + (1 : Int32))) (lv' := [(3, .int (l3 + (1 : Int32))), (4, .int t0), (0, .ref (Γ.B + pp l0)), (1, .ref (Γ.B + pp l1)), (2, .int l2), (5, .int l5)]) 4 dX6_cutNumber_54 rfl (by rw [ic_1]) (Nat.le_of_ble_eq_true rfl) rfl ?_
  refine gx_iinc (v := (l5 + (1 : Int32))) (lv' := [(5, .int (l5 + (1 : Int32))), (3, .int (l3 + (1 : Int32))), (4, .int t0), (0, .ref (Γ.B + pp l0)), (1, .ref (Γ.B + pp l1)), (2, .int l2)]) 5 dX6_cutNumber_57 rfl (by rw [ic_1]) (Nat.le_of_ble_eq_true rfl) rfl ?_
  refine gx_goto 8 dX6_cutNumber_60 (by decide) ?_
  exact gx_sub [3, 4, 5, 1, 2, 0] rfl (hr_8 _ _ _ _ _ _ _ _ h)
set_option maxRecDepth 4000 in
theorem s_X6_cutNumber_63 {Γ : Cn} {τ : Mm} {N : Nat} {l0 : Nat} {l2 : Int32} {l3 : Int32} {l4 : Int32} {σ : Mm} {o : Int32 × Mm} (h : f_X6_cutNumber_63 N l0 l2 l3 l4 σ = some o) : Gx Γ M_X6_cutNumber 0 τ (PI o) 0 0 63 [(0, .ref (Γ.B + pp l0)), (2, .int l2), (3, .int l3), (4, .int l4)] [] σ := by
  unfold f_X6_cutNumber_63 at h
  refine gx_aload_n 0 dX6_cutNumber_63 rfl rfl ?_
  refine gx_iconst (v := (3 : Int32)) dX6_cutNumber_64 ic_3 ?_
  refine gx_iload_n 1 dX6_cutNumber_65 rfl rfl ?_
  refine gx_iload 3 dX6_cutNumber_66 rfl ?_
  obtain ⟨_, hobq1, h⟩ := bnd h
  obtain ⟨q1, hq1, h⟩ := bnd h
  refine gx_cVV (As := [.int (3 : Int32), .int l2, .int l4]) (st := []) (o := l0) dX6_cutNumber_68 (c_X6_add hq1) mov_X6_add tw_489 hobq1 rfl ⟨Nat.le_of_ble_eq_true rfl, Nat.le_of_ble_eq_true rfl⟩ (Nat.le_of_ble_eq_true rfl) ?_
  refine gx_iload_n 2 dX6_cutNumber_71 rfl rfl ?_
  have h := Option.some.inj h
  subst h
  exact gx_iret dX6_cutNumber_72 rfl (Nat.le_of_ble_eq_true rfl) (Nat.le_of_ble_eq_true rfl) ⟨rfl, rfl⟩
set_option maxRecDepth 4000 in
theorem s_X6_cutNumber_8 {Γ : Cn} {τ : Mm} {N : Nat} : ∀ (n : Nat) (l0 : Nat) (l1 : Nat) (l2 : Int32) (l3 : Int32) (l4 : Int32) (l5 : Int32) (σ : Mm) (o : Int32 × Mm), f_X6_cutNumber_8 N n l0 l1 l2 l3 l4 l5 σ = some o → Gx Γ M_X6_cutNumber 0 τ (PI o) 0 0 8 [(0, .ref (Γ.B + pp l0)), (1, .ref (Γ.B + pp l1)), (2, .int l2), (3, .int l3), (4, .int l4), (5, .int l5)] [] σ := by
  intro n
  induction n with
  | zero =>
    intro l0 l1 l2 l3 l4 l5 σ o h
    exact absurd h (by rw [f_X6_cutNumber_8]; exact fun q => nomatch q)
  | succ n ih =>
    intro l0 l1 l2 l3 l4 l5 σ o h
    rw [f_X6_cutNumber_8] at h
    refine gx_iload 5 dX6_cutNumber_8 rfl ?_
    refine gx_sipush (v := (400 : Int32)) dX6_cutNumber_10 is_400 ?_
    refine gx_icmp_ge 63 dX6_cutNumber_13 (by decide) (fun c0 => ?_) (fun c0 => ?_)
    · rw [if_pos c0] at h
      exact gx_sub [0, 2, 3, 4] rfl (s_X6_cutNumber_63  h)
    · rw [if_neg c0] at h
      refine gx_aload_n 1 dX6_cutNumber_16 rfl rfl ?_
      refine gx_iload_n 3 dX6_cutNumber_17 rfl rfl ?_
      obtain ⟨_, hobq2, h⟩ := bnd h
      obtain ⟨q2, hq2, h⟩ := bnd h
      refine gx_cVI (As := [.int l3]) (st := []) (o := l1) dX6_cutNumber_18 (c_X5_at hq2) mov_X5_at tw_478 hobq2 rfl ⟨Nat.le_of_ble_eq_true rfl, Nat.le_of_ble_eq_true rfl⟩ (Nat.le_of_ble_eq_true rfl) ?_
      obtain ⟨q3, hq3, h⟩ := bnd h
      refine gx_cSI (As := [.int q2.1]) (st := []) dX6_cutNumber_21 (c_X6_isDigit hq3) mos_X6_isDigit tw_482 rfl ⟨Nat.le_of_ble_eq_true rfl, Nat.le_of_ble_eq_true rfl⟩ (Nat.le_of_ble_eq_true rfl) ?_
      refine gx_if_eq 63 dX6_cutNumber_24 (by decide) (fun c3 => ?_) (fun c3 => ?_)
      · rw [if_pos c3] at h
        exact gx_sub [0, 2, 3, 4] rfl (s_X6_cutNumber_63  h)
      · rw [if_neg c3] at h
        refine gx_iload_n 3 dX6_cutNumber_27 rfl rfl ?_
        refine gx_iload_n 2 dX6_cutNumber_28 rfl rfl ?_
        refine gx_isub dX6_cutNumber_29 ?_
        refine gx_iconst (v := (5 : Int32)) dX6_cutNumber_30 ic_5 ?_
        refine gx_icmp_ge 51 dX6_cutNumber_31 (by decide) (fun c4 => ?_) (fun c4 => ?_)
        · rw [if_pos c4] at h
          refine gx_iconst (v := (-1 : Int32)) dX6_cutNumber_51 ic_m1 ?_
          exact gx_sub [0, 1, 2, 3, 5] rfl (s_X6_cutNumber_52 ih h)
        · rw [if_neg c4] at h
          refine gx_iload 4 dX6_cutNumber_34 rfl ?_
          refine gx_bipush (v := (10 : Int32)) dX6_cutNumber_36 ib_10 ?_
          refine gx_imul dX6_cutNumber_38 ?_
          refine gx_aload_n 1 dX6_cutNumber_39 rfl rfl ?_
          refine gx_iload_n 3 dX6_cutNumber_40 rfl rfl ?_
          obtain ⟨_, hobq6, h⟩ := bnd h
          obtain ⟨q6, hq6, h⟩ := bnd h
          refine gx_cVI (As := [.int l3]) (st := [.int (l4 * (10 : Int32))]) (o := l1) dX6_cutNumber_41 (c_X5_at hq6) mov_X5_at tw_478 hobq6 rfl ⟨Nat.le_of_ble_eq_true rfl, Nat.le_of_ble_eq_true rfl⟩ (Nat.le_of_ble_eq_true rfl) ?_
          refine gx_iadd dX6_cutNumber_44 ?_
          refine gx_bipush (v := (48 : Int32)) dX6_cutNumber_45 ib_48 ?_
          refine gx_isub dX6_cutNumber_47 ?_
          refine gx_goto 52 dX6_cutNumber_48 (by decide) ?_
          exact gx_sub [0, 1, 2, 3, 5] rfl (s_X6_cutNumber_52 ih h)
set_option maxRecDepth 4000 in
theorem s_X6_cutNumber_0 {Γ : Cn} {τ : Mm} {N : Nat} {l0 : Nat} {l1 : Nat} {l2 : Int32} {σ : Mm} {o : Int32 × Mm} (h : f_X6_cutNumber N l0 l1 l2 σ = some o) : Gx Γ M_X6_cutNumber 0 τ (PI o) 0 0 0 [(0, .ref (Γ.B + pp l0)), (1, .ref (Γ.B + pp l1)), (2, .int l2)] [] σ := by
  unfold f_X6_cutNumber at h
  refine gx_iload_n 2 dX6_cutNumber_0 rfl rfl ?_
  refine gx_istore_n (lv' := [(3, .int l2), (0, .ref (Γ.B + pp l0)), (1, .ref (Γ.B + pp l1)), (2, .int l2)]) dX6_cutNumber_1 rfl (Nat.le_of_ble_eq_true rfl) rfl ?_
  refine gx_iconst (v := (0 : Int32)) dX6_cutNumber_2 ic_0 ?_
  refine gx_istore (lv' := [(4, .int (0 : Int32)), (3, .int l2), (0, .ref (Γ.B + pp l0)), (1, .ref (Γ.B + pp l1)), (2, .int l2)]) dX6_cutNumber_3 (Nat.le_of_ble_eq_true rfl) rfl ?_
  refine gx_iconst (v := (0 : Int32)) dX6_cutNumber_5 ic_0 ?_
  refine gx_istore (lv' := [(5, .int (0 : Int32)), (4, .int (0 : Int32)), (3, .int l2), (0, .ref (Γ.B + pp l0)), (1, .ref (Γ.B + pp l1)), (2, .int l2)]) dX6_cutNumber_6 (Nat.le_of_ble_eq_true rfl) rfl ?_
  exact gx_sub [3, 4, 5, 2, 1, 0] rfl (s_X6_cutNumber_8  N _ _ _ _ _ _ _ _ h)
theorem c_X6_cutNumber {Γ : Cn} {τ : Mm} {N : Nat} {l0 : Nat} {l1 : Nat} {l2 : Int32} {σ : Mm} {o : Int32 × Mm} (h : f_X6_cutNumber N l0 l1 l2 σ = some o) : Ct Γ M_X6_cutNumber yX6_cutNumber 0 τ [.ref (Γ.B + pp l0), .ref (Γ.B + pp l1), .int l2] σ (PI o) := ct_of (by decide) rfl (fun _ => by first | rfl | contradiction) (Nat.le_of_ble_eq_true rfl) (s_X6_cutNumber_0  h)
abbrev M_X6_isLetter : Ms := (cX6_isLetter, RX6, 1, (some .boolean), false, 0, 0, 0)
def f_X6_isLetter_17 (N : Nat) (t0 : Int32) (σ : Mm) : Option (Int32 × Mm) :=
  if t0 = 0 ∨ t0 = 1 then some (t0, σ) else none
def f_X6_isLetter_16 (N : Nat) (σ : Mm) : Option (Int32 × Mm) :=
  f_X6_isLetter_17 N (0 : Int32) σ
def f_X6_isLetter (N : Nat) (l0 : Int32) (σ : Mm) : Option (Int32 × Mm) :=
  if l0 < (97 : Int32) then (
    f_X6_isLetter_16 N σ) else (
    if (122 : Int32) < l0 then (
      f_X6_isLetter_16 N σ) else (
      f_X6_isLetter_17 N (1 : Int32) σ))
theorem mos_X6_isLetter : MOS yX6_isLetter M_X6_isLetter 1 := ⟨⟨tw_98, tw_495, ⟨by decide, by decide⟩, by decide +kernel⟩, tw_494⟩
set_option maxRecDepth 4000 in
theorem s_X6_isLetter_17 {Γ : Cn} {τ : Mm} {N : Nat} {t0 : Int32} {σ : Mm} {o : Int32 × Mm} (h : f_X6_isLetter_17 N t0 σ = some o) : Gx Γ M_X6_isLetter 0 τ (PI o) 0 0 17 [] [.int t0] σ := by
  unfold f_X6_isLetter_17 at h
  obtain ⟨hz, h⟩ := of_if h
  have h := Option.some.inj h
  subst h
  exact gx_zret dX6_isLetter_17 rfl (nar_z hz) (Nat.le_of_ble_eq_true rfl) (Nat.le_of_ble_eq_true rfl) ⟨rfl, rfl⟩
set_option maxRecDepth 4000 in
theorem s_X6_isLetter_16 {Γ : Cn} {τ : Mm} {N : Nat} {σ : Mm} {o : Int32 × Mm} (h : f_X6_isLetter_16 N σ = some o) : Gx Γ M_X6_isLetter 0 τ (PI o) 0 0 16 [] [] σ := by
  unfold f_X6_isLetter_16 at h
  refine gx_iconst (v := (0 : Int32)) dX6_isLetter_16 ic_0 ?_
  exact s_X6_isLetter_17  h
set_option maxRecDepth 4000 in
theorem s_X6_isLetter_0 {Γ : Cn} {τ : Mm} {N : Nat} {l0 : Int32} {σ : Mm} {o : Int32 × Mm} (h : f_X6_isLetter N l0 σ = some o) : Gx Γ M_X6_isLetter 0 τ (PI o) 0 0 0 [(0, .int l0)] [] σ := by
  unfold f_X6_isLetter at h
  refine gx_iload_n 0 dX6_isLetter_0 rfl rfl ?_
  refine gx_bipush (v := (97 : Int32)) dX6_isLetter_1 ib_97 ?_
  refine gx_icmp_lt 16 dX6_isLetter_3 (by decide) (fun c0 => ?_) (fun c0 => ?_)
  · rw [if_pos c0] at h
    exact gx_sub [] rfl (s_X6_isLetter_16  h)
  · rw [if_neg c0] at h
    refine gx_iload_n 0 dX6_isLetter_6 rfl rfl ?_
    refine gx_bipush (v := (122 : Int32)) dX6_isLetter_7 ib_122 ?_
    refine gx_icmp_gt 16 dX6_isLetter_9 (by decide) (fun c1 => ?_) (fun c1 => ?_)
    · rw [if_pos c1] at h
      exact gx_sub [] rfl (s_X6_isLetter_16  h)
    · rw [if_neg c1] at h
      refine gx_iconst (v := (1 : Int32)) dX6_isLetter_12 ic_1 ?_
      refine gx_goto 17 dX6_isLetter_13 (by decide) ?_
      exact gx_sub [] rfl (s_X6_isLetter_17  h)
theorem c_X6_isLetter {Γ : Cn} {τ : Mm} {N : Nat} {l0 : Int32} {σ : Mm} {o : Int32 × Mm} (h : f_X6_isLetter N l0 σ = some o) : Ct Γ M_X6_isLetter yX6_isLetter 0 τ [.int l0] σ (PI o) := ct_of (by decide) rfl (fun _ => by first | rfl | contradiction) (Nat.le_of_ble_eq_true rfl) (s_X6_isLetter_0  h)
abbrev M_X6_isWord : Ms := (cX6_isWord, RX6, 6, (some .boolean), false, 0, 0, 6)
def f_X6_isWord_22 (N : Nat) (σ : Mm) : Option (Int32 × Mm) :=
  some ((0 : Int32), σ)
def f_X6_isWord_55 (N : Nat) (r_27 : Nat → Int32 → Int32 → Int32 → Int32 → Mm → Option (Int32 × Mm)) (l0 : Nat) (l1 : Int32) (l2 : Int32) (l3 : Int32) (l4 : Int32) (t0 : Int32) (σ : Mm) : Option (Int32 × Mm) :=
  (chA ((l3 * (6 : Int32)) + l4)).bind fun x1 =>
  if x1 = t0 then (
    r_27 l0 l1 l2 l3 (l4 + (1 : Int32)) σ) else (
    some ((0 : Int32), σ))
def f_X6_isWord_27 (N : Nat) : Nat → Nat → Int32 → Int32 → Int32 → Int32 → Mm → Option (Int32 × Mm)
  | 0, _, _, _, _, _, _ => none
  | n + 1, l0, l1, l2, l3, l4, σ =>
      if (6 : Int32) ≤ l4 then (
        some ((1 : Int32), σ)) else (
        if l2 ≤ (l1 + l4) then (
          f_X6_isWord_55 N (f_X6_isWord_27 N n) l0 l1 l2 l3 l4 (32 : Int32) σ) else (
          (ob 5 σ l0).bind fun _ =>
          (f_X5_at N l0 (l1 + l4) σ).bind fun q3 =>
          f_X6_isWord_55 N (f_X6_isWord_27 N n) l0 l1 l2 l3 l4 q3.1 q3.2))
def f_X6_isWord (N : Nat) (l0 : Nat) (l1 : Int32) (l2 : Int32) (l3 : Int32) (σ : Mm) : Option (Int32 × Mm) :=
  if (6 : Int32) ≤ (l2 - l1) then (
    f_X6_isWord_22 N σ) else (
    if ((l3 + (1 : Int32)) * (6 : Int32)) ≤ (96 : Int32) then (
      f_X6_isWord_27 N N l0 l1 l2 l3 (0 : Int32) σ) else (
      f_X6_isWord_22 N σ))
theorem mos_X6_isWord : MOS yX6_isWord M_X6_isWord 4 := ⟨⟨tw_98, tw_516, ⟨by decide, by decide⟩, by decide +kernel⟩, tw_515⟩
set_option maxRecDepth 4000 in
theorem s_X6_isWord_22 {Γ : Cn} {τ : Mm} {N : Nat} {σ : Mm} {o : Int32 × Mm} (h : f_X6_isWord_22 N σ = some o) : Gx Γ M_X6_isWord 0 τ (PI o) 0 0 22 [] [] σ := by
  unfold f_X6_isWord_22 at h
  refine gx_iconst (v := (0 : Int32)) dX6_isWord_22 ic_0 ?_
  have h := Option.some.inj h
  subst h
  exact gx_zret dX6_isWord_23 rfl rfl (Nat.le_of_ble_eq_true rfl) (Nat.le_of_ble_eq_true rfl) ⟨rfl, rfl⟩
set_option maxRecDepth 4000 in
theorem s_X6_isWord_55 {Γ : Cn} {τ : Mm} {N : Nat} {r_27 : Nat → Int32 → Int32 → Int32 → Int32 → Mm → Option (Int32 × Mm)} (hr_27 : ∀ (l0 : Nat) (l1 : Int32) (l2 : Int32) (l3 : Int32) (l4 : Int32) (σ : Mm) (o : Int32 × Mm), r_27 l0 l1 l2 l3 l4 σ = some o → Gx Γ M_X6_isWord 0 τ (PI o) 0 0 27 [(0, .ref (Γ.B + pp l0)), (1, .int l1), (2, .int l2), (3, .int l3), (4, .int l4)] [] σ) {l0 : Nat} {l1 : Int32} {l2 : Int32} {l3 : Int32} {l4 : Int32} {t0 : Int32} {σ : Mm} {o : Int32 × Mm} (h : f_X6_isWord_55 N r_27 l0 l1 l2 l3 l4 t0 σ = some o) : Gx Γ M_X6_isWord 0 τ (PI o) 0 0 55 [(0, .ref (Γ.B + pp l0)), (1, .int l1), (2, .int l2), (3, .int l3), (4, .int l4)] [.int t0] σ := by
  unfold f_X6_isWord_55 at h
  refine gx_istore (lv' := [(5, .int t0), (0, .ref (Γ.B + pp l0)), (1, .int l1), (2, .int l2), (3, .int l3), (4, .int l4)]) dX6_isWord_55 (Nat.le_of_ble_eq_true rfl) rfl ?_
  refine gx_ldcS dX6_isWord_57 rfl ?_
  refine gx_iload_n 4 dX6_isWord_59 rfl rfl ?_
  refine gx_bipush (v := (6 : Int32)) dX6_isWord_60 ib_6 ?_
  refine gx_imul dX6_isWord_62 ?_
  refine gx_iload 5 dX6_isWord_63 rfl ?_
  refine gx_iadd dX6_isWord_65 ?_
  obtain ⟨x1, hx1, h⟩ := bnd h
  refine gx_schar dX6_isWord_66 hx1 ?_
  refine gx_iload 0 dX6_isWord_69 rfl ?_
  refine gx_icmp_eq 76 dX6_isWord_71 (by decide) (fun c1 => ?_) (fun c1 => ?_)
  · rw [if_pos c1] at h
    refine gx_iinc (v := (l4 + (1 : Int32))) (lv' := [(4, .int (l4 + (1 : Int32))), (5, .int t0), (0, .ref (Γ.B + pp l0)), (1, .int l1), (2, .int l2), (3, .int l3)]) 5 dX6_isWord_76 rfl (by rw [ic_1]) (Nat.le_of_ble_eq_true rfl) rfl ?_
    refine gx_goto 27 dX6_isWord_79 (by decide) ?_
    exact gx_sub [2, 3, 4, 5, 0] rfl (hr_27 _ _ _ _ _ _ _ h)
  · rw [if_neg c1] at h
    refine gx_iconst (v := (0 : Int32)) dX6_isWord_74 ic_0 ?_
    have h := Option.some.inj h
    subst h
    exact gx_zret dX6_isWord_75 rfl rfl (Nat.le_of_ble_eq_true rfl) (Nat.le_of_ble_eq_true rfl) ⟨rfl, rfl⟩
set_option maxRecDepth 4000 in
theorem s_X6_isWord_27 {Γ : Cn} {τ : Mm} {N : Nat} : ∀ (n : Nat) (l0 : Nat) (l1 : Int32) (l2 : Int32) (l3 : Int32) (l4 : Int32) (σ : Mm) (o : Int32 × Mm), f_X6_isWord_27 N n l0 l1 l2 l3 l4 σ = some o → Gx Γ M_X6_isWord 0 τ (PI o) 0 0 27 [(0, .ref (Γ.B + pp l0)), (1, .int l1), (2, .int l2), (3, .int l3), (4, .int l4)] [] σ := by
  intro n
  induction n with
  | zero =>
    intro l0 l1 l2 l3 l4 σ o h
    exact absurd h (by rw [f_X6_isWord_27]; exact fun q => nomatch q)
  | succ n ih =>
    intro l0 l1 l2 l3 l4 σ o h
    rw [f_X6_isWord_27] at h
    refine gx_iload 4 dX6_isWord_27 rfl ?_
    refine gx_bipush (v := (6 : Int32)) dX6_isWord_29 ib_6 ?_
    refine gx_icmp_ge 82 dX6_isWord_31 (by decide) (fun c0 => ?_) (fun c0 => ?_)
    · rw [if_pos c0] at h
      refine gx_iconst (v := (1 : Int32)) dX6_isWord_82 ic_1 ?_
      have h := Option.some.inj h
      subst h
      exact gx_zret dX6_isWord_83 rfl rfl (Nat.le_of_ble_eq_true rfl) (Nat.le_of_ble_eq_true rfl) ⟨rfl, rfl⟩
    · rw [if_neg c0] at h
      refine gx_iload_n 1 dX6_isWord_34 rfl rfl ?_
      refine gx_iload 4 dX6_isWord_35 rfl ?_
      refine gx_iadd dX6_isWord_37 ?_
      refine gx_iload_n 2 dX6_isWord_38 rfl rfl ?_
      refine gx_icmp_ge 53 dX6_isWord_39 (by decide) (fun c1 => ?_) (fun c1 => ?_)
      · rw [if_pos c1] at h
        refine gx_bipush (v := (32 : Int32)) dX6_isWord_53 ib_32 ?_
        exact s_X6_isWord_55 ih h
      · rw [if_neg c1] at h
        refine gx_aload_n 0 dX6_isWord_42 rfl rfl ?_
        refine gx_iload_n 1 dX6_isWord_43 rfl rfl ?_
        refine gx_iload 4 dX6_isWord_44 rfl ?_
        refine gx_iadd dX6_isWord_46 ?_
        obtain ⟨_, hobq3, h⟩ := bnd h
        obtain ⟨q3, hq3, h⟩ := bnd h
        refine gx_cVI (As := [.int (l1 + l4)]) (st := []) (o := l0) dX6_isWord_47 (c_X5_at hq3) mov_X5_at tw_478 hobq3 rfl ⟨Nat.le_of_ble_eq_true rfl, Nat.le_of_ble_eq_true rfl⟩ (Nat.le_of_ble_eq_true rfl) ?_
        refine gx_goto 55 dX6_isWord_50 (by decide) ?_
        exact s_X6_isWord_55 ih h
set_option maxRecDepth 4000 in
theorem s_X6_isWord_0 {Γ : Cn} {τ : Mm} {N : Nat} {l0 : Nat} {l1 : Int32} {l2 : Int32} {l3 : Int32} {σ : Mm} {o : Int32 × Mm} (h : f_X6_isWord N l0 l1 l2 l3 σ = some o) : Gx Γ M_X6_isWord 0 τ (PI o) 0 0 0 [(0, .ref (Γ.B + pp l0)), (1, .int l1), (2, .int l2), (3, .int l3)] [] σ := by
  unfold f_X6_isWord at h
  refine gx_iload_n 2 dX6_isWord_0 rfl rfl ?_
  refine gx_iload_n 1 dX6_isWord_1 rfl rfl ?_
  refine gx_isub dX6_isWord_2 ?_
  refine gx_bipush (v := (6 : Int32)) dX6_isWord_3 ib_6 ?_
  refine gx_icmp_ge 22 dX6_isWord_5 (by decide) (fun c0 => ?_) (fun c0 => ?_)
  · rw [if_pos c0] at h
    exact gx_sub [] rfl (s_X6_isWord_22  h)
  · rw [if_neg c0] at h
    refine gx_iload_n 3 dX6_isWord_8 rfl rfl ?_
    refine gx_iconst (v := (1 : Int32)) dX6_isWord_9 ic_1 ?_
    refine gx_iadd dX6_isWord_10 ?_
    refine gx_bipush (v := (6 : Int32)) dX6_isWord_11 ib_6 ?_
    refine gx_imul dX6_isWord_13 ?_
    refine gx_ldcS dX6_isWord_14 rfl ?_
    refine gx_slen dX6_isWord_16 ?_
    refine gx_icmp_le 24 dX6_isWord_19 (by decide) (fun c1 => ?_) (fun c1 => ?_)
    · rw [if_pos c1] at h
      refine gx_iconst (v := (0 : Int32)) dX6_isWord_24 ic_0 ?_
      refine gx_istore (lv' := [(4, .int (0 : Int32)), (0, .ref (Γ.B + pp l0)), (1, .int l1), (2, .int l2), (3, .int l3)]) dX6_isWord_25 (Nat.le_of_ble_eq_true rfl) rfl ?_
      exact gx_sub [1, 2, 3, 4, 0] rfl (s_X6_isWord_27  N _ _ _ _ _ _ _ h)
    · rw [if_neg c1] at h
      exact gx_sub [] rfl (s_X6_isWord_22  h)
theorem c_X6_isWord {Γ : Cn} {τ : Mm} {N : Nat} {l0 : Nat} {l1 : Int32} {l2 : Int32} {l3 : Int32} {σ : Mm} {o : Int32 × Mm} (h : f_X6_isWord N l0 l1 l2 l3 σ = some o) : Ct Γ M_X6_isWord yX6_isWord 0 τ [.ref (Γ.B + pp l0), .int l1, .int l2, .int l3] σ (PI o) := ct_of (by decide) rfl (fun _ => by first | rfl | contradiction) (Nat.le_of_ble_eq_true rfl) (s_X6_isWord_0  h)
abbrev M_X6_wordKind : Ms := (cX6_wordKind, RX6, 4, (some .int), false, 0, 0, 7)
def f_X6_wordKind_2 (N : Nat) : Nat → Nat → Int32 → Int32 → Int32 → Mm → Option (Int32 × Mm)
  | 0, _, _, _, _, _ => none
  | n + 1, l0, l1, l2, l3, σ =>
      if (96 : Int32) ≤ (l3 * (6 : Int32)) then (
        some ((2 : Int32), σ)) else (
        (f_X6_isWord N l0 l1 l2 l3 σ).bind fun q2 =>
        if q2.1 = 0 then (
          f_X6_wordKind_2 N n l0 l1 l2 (l3 + (1 : Int32)) q2.2) else (
          some (((20 : Int32) + l3), q2.2)))
def f_X6_wordKind (N : Nat) (l0 : Nat) (l1 : Int32) (l2 : Int32) (σ : Mm) : Option (Int32 × Mm) :=
  f_X6_wordKind_2 N N l0 l1 l2 (0 : Int32) σ
theorem mos_X6_wordKind : MOS yX6_wordKind M_X6_wordKind 3 := ⟨⟨tw_98, tw_502, ⟨by decide, by decide⟩, by decide +kernel⟩, tw_501⟩
set_option maxRecDepth 4000 in
theorem s_X6_wordKind_2 {Γ : Cn} {τ : Mm} {N : Nat} : ∀ (n : Nat) (l0 : Nat) (l1 : Int32) (l2 : Int32) (l3 : Int32) (σ : Mm) (o : Int32 × Mm), f_X6_wordKind_2 N n l0 l1 l2 l3 σ = some o → Gx Γ M_X6_wordKind 0 τ (PI o) 0 0 2 [(0, .ref (Γ.B + pp l0)), (1, .int l1), (2, .int l2), (3, .int l3)] [] σ := by
  intro n
  induction n with
  | zero =>
    intro l0 l1 l2 l3 σ o h
    exact absurd h (by rw [f_X6_wordKind_2]; exact fun q => nomatch q)
  | succ n ih =>
    intro l0 l1 l2 l3 σ o h
    rw [f_X6_wordKind_2] at h
    refine gx_iload_n 3 dX6_wordKind_2 rfl rfl ?_
    refine gx_bipush (v := (6 : Int32)) dX6_wordKind_3 ib_6 ?_
    refine gx_imul dX6_wordKind_5 ?_
    refine gx_ldcS dX6_wordKind_6 rfl ?_
    refine gx_slen dX6_wordKind_8 ?_
    refine gx_icmp_ge 35 dX6_wordKind_11 (by decide) (fun c0 => ?_) (fun c0 => ?_)
    · rw [if_pos c0] at h
      refine gx_iconst (v := (2 : Int32)) dX6_wordKind_35 ic_2 ?_
      have h := Option.some.inj h
      subst h
      exact gx_iret dX6_wordKind_36 rfl (Nat.le_of_ble_eq_true rfl) (Nat.le_of_ble_eq_true rfl) ⟨rfl, rfl⟩
    · rw [if_neg c0] at h
      refine gx_aload_n 0 dX6_wordKind_14 rfl rfl ?_
      refine gx_iload_n 1 dX6_wordKind_15 rfl rfl ?_
      refine gx_iload_n 2 dX6_wordKind_16 rfl rfl ?_
      refine gx_iload_n 3 dX6_wordKind_17 rfl rfl ?_
      obtain ⟨q2, hq2, h⟩ := bnd h
      refine gx_cSI (As := [.ref (Γ.B + pp l0), .int l1, .int l2, .int l3]) (st := []) dX6_wordKind_18 (c_X6_isWord hq2) mos_X6_isWord tw_514 rfl ⟨Nat.le_of_ble_eq_true rfl, Nat.le_of_ble_eq_true rfl⟩ (Nat.le_of_ble_eq_true rfl) ?_
      refine gx_if_eq 29 dX6_wordKind_21 (by decide) (fun c2 => ?_) (fun c2 => ?_)
      · rw [if_pos c2] at h
        refine gx_iinc (v := (l3 + (1 : Int32))) (lv' := [(3, .int (l3 + (1 : Int32))), (0, .ref (Γ.B + pp l0)), (1, .int l1), (2, .int l2)]) 3 dX6_wordKind_29 rfl (by rw [ic_1]) (Nat.le_of_ble_eq_true rfl) rfl ?_
        refine gx_goto 2 dX6_wordKind_32 (by decide) ?_
        exact gx_sub [1, 2, 3, 0] rfl (ih _ _ _ _ _ _ h)
      · rw [if_neg c2] at h
        refine gx_bipush (v := (20 : Int32)) dX6_wordKind_24 ib_20 ?_
        refine gx_iload_n 3 dX6_wordKind_26 rfl rfl ?_
        refine gx_iadd dX6_wordKind_27 ?_
        have h := Option.some.inj h
        subst h
        exact gx_iret dX6_wordKind_28 rfl (Nat.le_of_ble_eq_true rfl) (Nat.le_of_ble_eq_true rfl) ⟨rfl, rfl⟩
set_option maxRecDepth 4000 in
theorem s_X6_wordKind_0 {Γ : Cn} {τ : Mm} {N : Nat} {l0 : Nat} {l1 : Int32} {l2 : Int32} {σ : Mm} {o : Int32 × Mm} (h : f_X6_wordKind N l0 l1 l2 σ = some o) : Gx Γ M_X6_wordKind 0 τ (PI o) 0 0 0 [(0, .ref (Γ.B + pp l0)), (1, .int l1), (2, .int l2)] [] σ := by
  unfold f_X6_wordKind at h
  refine gx_iconst (v := (0 : Int32)) dX6_wordKind_0 ic_0 ?_
  refine gx_istore_n (lv' := [(3, .int (0 : Int32)), (0, .ref (Γ.B + pp l0)), (1, .int l1), (2, .int l2)]) dX6_wordKind_1 rfl (Nat.le_of_ble_eq_true rfl) rfl ?_
  exact gx_sub [1, 2, 3, 0] rfl (s_X6_wordKind_2  N _ _ _ _ _ _ h)
theorem c_X6_wordKind {Γ : Cn} {τ : Mm} {N : Nat} {l0 : Nat} {l1 : Int32} {l2 : Int32} {σ : Mm} {o : Int32 × Mm} (h : f_X6_wordKind N l0 l1 l2 σ = some o) : Ct Γ M_X6_wordKind yX6_wordKind 0 τ [.ref (Γ.B + pp l0), .int l1, .int l2] σ (PI o) := ct_of (by decide) rfl (fun _ => by first | rfl | contradiction) (Nat.le_of_ble_eq_true rfl) (s_X6_wordKind_0  h)
