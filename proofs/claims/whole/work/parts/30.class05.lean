abbrev M_X8_readsWorth : Ms := (cX8_readsWorth, RX8, 4, (some .boolean), false, 0, 0, 2)
def f_X8_readsWorth (N : Nat) (l0 : Nat) (l1 : Nat) (σ : Mm) : Option (Int32 × Mm) :=
  (ob 8 σ l0).bind fun _ =>
  (f_X8_readsNumber N l0 (3 : Int32) σ).bind fun q1 =>
  if q1.1 = 0 then (
    some ((0 : Int32), q1.2)) else (
    (gI 8 1 q1.2 l0).bind fun x3 =>
    (ob 8 q1.2 l0).bind fun _ =>
    (f_X8_readsNumber N l0 (7 : Int32) q1.2).bind fun q4 =>
    if q4.1 = 0 then (
      some ((0 : Int32), q4.2)) else (
      (gI 8 1 q4.2 l0).bind fun x6 =>
      (ob 8 q4.2 l0).bind fun _ =>
      (f_X8_readsNumber N l0 (99 : Int32) q4.2).bind fun q7 =>
      if q7.1 = 0 then (
        some ((0 : Int32), q7.2)) else (
        (gI 8 1 q7.2 l0).bind fun x9 =>
        (ob 7 q7.2 l1).bind fun _ =>
        (f_X7_setGain N l1 x3 x6 x9 q7.2).bind fun q10 =>
        some ((1 : Int32), q10))))
theorem mov_X8_readsWorth : MOV yX8_readsWorth M_X8_readsWorth 1 8 0 := ⟨⟨tw_99, tw_609, ⟨by decide, by decide⟩, by decide +kernel⟩, tw_608, tw_10, by decide, ⟨_, rfl, rfl⟩, rfl⟩
set_option maxRecDepth 4000 in
theorem s_X8_readsWorth_0 {Γ : Cn} {τ : Mm} {N : Nat} {l0 : Nat} {l1 : Nat} {σ : Mm} {o : Int32 × Mm} (h : f_X8_readsWorth N l0 l1 σ = some o) : Gx Γ M_X8_readsWorth 0 τ (PI o) 0 0 0 [(0, .ref (Γ.B + pp l0)), (1, .ref (Γ.B + pp l1))] [] σ := by
  unfold f_X8_readsWorth at h
  refine gx_aload_n 0 dX8_readsWorth_0 rfl rfl ?_
  refine gx_iconst (v := (3 : Int32)) dX8_readsWorth_1 ic_3 ?_
  obtain ⟨_, hobq1, h⟩ := bnd h
  obtain ⟨q1, hq1, h⟩ := bnd h
  refine gx_cVI (As := [.int (3 : Int32)]) (st := []) (o := l0) dX8_readsWorth_2 (c_X8_readsNumber hq1) mov_X8_readsNumber tw_594 hobq1 rfl ⟨Nat.le_of_ble_eq_true rfl, Nat.le_of_ble_eq_true rfl⟩ (Nat.le_of_ble_eq_true rfl) ?_
  refine gx_if_ne 10 dX8_readsWorth_5 (by decide) (fun c1 => ?_) (fun c1 => ?_)
  · rw [if_neg c1] at h
    refine gx_aload_n 0 dX8_readsWorth_10 rfl rfl ?_
    obtain ⟨x3, hx3, h⟩ := bnd h
    refine gx_getI dX8_readsWorth_11 hx3 fl_X8_9 rfl ?_
    refine gx_istore_n (lv' := [(2, .int x3), (0, .ref (Γ.B + pp l0)), (1, .ref (Γ.B + pp l1))]) dX8_readsWorth_14 rfl (Nat.le_of_ble_eq_true rfl) rfl ?_
    refine gx_aload_n 1 dX8_readsWorth_15 rfl rfl ?_
    refine gx_bipush (v := (7 : Int32)) dX8_readsWorth_16 ib_7 ?_
    obtain ⟨_, hobq4, h⟩ := bnd h
    obtain ⟨q4, hq4, h⟩ := bnd h
    refine gx_cVI (As := [.int (7 : Int32)]) (st := []) (o := l0) dX8_readsWorth_18 (c_X8_readsNumber hq4) mov_X8_readsNumber tw_594 hobq4 rfl ⟨Nat.le_of_ble_eq_true rfl, Nat.le_of_ble_eq_true rfl⟩ (Nat.le_of_ble_eq_true rfl) ?_
    refine gx_if_ne 26 dX8_readsWorth_21 (by decide) (fun c4 => ?_) (fun c4 => ?_)
    · rw [if_neg c4] at h
      refine gx_aload_n 1 dX8_readsWorth_26 rfl rfl ?_
      obtain ⟨x6, hx6, h⟩ := bnd h
      refine gx_getI dX8_readsWorth_27 hx6 fl_X8_9 rfl ?_
      refine gx_istore_n (lv' := [(3, .int x6), (2, .int x3), (0, .ref (Γ.B + pp l0)), (1, .ref (Γ.B + pp l1))]) dX8_readsWorth_30 rfl (Nat.le_of_ble_eq_true rfl) rfl ?_
      refine gx_aload_n 2 dX8_readsWorth_31 rfl rfl ?_
      refine gx_bipush (v := (99 : Int32)) dX8_readsWorth_32 ib_99 ?_
      obtain ⟨_, hobq7, h⟩ := bnd h
      obtain ⟨q7, hq7, h⟩ := bnd h
      refine gx_cVI (As := [.int (99 : Int32)]) (st := []) (o := l0) dX8_readsWorth_34 (c_X8_readsNumber hq7) mov_X8_readsNumber tw_594 hobq7 rfl ⟨Nat.le_of_ble_eq_true rfl, Nat.le_of_ble_eq_true rfl⟩ (Nat.le_of_ble_eq_true rfl) ?_
      refine gx_if_ne 42 dX8_readsWorth_37 (by decide) (fun c7 => ?_) (fun c7 => ?_)
      · rw [if_neg c7] at h
        refine gx_aload_n 3 dX8_readsWorth_42 rfl rfl ?_
        refine gx_iload_n 1 dX8_readsWorth_43 rfl rfl ?_
        refine gx_iload_n 0 dX8_readsWorth_44 rfl rfl ?_
        refine gx_aload_n 2 dX8_readsWorth_45 rfl rfl ?_
        obtain ⟨x9, hx9, h⟩ := bnd h
        refine gx_getI dX8_readsWorth_46 hx9 fl_X8_9 rfl ?_
        obtain ⟨_, hobq10, h⟩ := bnd h
        obtain ⟨q10, hq10, h⟩ := bnd h
        refine gx_cVV (As := [.int x3, .int x6, .int x9]) (st := []) (o := l1) dX8_readsWorth_49 (c_X7_setGain hq10) mov_X7_setGain tw_610 hobq10 rfl ⟨Nat.le_of_ble_eq_true rfl, Nat.le_of_ble_eq_true rfl⟩ (Nat.le_of_ble_eq_true rfl) ?_
        refine gx_iconst (v := (1 : Int32)) dX8_readsWorth_52 ic_1 ?_
        have h := Option.some.inj h
        subst h
        exact gx_zret dX8_readsWorth_53 rfl rfl (Nat.le_of_ble_eq_true rfl) (Nat.le_of_ble_eq_true rfl) ⟨rfl, rfl⟩
      · rw [if_pos c7] at h
        refine gx_iconst (v := (0 : Int32)) dX8_readsWorth_40 ic_0 ?_
        have h := Option.some.inj h
        subst h
        exact gx_zret dX8_readsWorth_41 rfl rfl (Nat.le_of_ble_eq_true rfl) (Nat.le_of_ble_eq_true rfl) ⟨rfl, rfl⟩
    · rw [if_pos c4] at h
      refine gx_iconst (v := (0 : Int32)) dX8_readsWorth_24 ic_0 ?_
      have h := Option.some.inj h
      subst h
      exact gx_zret dX8_readsWorth_25 rfl rfl (Nat.le_of_ble_eq_true rfl) (Nat.le_of_ble_eq_true rfl) ⟨rfl, rfl⟩
  · rw [if_pos c1] at h
    refine gx_iconst (v := (0 : Int32)) dX8_readsWorth_8 ic_0 ?_
    have h := Option.some.inj h
    subst h
    exact gx_zret dX8_readsWorth_9 rfl rfl (Nat.le_of_ble_eq_true rfl) (Nat.le_of_ble_eq_true rfl) ⟨rfl, rfl⟩
theorem c_X8_readsWorth {Γ : Cn} {τ : Mm} {N : Nat} {l0 : Nat} {l1 : Nat} {σ : Mm} {o : Int32 × Mm} (h : f_X8_readsWorth N l0 l1 σ = some o) : Ct Γ M_X8_readsWorth yX8_readsWorth 0 τ [.ref (Γ.B + pp l0), .ref (Γ.B + pp l1)] σ (PI o) := ct_of (by decide) rfl (fun _ => by first | rfl | contradiction) (Nat.le_of_ble_eq_true rfl) (s_X8_readsWorth_0  h)
abbrev M_X8_readsClause : Ms := (cX8_readsClause, RX8, 6, (some .boolean), false, 0, 0, 4)
def f_X8_readsClause_93 (N : Nat) (l0 : Nat) (σ : Mm) : Option (Int32 × Mm) :=
  (gN 8 0 σ l0).bind fun a1 =>
  (ob 6 σ a1).bind fun _ =>
  (f_X6_fails N a1 (4 : Int32) σ).bind fun q2 =>
  if q2.1 = 0 ∨ q2.1 = 1 then some (q2.1, q2.2) else none
def f_X8_readsClause_140 (N : Nat) (t0 : Int32) (σ : Mm) : Option (Int32 × Mm) :=
  if t0 = 0 ∨ t0 = 1 then some (t0, σ) else none
def f_X8_readsClause_102 (N : Nat) (l0 : Nat) (l1 : Nat) (l4 : Int32) (l5 : Int32) (σ : Mm) : Option (Int32 × Mm) :=
  (gN 8 0 σ l0).bind fun a1 =>
  (ob 6 σ a1).bind fun _ =>
  (f_X6_skip N a1 σ).bind fun q2 =>
  if l4 = 0 then (
    if l5 = 0 then (
      (ob 8 q2 l0).bind fun _ =>
      (f_X8_readsWorth N l0 l1 q2).bind fun q5 =>
      f_X8_readsClause_140 N q5.1 q5.2) else (
      (ob 8 q2 l0).bind fun _ =>
      (f_X8_readsTree N l0 l1 q2).bind fun q6 =>
      f_X8_readsClause_140 N q6.1 q6.2)) else (
    (ob 8 q2 l0).bind fun _ =>
    (f_X8_readsCock N l0 l1 q2).bind fun q7 =>
    f_X8_readsClause_140 N q7.1 q7.2)
def f_X8_readsClause_79 (N : Nat) (l0 : Nat) (l1 : Nat) (l4 : Int32) (l5 : Int32) (σ : Mm) : Option (Int32 × Mm) :=
  if l5 = 0 then (
    f_X8_readsClause_102 N l0 l1 l4 l5 σ) else (
    (gI 7 8 σ l1).bind fun x2 =>
    if x2 < (12 : Int32) then (
      f_X8_readsClause_102 N l0 l1 l4 l5 σ) else (
      f_X8_readsClause_93 N l0 σ))
def f_X8_readsClause_59 (N : Nat) (l0 : Nat) (l1 : Nat) (l2 : Int32) (l4 : Int32) (l5 : Int32) (σ : Mm) : Option (Int32 × Mm) :=
  if (40 : Int32) ≤ l2 then (
    f_X8_readsClause_93 N l0 σ) else (
    if l4 = 0 then (
      f_X8_readsClause_79 N l0 l1 l4 l5 σ) else (
      (gI 7 0 σ l1).bind fun x3 =>
      if (12 : Int32) ≤ x3 then (
        f_X8_readsClause_93 N l0 σ) else (
        f_X8_readsClause_79 N l0 l1 l4 l5 σ)))
def f_X8_readsClause_32 (N : Nat) (l0 : Nat) (l1 : Nat) (l2 : Int32) (l3 : Int32) (l4 : Int32) (t0 : Int32) (σ : Mm) : Option (Int32 × Mm) :=
  if l4 = 0 then (
    if t0 = 0 then (
      if l3 = (35 : Int32) then (
        f_X8_readsClause_59 N l0 l1 l2 l4 t0 σ) else (
        (gN 8 0 σ l0).bind fun a4 =>
        (ob 6 σ a4).bind fun _ =>
        (f_X6_fails N a4 (0 : Int32) σ).bind fun q5 =>
        if q5.1 = 0 ∨ q5.1 = 1 then some (q5.1, q5.2) else none)) else (
      f_X8_readsClause_59 N l0 l1 l2 l4 t0 σ)) else (
    f_X8_readsClause_59 N l0 l1 l2 l4 t0 σ)
def f_X8_readsClause_19 (N : Nat) (l0 : Nat) (l1 : Nat) (l2 : Int32) (l3 : Int32) (t0 : Int32) (σ : Mm) : Option (Int32 × Mm) :=
  if l3 = (34 : Int32) then (
    f_X8_readsClause_32 N l0 l1 l2 l3 t0 (1 : Int32) σ) else (
    f_X8_readsClause_32 N l0 l1 l2 l3 t0 (0 : Int32) σ)
def f_X8_readsClause (N : Nat) (l0 : Nat) (l1 : Nat) (l2 : Int32) (σ : Mm) : Option (Int32 × Mm) :=
  (gN 8 0 σ l0).bind fun a1 =>
  (ob 6 σ a1).bind fun _ =>
  (f_X6_kind N a1 σ).bind fun q2 =>
  if q2.1 = (25 : Int32) then (
    f_X8_readsClause_19 N l0 l1 l2 q2.1 (1 : Int32) q2.2) else (
    f_X8_readsClause_19 N l0 l1 l2 q2.1 (0 : Int32) q2.2)
theorem mov_X8_readsClause : MOV yX8_readsClause M_X8_readsClause 2 8 0 := ⟨⟨tw_99, tw_573, ⟨by decide, by decide⟩, by decide +kernel⟩, tw_572, tw_5, by decide, ⟨_, rfl, rfl⟩, rfl⟩
set_option maxRecDepth 4000 in
theorem s_X8_readsClause_93 {Γ : Cn} {τ : Mm} {N : Nat} {l0 : Nat} {σ : Mm} {o : Int32 × Mm} (h : f_X8_readsClause_93 N l0 σ = some o) : Gx Γ M_X8_readsClause 0 τ (PI o) 0 0 93 [(0, .ref (Γ.B + pp l0))] [] σ := by
  unfold f_X8_readsClause_93 at h
  refine gx_aload_n 0 dX8_readsClause_93 rfl rfl ?_
  obtain ⟨a1, ha1, h⟩ := bnd h
  refine gx_getN dX8_readsClause_94 ha1 fl_X8_15 rfl ?_
  refine gx_iconst (v := (4 : Int32)) dX8_readsClause_97 ic_4 ?_
  obtain ⟨_, hobq2, h⟩ := bnd h
  obtain ⟨q2, hq2, h⟩ := bnd h
  refine gx_cVI (As := [.int (4 : Int32)]) (st := []) (o := a1) dX8_readsClause_98 (c_X6_fails hq2) mov_X6_fails tw_578 hobq2 rfl ⟨Nat.le_of_ble_eq_true rfl, Nat.le_of_ble_eq_true rfl⟩ (Nat.le_of_ble_eq_true rfl) ?_
  obtain ⟨hz, h⟩ := of_if h
  have h := Option.some.inj h
  subst h
  exact gx_zret dX8_readsClause_101 rfl (nar_z hz) (Nat.le_of_ble_eq_true rfl) (Nat.le_of_ble_eq_true rfl) ⟨rfl, rfl⟩
set_option maxRecDepth 4000 in
theorem s_X8_readsClause_140 {Γ : Cn} {τ : Mm} {N : Nat} {t0 : Int32} {σ : Mm} {o : Int32 × Mm} (h : f_X8_readsClause_140 N t0 σ = some o) : Gx Γ M_X8_readsClause 0 τ (PI o) 0 0 140 [] [.int t0] σ := by
  unfold f_X8_readsClause_140 at h
  obtain ⟨hz, h⟩ := of_if h
  have h := Option.some.inj h
  subst h
  exact gx_zret dX8_readsClause_140 rfl (nar_z hz) (Nat.le_of_ble_eq_true rfl) (Nat.le_of_ble_eq_true rfl) ⟨rfl, rfl⟩
set_option maxRecDepth 4000 in
theorem s_X8_readsClause_102 {Γ : Cn} {τ : Mm} {N : Nat} {l0 : Nat} {l1 : Nat} {l4 : Int32} {l5 : Int32} {σ : Mm} {o : Int32 × Mm} (h : f_X8_readsClause_102 N l0 l1 l4 l5 σ = some o) : Gx Γ M_X8_readsClause 0 τ (PI o) 0 0 102 [(0, .ref (Γ.B + pp l0)), (1, .ref (Γ.B + pp l1)), (4, .int l4), (5, .int l5)] [] σ := by
  unfold f_X8_readsClause_102 at h
  refine gx_aload_n 0 dX8_readsClause_102 rfl rfl ?_
  obtain ⟨a1, ha1, h⟩ := bnd h
  refine gx_getN dX8_readsClause_103 ha1 fl_X8_15 rfl ?_
  obtain ⟨_, hobq2, h⟩ := bnd h
  obtain ⟨q2, hq2, h⟩ := bnd h
  refine gx_cVV (As := []) (st := []) (o := a1) dX8_readsClause_106 (c_X6_skip hq2) mov_X6_skip tw_582 hobq2 rfl ⟨Nat.le_of_ble_eq_true rfl, Nat.le_of_ble_eq_true rfl⟩ (Nat.le_of_ble_eq_true rfl) ?_
  refine gx_iload 2 dX8_readsClause_109 rfl ?_
  refine gx_if_eq 122 dX8_readsClause_111 (by decide) (fun c2 => ?_) (fun c2 => ?_)
  · rw [if_pos c2] at h
    refine gx_iload 3 dX8_readsClause_122 rfl ?_
    refine gx_if_eq 135 dX8_readsClause_124 (by decide) (fun c3 => ?_) (fun c3 => ?_)
    · rw [if_pos c3] at h
      refine gx_aload_n 0 dX8_readsClause_135 rfl rfl ?_
      refine gx_aload_n 1 dX8_readsClause_136 rfl rfl ?_
      obtain ⟨_, hobq5, h⟩ := bnd h
      obtain ⟨q5, hq5, h⟩ := bnd h
      refine gx_cVI (As := [.ref (Γ.B + pp l1)]) (st := []) (o := l0) dX8_readsClause_137 (c_X8_readsWorth hq5) mov_X8_readsWorth tw_606 hobq5 rfl ⟨Nat.le_of_ble_eq_true rfl, Nat.le_of_ble_eq_true rfl⟩ (Nat.le_of_ble_eq_true rfl) ?_
      exact gx_sub [] rfl (s_X8_readsClause_140  h)
    · rw [if_neg c3] at h
      refine gx_aload_n 0 dX8_readsClause_127 rfl rfl ?_
      refine gx_aload_n 1 dX8_readsClause_128 rfl rfl ?_
      obtain ⟨_, hobq6, h⟩ := bnd h
      obtain ⟨q6, hq6, h⟩ := bnd h
      refine gx_cVI (As := [.ref (Γ.B + pp l1)]) (st := []) (o := l0) dX8_readsClause_129 (c_X8_readsTree hq6) mov_X8_readsTree tw_602 hobq6 rfl ⟨Nat.le_of_ble_eq_true rfl, Nat.le_of_ble_eq_true rfl⟩ (Nat.le_of_ble_eq_true rfl) ?_
      refine gx_goto 140 dX8_readsClause_132 (by decide) ?_
      exact gx_sub [] rfl (s_X8_readsClause_140  h)
  · rw [if_neg c2] at h
    refine gx_aload_n 0 dX8_readsClause_114 rfl rfl ?_
    refine gx_aload_n 1 dX8_readsClause_115 rfl rfl ?_
    obtain ⟨_, hobq7, h⟩ := bnd h
    obtain ⟨q7, hq7, h⟩ := bnd h
    refine gx_cVI (As := [.ref (Γ.B + pp l1)]) (st := []) (o := l0) dX8_readsClause_116 (c_X8_readsCock hq7) mov_X8_readsCock tw_586 hobq7 rfl ⟨Nat.le_of_ble_eq_true rfl, Nat.le_of_ble_eq_true rfl⟩ (Nat.le_of_ble_eq_true rfl) ?_
    refine gx_goto 140 dX8_readsClause_119 (by decide) ?_
    exact gx_sub [] rfl (s_X8_readsClause_140  h)
set_option maxRecDepth 4000 in
theorem s_X8_readsClause_79 {Γ : Cn} {τ : Mm} {N : Nat} {l0 : Nat} {l1 : Nat} {l4 : Int32} {l5 : Int32} {σ : Mm} {o : Int32 × Mm} (h : f_X8_readsClause_79 N l0 l1 l4 l5 σ = some o) : Gx Γ M_X8_readsClause 0 τ (PI o) 0 0 79 [(0, .ref (Γ.B + pp l0)), (1, .ref (Γ.B + pp l1)), (4, .int l4), (5, .int l5)] [] σ := by
  unfold f_X8_readsClause_79 at h
  refine gx_iload 3 dX8_readsClause_79 rfl ?_
  refine gx_if_eq 102 dX8_readsClause_81 (by decide) (fun c0 => ?_) (fun c0 => ?_)
  · rw [if_pos c0] at h
    exact s_X8_readsClause_102  h
  · rw [if_neg c0] at h
    refine gx_aload_n 1 dX8_readsClause_84 rfl rfl ?_
    obtain ⟨x2, hx2, h⟩ := bnd h
    refine gx_getI dX8_readsClause_85 hx2 fl_X8_44 rfl ?_
    refine gx_bipush (v := (12 : Int32)) dX8_readsClause_88 ib_12 ?_
    refine gx_icmp_lt 102 dX8_readsClause_90 (by decide) (fun c2 => ?_) (fun c2 => ?_)
    · rw [if_pos c2] at h
      exact s_X8_readsClause_102  h
    · rw [if_neg c2] at h
      exact gx_sub [0] rfl (s_X8_readsClause_93  h)
set_option maxRecDepth 4000 in
theorem s_X8_readsClause_59 {Γ : Cn} {τ : Mm} {N : Nat} {l0 : Nat} {l1 : Nat} {l2 : Int32} {l4 : Int32} {l5 : Int32} {σ : Mm} {o : Int32 × Mm} (h : f_X8_readsClause_59 N l0 l1 l2 l4 l5 σ = some o) : Gx Γ M_X8_readsClause 0 τ (PI o) 0 0 59 [(0, .ref (Γ.B + pp l0)), (1, .ref (Γ.B + pp l1)), (2, .int l2), (4, .int l4), (5, .int l5)] [] σ := by
  unfold f_X8_readsClause_59 at h
  refine gx_iload_n 2 dX8_readsClause_59 rfl rfl ?_
  refine gx_bipush (v := (40 : Int32)) dX8_readsClause_60 ib_40 ?_
  refine gx_icmp_ge 93 dX8_readsClause_62 (by decide) (fun c0 => ?_) (fun c0 => ?_)
  · rw [if_pos c0] at h
    exact gx_sub [0] rfl (s_X8_readsClause_93  h)
  · rw [if_neg c0] at h
    refine gx_iload 3 dX8_readsClause_65 rfl ?_
    refine gx_if_eq 79 dX8_readsClause_67 (by decide) (fun c1 => ?_) (fun c1 => ?_)
    · rw [if_pos c1] at h
      exact gx_sub [0, 1, 3, 4] rfl (s_X8_readsClause_79  h)
    · rw [if_neg c1] at h
      refine gx_aload_n 1 dX8_readsClause_70 rfl rfl ?_
      obtain ⟨x3, hx3, h⟩ := bnd h
      refine gx_getI dX8_readsClause_71 hx3 fl_X8_34 rfl ?_
      refine gx_bipush (v := (12 : Int32)) dX8_readsClause_74 ib_12 ?_
      refine gx_icmp_ge 93 dX8_readsClause_76 (by decide) (fun c3 => ?_) (fun c3 => ?_)
      · rw [if_pos c3] at h
        exact gx_sub [0] rfl (s_X8_readsClause_93  h)
      · rw [if_neg c3] at h
        exact gx_sub [0, 1, 3, 4] rfl (s_X8_readsClause_79  h)
set_option maxRecDepth 4000 in
theorem s_X8_readsClause_32 {Γ : Cn} {τ : Mm} {N : Nat} {l0 : Nat} {l1 : Nat} {l2 : Int32} {l3 : Int32} {l4 : Int32} {t0 : Int32} {σ : Mm} {o : Int32 × Mm} (h : f_X8_readsClause_32 N l0 l1 l2 l3 l4 t0 σ = some o) : Gx Γ M_X8_readsClause 0 τ (PI o) 0 0 32 [(0, .ref (Γ.B + pp l0)), (1, .ref (Γ.B + pp l1)), (2, .int l2), (3, .int l3), (4, .int l4)] [.int t0] σ := by
  unfold f_X8_readsClause_32 at h
  refine gx_istore (lv' := [(5, .int t0), (0, .ref (Γ.B + pp l0)), (1, .ref (Γ.B + pp l1)), (2, .int l2), (3, .int l3), (4, .int l4)]) dX8_readsClause_32 (Nat.le_of_ble_eq_true rfl) rfl ?_
  refine gx_iload 5 dX8_readsClause_34 rfl ?_
  refine gx_if_ne 59 dX8_readsClause_36 (by decide) (fun c0 => ?_) (fun c0 => ?_)
  · rw [if_neg c0] at h
    exact gx_sub [1, 2, 3, 5, 0] rfl (s_X8_readsClause_59  h)
  · rw [if_pos c0] at h
    refine gx_iload 0 dX8_readsClause_39 rfl ?_
    refine gx_if_ne 59 dX8_readsClause_41 (by decide) (fun c1 => ?_) (fun c1 => ?_)
    · rw [if_neg c1] at h
      exact gx_sub [1, 2, 3, 5, 0] rfl (s_X8_readsClause_59  h)
    · rw [if_pos c1] at h
      refine gx_iload_n 4 dX8_readsClause_44 rfl rfl ?_
      refine gx_bipush (v := (35 : Int32)) dX8_readsClause_45 ib_35 ?_
      refine gx_icmp_eq 59 dX8_readsClause_47 (by decide) (fun c2 => ?_) (fun c2 => ?_)
      · rw [if_pos c2] at h
        exact gx_sub [1, 2, 3, 5, 0] rfl (s_X8_readsClause_59  h)
      · rw [if_neg c2] at h
        refine gx_aload_n 1 dX8_readsClause_50 rfl rfl ?_
        obtain ⟨a4, ha4, h⟩ := bnd h
        refine gx_getN dX8_readsClause_51 ha4 fl_X8_15 rfl ?_
        refine gx_iconst (v := (0 : Int32)) dX8_readsClause_54 ic_0 ?_
        obtain ⟨_, hobq5, h⟩ := bnd h
        obtain ⟨q5, hq5, h⟩ := bnd h
        refine gx_cVI (As := [.int (0 : Int32)]) (st := []) (o := a4) dX8_readsClause_55 (c_X6_fails hq5) mov_X6_fails tw_578 hobq5 rfl ⟨Nat.le_of_ble_eq_true rfl, Nat.le_of_ble_eq_true rfl⟩ (Nat.le_of_ble_eq_true rfl) ?_
        obtain ⟨hz, h⟩ := of_if h
        have h := Option.some.inj h
        subst h
        exact gx_zret dX8_readsClause_58 rfl (nar_z hz) (Nat.le_of_ble_eq_true rfl) (Nat.le_of_ble_eq_true rfl) ⟨rfl, rfl⟩
set_option maxRecDepth 4000 in
theorem s_X8_readsClause_19 {Γ : Cn} {τ : Mm} {N : Nat} {l0 : Nat} {l1 : Nat} {l2 : Int32} {l3 : Int32} {t0 : Int32} {σ : Mm} {o : Int32 × Mm} (h : f_X8_readsClause_19 N l0 l1 l2 l3 t0 σ = some o) : Gx Γ M_X8_readsClause 0 τ (PI o) 0 0 19 [(0, .ref (Γ.B + pp l0)), (1, .ref (Γ.B + pp l1)), (2, .int l2), (3, .int l3)] [.int t0] σ := by
  unfold f_X8_readsClause_19 at h
  refine gx_istore (lv' := [(4, .int t0), (0, .ref (Γ.B + pp l0)), (1, .ref (Γ.B + pp l1)), (2, .int l2), (3, .int l3)]) dX8_readsClause_19 (Nat.le_of_ble_eq_true rfl) rfl ?_
  refine gx_iload_n 4 dX8_readsClause_21 rfl rfl ?_
  refine gx_bipush (v := (34 : Int32)) dX8_readsClause_22 ib_34 ?_
  refine gx_icmp_ne 31 dX8_readsClause_24 (by decide) (fun c0 => ?_) (fun c0 => ?_)
  · rw [if_neg c0] at h
    refine gx_iconst (v := (0 : Int32)) dX8_readsClause_31 ic_0 ?_
    exact gx_sub [1, 2, 3, 4, 0] rfl (s_X8_readsClause_32  h)
  · rw [if_pos c0] at h
    refine gx_iconst (v := (1 : Int32)) dX8_readsClause_27 ic_1 ?_
    refine gx_goto 32 dX8_readsClause_28 (by decide) ?_
    exact gx_sub [1, 2, 3, 4, 0] rfl (s_X8_readsClause_32  h)
set_option maxRecDepth 4000 in
theorem s_X8_readsClause_0 {Γ : Cn} {τ : Mm} {N : Nat} {l0 : Nat} {l1 : Nat} {l2 : Int32} {σ : Mm} {o : Int32 × Mm} (h : f_X8_readsClause N l0 l1 l2 σ = some o) : Gx Γ M_X8_readsClause 0 τ (PI o) 0 0 0 [(0, .ref (Γ.B + pp l0)), (1, .ref (Γ.B + pp l1)), (2, .int l2)] [] σ := by
  unfold f_X8_readsClause at h
  refine gx_aload_n 0 dX8_readsClause_0 rfl rfl ?_
  obtain ⟨a1, ha1, h⟩ := bnd h
  refine gx_getN dX8_readsClause_1 ha1 fl_X8_15 rfl ?_
  obtain ⟨_, hobq2, h⟩ := bnd h
  obtain ⟨q2, hq2, h⟩ := bnd h
  refine gx_cVI (As := []) (st := []) (o := a1) dX8_readsClause_4 (c_X6_kind hq2) mov_X6_kind tw_574 hobq2 rfl ⟨Nat.le_of_ble_eq_true rfl, Nat.le_of_ble_eq_true rfl⟩ (Nat.le_of_ble_eq_true rfl) ?_
  refine gx_istore_n (lv' := [(3, .int q2.1), (0, .ref (Γ.B + pp l0)), (1, .ref (Γ.B + pp l1)), (2, .int l2)]) dX8_readsClause_7 rfl (Nat.le_of_ble_eq_true rfl) rfl ?_
  refine gx_iload_n 0 dX8_readsClause_8 rfl rfl ?_
  refine gx_bipush (v := (25 : Int32)) dX8_readsClause_9 ib_25 ?_
  refine gx_icmp_ne 18 dX8_readsClause_11 (by decide) (fun c2 => ?_) (fun c2 => ?_)
  · rw [if_neg c2] at h
    refine gx_iconst (v := (0 : Int32)) dX8_readsClause_18 ic_0 ?_
    exact gx_sub [1, 2, 3, 0] rfl (s_X8_readsClause_19  h)
  · rw [if_pos c2] at h
    refine gx_iconst (v := (1 : Int32)) dX8_readsClause_14 ic_1 ?_
    refine gx_goto 19 dX8_readsClause_15 (by decide) ?_
    exact gx_sub [1, 2, 3, 0] rfl (s_X8_readsClause_19  h)
theorem c_X8_readsClause {Γ : Cn} {τ : Mm} {N : Nat} {l0 : Nat} {l1 : Nat} {l2 : Int32} {σ : Mm} {o : Int32 × Mm} (h : f_X8_readsClause N l0 l1 l2 σ = some o) : Ct Γ M_X8_readsClause yX8_readsClause 0 τ [.ref (Γ.B + pp l0), .ref (Γ.B + pp l1), .int l2] σ (PI o) := ct_of (by decide) rfl (fun _ => by first | rfl | contradiction) (Nat.le_of_ble_eq_true rfl) (s_X8_readsClause_0  h)
abbrev M_X8_reads : Ms := (cX8_reads, RX8, 3, (some .boolean), false, 0, 0, 5)
def f_X8_reads_57 (N : Nat) (t0 : Int32) (σ : Mm) : Option (Int32 × Mm) :=
  if t0 = 0 ∨ t0 = 1 then some (t0, σ) else none
def f_X8_reads_52 (N : Nat) (σ : Mm) : Option (Int32 × Mm) :=
  f_X8_reads_57 N (1 : Int32) σ
def f_X8_reads_6 (N : Nat) : Nat → Nat → Nat → Int32 → Mm → Option (Int32 × Mm)
  | 0, _, _, _, _ => none
  | n + 1, l0, l1, l2, σ =>
      if (40 : Int32) < l2 then (
        (gN 8 0 σ l0).bind fun a2 =>
        (ob 6 σ a2).bind fun _ =>
        (f_X6_fails N a2 (4 : Int32) σ).bind fun q3 =>
        if q3.1 = 0 ∨ q3.1 = 1 then some (q3.1, q3.2) else none) else (
        (ob 8 σ l0).bind fun _ =>
        (f_X8_readsClause N l0 l1 l2 σ).bind fun q4 =>
        if q4.1 = 0 then (
          some ((0 : Int32), q4.2)) else (
          (gN 8 0 q4.2 l0).bind fun a6 =>
          (ob 6 q4.2 a6).bind fun _ =>
          (f_X6_kind N a6 q4.2).bind fun q7 =>
          if q7.1 = (1 : Int32) then (
            (gI 7 0 q7.2 l1).bind fun x16 =>
            if 0 < x16 then (
              f_X8_reads_52 N q7.2) else (
              (gN 8 0 q7.2 l0).bind fun a18 =>
              (ob 6 q7.2 a18).bind fun _ =>
              (f_X6_fails N a18 (0 : Int32) q7.2).bind fun q19 =>
              if q19.1 = 0 then (
                f_X8_reads_57 N (0 : Int32) q19.2) else (
                f_X8_reads_52 N q19.2))) else (
            (gN 8 0 q7.2 l0).bind fun a9 =>
            (ob 6 q7.2 a9).bind fun _ =>
            (f_X6_kind N a9 q7.2).bind fun q10 =>
            if q10.1 = (4 : Int32) then (
              (gN 8 0 q10.2 l0).bind fun a12 =>
              (ob 6 q10.2 a12).bind fun _ =>
              (f_X6_skip N a12 q10.2).bind fun q13 =>
              f_X8_reads_6 N n l0 l1 (l2 + (1 : Int32)) q13) else (
              (gN 8 0 q10.2 l0).bind fun a14 =>
              (ob 6 q10.2 a14).bind fun _ =>
              (f_X6_fails N a14 (0 : Int32) q10.2).bind fun q15 =>
              if q15.1 = 0 ∨ q15.1 = 1 then some (q15.1, q15.2) else none))))
def f_X8_reads (N : Nat) (l0 : Nat) (l1 : Nat) (σ : Mm) : Option (Int32 × Mm) :=
  (ob 7 σ l1).bind fun _ =>
  (f_X7_clear N l1 σ).bind fun q1 =>
  f_X8_reads_6 N N l0 l1 (0 : Int32) q1
theorem mov_X8_reads : MOV yX8_reads M_X8_reads 1 8 0 := ⟨⟨tw_99, tw_565, ⟨by decide, by decide⟩, by decide +kernel⟩, tw_563, tw_564, by decide, ⟨_, rfl, rfl⟩, rfl⟩
set_option maxRecDepth 4000 in
theorem s_X8_reads_57 {Γ : Cn} {τ : Mm} {N : Nat} {t0 : Int32} {σ : Mm} {o : Int32 × Mm} (h : f_X8_reads_57 N t0 σ = some o) : Gx Γ M_X8_reads 0 τ (PI o) 0 0 57 [] [.int t0] σ := by
  unfold f_X8_reads_57 at h
  obtain ⟨hz, h⟩ := of_if h
  have h := Option.some.inj h
  subst h
  exact gx_zret dX8_reads_57 rfl (nar_z hz) (Nat.le_of_ble_eq_true rfl) (Nat.le_of_ble_eq_true rfl) ⟨rfl, rfl⟩
set_option maxRecDepth 4000 in
theorem s_X8_reads_52 {Γ : Cn} {τ : Mm} {N : Nat} {σ : Mm} {o : Int32 × Mm} (h : f_X8_reads_52 N σ = some o) : Gx Γ M_X8_reads 0 τ (PI o) 0 0 52 [] [] σ := by
  unfold f_X8_reads_52 at h
  refine gx_iconst (v := (1 : Int32)) dX8_reads_52 ic_1 ?_
  refine gx_goto 57 dX8_reads_53 (by decide) ?_
  exact s_X8_reads_57  h
set_option maxRecDepth 4000 in
theorem s_X8_reads_6 {Γ : Cn} {τ : Mm} {N : Nat} : ∀ (n : Nat) (l0 : Nat) (l1 : Nat) (l2 : Int32) (σ : Mm) (o : Int32 × Mm), f_X8_reads_6 N n l0 l1 l2 σ = some o → Gx Γ M_X8_reads 0 τ (PI o) 0 0 6 [(0, .ref (Γ.B + pp l0)), (1, .ref (Γ.B + pp l1)), (2, .int l2)] [] σ := by
  intro n
  induction n with
  | zero =>
    intro l0 l1 l2 σ o h
    exact absurd h (by rw [f_X8_reads_6]; exact fun q => nomatch q)
  | succ n ih =>
    intro l0 l1 l2 σ o h
    rw [f_X8_reads_6] at h
    refine gx_iload_n 2 dX8_reads_6 rfl rfl ?_
    refine gx_bipush (v := (40 : Int32)) dX8_reads_7 ib_40 ?_
    refine gx_icmp_gt 91 dX8_reads_9 (by decide) (fun c0 => ?_) (fun c0 => ?_)
    · rw [if_pos c0] at h
      refine gx_aload_n 0 dX8_reads_91 rfl rfl ?_
      obtain ⟨a2, ha2, h⟩ := bnd h
      refine gx_getN dX8_reads_92 ha2 fl_X8_15 rfl ?_
      refine gx_iconst (v := (4 : Int32)) dX8_reads_95 ic_4 ?_
      obtain ⟨_, hobq3, h⟩ := bnd h
      obtain ⟨q3, hq3, h⟩ := bnd h
      refine gx_cVI (As := [.int (4 : Int32)]) (st := []) (o := a2) dX8_reads_96 (c_X6_fails hq3) mov_X6_fails tw_578 hobq3 rfl ⟨Nat.le_of_ble_eq_true rfl, Nat.le_of_ble_eq_true rfl⟩ (Nat.le_of_ble_eq_true rfl) ?_
      obtain ⟨hz, h⟩ := of_if h
      have h := Option.some.inj h
      subst h
      exact gx_zret dX8_reads_99 rfl (nar_z hz) (Nat.le_of_ble_eq_true rfl) (Nat.le_of_ble_eq_true rfl) ⟨rfl, rfl⟩
    · rw [if_neg c0] at h
      refine gx_aload_n 0 dX8_reads_12 rfl rfl ?_
      refine gx_aload_n 1 dX8_reads_13 rfl rfl ?_
      refine gx_iload_n 2 dX8_reads_14 rfl rfl ?_
      obtain ⟨_, hobq4, h⟩ := bnd h
      obtain ⟨q4, hq4, h⟩ := bnd h
      refine gx_cVI (As := [.ref (Γ.B + pp l1), .int l2]) (st := []) (o := l0) dX8_reads_15 (c_X8_readsClause hq4) mov_X8_readsClause tw_570 hobq4 rfl ⟨Nat.le_of_ble_eq_true rfl, Nat.le_of_ble_eq_true rfl⟩ (Nat.le_of_ble_eq_true rfl) ?_
      refine gx_if_ne 23 dX8_reads_18 (by decide) (fun c4 => ?_) (fun c4 => ?_)
      · rw [if_neg c4] at h
        refine gx_aload_n 0 dX8_reads_23 rfl rfl ?_
        obtain ⟨a6, ha6, h⟩ := bnd h
        refine gx_getN dX8_reads_24 ha6 fl_X8_15 rfl ?_
        obtain ⟨_, hobq7, h⟩ := bnd h
        obtain ⟨q7, hq7, h⟩ := bnd h
        refine gx_cVI (As := []) (st := []) (o := a6) dX8_reads_27 (c_X6_kind hq7) mov_X6_kind tw_574 hobq7 rfl ⟨Nat.le_of_ble_eq_true rfl, Nat.le_of_ble_eq_true rfl⟩ (Nat.le_of_ble_eq_true rfl) ?_
        refine gx_iconst (v := (1 : Int32)) dX8_reads_30 ic_1 ?_
        refine gx_icmp_ne 58 dX8_reads_31 (by decide) (fun c7 => ?_) (fun c7 => ?_)
        · rw [if_neg c7] at h
          refine gx_aload_n 0 dX8_reads_58 rfl rfl ?_
          obtain ⟨a9, ha9, h⟩ := bnd h
          refine gx_getN dX8_reads_59 ha9 fl_X8_15 rfl ?_
          obtain ⟨_, hobq10, h⟩ := bnd h
          obtain ⟨q10, hq10, h⟩ := bnd h
          refine gx_cVI (As := []) (st := []) (o := a9) dX8_reads_62 (c_X6_kind hq10) mov_X6_kind tw_574 hobq10 rfl ⟨Nat.le_of_ble_eq_true rfl, Nat.le_of_ble_eq_true rfl⟩ (Nat.le_of_ble_eq_true rfl) ?_
          refine gx_iconst (v := (4 : Int32)) dX8_reads_65 ic_4 ?_
          refine gx_icmp_eq 78 dX8_reads_66 (by decide) (fun c10 => ?_) (fun c10 => ?_)
          · rw [if_pos c10] at h
            refine gx_aload_n 0 dX8_reads_78 rfl rfl ?_
            obtain ⟨a12, ha12, h⟩ := bnd h
            refine gx_getN dX8_reads_79 ha12 fl_X8_15 rfl ?_
            obtain ⟨_, hobq13, h⟩ := bnd h
            obtain ⟨q13, hq13, h⟩ := bnd h
            refine gx_cVV (As := []) (st := []) (o := a12) dX8_reads_82 (c_X6_skip hq13) mov_X6_skip tw_582 hobq13 rfl ⟨Nat.le_of_ble_eq_true rfl, Nat.le_of_ble_eq_true rfl⟩ (Nat.le_of_ble_eq_true rfl) ?_
            refine gx_iinc (v := (l2 + (1 : Int32))) (lv' := [(2, .int (l2 + (1 : Int32))), (0, .ref (Γ.B + pp l0)), (1, .ref (Γ.B + pp l1))]) 2 dX8_reads_85 rfl (by rw [ic_1]) (Nat.le_of_ble_eq_true rfl) rfl ?_
            refine gx_goto 6 dX8_reads_88 (by decide) ?_
            exact gx_sub [1, 2, 0] rfl (ih _ _ _ _ _ h)
          · rw [if_neg c10] at h
            refine gx_aload_n 0 dX8_reads_69 rfl rfl ?_
            obtain ⟨a14, ha14, h⟩ := bnd h
            refine gx_getN dX8_reads_70 ha14 fl_X8_15 rfl ?_
            refine gx_iconst (v := (0 : Int32)) dX8_reads_73 ic_0 ?_
            obtain ⟨_, hobq15, h⟩ := bnd h
            obtain ⟨q15, hq15, h⟩ := bnd h
            refine gx_cVI (As := [.int (0 : Int32)]) (st := []) (o := a14) dX8_reads_74 (c_X6_fails hq15) mov_X6_fails tw_578 hobq15 rfl ⟨Nat.le_of_ble_eq_true rfl, Nat.le_of_ble_eq_true rfl⟩ (Nat.le_of_ble_eq_true rfl) ?_
            obtain ⟨hz, h⟩ := of_if h
            have h := Option.some.inj h
            subst h
            exact gx_zret dX8_reads_77 rfl (nar_z hz) (Nat.le_of_ble_eq_true rfl) (Nat.le_of_ble_eq_true rfl) ⟨rfl, rfl⟩
        · rw [if_pos c7] at h
          refine gx_aload_n 1 dX8_reads_34 rfl rfl ?_
          obtain ⟨x16, hx16, h⟩ := bnd h
          refine gx_getI dX8_reads_35 hx16 fl_X8_34 rfl ?_
          refine gx_if_gt 52 dX8_reads_38 (by decide) (fun c16 => ?_) (fun c16 => ?_)
          · rw [if_pos c16] at h
            exact gx_sub [] rfl (s_X8_reads_52  h)
          · rw [if_neg c16] at h
            refine gx_aload_n 0 dX8_reads_41 rfl rfl ?_
            obtain ⟨a18, ha18, h⟩ := bnd h
            refine gx_getN dX8_reads_42 ha18 fl_X8_15 rfl ?_
            refine gx_iconst (v := (0 : Int32)) dX8_reads_45 ic_0 ?_
            obtain ⟨_, hobq19, h⟩ := bnd h
            obtain ⟨q19, hq19, h⟩ := bnd h
            refine gx_cVI (As := [.int (0 : Int32)]) (st := []) (o := a18) dX8_reads_46 (c_X6_fails hq19) mov_X6_fails tw_578 hobq19 rfl ⟨Nat.le_of_ble_eq_true rfl, Nat.le_of_ble_eq_true rfl⟩ (Nat.le_of_ble_eq_true rfl) ?_
            refine gx_if_eq 56 dX8_reads_49 (by decide) (fun c19 => ?_) (fun c19 => ?_)
            · rw [if_pos c19] at h
              refine gx_iconst (v := (0 : Int32)) dX8_reads_56 ic_0 ?_
              exact gx_sub [] rfl (s_X8_reads_57  h)
            · rw [if_neg c19] at h
              exact gx_sub [] rfl (s_X8_reads_52  h)
      · rw [if_pos c4] at h
        refine gx_iconst (v := (0 : Int32)) dX8_reads_21 ic_0 ?_
        have h := Option.some.inj h
        subst h
        exact gx_zret dX8_reads_22 rfl rfl (Nat.le_of_ble_eq_true rfl) (Nat.le_of_ble_eq_true rfl) ⟨rfl, rfl⟩
set_option maxRecDepth 4000 in
theorem s_X8_reads_0 {Γ : Cn} {τ : Mm} {N : Nat} {l0 : Nat} {l1 : Nat} {σ : Mm} {o : Int32 × Mm} (h : f_X8_reads N l0 l1 σ = some o) : Gx Γ M_X8_reads 0 τ (PI o) 0 0 0 [(0, .ref (Γ.B + pp l0)), (1, .ref (Γ.B + pp l1))] [] σ := by
  unfold f_X8_reads at h
  refine gx_aload_n 1 dX8_reads_0 rfl rfl ?_
  obtain ⟨_, hobq1, h⟩ := bnd h
  obtain ⟨q1, hq1, h⟩ := bnd h
  refine gx_cVV (As := []) (st := []) (o := l1) dX8_reads_1 (c_X7_clear hq1) mov_X7_clear tw_566 hobq1 rfl ⟨Nat.le_of_ble_eq_true rfl, Nat.le_of_ble_eq_true rfl⟩ (Nat.le_of_ble_eq_true rfl) ?_
  refine gx_iconst (v := (0 : Int32)) dX8_reads_4 ic_0 ?_
  refine gx_istore_n (lv' := [(2, .int (0 : Int32)), (0, .ref (Γ.B + pp l0)), (1, .ref (Γ.B + pp l1))]) dX8_reads_5 rfl (Nat.le_of_ble_eq_true rfl) rfl ?_
  exact gx_sub [1, 2, 0] rfl (s_X8_reads_6  N _ _ _ _ _ h)
theorem c_X8_reads {Γ : Cn} {τ : Mm} {N : Nat} {l0 : Nat} {l1 : Nat} {σ : Mm} {o : Int32 × Mm} (h : f_X8_reads N l0 l1 σ = some o) : Ct Γ M_X8_reads yX8_reads 0 τ [.ref (Γ.B + pp l0), .ref (Γ.B + pp l1)] σ (PI o) := ct_of (by decide) rfl (fun _ => by first | rfl | contradiction) (Nat.le_of_ble_eq_true rfl) (s_X8_reads_0  h)
abbrev M_X9_init : Ms := (cX9_init, RX9, 1, none, true, 2, 73, 1)
def f_X9_init (N : Nat) (l0 : Nat) (σ : Mm) : Option Mm :=
  (nA 13 σ (9 : Int32)).bind fun s1 =>
  (pR 9 0 s1 l0 (some (pq (nn σ)))).bind fun s2 =>
  (nA 14 s2 (64 : Int32)).bind fun s3 =>
  (pR 9 1 s3 l0 (some (pq (nn s2)))).bind fun s4 =>
  some s4
theorem moi_X9_init : MOI yX9_init M_X9_init 0 := ⟨⟨tw_103, tw_300, ⟨by decide, by decide⟩, by decide +kernel⟩, tw_299, rfl, rfl⟩
set_option maxRecDepth 4000 in
theorem s_X9_init_0 {Γ : Cn} {τ : Mm} {N : Nat} {l0 : Nat} {σ : Mm} {o : Mm} (h : f_X9_init N l0 σ = some o) : Gx Γ M_X9_init 0 τ (PV o) 0 0 0 [(0, .ref (Γ.B + pp l0))] [] σ := by
  unfold f_X9_init at h
  refine gx_aload_n 0 dX9_init_0 rfl rfl ?_
  refine gx_objInit dX9_init_1 tw_301 tw_oi tw_oc (Nat.le_of_ble_eq_true rfl) (Nat.le_of_ble_eq_true rfl) ?_
  refine gx_aload_n 0 dX9_init_4 rfl rfl ?_
  refine gx_bipush (v := (9 : Int32)) dX9_init_5 ib_9 ?_
  obtain ⟨s1, hs1, h⟩ := bnd h
  refine gx_newI dX9_init_7 hs1 ac_I rfl (by decide) rfl (Nat.le_of_ble_eq_true rfl) (Nat.le_of_ble_eq_true rfl) ?_
  obtain ⟨s2, hs2, h⟩ := bnd h
  refine gx_putR (r := (some (pq (nn σ)))) dX9_init_9 hs2 fl_X9_9 fp_X9_9_0 (Or.inr ⟨_, rfl⟩) (fun _ => rfl) rfl ?_
  refine gx_aload_n 0 dX9_init_12 rfl rfl ?_
  refine gx_bipush (v := (64 : Int32)) dX9_init_13 ib_64 ?_
  obtain ⟨s3, hs3, h⟩ := bnd h
  refine gx_newJ dX9_init_15 hs3 ac_J rfl (by decide) rfl (Nat.le_of_ble_eq_true rfl) (Nat.le_of_ble_eq_true rfl) ?_
  obtain ⟨s4, hs4, h⟩ := bnd h
  refine gx_putR (r := (some (pq (nn s2)))) dX9_init_17 hs4 fl_X9_17 fp_X9_9_1 (Or.inr ⟨_, rfl⟩) (fun _ => rfl) rfl ?_
  have h := Option.some.inj h
  subst h
  exact gx_vret dX9_init_20 rfl (Nat.le_of_ble_eq_true rfl) (Nat.le_of_ble_eq_true rfl) ⟨rfl, rfl⟩
theorem c_X9_init {Γ : Cn} {τ : Mm} {N : Nat} {l0 : Nat} {σ : Mm} {o : Mm} (h : f_X9_init N l0 σ = some o) : Ct Γ M_X9_init yX9_init 0 τ [.ref (Γ.B + pp l0)] σ (PV o) := ct_of (by decide) rfl (fun _ => by first | rfl | contradiction) (Nat.le_of_ble_eq_true rfl) (s_X9_init_0  h)
abbrev M_X9_turnAll : Ms := (cX9_turnAll, RX9, 8, none, false, 0, 0, 3)
def f_X9_turnAll_62 (N : Nat) (σ : Mm) : Option Mm :=
  some σ
def f_X9_turnAll_3 (N : Nat) : Nat → Nat → Nat → Nat → Int32 → Int32 → Int32 → Nat → Int32 → Mm → Option Mm
  | 0, _, _, _, _, _, _, _, _, _ => none
  | n + 1, l0, l1, l2, l3, l4, l5, l6, l7, σ =>
      (gI 7 0 σ l2).bind fun x1 =>
      if x1 ≤ l7 then (
        f_X9_turnAll_62 N σ) else (
        if (12 : Int32) ≤ l7 then (
          f_X9_turnAll_62 N σ) else (
          (ln 0 σ l6).bind fun x4 =>
          if x4 ≤ l7 then (
            f_X9_turnAll_62 N σ) else (
            (ob 9 σ l0).bind fun _ =>
            (f_X9_stand N l0 l2 l7 l3 l5 σ).bind fun q6 =>
            (gN 7 6 q6 l2).bind fun a7 =>
            (aI 13 q6 a7 l7).bind fun x8 =>
            (ob 9 q6 l0).bind fun _ =>
            (f_X9_turned N l0 l1 x8 l4 q6).bind fun q9 =>
            (sI 13 q9.2 l6 l7 q9.1).bind fun s10 =>
            f_X9_turnAll_3 N n l0 l1 l2 l3 l4 l5 l6 (l7 + (1 : Int32)) s10)))
def f_X9_turnAll (N : Nat) (l0 : Nat) (l1 : Nat) (l2 : Nat) (l3 : Int32) (l4 : Int32) (l5 : Int32) (l6 : Nat) (σ : Mm) : Option Mm :=
  f_X9_turnAll_3 N N l0 l1 l2 l3 l4 l5 l6 (0 : Int32) σ
theorem mov_X9_turnAll : MOV yX9_turnAll M_X9_turnAll 6 9 0 := ⟨⟨tw_103, tw_738, ⟨by decide, by decide⟩, by decide +kernel⟩, tw_736, tw_737, by decide, ⟨_, rfl, rfl⟩, rfl⟩
set_option maxRecDepth 4000 in
theorem s_X9_turnAll_62 {Γ : Cn} {τ : Mm} {N : Nat} {σ : Mm} {o : Mm} (h : f_X9_turnAll_62 N σ = some o) : Gx Γ M_X9_turnAll 0 τ (PV o) 0 0 62 [] [] σ := by
  unfold f_X9_turnAll_62 at h
  have h := Option.some.inj h
  subst h
  exact gx_vret dX9_turnAll_62 rfl (Nat.le_of_ble_eq_true rfl) (Nat.le_of_ble_eq_true rfl) ⟨rfl, rfl⟩
set_option maxRecDepth 4000 in
theorem s_X9_turnAll_3 {Γ : Cn} {τ : Mm} {N : Nat} : ∀ (n : Nat) (l0 : Nat) (l1 : Nat) (l2 : Nat) (l3 : Int32) (l4 : Int32) (l5 : Int32) (l6 : Nat) (l7 : Int32) (σ : Mm) (o : Mm), f_X9_turnAll_3 N n l0 l1 l2 l3 l4 l5 l6 l7 σ = some o → Gx Γ M_X9_turnAll 0 τ (PV o) 0 0 3 [(0, .ref (Γ.B + pp l0)), (1, .ref (Γ.B + pp l1)), (2, .ref (Γ.B + pp l2)), (3, .int l3), (4, .int l4), (5, .int l5), (6, .ref (Γ.B + pp l6)), (7, .int l7)] [] σ := by
  intro n
  induction n with
  | zero =>
    intro l0 l1 l2 l3 l4 l5 l6 l7 σ o h
    exact absurd h (by rw [f_X9_turnAll_3]; exact fun q => nomatch q)
  | succ n ih =>
    intro l0 l1 l2 l3 l4 l5 l6 l7 σ o h
    rw [f_X9_turnAll_3] at h
    refine gx_iload 7 dX9_turnAll_3 rfl ?_
    refine gx_aload_n 2 dX9_turnAll_5 rfl rfl ?_
    obtain ⟨x1, hx1, h⟩ := bnd h
    refine gx_getI dX9_turnAll_6 hx1 fl_X9_57 rfl ?_
    refine gx_icmp_ge 62 dX9_turnAll_9 (by decide) (fun c1 => ?_) (fun c1 => ?_)
    · rw [if_pos c1] at h
      exact gx_sub [] rfl (s_X9_turnAll_62  h)
    · rw [if_neg c1] at h
      refine gx_iload 7 dX9_turnAll_12 rfl ?_
      refine gx_bipush (v := (12 : Int32)) dX9_turnAll_14 ib_12 ?_
      refine gx_icmp_ge 62 dX9_turnAll_16 (by decide) (fun c2 => ?_) (fun c2 => ?_)
      · rw [if_pos c2] at h
        exact gx_sub [] rfl (s_X9_turnAll_62  h)
      · rw [if_neg c2] at h
        refine gx_iload 7 dX9_turnAll_19 rfl ?_
        refine gx_aload 6 dX9_turnAll_21 rfl ?_
        obtain ⟨x4, hx4, h⟩ := bnd h
        refine gx_alen dX9_turnAll_23 hx4 ?_
        refine gx_icmp_ge 62 dX9_turnAll_24 (by decide) (fun c4 => ?_) (fun c4 => ?_)
        · rw [if_pos c4] at h
          exact gx_sub [] rfl (s_X9_turnAll_62  h)
        · rw [if_neg c4] at h
          refine gx_aload_n 0 dX9_turnAll_27 rfl rfl ?_
          refine gx_aload_n 2 dX9_turnAll_28 rfl rfl ?_
          refine gx_iload 7 dX9_turnAll_29 rfl ?_
          refine gx_iload_n 3 dX9_turnAll_31 rfl rfl ?_
          refine gx_iload 5 dX9_turnAll_32 rfl ?_
          obtain ⟨_, hobq6, h⟩ := bnd h
          obtain ⟨q6, hq6, h⟩ := bnd h
          refine gx_cVV (As := [.ref (Γ.B + pp l2), .int l7, .int l3, .int l5]) (st := []) (o := l0) dX9_turnAll_34 (c_X9_stand hq6) mov_X9_stand tw_739 hobq6 rfl ⟨Nat.le_of_ble_eq_true rfl, Nat.le_of_ble_eq_true rfl⟩ (Nat.le_of_ble_eq_true rfl) ?_
          refine gx_aload 6 dX9_turnAll_37 rfl ?_
          refine gx_iload 7 dX9_turnAll_39 rfl ?_
          refine gx_aload_n 0 dX9_turnAll_41 rfl rfl ?_
          refine gx_aload_n 1 dX9_turnAll_42 rfl rfl ?_
          refine gx_aload_n 2 dX9_turnAll_43 rfl rfl ?_
          obtain ⟨a7, ha7, h⟩ := bnd h
          refine gx_getN dX9_turnAll_44 ha7 fl_X9_65 rfl ?_
          refine gx_iload 7 dX9_turnAll_47 rfl ?_
          obtain ⟨x8, hx8, h⟩ := bnd h
          refine gx_iald (kd := 13) dX9_turnAll_49 hx8 rfl rfl ?_
          refine gx_iload 4 dX9_turnAll_50 rfl ?_
          obtain ⟨_, hobq9, h⟩ := bnd h
          obtain ⟨q9, hq9, h⟩ := bnd h
          refine gx_cVI (As := [.ref (Γ.B + pp l1), .int x8, .int l4]) (st := [.int l7, .ref (Γ.B + pp l6)]) (o := l0) dX9_turnAll_52 (c_X9_turned hq9) mov_X9_turned tw_745 hobq9 rfl ⟨Nat.le_of_ble_eq_true rfl, Nat.le_of_ble_eq_true rfl⟩ (Nat.le_of_ble_eq_true rfl) ?_
          obtain ⟨s10, hs10, h⟩ := bnd h
          refine gx_iast (kd := 13) dX9_turnAll_55 hs10 rfl rfl ?_
          refine gx_iinc (v := (l7 + (1 : Int32))) (lv' := [(7, .int (l7 + (1 : Int32))), (0, .ref (Γ.B + pp l0)), (1, .ref (Γ.B + pp l1)), (2, .ref (Γ.B + pp l2)), (3, .int l3), (4, .int l4), (5, .int l5), (6, .ref (Γ.B + pp l6))]) 7 dX9_turnAll_56 rfl (by rw [ic_1]) (Nat.le_of_ble_eq_true rfl) rfl ?_
          refine gx_goto 3 dX9_turnAll_59 (by decide) ?_
          exact gx_sub [1, 2, 3, 4, 5, 6, 7, 0] rfl (ih _ _ _ _ _ _ _ _ _ _ h)
set_option maxRecDepth 4000 in
theorem s_X9_turnAll_0 {Γ : Cn} {τ : Mm} {N : Nat} {l0 : Nat} {l1 : Nat} {l2 : Nat} {l3 : Int32} {l4 : Int32} {l5 : Int32} {l6 : Nat} {σ : Mm} {o : Mm} (h : f_X9_turnAll N l0 l1 l2 l3 l4 l5 l6 σ = some o) : Gx Γ M_X9_turnAll 0 τ (PV o) 0 0 0 [(0, .ref (Γ.B + pp l0)), (1, .ref (Γ.B + pp l1)), (2, .ref (Γ.B + pp l2)), (3, .int l3), (4, .int l4), (5, .int l5), (6, .ref (Γ.B + pp l6))] [] σ := by
  unfold f_X9_turnAll at h
  refine gx_iconst (v := (0 : Int32)) dX9_turnAll_0 ic_0 ?_
  refine gx_istore (lv' := [(7, .int (0 : Int32)), (0, .ref (Γ.B + pp l0)), (1, .ref (Γ.B + pp l1)), (2, .ref (Γ.B + pp l2)), (3, .int l3), (4, .int l4), (5, .int l5), (6, .ref (Γ.B + pp l6))]) dX9_turnAll_1 (Nat.le_of_ble_eq_true rfl) rfl ?_
  exact gx_sub [1, 2, 3, 4, 5, 6, 7, 0] rfl (s_X9_turnAll_3  N _ _ _ _ _ _ _ _ _ _ h)
theorem c_X9_turnAll {Γ : Cn} {τ : Mm} {N : Nat} {l0 : Nat} {l1 : Nat} {l2 : Nat} {l3 : Int32} {l4 : Int32} {l5 : Int32} {l6 : Nat} {σ : Mm} {o : Mm} (h : f_X9_turnAll N l0 l1 l2 l3 l4 l5 l6 σ = some o) : Ct Γ M_X9_turnAll yX9_turnAll 0 τ [.ref (Γ.B + pp l0), .ref (Γ.B + pp l1), .ref (Γ.B + pp l2), .int l3, .int l4, .int l5, .ref (Γ.B + pp l6)] σ (PV o) := ct_of (by decide) rfl (fun _ => by first | rfl | contradiction) (Nat.le_of_ble_eq_true rfl) (s_X9_turnAll_0  h)
abbrev M_X10_init : Ms := (cX10_init, RX10, 2, none, true, 64, 5735, 3)
def f_X10_init (N : Nat) (l0 : Nat) (σ : Mm) : Option Mm :=
  (nO 5 σ).bind fun s1 =>
  (f_X5_init N (pq (nn σ)) s1).bind fun q2 =>
  if nn q2 = nn s1 + 1 then
  (pR 10 0 q2 l0 (some (pq (nn σ)))).bind fun s4 =>
  (nO 6 s4).bind fun s5 =>
  (f_X6_init N (pq (nn s4)) s5).bind fun q6 =>
  if nn q6 = nn s5 + 3 then
  (pR 10 1 q6 l0 (some (pq (nn s4)))).bind fun s8 =>
  (nO 8 s8).bind fun s9 =>
  (gN 10 1 s9 l0).bind fun a10 =>
  (f_X8_init N (pq (nn s8)) a10 s9).bind fun q11 =>
  if nn q11 = nn s9 + 0 then
  (pR 10 2 q11 l0 (some (pq (nn s8)))).bind fun s13 =>
  (nO 3 s13).bind fun s14 =>
  (gN 10 1 s14 l0).bind fun a15 =>
  (f_X3_init N (pq (nn s13)) a15 s14).bind fun q16 =>
  if nn q16 = nn s14 + 2 then
  (pR 10 3 q16 l0 (some (pq (nn s13)))).bind fun s18 =>
  (nO 7 s18).bind fun s19 =>
  (f_X7_init N (pq (nn s18)) s19).bind fun q20 =>
  if nn q20 = nn s19 + 10 then
  (pR 10 4 q20 l0 (some (pq (nn s18)))).bind fun s22 =>
  (nO 7 s22).bind fun s23 =>
  (f_X7_init N (pq (nn s22)) s23).bind fun q24 =>
  if nn q24 = nn s23 + 10 then
  (pR 10 5 q24 l0 (some (pq (nn s22)))).bind fun s26 =>
  (nA 17 s26 (4 : Int32)).bind fun s27 =>
  (pR 10 6 s27 l0 (some (pq (nn s26)))).bind fun s28 =>
  (nA 16 s28 (6 : Int32)).bind fun s29 =>
  (pR 10 7 s29 l0 (some (pq (nn s28)))).bind fun s30 =>
  (pI 10 8 s30 l0 (0 : Int32)).bind fun s31 =>
  (nO 9 s31).bind fun s32 =>
  (f_X9_init N (pq (nn s31)) s32).bind fun q33 =>
  if nn q33 = nn s32 + 2 then
  (pR 10 9 q33 l0 (some (pq (nn s31)))).bind fun s35 =>
  (nO 1 s35).bind fun s36 =>
  (f_X1_init N (pq (nn s35)) s36).bind fun q37 =>
  if nn q37 = nn s36 + 5 then
  (pR 10 10 q37 l0 (some (pq (nn s35)))).bind fun s39 =>
  (nO 4 s39).bind fun s40 =>
  (gN 10 10 s40 l0).bind fun a41 =>
  (f_X4_init N (pq (nn s39)) a41 s40).bind fun q42 =>
  if nn q42 = nn s40 + 4 then
  (pR 10 11 q42 l0 (some (pq (nn s39)))).bind fun s44 =>
  (nO 0 s44).bind fun s45 =>
  (gN 10 4 s45 l0).bind fun a46 =>
  (gN 10 9 s45 l0).bind fun a47 =>
  (gN 10 10 s45 l0).bind fun a48 =>
  (f_X0_init N (pq (nn s44)) a46 a47 a48 s45).bind fun q49 =>
  if nn q49 = nn s45 + 2 then
  (pR 10 12 q49 l0 (some (pq (nn s44)))).bind fun s51 =>
  (nA 13 s51 (12 : Int32)).bind fun s52 =>
  (pR 10 13 s52 l0 (some (pq (nn s51)))).bind fun s53 =>
  (gN 10 7 s53 l0).bind fun a54 =>
  (nO 2 s53).bind fun s55 =>
  (f_X2_init N (pq (nn s53)) s55).bind fun q56 =>
  if nn q56 = nn s55 + 1 then
  (sN 16 2 q56 a54 (0 : Int32) (pq (nn s53))).bind fun s58 =>
  (gN 10 7 s58 l0).bind fun a59 =>
  (nO 2 s58).bind fun s60 =>
  (f_X2_init N (pq (nn s58)) s60).bind fun q61 =>
  if nn q61 = nn s60 + 1 then
  (sN 16 2 q61 a59 (1 : Int32) (pq (nn s58))).bind fun s63 =>
  (gN 10 7 s63 l0).bind fun a64 =>
  (nO 2 s63).bind fun s65 =>
  (f_X2_init N (pq (nn s63)) s65).bind fun q66 =>
  if nn q66 = nn s65 + 1 then
  (sN 16 2 q66 a64 (2 : Int32) (pq (nn s63))).bind fun s68 =>
  (gN 10 7 s68 l0).bind fun a69 =>
  (nO 2 s68).bind fun s70 =>
  (f_X2_init N (pq (nn s68)) s70).bind fun q71 =>
  if nn q71 = nn s70 + 1 then
  (sN 16 2 q71 a69 (3 : Int32) (pq (nn s68))).bind fun s73 =>
  (gN 10 7 s73 l0).bind fun a74 =>
  (nO 2 s73).bind fun s75 =>
  (f_X2_init N (pq (nn s73)) s75).bind fun q76 =>
  if nn q76 = nn s75 + 1 then
  (sN 16 2 q76 a74 (4 : Int32) (pq (nn s73))).bind fun s78 =>
  (gN 10 7 s78 l0).bind fun a79 =>
  (nO 2 s78).bind fun s80 =>
  (f_X2_init N (pq (nn s78)) s80).bind fun q81 =>
  if nn q81 = nn s80 + 1 then
  (sN 16 2 q81 a79 (5 : Int32) (pq (nn s78))).bind fun s83 =>
  some s83 else none else none else none else none else none else none else none else none else none else none else none else none else none else none else none else none
theorem moi_X10_init : MOI yX10_init M_X10_init 0 := ⟨⟨tw_96, tw_119, ⟨by decide, by decide⟩, by decide +kernel⟩, tw_118, rfl, rfl⟩
set_option maxRecDepth 4000 in
theorem s_X10_init_0 {Γ : Cn} {τ : Mm} {N : Nat} {l0 : Nat} {σ : Mm} {o : Mm} (h : f_X10_init N l0 σ = some o) : Gx Γ M_X10_init 0 τ (PV o) 0 0 0 [(0, .ref (Γ.B + pp l0))] [] σ := by
  unfold f_X10_init at h
  refine gx_aload_n 0 dX10_init_0 rfl rfl ?_
  refine gx_objInit dX10_init_1 tw_120 tw_oi tw_oc (Nat.le_of_ble_eq_true rfl) (Nat.le_of_ble_eq_true rfl) ?_
  refine gx_aload_n 0 dX10_init_4 rfl rfl ?_
  obtain ⟨s1, hs1, h⟩ := bnd h
  refine gx_new dX10_init_5 hs1 nw_X10_7 rfl (Nat.le_of_ble_eq_true rfl) (Nat.le_of_ble_eq_true rfl) ?_
  refine gx_dup dX10_init_8 rfl ?_
  obtain ⟨q2, hq2, h⟩ := bnd h
  obtain ⟨g2, h⟩ := of_if h
  refine gx_cINV (As := []) (st := [.ref (Γ.B + pp (pq (nn σ))), .ref (Γ.B + pp l0)]) (o := (pq (nn σ))) (k' := 2) (n' := 402) dX10_init_9 (c_X5_init hq2) moi_X5_init (by decide) rfl ⟨Nat.le_of_ble_eq_true rfl, Nat.le_of_ble_eq_true rfl⟩ (Nat.le_of_ble_eq_true rfl) rfl rfl (Nat.le_of_ble_eq_true rfl) (Nat.le_of_ble_eq_true rfl) g2 ?_
  obtain ⟨s4, hs4, h⟩ := bnd h
  refine gx_putR (r := (some (pq (nn σ)))) dX10_init_12 hs4 fl_X10_10 fp_X10_10_0 (Or.inl ⟨_, rfl⟩) (fun _ => rfl) rfl ?_
  refine gx_aload_n 0 dX10_init_15 rfl rfl ?_
  obtain ⟨s5, hs5, h⟩ := bnd h
  refine gx_new dX10_init_16 hs5 nw_X10_16 rfl (Nat.le_of_ble_eq_true rfl) (Nat.le_of_ble_eq_true rfl) ?_
  refine gx_dup dX10_init_19 rfl ?_
  obtain ⟨q6, hq6, h⟩ := bnd h
  obtain ⟨g6, h⟩ := of_if h
  refine gx_cINV (As := []) (st := [.ref (Γ.B + pp (pq (nn s4))), .ref (Γ.B + pp l0)]) (o := (pq (nn s4))) (k' := 6) (n' := 1611) dX10_init_20 (c_X6_init hq6) moi_X6_init (by decide) rfl ⟨Nat.le_of_ble_eq_true rfl, Nat.le_of_ble_eq_true rfl⟩ (Nat.le_of_ble_eq_true rfl) rfl rfl (Nat.le_of_ble_eq_true rfl) (Nat.le_of_ble_eq_true rfl) g6 ?_
  obtain ⟨s8, hs8, h⟩ := bnd h
  refine gx_putR (r := (some (pq (nn s4)))) dX10_init_23 hs8 fl_X10_19 fp_X10_10_1 (Or.inl ⟨_, rfl⟩) (fun _ => rfl) rfl ?_
  refine gx_aload_n 0 dX10_init_26 rfl rfl ?_
  obtain ⟨s9, hs9, h⟩ := bnd h
  refine gx_new dX10_init_27 hs9 nw_X10_23 rfl (Nat.le_of_ble_eq_true rfl) (Nat.le_of_ble_eq_true rfl) ?_
  refine gx_dup dX10_init_30 rfl ?_
  refine gx_aload_n 0 dX10_init_31 rfl rfl ?_
  obtain ⟨a10, ha10, h⟩ := bnd h
  refine gx_getN dX10_init_32 ha10 fl_X10_19 rfl ?_
  obtain ⟨q11, hq11, h⟩ := bnd h
  obtain ⟨g11, h⟩ := of_if h
  refine gx_cIV (As := [.ref (Γ.B + pp a10)]) (st := [.ref (Γ.B + pp (pq (nn s8))), .ref (Γ.B + pp l0)]) (o := (pq (nn s8))) (k' := 7) (n' := 1613) dX10_init_35 (c_X8_init hq11) moi_X8_init tw_167 rfl ⟨Nat.le_of_ble_eq_true rfl, Nat.le_of_ble_eq_true rfl⟩ (Nat.le_of_ble_eq_true rfl) rfl rfl (Nat.le_of_ble_eq_true rfl) (Nat.le_of_ble_eq_true rfl) g11 ?_
  obtain ⟨s13, hs13, h⟩ := bnd h
  refine gx_putR (r := (some (pq (nn s8)))) dX10_init_38 hs13 fl_X10_28 fp_X10_10_2 (Or.inl ⟨_, rfl⟩) (fun _ => rfl) rfl ?_
  refine gx_aload_n 0 dX10_init_41 rfl rfl ?_
  obtain ⟨s14, hs14, h⟩ := bnd h
  refine gx_new dX10_init_42 hs14 nw_X10_32 rfl (Nat.le_of_ble_eq_true rfl) (Nat.le_of_ble_eq_true rfl) ?_
  refine gx_dup dX10_init_45 rfl ?_
  refine gx_aload_n 0 dX10_init_46 rfl rfl ?_
  obtain ⟨a15, ha15, h⟩ := bnd h
  refine gx_getN dX10_init_47 ha15 fl_X10_19 rfl ?_
  obtain ⟨q16, hq16, h⟩ := bnd h
  obtain ⟨g16, h⟩ := of_if h
  refine gx_cIV (As := [.ref (Γ.B + pp a15)]) (st := [.ref (Γ.B + pp (pq (nn s13))), .ref (Γ.B + pp l0)]) (o := (pq (nn s13))) (k' := 10) (n' := 2018) dX10_init_50 (c_X3_init hq16) moi_X3_init tw_180 rfl ⟨Nat.le_of_ble_eq_true rfl, Nat.le_of_ble_eq_true rfl⟩ (Nat.le_of_ble_eq_true rfl) rfl rfl (Nat.le_of_ble_eq_true rfl) (Nat.le_of_ble_eq_true rfl) g16 ?_
  obtain ⟨s18, hs18, h⟩ := bnd h
  refine gx_putR (r := (some (pq (nn s13)))) dX10_init_53 hs18 fl_X10_35 fp_X10_10_3 (Or.inl ⟨_, rfl⟩) (fun _ => rfl) rfl ?_
  refine gx_aload_n 0 dX10_init_56 rfl rfl ?_
  obtain ⟨s19, hs19, h⟩ := bnd h
  refine gx_new dX10_init_57 hs19 nw_X10_39 rfl (Nat.le_of_ble_eq_true rfl) (Nat.le_of_ble_eq_true rfl) ?_
  refine gx_dup dX10_init_60 rfl ?_
  obtain ⟨q20, hq20, h⟩ := bnd h
  obtain ⟨g20, h⟩ := of_if h
  refine gx_cINV (As := []) (st := [.ref (Γ.B + pp (pq (nn s18))), .ref (Γ.B + pp l0)]) (o := (pq (nn s18))) (k' := 21) (n' := 2172) dX10_init_61 (c_X7_init hq20) moi_X7_init (by decide) rfl ⟨Nat.le_of_ble_eq_true rfl, Nat.le_of_ble_eq_true rfl⟩ (Nat.le_of_ble_eq_true rfl) rfl rfl (Nat.le_of_ble_eq_true rfl) (Nat.le_of_ble_eq_true rfl) g20 ?_
  obtain ⟨s22, hs22, h⟩ := bnd h
  refine gx_putR (r := (some (pq (nn s18)))) dX10_init_64 hs22 fl_X10_42 fp_X10_10_4 (Or.inl ⟨_, rfl⟩) (fun _ => rfl) rfl ?_
  refine gx_aload_n 0 dX10_init_67 rfl rfl ?_
  obtain ⟨s23, hs23, h⟩ := bnd h
  refine gx_new dX10_init_68 hs23 nw_X10_39 rfl (Nat.le_of_ble_eq_true rfl) (Nat.le_of_ble_eq_true rfl) ?_
  refine gx_dup dX10_init_71 rfl ?_
  obtain ⟨q24, hq24, h⟩ := bnd h
  obtain ⟨g24, h⟩ := of_if h
  refine gx_cINV (As := []) (st := [.ref (Γ.B + pp (pq (nn s22))), .ref (Γ.B + pp l0)]) (o := (pq (nn s22))) (k' := 32) (n' := 2326) dX10_init_72 (c_X7_init hq24) moi_X7_init (by decide) rfl ⟨Nat.le_of_ble_eq_true rfl, Nat.le_of_ble_eq_true rfl⟩ (Nat.le_of_ble_eq_true rfl) rfl rfl (Nat.le_of_ble_eq_true rfl) (Nat.le_of_ble_eq_true rfl) g24 ?_
  obtain ⟨s26, hs26, h⟩ := bnd h
  refine gx_putR (r := (some (pq (nn s22)))) dX10_init_75 hs26 fl_X10_46 fp_X10_10_5 (Or.inl ⟨_, rfl⟩) (fun _ => rfl) rfl ?_
  refine gx_aload_n 0 dX10_init_78 rfl rfl ?_
  refine gx_iconst (v := (4 : Int32)) dX10_init_79 ic_4 ?_
  obtain ⟨s27, hs27, h⟩ := bnd h
  refine gx_newQ (r := 5) (C := RX7) dX10_init_80 hs27 tw_207 (Or.inr rfl) rfl (by decide) rfl (by decide) rfl (Nat.le_of_ble_eq_true rfl) (Nat.le_of_ble_eq_true rfl) ?_
  obtain ⟨s28, hs28, h⟩ := bnd h
  refine gx_putR (r := (some (pq (nn s26)))) dX10_init_83 hs28 fl_X10_49 fp_X10_10_6 (Or.inr ⟨_, rfl⟩) (fun _ => rfl) rfl ?_
  refine gx_aload_n 0 dX10_init_86 rfl rfl ?_
  refine gx_bipush (v := (6 : Int32)) dX10_init_87 ib_6 ?_
  obtain ⟨s29, hs29, h⟩ := bnd h
  refine gx_newQ (r := 4) (C := RX2) dX10_init_89 hs29 tw_294 (Or.inl rfl) rfl (by decide) rfl (by decide) rfl (Nat.le_of_ble_eq_true rfl) (Nat.le_of_ble_eq_true rfl) ?_
  obtain ⟨s30, hs30, h⟩ := bnd h
  refine gx_putR (r := (some (pq (nn s28)))) dX10_init_92 hs30 fl_X10_55 fp_X10_10_7 (Or.inr ⟨_, rfl⟩) (fun _ => rfl) rfl ?_
  refine gx_aload_n 0 dX10_init_95 rfl rfl ?_
  refine gx_iconst (v := (0 : Int32)) dX10_init_96 ic_0 ?_
  obtain ⟨s31, hs31, h⟩ := bnd h
  refine gx_putI dX10_init_97 hs31 fl_X10_59 fp_X10_10_8 rfl ?_
  refine gx_aload_n 0 dX10_init_100 rfl rfl ?_
  obtain ⟨s32, hs32, h⟩ := bnd h
  refine gx_new dX10_init_101 hs32 nw_X10_63 rfl (Nat.le_of_ble_eq_true rfl) (Nat.le_of_ble_eq_true rfl) ?_
  refine gx_dup dX10_init_104 rfl ?_
  obtain ⟨q33, hq33, h⟩ := bnd h
  obtain ⟨g33, h⟩ := of_if h
  refine gx_cINV (As := []) (st := [.ref (Γ.B + pp (pq (nn s31))), .ref (Γ.B + pp l0)]) (o := (pq (nn s31))) (k' := 37) (n' := 2411) dX10_init_105 (c_X9_init hq33) moi_X9_init (by decide) rfl ⟨Nat.le_of_ble_eq_true rfl, Nat.le_of_ble_eq_true rfl⟩ (Nat.le_of_ble_eq_true rfl) rfl rfl (Nat.le_of_ble_eq_true rfl) (Nat.le_of_ble_eq_true rfl) g33 ?_
  obtain ⟨s35, hs35, h⟩ := bnd h
  refine gx_putR (r := (some (pq (nn s31)))) dX10_init_108 hs35 fl_X10_66 fp_X10_10_9 (Or.inl ⟨_, rfl⟩) (fun _ => rfl) rfl ?_
  refine gx_aload_n 0 dX10_init_111 rfl rfl ?_
  obtain ⟨s36, hs36, h⟩ := bnd h
  refine gx_new dX10_init_112 hs36 nw_X10_70 rfl (Nat.le_of_ble_eq_true rfl) (Nat.le_of_ble_eq_true rfl) ?_
  refine gx_dup dX10_init_115 rfl ?_
  obtain ⟨q37, hq37, h⟩ := bnd h
  obtain ⟨g37, h⟩ := of_if h
  refine gx_cINV (As := []) (st := [.ref (Γ.B + pp (pq (nn s35))), .ref (Γ.B + pp l0)]) (o := (pq (nn s35))) (k' := 43) (n' := 2465) dX10_init_116 (c_X1_init hq37) moi_X1_init (by decide) rfl ⟨Nat.le_of_ble_eq_true rfl, Nat.le_of_ble_eq_true rfl⟩ (Nat.le_of_ble_eq_true rfl) rfl rfl (Nat.le_of_ble_eq_true rfl) (Nat.le_of_ble_eq_true rfl) g37 ?_
  obtain ⟨s39, hs39, h⟩ := bnd h
  refine gx_putR (r := (some (pq (nn s35)))) dX10_init_119 hs39 fl_X10_73 fp_X10_10_10 (Or.inl ⟨_, rfl⟩) (fun _ => rfl) rfl ?_
  refine gx_aload_n 0 dX10_init_122 rfl rfl ?_
  obtain ⟨s40, hs40, h⟩ := bnd h
  refine gx_new dX10_init_123 hs40 nw_X10_77 rfl (Nat.le_of_ble_eq_true rfl) (Nat.le_of_ble_eq_true rfl) ?_
  refine gx_dup dX10_init_126 rfl ?_
  refine gx_aload_n 0 dX10_init_127 rfl rfl ?_
  obtain ⟨a41, ha41, h⟩ := bnd h
  refine gx_getN dX10_init_128 ha41 fl_X10_73 rfl ?_
  obtain ⟨q42, hq42, h⟩ := bnd h
  obtain ⟨g42, h⟩ := of_if h
  refine gx_cIV (As := [.ref (Γ.B + pp a41)]) (st := [.ref (Γ.B + pp (pq (nn s39))), .ref (Γ.B + pp l0)]) (o := (pq (nn s39))) (k' := 48) (n' := 2522) dX10_init_131 (c_X4_init hq42) moi_X4_init tw_338 rfl ⟨Nat.le_of_ble_eq_true rfl, Nat.le_of_ble_eq_true rfl⟩ (Nat.le_of_ble_eq_true rfl) rfl rfl (Nat.le_of_ble_eq_true rfl) (Nat.le_of_ble_eq_true rfl) g42 ?_
  obtain ⟨s44, hs44, h⟩ := bnd h
  refine gx_putR (r := (some (pq (nn s39)))) dX10_init_134 hs44 fl_X10_82 fp_X10_10_11 (Or.inl ⟨_, rfl⟩) (fun _ => rfl) rfl ?_
  refine gx_aload_n 0 dX10_init_137 rfl rfl ?_
  obtain ⟨s45, hs45, h⟩ := bnd h
  refine gx_new dX10_init_138 hs45 nw_X10_86 rfl (Nat.le_of_ble_eq_true rfl) (Nat.le_of_ble_eq_true rfl) ?_
  refine gx_dup dX10_init_141 rfl ?_
  refine gx_aload_n 0 dX10_init_142 rfl rfl ?_
  obtain ⟨a46, ha46, h⟩ := bnd h
  refine gx_getN dX10_init_143 ha46 fl_X10_42 rfl ?_
  refine gx_aload_n 0 dX10_init_146 rfl rfl ?_
  obtain ⟨a47, ha47, h⟩ := bnd h
  refine gx_getN dX10_init_147 ha47 fl_X10_66 rfl ?_
  refine gx_aload_n 0 dX10_init_150 rfl rfl ?_
  obtain ⟨a48, ha48, h⟩ := bnd h
  refine gx_getN dX10_init_151 ha48 fl_X10_73 rfl ?_
  obtain ⟨q49, hq49, h⟩ := bnd h
  obtain ⟨g49, h⟩ := of_if h
  refine gx_cIV (As := [.ref (Γ.B + pp a46), .ref (Γ.B + pp a47), .ref (Γ.B + pp a48)]) (st := [.ref (Γ.B + pp (pq (nn s44))), .ref (Γ.B + pp l0)]) (o := (pq (nn s44))) (k' := 51) (n' := 3311) dX10_init_154 (c_X0_init hq49) moi_X0_init tw_377 rfl ⟨Nat.le_of_ble_eq_true rfl, Nat.le_of_ble_eq_true rfl⟩ (Nat.le_of_ble_eq_true rfl) rfl rfl (Nat.le_of_ble_eq_true rfl) (Nat.le_of_ble_eq_true rfl) g49 ?_
  obtain ⟨s51, hs51, h⟩ := bnd h
  refine gx_putR (r := (some (pq (nn s44)))) dX10_init_157 hs51 fl_X10_91 fp_X10_10_12 (Or.inl ⟨_, rfl⟩) (fun _ => rfl) rfl ?_
  refine gx_aload_n 0 dX10_init_160 rfl rfl ?_
  refine gx_bipush (v := (12 : Int32)) dX10_init_161 ib_12 ?_
  obtain ⟨s52, hs52, h⟩ := bnd h
  refine gx_newI dX10_init_163 hs52 ac_I rfl (by decide) rfl (Nat.le_of_ble_eq_true rfl) (Nat.le_of_ble_eq_true rfl) ?_
  obtain ⟨s53, hs53, h⟩ := bnd h
  refine gx_putR (r := (some (pq (nn s51)))) dX10_init_165 hs53 fl_X10_95 fp_X10_10_13 (Or.inr ⟨_, rfl⟩) (fun _ => rfl) rfl ?_
  refine gx_iconst (v := (0 : Int32)) dX10_init_168 ic_0 ?_
  refine gx_istore_n (lv' := [(1, .int (0 : Int32)), (0, .ref (Γ.B + pp l0))]) dX10_init_169 rfl (Nat.le_of_ble_eq_true rfl) rfl ?_
  refine gx_iload_n 0 dX10_init_170 rfl rfl ?_
  refine gx_bipush (v := (6 : Int32)) dX10_init_171 ib_6 ?_
  refine gx_icmp_ge 195 dX10_init_173 (by decide) (fun q => absurd q (by decide)) (fun _ => ?_)
  refine gx_aload_n 1 dX10_init_176 rfl rfl ?_
  obtain ⟨a54, ha54, h⟩ := bnd h
  refine gx_getN dX10_init_177 ha54 fl_X10_55 rfl ?_
  refine gx_iload_n 0 dX10_init_180 rfl rfl ?_
  obtain ⟨s55, hs55, h⟩ := bnd h
  refine gx_new dX10_init_181 hs55 nw_X10_53 rfl (Nat.le_of_ble_eq_true rfl) (Nat.le_of_ble_eq_true rfl) ?_
  refine gx_dup dX10_init_184 rfl ?_
  obtain ⟨q56, hq56, h⟩ := bnd h
  obtain ⟨g56, h⟩ := of_if h
  refine gx_cINV (As := []) (st := [.ref (Γ.B + pp (pq (nn s53))), .int (0 : Int32), .ref (Γ.B + pp a54)]) (o := (pq (nn s53))) (k' := 54) (n' := 3725) dX10_init_185 (c_X2_init hq56) moi_X2_init (by decide) rfl ⟨Nat.le_of_ble_eq_true rfl, Nat.le_of_ble_eq_true rfl⟩ (Nat.le_of_ble_eq_true rfl) rfl rfl (Nat.le_of_ble_eq_true rfl) (Nat.le_of_ble_eq_true rfl) g56 ?_
  obtain ⟨s58, hs58, h⟩ := bnd h
  refine gx_aast (t0 := 4) (c := 2) dX10_init_188 hs58 rfl (by decide) rfl rfl (by decide) rfl rfl ?_
  refine gx_iinc (v := (1 : Int32)) (lv' := [(1, .int (1 : Int32)), (0, .ref (Γ.B + pp l0))]) 0 dX10_init_189 rfl (by decide) (Nat.le_of_ble_eq_true rfl) rfl ?_
  refine gx_goto 170 dX10_init_192 (by decide) ?_
  refine gx_iload_n 0 dX10_init_170 rfl rfl ?_
  refine gx_bipush (v := (6 : Int32)) dX10_init_171 ib_6 ?_
  refine gx_icmp_ge 195 dX10_init_173 (by decide) (fun q => absurd q (by decide)) (fun _ => ?_)
  refine gx_aload_n 1 dX10_init_176 rfl rfl ?_
  obtain ⟨a59, ha59, h⟩ := bnd h
  refine gx_getN dX10_init_177 ha59 fl_X10_55 rfl ?_
  refine gx_iload_n 0 dX10_init_180 rfl rfl ?_
  obtain ⟨s60, hs60, h⟩ := bnd h
  refine gx_new dX10_init_181 hs60 nw_X10_53 rfl (Nat.le_of_ble_eq_true rfl) (Nat.le_of_ble_eq_true rfl) ?_
  refine gx_dup dX10_init_184 rfl ?_
  obtain ⟨q61, hq61, h⟩ := bnd h
  obtain ⟨g61, h⟩ := of_if h
  refine gx_cINV (As := []) (st := [.ref (Γ.B + pp (pq (nn s58))), .int (1 : Int32), .ref (Γ.B + pp a59)]) (o := (pq (nn s58))) (k' := 56) (n' := 4127) dX10_init_185 (c_X2_init hq61) moi_X2_init (by decide) rfl ⟨Nat.le_of_ble_eq_true rfl, Nat.le_of_ble_eq_true rfl⟩ (Nat.le_of_ble_eq_true rfl) rfl rfl (Nat.le_of_ble_eq_true rfl) (Nat.le_of_ble_eq_true rfl) g61 ?_
  obtain ⟨s63, hs63, h⟩ := bnd h
  refine gx_aast (t0 := 4) (c := 2) dX10_init_188 hs63 rfl (by decide) rfl rfl (by decide) rfl rfl ?_
  refine gx_iinc (v := (2 : Int32)) (lv' := [(1, .int (2 : Int32)), (0, .ref (Γ.B + pp l0))]) 0 dX10_init_189 rfl (by decide) (Nat.le_of_ble_eq_true rfl) rfl ?_
  refine gx_goto 170 dX10_init_192 (by decide) ?_
  refine gx_iload_n 0 dX10_init_170 rfl rfl ?_
  refine gx_bipush (v := (6 : Int32)) dX10_init_171 ib_6 ?_
  refine gx_icmp_ge 195 dX10_init_173 (by decide) (fun q => absurd q (by decide)) (fun _ => ?_)
  refine gx_aload_n 1 dX10_init_176 rfl rfl ?_
  obtain ⟨a64, ha64, h⟩ := bnd h
  refine gx_getN dX10_init_177 ha64 fl_X10_55 rfl ?_
  refine gx_iload_n 0 dX10_init_180 rfl rfl ?_
  obtain ⟨s65, hs65, h⟩ := bnd h
  refine gx_new dX10_init_181 hs65 nw_X10_53 rfl (Nat.le_of_ble_eq_true rfl) (Nat.le_of_ble_eq_true rfl) ?_
  refine gx_dup dX10_init_184 rfl ?_
  obtain ⟨q66, hq66, h⟩ := bnd h
  obtain ⟨g66, h⟩ := of_if h
  refine gx_cINV (As := []) (st := [.ref (Γ.B + pp (pq (nn s63))), .int (2 : Int32), .ref (Γ.B + pp a64)]) (o := (pq (nn s63))) (k' := 58) (n' := 4529) dX10_init_185 (c_X2_init hq66) moi_X2_init (by decide) rfl ⟨Nat.le_of_ble_eq_true rfl, Nat.le_of_ble_eq_true rfl⟩ (Nat.le_of_ble_eq_true rfl) rfl rfl (Nat.le_of_ble_eq_true rfl) (Nat.le_of_ble_eq_true rfl) g66 ?_
  obtain ⟨s68, hs68, h⟩ := bnd h
  refine gx_aast (t0 := 4) (c := 2) dX10_init_188 hs68 rfl (by decide) rfl rfl (by decide) rfl rfl ?_
  refine gx_iinc (v := (3 : Int32)) (lv' := [(1, .int (3 : Int32)), (0, .ref (Γ.B + pp l0))]) 0 dX10_init_189 rfl (by decide) (Nat.le_of_ble_eq_true rfl) rfl ?_
  refine gx_goto 170 dX10_init_192 (by decide) ?_
  refine gx_iload_n 0 dX10_init_170 rfl rfl ?_
  refine gx_bipush (v := (6 : Int32)) dX10_init_171 ib_6 ?_
  refine gx_icmp_ge 195 dX10_init_173 (by decide) (fun q => absurd q (by decide)) (fun _ => ?_)
  refine gx_aload_n 1 dX10_init_176 rfl rfl ?_
  obtain ⟨a69, ha69, h⟩ := bnd h
  refine gx_getN dX10_init_177 ha69 fl_X10_55 rfl ?_
  refine gx_iload_n 0 dX10_init_180 rfl rfl ?_
  obtain ⟨s70, hs70, h⟩ := bnd h
  refine gx_new dX10_init_181 hs70 nw_X10_53 rfl (Nat.le_of_ble_eq_true rfl) (Nat.le_of_ble_eq_true rfl) ?_
  refine gx_dup dX10_init_184 rfl ?_
  obtain ⟨q71, hq71, h⟩ := bnd h
  obtain ⟨g71, h⟩ := of_if h
  refine gx_cINV (As := []) (st := [.ref (Γ.B + pp (pq (nn s68))), .int (3 : Int32), .ref (Γ.B + pp a69)]) (o := (pq (nn s68))) (k' := 60) (n' := 4931) dX10_init_185 (c_X2_init hq71) moi_X2_init (by decide) rfl ⟨Nat.le_of_ble_eq_true rfl, Nat.le_of_ble_eq_true rfl⟩ (Nat.le_of_ble_eq_true rfl) rfl rfl (Nat.le_of_ble_eq_true rfl) (Nat.le_of_ble_eq_true rfl) g71 ?_
  obtain ⟨s73, hs73, h⟩ := bnd h
  refine gx_aast (t0 := 4) (c := 2) dX10_init_188 hs73 rfl (by decide) rfl rfl (by decide) rfl rfl ?_
  refine gx_iinc (v := (4 : Int32)) (lv' := [(1, .int (4 : Int32)), (0, .ref (Γ.B + pp l0))]) 0 dX10_init_189 rfl (by decide) (Nat.le_of_ble_eq_true rfl) rfl ?_
  refine gx_goto 170 dX10_init_192 (by decide) ?_
  refine gx_iload_n 0 dX10_init_170 rfl rfl ?_
  refine gx_bipush (v := (6 : Int32)) dX10_init_171 ib_6 ?_
  refine gx_icmp_ge 195 dX10_init_173 (by decide) (fun q => absurd q (by decide)) (fun _ => ?_)
  refine gx_aload_n 1 dX10_init_176 rfl rfl ?_
  obtain ⟨a74, ha74, h⟩ := bnd h
  refine gx_getN dX10_init_177 ha74 fl_X10_55 rfl ?_
  refine gx_iload_n 0 dX10_init_180 rfl rfl ?_
  obtain ⟨s75, hs75, h⟩ := bnd h
  refine gx_new dX10_init_181 hs75 nw_X10_53 rfl (Nat.le_of_ble_eq_true rfl) (Nat.le_of_ble_eq_true rfl) ?_
  refine gx_dup dX10_init_184 rfl ?_
  obtain ⟨q76, hq76, h⟩ := bnd h
  obtain ⟨g76, h⟩ := of_if h
  refine gx_cINV (As := []) (st := [.ref (Γ.B + pp (pq (nn s73))), .int (4 : Int32), .ref (Γ.B + pp a74)]) (o := (pq (nn s73))) (k' := 62) (n' := 5333) dX10_init_185 (c_X2_init hq76) moi_X2_init (by decide) rfl ⟨Nat.le_of_ble_eq_true rfl, Nat.le_of_ble_eq_true rfl⟩ (Nat.le_of_ble_eq_true rfl) rfl rfl (Nat.le_of_ble_eq_true rfl) (Nat.le_of_ble_eq_true rfl) g76 ?_
  obtain ⟨s78, hs78, h⟩ := bnd h
  refine gx_aast (t0 := 4) (c := 2) dX10_init_188 hs78 rfl (by decide) rfl rfl (by decide) rfl rfl ?_
  refine gx_iinc (v := (5 : Int32)) (lv' := [(1, .int (5 : Int32)), (0, .ref (Γ.B + pp l0))]) 0 dX10_init_189 rfl (by decide) (Nat.le_of_ble_eq_true rfl) rfl ?_
  refine gx_goto 170 dX10_init_192 (by decide) ?_
  refine gx_iload_n 0 dX10_init_170 rfl rfl ?_
  refine gx_bipush (v := (6 : Int32)) dX10_init_171 ib_6 ?_
  refine gx_icmp_ge 195 dX10_init_173 (by decide) (fun q => absurd q (by decide)) (fun _ => ?_)
  refine gx_aload_n 1 dX10_init_176 rfl rfl ?_
  obtain ⟨a79, ha79, h⟩ := bnd h
  refine gx_getN dX10_init_177 ha79 fl_X10_55 rfl ?_
  refine gx_iload_n 0 dX10_init_180 rfl rfl ?_
  obtain ⟨s80, hs80, h⟩ := bnd h
  refine gx_new dX10_init_181 hs80 nw_X10_53 rfl (Nat.le_of_ble_eq_true rfl) (Nat.le_of_ble_eq_true rfl) ?_
  refine gx_dup dX10_init_184 rfl ?_
  obtain ⟨q81, hq81, h⟩ := bnd h
  obtain ⟨g81, h⟩ := of_if h
  refine gx_cINV (As := []) (st := [.ref (Γ.B + pp (pq (nn s78))), .int (5 : Int32), .ref (Γ.B + pp a79)]) (o := (pq (nn s78))) (k' := 64) (n' := 5735) dX10_init_185 (c_X2_init hq81) moi_X2_init (by decide) rfl ⟨Nat.le_of_ble_eq_true rfl, Nat.le_of_ble_eq_true rfl⟩ (Nat.le_of_ble_eq_true rfl) rfl rfl (Nat.le_of_ble_eq_true rfl) (Nat.le_of_ble_eq_true rfl) g81 ?_
  obtain ⟨s83, hs83, h⟩ := bnd h
  refine gx_aast (t0 := 4) (c := 2) dX10_init_188 hs83 rfl (by decide) rfl rfl (by decide) rfl rfl ?_
  refine gx_iinc (v := (6 : Int32)) (lv' := [(1, .int (6 : Int32)), (0, .ref (Γ.B + pp l0))]) 0 dX10_init_189 rfl (by decide) (Nat.le_of_ble_eq_true rfl) rfl ?_
  refine gx_goto 170 dX10_init_192 (by decide) ?_
  refine gx_iload_n 0 dX10_init_170 rfl rfl ?_
  refine gx_bipush (v := (6 : Int32)) dX10_init_171 ib_6 ?_
  refine gx_icmp_ge 195 dX10_init_173 (by decide) (fun _ => ?_) (fun q => absurd q (by decide))
  have h := Option.some.inj h
  subst h
  exact gx_vret dX10_init_195 rfl (Nat.le_of_ble_eq_true rfl) (Nat.le_of_ble_eq_true rfl) ⟨rfl, rfl⟩
theorem c_X10_init {Γ : Cn} {τ : Mm} {N : Nat} {l0 : Nat} {σ : Mm} {o : Mm} (h : f_X10_init N l0 σ = some o) : Ct Γ M_X10_init yX10_init 0 τ [.ref (Γ.B + pp l0)] σ (PV o) := ct_of (by decide) rfl (fun _ => by first | rfl | contradiction) (Nat.le_of_ble_eq_true rfl) (s_X10_init_0  h)
abbrev M_X10_feed : Ms := (cX10_feed, RX10, 6, (some .int), false, 0, 0, 1)
def f_X10_feed (N : Nat) (l0 : Nat) (l1 : Int32) (l2 : Int32) (l3 : Int32) (l4 : Int32) (l5 : Int32) (σ : Mm) : Option (Int32 × Mm) :=
  (gN 10 0 σ l0).bind fun a1 =>
  (gI 5 1 σ a1).bind fun x2 =>
  if (x2 + (20 : Int32)) ≤ (400 : Int32) then (
    (gN 10 0 σ l0).bind fun a4 =>
    (ob 5 σ a4).bind fun _ =>
    (f_X5_append N a4 l1 σ).bind fun q5 =>
    (gN 10 0 q5 l0).bind fun a6 =>
    (ob 5 q5 a6).bind fun _ =>
    (f_X5_append N a6 l2 q5).bind fun q7 =>
    (gN 10 0 q7 l0).bind fun a8 =>
    (ob 5 q7 a8).bind fun _ =>
    (f_X5_append N a8 l3 q7).bind fun q9 =>
    (gN 10 0 q9 l0).bind fun a10 =>
    (ob 5 q9 a10).bind fun _ =>
    (f_X5_append N a10 l4 q9).bind fun q11 =>
    (gN 10 0 q11 l0).bind fun a12 =>
    (ob 5 q11 a12).bind fun _ =>
    (f_X5_append N a12 l5 q11).bind fun q13 =>
    (gN 10 0 q13 l0).bind fun a14 =>
    (gI 5 1 q13 a14).bind fun x15 =>
    some (x15, q13)) else (
    some ((-1 : Int32), σ))
theorem mov_X10_feed : MOV yX10_feed M_X10_feed 5 10 0 := ⟨⟨tw_96, tw_457, ⟨by decide, by decide⟩, by decide +kernel⟩, tw_455, tw_456, by decide, ⟨_, rfl, rfl⟩, rfl⟩
set_option maxRecDepth 4000 in
theorem s_X10_feed_0 {Γ : Cn} {τ : Mm} {N : Nat} {l0 : Nat} {l1 : Int32} {l2 : Int32} {l3 : Int32} {l4 : Int32} {l5 : Int32} {σ : Mm} {o : Int32 × Mm} (h : f_X10_feed N l0 l1 l2 l3 l4 l5 σ = some o) : Gx Γ M_X10_feed 0 τ (PI o) 0 0 0 [(0, .ref (Γ.B + pp l0)), (1, .int l1), (2, .int l2), (3, .int l3), (4, .int l4), (5, .int l5)] [] σ := by
  unfold f_X10_feed at h
  refine gx_aload_n 0 dX10_feed_0 rfl rfl ?_
  obtain ⟨a1, ha1, h⟩ := bnd h
  refine gx_getN dX10_feed_1 ha1 fl_X10_10 rfl ?_
  obtain ⟨x2, hx2, h⟩ := bnd h
  refine gx_getI dX10_feed_4 hx2 fl_X10_100 rfl ?_
  refine gx_bipush (v := (20 : Int32)) dX10_feed_7 ib_20 ?_
  refine gx_iadd dX10_feed_9 ?_
  refine gx_sipush (v := (400 : Int32)) dX10_feed_10 is_400 ?_
  refine gx_icmp_le 18 dX10_feed_13 (by decide) (fun c2 => ?_) (fun c2 => ?_)
  · rw [if_pos c2] at h
    refine gx_aload_n 0 dX10_feed_18 rfl rfl ?_
    obtain ⟨a4, ha4, h⟩ := bnd h
    refine gx_getN dX10_feed_19 ha4 fl_X10_10 rfl ?_
    refine gx_iload_n 1 dX10_feed_22 rfl rfl ?_
    obtain ⟨_, hobq5, h⟩ := bnd h
    obtain ⟨q5, hq5, h⟩ := bnd h
    refine gx_cVV (As := [.int l1]) (st := []) (o := a4) dX10_feed_23 (c_X5_append hq5) mov_X5_append tw_458 hobq5 rfl ⟨Nat.le_of_ble_eq_true rfl, Nat.le_of_ble_eq_true rfl⟩ (Nat.le_of_ble_eq_true rfl) ?_
    refine gx_aload_n 0 dX10_feed_26 rfl rfl ?_
    obtain ⟨a6, ha6, h⟩ := bnd h
    refine gx_getN dX10_feed_27 ha6 fl_X10_10 rfl ?_
    refine gx_iload_n 2 dX10_feed_30 rfl rfl ?_
    obtain ⟨_, hobq7, h⟩ := bnd h
    obtain ⟨q7, hq7, h⟩ := bnd h
    refine gx_cVV (As := [.int l2]) (st := []) (o := a6) dX10_feed_31 (c_X5_append hq7) mov_X5_append tw_458 hobq7 rfl ⟨Nat.le_of_ble_eq_true rfl, Nat.le_of_ble_eq_true rfl⟩ (Nat.le_of_ble_eq_true rfl) ?_
    refine gx_aload_n 0 dX10_feed_34 rfl rfl ?_
    obtain ⟨a8, ha8, h⟩ := bnd h
    refine gx_getN dX10_feed_35 ha8 fl_X10_10 rfl ?_
    refine gx_iload_n 3 dX10_feed_38 rfl rfl ?_
    obtain ⟨_, hobq9, h⟩ := bnd h
    obtain ⟨q9, hq9, h⟩ := bnd h
    refine gx_cVV (As := [.int l3]) (st := []) (o := a8) dX10_feed_39 (c_X5_append hq9) mov_X5_append tw_458 hobq9 rfl ⟨Nat.le_of_ble_eq_true rfl, Nat.le_of_ble_eq_true rfl⟩ (Nat.le_of_ble_eq_true rfl) ?_
    refine gx_aload_n 0 dX10_feed_42 rfl rfl ?_
    obtain ⟨a10, ha10, h⟩ := bnd h
    refine gx_getN dX10_feed_43 ha10 fl_X10_10 rfl ?_
    refine gx_iload 4 dX10_feed_46 rfl ?_
    obtain ⟨_, hobq11, h⟩ := bnd h
    obtain ⟨q11, hq11, h⟩ := bnd h
    refine gx_cVV (As := [.int l4]) (st := []) (o := a10) dX10_feed_48 (c_X5_append hq11) mov_X5_append tw_458 hobq11 rfl ⟨Nat.le_of_ble_eq_true rfl, Nat.le_of_ble_eq_true rfl⟩ (Nat.le_of_ble_eq_true rfl) ?_
    refine gx_aload_n 0 dX10_feed_51 rfl rfl ?_
    obtain ⟨a12, ha12, h⟩ := bnd h
    refine gx_getN dX10_feed_52 ha12 fl_X10_10 rfl ?_
    refine gx_iload 5 dX10_feed_55 rfl ?_
    obtain ⟨_, hobq13, h⟩ := bnd h
    obtain ⟨q13, hq13, h⟩ := bnd h
    refine gx_cVV (As := [.int l5]) (st := []) (o := a12) dX10_feed_57 (c_X5_append hq13) mov_X5_append tw_458 hobq13 rfl ⟨Nat.le_of_ble_eq_true rfl, Nat.le_of_ble_eq_true rfl⟩ (Nat.le_of_ble_eq_true rfl) ?_
    refine gx_aload_n 0 dX10_feed_60 rfl rfl ?_
    obtain ⟨a14, ha14, h⟩ := bnd h
    refine gx_getN dX10_feed_61 ha14 fl_X10_10 rfl ?_
    obtain ⟨x15, hx15, h⟩ := bnd h
    refine gx_getI dX10_feed_64 hx15 fl_X10_100 rfl ?_
    have h := Option.some.inj h
    subst h
    exact gx_iret dX10_feed_67 rfl (Nat.le_of_ble_eq_true rfl) (Nat.le_of_ble_eq_true rfl) ⟨rfl, rfl⟩
  · rw [if_neg c2] at h
    refine gx_iconst (v := (-1 : Int32)) dX10_feed_16 ic_m1 ?_
    have h := Option.some.inj h
    subst h
    exact gx_iret dX10_feed_17 rfl (Nat.le_of_ble_eq_true rfl) (Nat.le_of_ble_eq_true rfl) ⟨rfl, rfl⟩
theorem c_X10_feed {Γ : Cn} {τ : Mm} {N : Nat} {l0 : Nat} {l1 : Int32} {l2 : Int32} {l3 : Int32} {l4 : Int32} {l5 : Int32} {σ : Mm} {o : Int32 × Mm} (h : f_X10_feed N l0 l1 l2 l3 l4 l5 σ = some o) : Ct Γ M_X10_feed yX10_feed 0 τ [.ref (Γ.B + pp l0), .int l1, .int l2, .int l3, .int l4, .int l5] σ (PI o) := ct_of (by decide) rfl (fun _ => by first | rfl | contradiction) (Nat.le_of_ble_eq_true rfl) (s_X10_feed_0  h)
abbrev M_X10_end : Ms := (cX10_end, RX10, 2, (some .int), false, 0, 0, 0)
def f_X10_end_15 (N : Nat) (σ : Mm) : Option (Int32 × Mm) :=
  some ((-1 : Int32), σ)
def f_X10_end (N : Nat) (l0 : Nat) (l1 : Int32) (σ : Mm) : Option (Int32 × Mm) :=
  if l1 < 0 then (
    f_X10_end_15 N σ) else (
    (gN 10 0 σ l0).bind fun a2 =>
    (gI 5 1 σ a2).bind fun x3 =>
    if l1 ≤ x3 then (
      (gN 10 0 σ l0).bind fun a5 =>
      (pI 5 1 σ a5 l1).bind fun s6 =>
      some (l1, s6)) else (
      f_X10_end_15 N σ))
theorem mov_X10_end : MOV yX10_end M_X10_end 1 10 0 := ⟨⟨tw_96, tw_465, ⟨by decide, by decide⟩, by decide +kernel⟩, tw_463, tw_464, by decide, ⟨_, rfl, rfl⟩, rfl⟩
set_option maxRecDepth 4000 in
theorem s_X10_end_15 {Γ : Cn} {τ : Mm} {N : Nat} {σ : Mm} {o : Int32 × Mm} (h : f_X10_end_15 N σ = some o) : Gx Γ M_X10_end 0 τ (PI o) 0 0 15 [] [] σ := by
  unfold f_X10_end_15 at h
  refine gx_iconst (v := (-1 : Int32)) dX10_end_15 ic_m1 ?_
  have h := Option.some.inj h
  subst h
  exact gx_iret dX10_end_16 rfl (Nat.le_of_ble_eq_true rfl) (Nat.le_of_ble_eq_true rfl) ⟨rfl, rfl⟩
set_option maxRecDepth 4000 in
theorem s_X10_end_0 {Γ : Cn} {τ : Mm} {N : Nat} {l0 : Nat} {l1 : Int32} {σ : Mm} {o : Int32 × Mm} (h : f_X10_end N l0 l1 σ = some o) : Gx Γ M_X10_end 0 τ (PI o) 0 0 0 [(0, .ref (Γ.B + pp l0)), (1, .int l1)] [] σ := by
  unfold f_X10_end at h
  refine gx_iload_n 1 dX10_end_0 rfl rfl ?_
  refine gx_if_lt 15 dX10_end_1 (by decide) (fun c0 => ?_) (fun c0 => ?_)
  · rw [if_pos c0] at h
    exact gx_sub [] rfl (s_X10_end_15  h)
  · rw [if_neg c0] at h
    refine gx_iload_n 1 dX10_end_4 rfl rfl ?_
    refine gx_aload_n 0 dX10_end_5 rfl rfl ?_
    obtain ⟨a2, ha2, h⟩ := bnd h
    refine gx_getN dX10_end_6 ha2 fl_X10_10 rfl ?_
    obtain ⟨x3, hx3, h⟩ := bnd h
    refine gx_getI dX10_end_9 hx3 fl_X10_100 rfl ?_
    refine gx_icmp_le 17 dX10_end_12 (by decide) (fun c3 => ?_) (fun c3 => ?_)
    · rw [if_pos c3] at h
      refine gx_aload_n 0 dX10_end_17 rfl rfl ?_
      obtain ⟨a5, ha5, h⟩ := bnd h
      refine gx_getN dX10_end_18 ha5 fl_X10_10 rfl ?_
      refine gx_iload_n 1 dX10_end_21 rfl rfl ?_
      obtain ⟨s6, hs6, h⟩ := bnd h
      refine gx_putI dX10_end_22 hs6 fl_X10_100 fp_X10_5_1 rfl ?_
      refine gx_iload_n 1 dX10_end_25 rfl rfl ?_
      have h := Option.some.inj h
      subst h
      exact gx_iret dX10_end_26 rfl (Nat.le_of_ble_eq_true rfl) (Nat.le_of_ble_eq_true rfl) ⟨rfl, rfl⟩
    · rw [if_neg c3] at h
      exact gx_sub [] rfl (s_X10_end_15  h)
theorem c_X10_end {Γ : Cn} {τ : Mm} {N : Nat} {l0 : Nat} {l1 : Int32} {σ : Mm} {o : Int32 × Mm} (h : f_X10_end N l0 l1 σ = some o) : Ct Γ M_X10_end yX10_end 0 τ [.ref (Γ.B + pp l0), .int l1] σ (PI o) := ct_of (by decide) rfl (fun _ => by first | rfl | contradiction) (Nat.le_of_ble_eq_true rfl) (s_X10_end_0  h)
abbrev M_X10_valley : Ms := (cX10_valley, RX10, 1, (some .int), false, 0, 0, 11)
def f_X10_valley (N : Nat) (l0 : Nat) (σ : Mm) : Option (Int32 × Mm) :=
  (gN 10 1 σ l0).bind fun a1 =>
  (gN 10 0 σ l0).bind fun a2 =>
  (ob 6 σ a1).bind fun _ =>
  (f_X6_cut N a1 a2 σ).bind fun q3 =>
  (gN 10 0 q3 l0).bind fun a4 =>
  (pI 5 1 q3 a4 (0 : Int32)).bind fun s5 =>
  (gN 10 2 s5 l0).bind fun a6 =>
  (gN 10 5 s5 l0).bind fun a7 =>
  (ob 8 s5 a6).bind fun _ =>
  (f_X8_reads N a6 a7 s5).bind fun q8 =>
  if q8.1 = 0 then (
    (gN 10 1 q8.2 l0).bind fun a21 =>
    (gI 6 5 q8.2 a21).bind fun x22 =>
    some (((-2 : Int32) - x22), q8.2)) else (
    (gN 10 5 q8.2 l0).bind fun a10 =>
    (ob 7 q8.2 a10).bind fun _ =>
    (f_X7_keepMorning N a10 q8.2).bind fun q11 =>
    (gN 10 5 q11 l0).bind fun a12 =>
    (gN 10 4 q11 l0).bind fun a13 =>
    (gI 7 13 q11 a13).bind fun x14 =>
    (pI 7 13 q11 a12 x14).bind fun s15 =>
    (gN 10 4 s15 l0).bind fun a16 =>
    (gN 10 5 s15 l0).bind fun a17 =>
    (ob 7 s15 a16).bind fun _ =>
    (f_X7_become N a16 a17 s15).bind fun q18 =>
    (gN 10 4 q18 l0).bind fun a19 =>
    (gI 7 0 q18 a19).bind fun x20 =>
    some (x20, q18))
theorem mov_X10_valley : MOV yX10_valley M_X10_valley 0 10 0 := ⟨⟨tw_96, tw_469, ⟨by decide, by decide⟩, by decide +kernel⟩, tw_467, tw_468, by decide, ⟨_, rfl, rfl⟩, rfl⟩
set_option maxRecDepth 4000 in
theorem s_X10_valley_0 {Γ : Cn} {τ : Mm} {N : Nat} {l0 : Nat} {σ : Mm} {o : Int32 × Mm} (h : f_X10_valley N l0 σ = some o) : Gx Γ M_X10_valley 0 τ (PI o) 0 0 0 [(0, .ref (Γ.B + pp l0))] [] σ := by
  unfold f_X10_valley at h
  refine gx_aload_n 0 dX10_valley_0 rfl rfl ?_
  obtain ⟨a1, ha1, h⟩ := bnd h
  refine gx_getN dX10_valley_1 ha1 fl_X10_19 rfl ?_
  refine gx_aload_n 0 dX10_valley_4 rfl rfl ?_
  obtain ⟨a2, ha2, h⟩ := bnd h
  refine gx_getN dX10_valley_5 ha2 fl_X10_10 rfl ?_
  obtain ⟨_, hobq3, h⟩ := bnd h
  obtain ⟨q3, hq3, h⟩ := bnd h
  refine gx_cVV (As := [.ref (Γ.B + pp a2)]) (st := []) (o := a1) dX10_valley_8 (c_X6_cut hq3) mov_X6_cut tw_470 hobq3 rfl ⟨Nat.le_of_ble_eq_true rfl, Nat.le_of_ble_eq_true rfl⟩ (Nat.le_of_ble_eq_true rfl) ?_
  refine gx_aload_n 0 dX10_valley_11 rfl rfl ?_
  obtain ⟨a4, ha4, h⟩ := bnd h
  refine gx_getN dX10_valley_12 ha4 fl_X10_10 rfl ?_
  refine gx_iconst (v := (0 : Int32)) dX10_valley_15 ic_0 ?_
  obtain ⟨s5, hs5, h⟩ := bnd h
  refine gx_putI dX10_valley_16 hs5 fl_X10_100 fp_X10_5_1 rfl ?_
  refine gx_aload_n 0 dX10_valley_19 rfl rfl ?_
  obtain ⟨a6, ha6, h⟩ := bnd h
  refine gx_getN dX10_valley_20 ha6 fl_X10_28 rfl ?_
  refine gx_aload_n 0 dX10_valley_23 rfl rfl ?_
  obtain ⟨a7, ha7, h⟩ := bnd h
  refine gx_getN dX10_valley_24 ha7 fl_X10_46 rfl ?_
  obtain ⟨_, hobq8, h⟩ := bnd h
  obtain ⟨q8, hq8, h⟩ := bnd h
  refine gx_cVI (As := [.ref (Γ.B + pp a7)]) (st := []) (o := a6) dX10_valley_27 (c_X8_reads hq8) mov_X8_reads tw_562 hobq8 rfl ⟨Nat.le_of_ble_eq_true rfl, Nat.le_of_ble_eq_true rfl⟩ (Nat.le_of_ble_eq_true rfl) ?_
  refine gx_if_ne 44 dX10_valley_30 (by decide) (fun c8 => ?_) (fun c8 => ?_)
  · rw [if_neg c8] at h
    refine gx_aload_n 0 dX10_valley_44 rfl rfl ?_
    obtain ⟨a10, ha10, h⟩ := bnd h
    refine gx_getN dX10_valley_45 ha10 fl_X10_46 rfl ?_
    obtain ⟨_, hobq11, h⟩ := bnd h
    obtain ⟨q11, hq11, h⟩ := bnd h
    refine gx_cVV (As := []) (st := []) (o := a10) dX10_valley_48 (c_X7_keepMorning hq11) mov_X7_keepMorning tw_617 hobq11 rfl ⟨Nat.le_of_ble_eq_true rfl, Nat.le_of_ble_eq_true rfl⟩ (Nat.le_of_ble_eq_true rfl) ?_
    refine gx_aload_n 0 dX10_valley_51 rfl rfl ?_
    obtain ⟨a12, ha12, h⟩ := bnd h
    refine gx_getN dX10_valley_52 ha12 fl_X10_46 rfl ?_
    refine gx_aload_n 0 dX10_valley_55 rfl rfl ?_
    obtain ⟨a13, ha13, h⟩ := bnd h
    refine gx_getN dX10_valley_56 ha13 fl_X10_42 rfl ?_
    obtain ⟨x14, hx14, h⟩ := bnd h
    refine gx_getI dX10_valley_59 hx14 fl_X10_121 rfl ?_
    obtain ⟨s15, hs15, h⟩ := bnd h
    refine gx_putI dX10_valley_62 hs15 fl_X10_121 fp_X10_7_13 rfl ?_
    refine gx_aload_n 0 dX10_valley_65 rfl rfl ?_
    obtain ⟨a16, ha16, h⟩ := bnd h
    refine gx_getN dX10_valley_66 ha16 fl_X10_42 rfl ?_
    refine gx_aload_n 0 dX10_valley_69 rfl rfl ?_
    obtain ⟨a17, ha17, h⟩ := bnd h
    refine gx_getN dX10_valley_70 ha17 fl_X10_46 rfl ?_
    obtain ⟨_, hobq18, h⟩ := bnd h
    obtain ⟨q18, hq18, h⟩ := bnd h
    refine gx_cVV (As := [.ref (Γ.B + pp a17)]) (st := []) (o := a16) dX10_valley_73 (c_X7_become hq18) mov_X7_become tw_624 hobq18 rfl ⟨Nat.le_of_ble_eq_true rfl, Nat.le_of_ble_eq_true rfl⟩ (Nat.le_of_ble_eq_true rfl) ?_
    refine gx_aload_n 0 dX10_valley_76 rfl rfl ?_
    obtain ⟨a19, ha19, h⟩ := bnd h
    refine gx_getN dX10_valley_77 ha19 fl_X10_42 rfl ?_
    obtain ⟨x20, hx20, h⟩ := bnd h
    refine gx_getI dX10_valley_80 hx20 fl_X10_128 rfl ?_
    have h := Option.some.inj h
    subst h
    exact gx_iret dX10_valley_83 rfl (Nat.le_of_ble_eq_true rfl) (Nat.le_of_ble_eq_true rfl) ⟨rfl, rfl⟩
  · rw [if_pos c8] at h
    refine gx_bipush (v := (-2 : Int32)) dX10_valley_33 ib_m2 ?_
    refine gx_aload_n 0 dX10_valley_35 rfl rfl ?_
    obtain ⟨a21, ha21, h⟩ := bnd h
    refine gx_getN dX10_valley_36 ha21 fl_X10_19 rfl ?_
    obtain ⟨x22, hx22, h⟩ := bnd h
    refine gx_getI dX10_valley_39 hx22 fl_X10_115 rfl ?_
    refine gx_isub dX10_valley_42 ?_
    have h := Option.some.inj h
    subst h
    exact gx_iret dX10_valley_43 rfl (Nat.le_of_ble_eq_true rfl) (Nat.le_of_ble_eq_true rfl) ⟨rfl, rfl⟩
theorem c_X10_valley {Γ : Cn} {τ : Mm} {N : Nat} {l0 : Nat} {σ : Mm} {o : Int32 × Mm} (h : f_X10_valley N l0 σ = some o) : Ct Γ M_X10_valley yX10_valley 0 τ [.ref (Γ.B + pp l0)] σ (PI o) := ct_of (by decide) rfl (fun _ => by first | rfl | contradiction) (Nat.le_of_ble_eq_true rfl) (s_X10_valley_0  h)
abbrev M_X10_law : Ms := (cX10_law, RX10, 1, (some .int), false, 0, 0, 61)
def f_X10_law (N : Nat) (l0 : Nat) (σ : Mm) : Option (Int32 × Mm) :=
  (gI 10 8 σ l0).bind fun x1 =>
  if x1 < (6 : Int32) then (
    (gN 10 1 σ l0).bind fun a3 =>
    (gN 10 0 σ l0).bind fun a4 =>
    (ob 6 σ a3).bind fun _ =>
    (f_X6_cut N a3 a4 σ).bind fun q5 =>
    (gN 10 0 q5 l0).bind fun a6 =>
    (pI 5 1 q5 a6 (0 : Int32)).bind fun s7 =>
    (gN 10 3 s7 l0).bind fun a8 =>
    (gN 10 7 s7 l0).bind fun a9 =>
    (gI 10 8 s7 l0).bind fun x10 =>
    (aN 16 s7 a9 x10).bind fun a11 =>
    (ob 3 s7 a8).bind fun _ =>
    (f_X3_reads N a8 a11 s7).bind fun q12 =>
    if q12.1 = 0 then (
      (gN 10 1 q12.2 l0).bind fun a17 =>
      (gI 6 5 q12.2 a17).bind fun x18 =>
      some (((-2 : Int32) - x18), q12.2)) else (
      (gI 10 8 q12.2 l0).bind fun x14 =>
      (pI 10 8 q12.2 l0 (x14 + (1 : Int32))).bind fun s15 =>
      (gI 10 8 s15 l0).bind fun x16 =>
      some ((x16 - (1 : Int32)), s15))) else (
    some ((-1 : Int32), σ))
theorem mov_X10_law : MOV yX10_law M_X10_law 0 10 0 := ⟨⟨tw_96, tw_632, ⟨by decide, by decide⟩, by decide +kernel⟩, tw_630, tw_631, by decide, ⟨_, rfl, rfl⟩, rfl⟩
set_option maxRecDepth 4000 in
theorem s_X10_law_0 {Γ : Cn} {τ : Mm} {N : Nat} {l0 : Nat} {σ : Mm} {o : Int32 × Mm} (h : f_X10_law N l0 σ = some o) : Gx Γ M_X10_law 0 τ (PI o) 0 0 0 [(0, .ref (Γ.B + pp l0))] [] σ := by
  unfold f_X10_law at h
  refine gx_aload_n 0 dX10_law_0 rfl rfl ?_
  obtain ⟨x1, hx1, h⟩ := bnd h
  refine gx_getI dX10_law_1 hx1 fl_X10_59 rfl ?_
  refine gx_bipush (v := (6 : Int32)) dX10_law_4 ib_6 ?_
  refine gx_icmp_lt 11 dX10_law_6 (by decide) (fun c1 => ?_) (fun c1 => ?_)
  · rw [if_pos c1] at h
    refine gx_aload_n 0 dX10_law_11 rfl rfl ?_
    obtain ⟨a3, ha3, h⟩ := bnd h
    refine gx_getN dX10_law_12 ha3 fl_X10_19 rfl ?_
    refine gx_aload_n 0 dX10_law_15 rfl rfl ?_
    obtain ⟨a4, ha4, h⟩ := bnd h
    refine gx_getN dX10_law_16 ha4 fl_X10_10 rfl ?_
    obtain ⟨_, hobq5, h⟩ := bnd h
    obtain ⟨q5, hq5, h⟩ := bnd h
    refine gx_cVV (As := [.ref (Γ.B + pp a4)]) (st := []) (o := a3) dX10_law_19 (c_X6_cut hq5) mov_X6_cut tw_470 hobq5 rfl ⟨Nat.le_of_ble_eq_true rfl, Nat.le_of_ble_eq_true rfl⟩ (Nat.le_of_ble_eq_true rfl) ?_
    refine gx_aload_n 0 dX10_law_22 rfl rfl ?_
    obtain ⟨a6, ha6, h⟩ := bnd h
    refine gx_getN dX10_law_23 ha6 fl_X10_10 rfl ?_
    refine gx_iconst (v := (0 : Int32)) dX10_law_26 ic_0 ?_
    obtain ⟨s7, hs7, h⟩ := bnd h
    refine gx_putI dX10_law_27 hs7 fl_X10_100 fp_X10_5_1 rfl ?_
    refine gx_aload_n 0 dX10_law_30 rfl rfl ?_
    obtain ⟨a8, ha8, h⟩ := bnd h
    refine gx_getN dX10_law_31 ha8 fl_X10_35 rfl ?_
    refine gx_aload_n 0 dX10_law_34 rfl rfl ?_
    obtain ⟨a9, ha9, h⟩ := bnd h
    refine gx_getN dX10_law_35 ha9 fl_X10_55 rfl ?_
    refine gx_aload_n 0 dX10_law_38 rfl rfl ?_
    obtain ⟨x10, hx10, h⟩ := bnd h
    refine gx_getI dX10_law_39 hx10 fl_X10_59 rfl ?_
    obtain ⟨a11, ha11, h⟩ := bnd h
    refine gx_aaldN (t0 := 4) (C := "MostCocks$Law") dX10_law_42 ha11 rfl (by decide) rfl rfl ?_
    obtain ⟨_, hobq12, h⟩ := bnd h
    obtain ⟨q12, hq12, h⟩ := bnd h
    refine gx_cVI (As := [.ref (Γ.B + pp a11)]) (st := []) (o := a8) dX10_law_43 (c_X3_reads hq12) mov_X3_reads tw_633 hobq12 rfl ⟨Nat.le_of_ble_eq_true rfl, Nat.le_of_ble_eq_true rfl⟩ (Nat.le_of_ble_eq_true rfl) ?_
    refine gx_if_ne 60 dX10_law_46 (by decide) (fun c12 => ?_) (fun c12 => ?_)
    · rw [if_neg c12] at h
      refine gx_aload_n 0 dX10_law_60 rfl rfl ?_
      refine gx_dup dX10_law_61 rfl ?_
      obtain ⟨x14, hx14, h⟩ := bnd h
      refine gx_getI dX10_law_62 hx14 fl_X10_59 rfl ?_
      refine gx_iconst (v := (1 : Int32)) dX10_law_65 ic_1 ?_
      refine gx_iadd dX10_law_66 ?_
      obtain ⟨s15, hs15, h⟩ := bnd h
      refine gx_putI dX10_law_67 hs15 fl_X10_59 fp_X10_10_8 rfl ?_
      refine gx_aload_n 0 dX10_law_70 rfl rfl ?_
      obtain ⟨x16, hx16, h⟩ := bnd h
      refine gx_getI dX10_law_71 hx16 fl_X10_59 rfl ?_
      refine gx_iconst (v := (1 : Int32)) dX10_law_74 ic_1 ?_
      refine gx_isub dX10_law_75 ?_
      have h := Option.some.inj h
      subst h
      exact gx_iret dX10_law_76 rfl (Nat.le_of_ble_eq_true rfl) (Nat.le_of_ble_eq_true rfl) ⟨rfl, rfl⟩
    · rw [if_pos c12] at h
      refine gx_bipush (v := (-2 : Int32)) dX10_law_49 ib_m2 ?_
      refine gx_aload_n 0 dX10_law_51 rfl rfl ?_
      obtain ⟨a17, ha17, h⟩ := bnd h
      refine gx_getN dX10_law_52 ha17 fl_X10_19 rfl ?_
      obtain ⟨x18, hx18, h⟩ := bnd h
      refine gx_getI dX10_law_55 hx18 fl_X10_115 rfl ?_
      refine gx_isub dX10_law_58 ?_
      have h := Option.some.inj h
      subst h
      exact gx_iret dX10_law_59 rfl (Nat.le_of_ble_eq_true rfl) (Nat.le_of_ble_eq_true rfl) ⟨rfl, rfl⟩
  · rw [if_neg c1] at h
    refine gx_iconst (v := (-1 : Int32)) dX10_law_9 ic_m1 ?_
    have h := Option.some.inj h
    subst h
    exact gx_iret dX10_law_10 rfl (Nat.le_of_ble_eq_true rfl) (Nat.le_of_ble_eq_true rfl) ⟨rfl, rfl⟩
theorem c_X10_law {Γ : Cn} {τ : Mm} {N : Nat} {l0 : Nat} {σ : Mm} {o : Int32 × Mm} (h : f_X10_law N l0 σ = some o) : Ct Γ M_X10_law yX10_law 0 τ [.ref (Γ.B + pp l0)] σ (PI o) := ct_of (by decide) rfl (fun _ => by first | rfl | contradiction) (Nat.le_of_ble_eq_true rfl) (s_X10_law_0  h)
abbrev M_X10_cock : Ms := (cX10_cock, RX10, 3, (some .int), false, 0, 0, 1)
def f_X10_cock (N : Nat) (l0 : Nat) (l1 : Int32) (l2 : Int32) (σ : Mm) : Option (Int32 × Mm) :=
  (gN 10 4 σ l0).bind fun a1 =>
  (ob 7 σ a1).bind fun _ =>
  (f_X7_hasCock N a1 l1 σ).bind fun q2 =>
  if q2.1 = 0 then (
    some ((-1 : Int32), q2.2)) else (
    if l2 = (0 : Int32) then (
      (gN 10 4 q2.2 l0).bind fun a6 =>
      (gN 7 1 q2.2 a6).bind fun a7 =>
      (aI 13 q2.2 a7 l1).bind fun x8 =>
      some (x8, q2.2)) else
    if l2 = (1 : Int32) then (
      (gN 10 4 q2.2 l0).bind fun a10 =>
      (gN 7 2 q2.2 a10).bind fun a11 =>
      (aI 13 q2.2 a11 l1).bind fun x12 =>
      some (x12, q2.2)) else
    if l2 = (2 : Int32) then (
      (gN 10 4 q2.2 l0).bind fun a14 =>
      (gN 7 3 q2.2 a14).bind fun a15 =>
      (aI 13 q2.2 a15 l1).bind fun x16 =>
      some (x16, q2.2)) else
    if l2 = (3 : Int32) then (
      (gN 10 4 q2.2 l0).bind fun a18 =>
      (gN 7 4 q2.2 a18).bind fun a19 =>
      (aI 13 q2.2 a19 l1).bind fun x20 =>
      some (x20, q2.2)) else
    if l2 = (4 : Int32) then (
      (gN 10 4 q2.2 l0).bind fun a22 =>
      (gN 7 5 q2.2 a22).bind fun a23 =>
      (aI 13 q2.2 a23 l1).bind fun x24 =>
      some (x24, q2.2)) else
    if l2 = (5 : Int32) then (
      (gN 10 4 q2.2 l0).bind fun a26 =>
      (gN 7 6 q2.2 a26).bind fun a27 =>
      (aI 13 q2.2 a27 l1).bind fun x28 =>
      some (x28, q2.2)) else
    if l2 = (6 : Int32) then (
      (gN 10 4 q2.2 l0).bind fun a30 =>
      (gN 7 7 q2.2 a30).bind fun a31 =>
      (aI 13 q2.2 a31 l1).bind fun x32 =>
      some (x32, q2.2)) else
    some ((-1 : Int32), q2.2))
theorem mov_X10_cock : MOV yX10_cock M_X10_cock 2 10 0 := ⟨⟨tw_96, tw_685, ⟨by decide, by decide⟩, by decide +kernel⟩, tw_683, tw_684, by decide, ⟨_, rfl, rfl⟩, rfl⟩
set_option maxRecDepth 4000 in
theorem s_X10_cock_0 {Γ : Cn} {τ : Mm} {N : Nat} {l0 : Nat} {l1 : Int32} {l2 : Int32} {σ : Mm} {o : Int32 × Mm} (h : f_X10_cock N l0 l1 l2 σ = some o) : Gx Γ M_X10_cock 0 τ (PI o) 0 0 0 [(0, .ref (Γ.B + pp l0)), (1, .int l1), (2, .int l2)] [] σ := by
  unfold f_X10_cock at h
  refine gx_aload_n 0 dX10_cock_0 rfl rfl ?_
  obtain ⟨a1, ha1, h⟩ := bnd h
  refine gx_getN dX10_cock_1 ha1 fl_X10_42 rfl ?_
  refine gx_iload_n 1 dX10_cock_4 rfl rfl ?_
  obtain ⟨_, hobq2, h⟩ := bnd h
  obtain ⟨q2, hq2, h⟩ := bnd h
  refine gx_cVI (As := [.int l1]) (st := []) (o := a1) dX10_cock_5 (c_X7_hasCock hq2) mov_X7_hasCock tw_686 hobq2 rfl ⟨Nat.le_of_ble_eq_true rfl, Nat.le_of_ble_eq_true rfl⟩ (Nat.le_of_ble_eq_true rfl) ?_
  refine gx_if_ne 13 dX10_cock_8 (by decide) (fun c2 => ?_) (fun c2 => ?_)
  · rw [if_neg c2] at h
    refine gx_iload_n 2 dX10_cock_13 rfl rfl ?_
    by_cases c4 : l2 = (0 : Int32)
    · rw [if_pos c4] at h
      refine gx_tIn 56 dX10_cock_14 (by rw [c4]; decide) (by rw [c4]; decide) (by rw [c4]; rfl) (by decide) ?_
      refine gx_aload_n 0 dX10_cock_56 rfl rfl ?_
      obtain ⟨a6, ha6, h⟩ := bnd h
      refine gx_getN dX10_cock_57 ha6 fl_X10_42 rfl ?_
      obtain ⟨a7, ha7, h⟩ := bnd h
      refine gx_getN dX10_cock_60 ha7 fl_X10_138 rfl ?_
      refine gx_iload_n 1 dX10_cock_63 rfl rfl ?_
      obtain ⟨x8, hx8, h⟩ := bnd h
      refine gx_iald (kd := 13) dX10_cock_64 hx8 rfl rfl ?_
      have h := Option.some.inj h
      subst h
      exact gx_iret dX10_cock_65 rfl (Nat.le_of_ble_eq_true rfl) (Nat.le_of_ble_eq_true rfl) ⟨rfl, rfl⟩
    rw [if_neg c4] at h
    by_cases c8 : l2 = (1 : Int32)
    · rw [if_pos c8] at h
      refine gx_tIn 66 dX10_cock_14 (by rw [c8]; decide) (by rw [c8]; decide) (by rw [c8]; rfl) (by decide) ?_
      refine gx_aload_n 0 dX10_cock_66 rfl rfl ?_
      obtain ⟨a10, ha10, h⟩ := bnd h
      refine gx_getN dX10_cock_67 ha10 fl_X10_42 rfl ?_
      obtain ⟨a11, ha11, h⟩ := bnd h
      refine gx_getN dX10_cock_70 ha11 fl_X10_141 rfl ?_
      refine gx_iload_n 1 dX10_cock_73 rfl rfl ?_
      obtain ⟨x12, hx12, h⟩ := bnd h
      refine gx_iald (kd := 13) dX10_cock_74 hx12 rfl rfl ?_
      have h := Option.some.inj h
      subst h
      exact gx_iret dX10_cock_75 rfl (Nat.le_of_ble_eq_true rfl) (Nat.le_of_ble_eq_true rfl) ⟨rfl, rfl⟩
    rw [if_neg c8] at h
    by_cases c12 : l2 = (2 : Int32)
    · rw [if_pos c12] at h
      refine gx_tIn 76 dX10_cock_14 (by rw [c12]; decide) (by rw [c12]; decide) (by rw [c12]; rfl) (by decide) ?_
      refine gx_aload_n 0 dX10_cock_76 rfl rfl ?_
      obtain ⟨a14, ha14, h⟩ := bnd h
      refine gx_getN dX10_cock_77 ha14 fl_X10_42 rfl ?_
      obtain ⟨a15, ha15, h⟩ := bnd h
      refine gx_getN dX10_cock_80 ha15 fl_X10_144 rfl ?_
      refine gx_iload_n 1 dX10_cock_83 rfl rfl ?_
      obtain ⟨x16, hx16, h⟩ := bnd h
      refine gx_iald (kd := 13) dX10_cock_84 hx16 rfl rfl ?_
      have h := Option.some.inj h
      subst h
      exact gx_iret dX10_cock_85 rfl (Nat.le_of_ble_eq_true rfl) (Nat.le_of_ble_eq_true rfl) ⟨rfl, rfl⟩
    rw [if_neg c12] at h
    by_cases c16 : l2 = (3 : Int32)
    · rw [if_pos c16] at h
      refine gx_tIn 86 dX10_cock_14 (by rw [c16]; decide) (by rw [c16]; decide) (by rw [c16]; rfl) (by decide) ?_
      refine gx_aload_n 0 dX10_cock_86 rfl rfl ?_
      obtain ⟨a18, ha18, h⟩ := bnd h
      refine gx_getN dX10_cock_87 ha18 fl_X10_42 rfl ?_
      obtain ⟨a19, ha19, h⟩ := bnd h
      refine gx_getN dX10_cock_90 ha19 fl_X10_147 rfl ?_
      refine gx_iload_n 1 dX10_cock_93 rfl rfl ?_
      obtain ⟨x20, hx20, h⟩ := bnd h
      refine gx_iald (kd := 13) dX10_cock_94 hx20 rfl rfl ?_
      have h := Option.some.inj h
      subst h
      exact gx_iret dX10_cock_95 rfl (Nat.le_of_ble_eq_true rfl) (Nat.le_of_ble_eq_true rfl) ⟨rfl, rfl⟩
    rw [if_neg c16] at h
    by_cases c20 : l2 = (4 : Int32)
    · rw [if_pos c20] at h
      refine gx_tIn 96 dX10_cock_14 (by rw [c20]; decide) (by rw [c20]; decide) (by rw [c20]; rfl) (by decide) ?_
      refine gx_aload_n 0 dX10_cock_96 rfl rfl ?_
      obtain ⟨a22, ha22, h⟩ := bnd h
      refine gx_getN dX10_cock_97 ha22 fl_X10_42 rfl ?_
      obtain ⟨a23, ha23, h⟩ := bnd h
      refine gx_getN dX10_cock_100 ha23 fl_X10_150 rfl ?_
      refine gx_iload_n 1 dX10_cock_103 rfl rfl ?_
      obtain ⟨x24, hx24, h⟩ := bnd h
      refine gx_iald (kd := 13) dX10_cock_104 hx24 rfl rfl ?_
      have h := Option.some.inj h
      subst h
      exact gx_iret dX10_cock_105 rfl (Nat.le_of_ble_eq_true rfl) (Nat.le_of_ble_eq_true rfl) ⟨rfl, rfl⟩
    rw [if_neg c20] at h
    by_cases c24 : l2 = (5 : Int32)
    · rw [if_pos c24] at h
      refine gx_tIn 106 dX10_cock_14 (by rw [c24]; decide) (by rw [c24]; decide) (by rw [c24]; rfl) (by decide) ?_
      refine gx_aload_n 0 dX10_cock_106 rfl rfl ?_
      obtain ⟨a26, ha26, h⟩ := bnd h
      refine gx_getN dX10_cock_107 ha26 fl_X10_42 rfl ?_
      obtain ⟨a27, ha27, h⟩ := bnd h
      refine gx_getN dX10_cock_110 ha27 fl_X10_153 rfl ?_
      refine gx_iload_n 1 dX10_cock_113 rfl rfl ?_
      obtain ⟨x28, hx28, h⟩ := bnd h
      refine gx_iald (kd := 13) dX10_cock_114 hx28 rfl rfl ?_
      have h := Option.some.inj h
      subst h
      exact gx_iret dX10_cock_115 rfl (Nat.le_of_ble_eq_true rfl) (Nat.le_of_ble_eq_true rfl) ⟨rfl, rfl⟩
    rw [if_neg c24] at h
    by_cases c28 : l2 = (6 : Int32)
    · rw [if_pos c28] at h
      refine gx_tIn 116 dX10_cock_14 (by rw [c28]; decide) (by rw [c28]; decide) (by rw [c28]; rfl) (by decide) ?_
      refine gx_aload_n 0 dX10_cock_116 rfl rfl ?_
      obtain ⟨a30, ha30, h⟩ := bnd h
      refine gx_getN dX10_cock_117 ha30 fl_X10_42 rfl ?_
      obtain ⟨a31, ha31, h⟩ := bnd h
      refine gx_getN dX10_cock_120 ha31 fl_X10_156 rfl ?_
      refine gx_iload_n 1 dX10_cock_123 rfl rfl ?_
      obtain ⟨x32, hx32, h⟩ := bnd h
      refine gx_iald (kd := 13) dX10_cock_124 hx32 rfl rfl ?_
      have h := Option.some.inj h
      subst h
      exact gx_iret dX10_cock_125 rfl (Nat.le_of_ble_eq_true rfl) (Nat.le_of_ble_eq_true rfl) ⟨rfl, rfl⟩
    rw [if_neg c28] at h
    have K33 : Gx Γ M_X10_cock 0 τ (PI o) 0 0 126 [(0, .ref (Γ.B + pp l0)), (1, .int l1), (2, .int l2)] [] q2.2 := by
      refine gx_iconst (v := (-1 : Int32)) dX10_cock_126 ic_m1 ?_
      have h := Option.some.inj h
      subst h
      exact gx_iret dX10_cock_127 rfl (Nat.le_of_ble_eq_true rfl) (Nat.le_of_ble_eq_true rfl) ⟨rfl, rfl⟩
    by_cases hr : l2.toInt < (0) ∨ (6) < l2.toInt
    · exact gx_tOut 126 dX10_cock_14 hr (by decide) K33
    · obtain ⟨j, hj, hx⟩ := sw_in hr
      match j, hj, hx with
      | 0, _, hx => exact absurd hx c4
      | 1, _, hx => exact absurd hx c8
      | 2, _, hx => exact absurd hx c12
      | 3, _, hx => exact absurd hx c16
      | 4, _, hx => exact absurd hx c20
      | 5, _, hx => exact absurd hx c24
      | 6, _, hx => exact absurd hx c28
      | j + 7, hj, _ => exact absurd hj (by omega)
  · rw [if_pos c2] at h
    refine gx_iconst (v := (-1 : Int32)) dX10_cock_11 ic_m1 ?_
    have h := Option.some.inj h
    subst h
    exact gx_iret dX10_cock_12 rfl (Nat.le_of_ble_eq_true rfl) (Nat.le_of_ble_eq_true rfl) ⟨rfl, rfl⟩
theorem c_X10_cock {Γ : Cn} {τ : Mm} {N : Nat} {l0 : Nat} {l1 : Int32} {l2 : Int32} {σ : Mm} {o : Int32 × Mm} (h : f_X10_cock N l0 l1 l2 σ = some o) : Ct Γ M_X10_cock yX10_cock 0 τ [.ref (Γ.B + pp l0), .int l1, .int l2] σ (PI o) := ct_of (by decide) rfl (fun _ => by first | rfl | contradiction) (Nat.le_of_ble_eq_true rfl) (s_X10_cock_0  h)
abbrev M_X10_tree : Ms := (cX10_tree, RX10, 3, (some .int), false, 0, 0, 1)
def f_X10_tree (N : Nat) (l0 : Nat) (l1 : Int32) (l2 : Int32) (σ : Mm) : Option (Int32 × Mm) :=
  (gN 10 4 σ l0).bind fun a1 =>
  (ob 7 σ a1).bind fun _ =>
  (f_X7_hasTree N a1 l1 σ).bind fun q2 =>
  if q2.1 = 0 then (
    some ((-1 : Int32), q2.2)) else (
    if l2 = (0 : Int32) then (
      (gN 10 4 q2.2 l0).bind fun a6 =>
      (gN 7 9 q2.2 a6).bind fun a7 =>
      (aI 13 q2.2 a7 l1).bind fun x8 =>
      some (x8, q2.2)) else
    if l2 = (1 : Int32) then (
      (gN 10 4 q2.2 l0).bind fun a10 =>
      (gN 7 10 q2.2 a10).bind fun a11 =>
      (aI 13 q2.2 a11 l1).bind fun x12 =>
      some (x12, q2.2)) else
    if l2 = (2 : Int32) then (
      (gN 10 4 q2.2 l0).bind fun a14 =>
      (gI 7 11 q2.2 a14).bind fun x15 =>
      some (((x15 >>> (l1 &&& 31)) &&& (1 : Int32)), q2.2)) else
    some ((-1 : Int32), q2.2))
theorem mov_X10_tree : MOV yX10_tree M_X10_tree 2 10 0 := ⟨⟨tw_96, tw_693, ⟨by decide, by decide⟩, by decide +kernel⟩, tw_691, tw_692, by decide, ⟨_, rfl, rfl⟩, rfl⟩
set_option maxRecDepth 4000 in
theorem s_X10_tree_0 {Γ : Cn} {τ : Mm} {N : Nat} {l0 : Nat} {l1 : Int32} {l2 : Int32} {σ : Mm} {o : Int32 × Mm} (h : f_X10_tree N l0 l1 l2 σ = some o) : Gx Γ M_X10_tree 0 τ (PI o) 0 0 0 [(0, .ref (Γ.B + pp l0)), (1, .int l1), (2, .int l2)] [] σ := by
  unfold f_X10_tree at h
  refine gx_aload_n 0 dX10_tree_0 rfl rfl ?_
  obtain ⟨a1, ha1, h⟩ := bnd h
  refine gx_getN dX10_tree_1 ha1 fl_X10_42 rfl ?_
  refine gx_iload_n 1 dX10_tree_4 rfl rfl ?_
  obtain ⟨_, hobq2, h⟩ := bnd h
  obtain ⟨q2, hq2, h⟩ := bnd h
  refine gx_cVI (As := [.int l1]) (st := []) (o := a1) dX10_tree_5 (c_X7_hasTree hq2) mov_X7_hasTree tw_694 hobq2 rfl ⟨Nat.le_of_ble_eq_true rfl, Nat.le_of_ble_eq_true rfl⟩ (Nat.le_of_ble_eq_true rfl) ?_
  refine gx_if_ne 13 dX10_tree_8 (by decide) (fun c2 => ?_) (fun c2 => ?_)
  · rw [if_neg c2] at h
    refine gx_iload_n 2 dX10_tree_13 rfl rfl ?_
    by_cases c4 : l2 = (0 : Int32)
    · rw [if_pos c4] at h
      refine gx_tIn 40 dX10_tree_14 (by rw [c4]; decide) (by rw [c4]; decide) (by rw [c4]; rfl) (by decide) ?_
      refine gx_aload_n 0 dX10_tree_40 rfl rfl ?_
      obtain ⟨a6, ha6, h⟩ := bnd h
      refine gx_getN dX10_tree_41 ha6 fl_X10_42 rfl ?_
      obtain ⟨a7, ha7, h⟩ := bnd h
      refine gx_getN dX10_tree_44 ha7 fl_X10_162 rfl ?_
      refine gx_iload_n 1 dX10_tree_47 rfl rfl ?_
      obtain ⟨x8, hx8, h⟩ := bnd h
      refine gx_iald (kd := 13) dX10_tree_48 hx8 rfl rfl ?_
      have h := Option.some.inj h
      subst h
      exact gx_iret dX10_tree_49 rfl (Nat.le_of_ble_eq_true rfl) (Nat.le_of_ble_eq_true rfl) ⟨rfl, rfl⟩
    rw [if_neg c4] at h
    by_cases c8 : l2 = (1 : Int32)
    · rw [if_pos c8] at h
      refine gx_tIn 50 dX10_tree_14 (by rw [c8]; decide) (by rw [c8]; decide) (by rw [c8]; rfl) (by decide) ?_
      refine gx_aload_n 0 dX10_tree_50 rfl rfl ?_
      obtain ⟨a10, ha10, h⟩ := bnd h
      refine gx_getN dX10_tree_51 ha10 fl_X10_42 rfl ?_
      obtain ⟨a11, ha11, h⟩ := bnd h
      refine gx_getN dX10_tree_54 ha11 fl_X10_165 rfl ?_
      refine gx_iload_n 1 dX10_tree_57 rfl rfl ?_
      obtain ⟨x12, hx12, h⟩ := bnd h
      refine gx_iald (kd := 13) dX10_tree_58 hx12 rfl rfl ?_
      have h := Option.some.inj h
      subst h
      exact gx_iret dX10_tree_59 rfl (Nat.le_of_ble_eq_true rfl) (Nat.le_of_ble_eq_true rfl) ⟨rfl, rfl⟩
    rw [if_neg c8] at h
    by_cases c12 : l2 = (2 : Int32)
    · rw [if_pos c12] at h
      refine gx_tIn 60 dX10_tree_14 (by rw [c12]; decide) (by rw [c12]; decide) (by rw [c12]; rfl) (by decide) ?_
      refine gx_aload_n 0 dX10_tree_60 rfl rfl ?_
      obtain ⟨a14, ha14, h⟩ := bnd h
      refine gx_getN dX10_tree_61 ha14 fl_X10_42 rfl ?_
      obtain ⟨x15, hx15, h⟩ := bnd h
      refine gx_getI dX10_tree_64 hx15 fl_X10_168 rfl ?_
      refine gx_iload_n 1 dX10_tree_67 rfl rfl ?_
      refine gx_ishr dX10_tree_68 ?_
      refine gx_iconst (v := (1 : Int32)) dX10_tree_69 ic_1 ?_
      refine gx_iand dX10_tree_70 ?_
      have h := Option.some.inj h
      subst h
      exact gx_iret dX10_tree_71 rfl (Nat.le_of_ble_eq_true rfl) (Nat.le_of_ble_eq_true rfl) ⟨rfl, rfl⟩
    rw [if_neg c12] at h
    have K16 : Gx Γ M_X10_tree 0 τ (PI o) 0 0 72 [(0, .ref (Γ.B + pp l0)), (1, .int l1), (2, .int l2)] [] q2.2 := by
      refine gx_iconst (v := (-1 : Int32)) dX10_tree_72 ic_m1 ?_
      have h := Option.some.inj h
      subst h
      exact gx_iret dX10_tree_73 rfl (Nat.le_of_ble_eq_true rfl) (Nat.le_of_ble_eq_true rfl) ⟨rfl, rfl⟩
    by_cases hr : l2.toInt < (0) ∨ (2) < l2.toInt
    · exact gx_tOut 72 dX10_tree_14 hr (by decide) K16
    · obtain ⟨j, hj, hx⟩ := sw_in hr
      match j, hj, hx with
      | 0, _, hx => exact absurd hx c4
      | 1, _, hx => exact absurd hx c8
      | 2, _, hx => exact absurd hx c12
      | j + 3, hj, _ => exact absurd hj (by omega)
  · rw [if_pos c2] at h
    refine gx_iconst (v := (-1 : Int32)) dX10_tree_11 ic_m1 ?_
    have h := Option.some.inj h
    subst h
    exact gx_iret dX10_tree_12 rfl (Nat.le_of_ble_eq_true rfl) (Nat.le_of_ble_eq_true rfl) ⟨rfl, rfl⟩
theorem c_X10_tree {Γ : Cn} {τ : Mm} {N : Nat} {l0 : Nat} {l1 : Int32} {l2 : Int32} {σ : Mm} {o : Int32 × Mm} (h : f_X10_tree N l0 l1 l2 σ = some o) : Ct Γ M_X10_tree yX10_tree 0 τ [.ref (Γ.B + pp l0), .int l1, .int l2] σ (PI o) := ct_of (by decide) rfl (fun _ => by first | rfl | contradiction) (Nat.le_of_ble_eq_true rfl) (s_X10_tree_0  h)
abbrev M_X10_isThere : Ms := (cX10_isThere, RX10, 1, (some .boolean), false, 0, 0, 0)
def f_X10_isThere_15 (N : Nat) (t0 : Int32) (σ : Mm) : Option (Int32 × Mm) :=
  if t0 = 0 ∨ t0 = 1 then some (t0, σ) else none
def f_X10_isThere (N : Nat) (l0 : Nat) (σ : Mm) : Option (Int32 × Mm) :=
  (gN 10 4 σ l0).bind fun a1 =>
  (gI 7 0 σ a1).bind fun x2 =>
  if x2 ≤ 0 then (
    f_X10_isThere_15 N (0 : Int32) σ) else (
    f_X10_isThere_15 N (1 : Int32) σ)
theorem mov_X10_isThere : MOV yX10_isThere M_X10_isThere 0 10 0 := ⟨⟨tw_96, tw_705, ⟨by decide, by decide⟩, by decide +kernel⟩, tw_704, tw_18, by decide, ⟨_, rfl, rfl⟩, rfl⟩
set_option maxRecDepth 4000 in
theorem s_X10_isThere_15 {Γ : Cn} {τ : Mm} {N : Nat} {t0 : Int32} {σ : Mm} {o : Int32 × Mm} (h : f_X10_isThere_15 N t0 σ = some o) : Gx Γ M_X10_isThere 0 τ (PI o) 0 0 15 [] [.int t0] σ := by
  unfold f_X10_isThere_15 at h
  obtain ⟨hz, h⟩ := of_if h
  have h := Option.some.inj h
  subst h
  exact gx_zret dX10_isThere_15 rfl (nar_z hz) (Nat.le_of_ble_eq_true rfl) (Nat.le_of_ble_eq_true rfl) ⟨rfl, rfl⟩
set_option maxRecDepth 4000 in
theorem s_X10_isThere_0 {Γ : Cn} {τ : Mm} {N : Nat} {l0 : Nat} {σ : Mm} {o : Int32 × Mm} (h : f_X10_isThere N l0 σ = some o) : Gx Γ M_X10_isThere 0 τ (PI o) 0 0 0 [(0, .ref (Γ.B + pp l0))] [] σ := by
  unfold f_X10_isThere at h
  refine gx_aload_n 0 dX10_isThere_0 rfl rfl ?_
  obtain ⟨a1, ha1, h⟩ := bnd h
  refine gx_getN dX10_isThere_1 ha1 fl_X10_42 rfl ?_
  obtain ⟨x2, hx2, h⟩ := bnd h
  refine gx_getI dX10_isThere_4 hx2 fl_X10_128 rfl ?_
  refine gx_if_le 14 dX10_isThere_7 (by decide) (fun c2 => ?_) (fun c2 => ?_)
  · rw [if_pos c2] at h
    refine gx_iconst (v := (0 : Int32)) dX10_isThere_14 ic_0 ?_
    exact gx_sub [] rfl (s_X10_isThere_15  h)
  · rw [if_neg c2] at h
    refine gx_iconst (v := (1 : Int32)) dX10_isThere_10 ic_1 ?_
    refine gx_goto 15 dX10_isThere_11 (by decide) ?_
    exact gx_sub [] rfl (s_X10_isThere_15  h)
theorem c_X10_isThere {Γ : Cn} {τ : Mm} {N : Nat} {l0 : Nat} {σ : Mm} {o : Int32 × Mm} (h : f_X10_isThere N l0 σ = some o) : Ct Γ M_X10_isThere yX10_isThere 0 τ [.ref (Γ.B + pp l0)] σ (PI o) := ct_of (by decide) rfl (fun _ => by first | rfl | contradiction) (Nat.le_of_ble_eq_true rfl) (s_X10_isThere_0  h)
abbrev M_X10_worth : Ms := (cX10_worth, RX10, 3, (some .int), false, 0, 0, 2)
def f_X10_worth_24 (N : Nat) (σ : Mm) : Option (Int32 × Mm) :=
  some ((-1 : Int32), σ)
def f_X10_worth (N : Nat) (l0 : Nat) (l1 : Int32) (l2 : Int32) (σ : Mm) : Option (Int32 × Mm) :=
  (ob 10 σ l0).bind fun _ =>
  (f_X10_isThere N l0 σ).bind fun q1 =>
  if q1.1 = 0 then (
    f_X10_worth_24 N q1.2) else (
    (f_X10_isBelow N l1 (4 : Int32) q1.2).bind fun q3 =>
    if q3.1 = 0 then (
      f_X10_worth_24 N q3.2) else (
      (f_X10_isBelow N l2 (8 : Int32) q3.2).bind fun q5 =>
      if q5.1 = 0 then (
        f_X10_worth_24 N q5.2) else (
        (gN 10 4 q5.2 l0).bind fun a7 =>
        (ob 7 q5.2 a7).bind fun _ =>
        (f_X7_gain N a7 l1 l2 q5.2).bind fun q8 =>
        some (q8.1, q8.2))))
theorem mov_X10_worth : MOV yX10_worth M_X10_worth 2 10 0 := ⟨⟨tw_96, tw_701, ⟨by decide, by decide⟩, by decide +kernel⟩, tw_699, tw_700, by decide, ⟨_, rfl, rfl⟩, rfl⟩
set_option maxRecDepth 4000 in
theorem s_X10_worth_24 {Γ : Cn} {τ : Mm} {N : Nat} {σ : Mm} {o : Int32 × Mm} (h : f_X10_worth_24 N σ = some o) : Gx Γ M_X10_worth 0 τ (PI o) 0 0 24 [] [] σ := by
  unfold f_X10_worth_24 at h
  refine gx_iconst (v := (-1 : Int32)) dX10_worth_24 ic_m1 ?_
  have h := Option.some.inj h
  subst h
  exact gx_iret dX10_worth_25 rfl (Nat.le_of_ble_eq_true rfl) (Nat.le_of_ble_eq_true rfl) ⟨rfl, rfl⟩
set_option maxRecDepth 4000 in
theorem s_X10_worth_0 {Γ : Cn} {τ : Mm} {N : Nat} {l0 : Nat} {l1 : Int32} {l2 : Int32} {σ : Mm} {o : Int32 × Mm} (h : f_X10_worth N l0 l1 l2 σ = some o) : Gx Γ M_X10_worth 0 τ (PI o) 0 0 0 [(0, .ref (Γ.B + pp l0)), (1, .int l1), (2, .int l2)] [] σ := by
  unfold f_X10_worth at h
  refine gx_aload_n 0 dX10_worth_0 rfl rfl ?_
  obtain ⟨_, hobq1, h⟩ := bnd h
  obtain ⟨q1, hq1, h⟩ := bnd h
  refine gx_cVI (As := []) (st := []) (o := l0) dX10_worth_1 (c_X10_isThere hq1) mov_X10_isThere tw_702 hobq1 rfl ⟨Nat.le_of_ble_eq_true rfl, Nat.le_of_ble_eq_true rfl⟩ (Nat.le_of_ble_eq_true rfl) ?_
  refine gx_if_eq 24 dX10_worth_4 (by decide) (fun c1 => ?_) (fun c1 => ?_)
  · rw [if_pos c1] at h
    exact gx_sub [] rfl (s_X10_worth_24  h)
  · rw [if_neg c1] at h
    refine gx_iload_n 1 dX10_worth_7 rfl rfl ?_
    refine gx_iconst (v := (4 : Int32)) dX10_worth_8 ic_4 ?_
    obtain ⟨q3, hq3, h⟩ := bnd h
    refine gx_cSI (As := [.int l1, .int (4 : Int32)]) (st := []) dX10_worth_9 (c_X10_isBelow hq3) mos_X10_isBelow tw_706 rfl ⟨Nat.le_of_ble_eq_true rfl, Nat.le_of_ble_eq_true rfl⟩ (Nat.le_of_ble_eq_true rfl) ?_
    refine gx_if_eq 24 dX10_worth_12 (by decide) (fun c3 => ?_) (fun c3 => ?_)
    · rw [if_pos c3] at h
      exact gx_sub [] rfl (s_X10_worth_24  h)
    · rw [if_neg c3] at h
      refine gx_iload_n 2 dX10_worth_15 rfl rfl ?_
      refine gx_bipush (v := (8 : Int32)) dX10_worth_16 ib_8 ?_
      obtain ⟨q5, hq5, h⟩ := bnd h
      refine gx_cSI (As := [.int l2, .int (8 : Int32)]) (st := []) dX10_worth_18 (c_X10_isBelow hq5) mos_X10_isBelow tw_706 rfl ⟨Nat.le_of_ble_eq_true rfl, Nat.le_of_ble_eq_true rfl⟩ (Nat.le_of_ble_eq_true rfl) ?_
      refine gx_if_ne 26 dX10_worth_21 (by decide) (fun c5 => ?_) (fun c5 => ?_)
      · rw [if_neg c5] at h
        refine gx_aload_n 0 dX10_worth_26 rfl rfl ?_
        obtain ⟨a7, ha7, h⟩ := bnd h
        refine gx_getN dX10_worth_27 ha7 fl_X10_42 rfl ?_
        refine gx_iload_n 1 dX10_worth_30 rfl rfl ?_
        refine gx_iload_n 2 dX10_worth_31 rfl rfl ?_
        obtain ⟨_, hobq8, h⟩ := bnd h
        obtain ⟨q8, hq8, h⟩ := bnd h
        refine gx_cVI (As := [.int l1, .int l2]) (st := []) (o := a7) dX10_worth_32 (c_X7_gain hq8) mov_X7_gain tw_707 hobq8 rfl ⟨Nat.le_of_ble_eq_true rfl, Nat.le_of_ble_eq_true rfl⟩ (Nat.le_of_ble_eq_true rfl) ?_
        have h := Option.some.inj h
        subst h
        exact gx_iret dX10_worth_35 rfl (Nat.le_of_ble_eq_true rfl) (Nat.le_of_ble_eq_true rfl) ⟨rfl, rfl⟩
      · rw [if_pos c5] at h
        exact gx_sub [] rfl (s_X10_worth_24  h)
theorem c_X10_worth {Γ : Cn} {τ : Mm} {N : Nat} {l0 : Nat} {l1 : Int32} {l2 : Int32} {σ : Mm} {o : Int32 × Mm} (h : f_X10_worth N l0 l1 l2 σ = some o) : Ct Γ M_X10_worth yX10_worth 0 τ [.ref (Γ.B + pp l0), .int l1, .int l2] σ (PI o) := ct_of (by decide) rfl (fun _ => by first | rfl | contradiction) (Nat.le_of_ble_eq_true rfl) (s_X10_worth_0  h)
abbrev M_X10_lee : Ms := (cX10_lee, RX10, 3, (some .int), false, 0, 0, 2)
def f_X10_lee_20 (N : Nat) (σ : Mm) : Option (Int32 × Mm) :=
  some ((-1 : Int32), σ)
def f_X10_lee (N : Nat) (l0 : Nat) (l1 : Int32) (l2 : Int32) (σ : Mm) : Option (Int32 × Mm) :=
  (gN 10 4 σ l0).bind fun a1 =>
  (ob 7 σ a1).bind fun _ =>
  (f_X7_hasCock N a1 l1 σ).bind fun q2 =>
  if q2.1 = 0 then (
    f_X10_lee_20 N q2.2) else (
    (f_X10_isBelow N l2 (8 : Int32) q2.2).bind fun q4 =>
    if q4.1 = 0 then (
      f_X10_lee_20 N q4.2) else (
      (gN 10 4 q4.2 l0).bind fun a6 =>
      (gN 10 4 q4.2 l0).bind fun a7 =>
      (gI 7 11 q4.2 a7).bind fun x8 =>
      (ob 7 q4.2 a6).bind fun _ =>
      (f_X7_sheltering N a6 l1 l2 x8 q4.2).bind fun q9 =>
      some (q9.1, q9.2)))
theorem mov_X10_lee : MOV yX10_lee M_X10_lee 2 10 0 := ⟨⟨tw_96, tw_714, ⟨by decide, by decide⟩, by decide +kernel⟩, tw_712, tw_713, by decide, ⟨_, rfl, rfl⟩, rfl⟩
set_option maxRecDepth 4000 in
theorem s_X10_lee_20 {Γ : Cn} {τ : Mm} {N : Nat} {σ : Mm} {o : Int32 × Mm} (h : f_X10_lee_20 N σ = some o) : Gx Γ M_X10_lee 0 τ (PI o) 0 0 20 [] [] σ := by
  unfold f_X10_lee_20 at h
  refine gx_iconst (v := (-1 : Int32)) dX10_lee_20 ic_m1 ?_
  have h := Option.some.inj h
  subst h
  exact gx_iret dX10_lee_21 rfl (Nat.le_of_ble_eq_true rfl) (Nat.le_of_ble_eq_true rfl) ⟨rfl, rfl⟩
set_option maxRecDepth 4000 in
theorem s_X10_lee_0 {Γ : Cn} {τ : Mm} {N : Nat} {l0 : Nat} {l1 : Int32} {l2 : Int32} {σ : Mm} {o : Int32 × Mm} (h : f_X10_lee N l0 l1 l2 σ = some o) : Gx Γ M_X10_lee 0 τ (PI o) 0 0 0 [(0, .ref (Γ.B + pp l0)), (1, .int l1), (2, .int l2)] [] σ := by
  unfold f_X10_lee at h
  refine gx_aload_n 0 dX10_lee_0 rfl rfl ?_
  obtain ⟨a1, ha1, h⟩ := bnd h
  refine gx_getN dX10_lee_1 ha1 fl_X10_42 rfl ?_
  refine gx_iload_n 1 dX10_lee_4 rfl rfl ?_
  obtain ⟨_, hobq2, h⟩ := bnd h
  obtain ⟨q2, hq2, h⟩ := bnd h
  refine gx_cVI (As := [.int l1]) (st := []) (o := a1) dX10_lee_5 (c_X7_hasCock hq2) mov_X7_hasCock tw_686 hobq2 rfl ⟨Nat.le_of_ble_eq_true rfl, Nat.le_of_ble_eq_true rfl⟩ (Nat.le_of_ble_eq_true rfl) ?_
  refine gx_if_eq 20 dX10_lee_8 (by decide) (fun c2 => ?_) (fun c2 => ?_)
  · rw [if_pos c2] at h
    exact gx_sub [] rfl (s_X10_lee_20  h)
  · rw [if_neg c2] at h
    refine gx_iload_n 2 dX10_lee_11 rfl rfl ?_
    refine gx_bipush (v := (8 : Int32)) dX10_lee_12 ib_8 ?_
    obtain ⟨q4, hq4, h⟩ := bnd h
    refine gx_cSI (As := [.int l2, .int (8 : Int32)]) (st := []) dX10_lee_14 (c_X10_isBelow hq4) mos_X10_isBelow tw_706 rfl ⟨Nat.le_of_ble_eq_true rfl, Nat.le_of_ble_eq_true rfl⟩ (Nat.le_of_ble_eq_true rfl) ?_
    refine gx_if_ne 22 dX10_lee_17 (by decide) (fun c4 => ?_) (fun c4 => ?_)
    · rw [if_neg c4] at h
      refine gx_aload_n 0 dX10_lee_22 rfl rfl ?_
      obtain ⟨a6, ha6, h⟩ := bnd h
      refine gx_getN dX10_lee_23 ha6 fl_X10_42 rfl ?_
      refine gx_iload_n 1 dX10_lee_26 rfl rfl ?_
      refine gx_iload_n 2 dX10_lee_27 rfl rfl ?_
      refine gx_aload_n 0 dX10_lee_28 rfl rfl ?_
      obtain ⟨a7, ha7, h⟩ := bnd h
      refine gx_getN dX10_lee_29 ha7 fl_X10_42 rfl ?_
      obtain ⟨x8, hx8, h⟩ := bnd h
      refine gx_getI dX10_lee_32 hx8 fl_X10_168 rfl ?_
      obtain ⟨_, hobq9, h⟩ := bnd h
      obtain ⟨q9, hq9, h⟩ := bnd h
      refine gx_cVI (As := [.int l1, .int l2, .int x8]) (st := []) (o := a6) dX10_lee_35 (c_X7_sheltering hq9) mov_X7_sheltering tw_715 hobq9 rfl ⟨Nat.le_of_ble_eq_true rfl, Nat.le_of_ble_eq_true rfl⟩ (Nat.le_of_ble_eq_true rfl) ?_
      have h := Option.some.inj h
      subst h
      exact gx_iret dX10_lee_38 rfl (Nat.le_of_ble_eq_true rfl) (Nat.le_of_ble_eq_true rfl) ⟨rfl, rfl⟩
    · rw [if_pos c4] at h
      exact gx_sub [] rfl (s_X10_lee_20  h)
theorem c_X10_lee {Γ : Cn} {τ : Mm} {N : Nat} {l0 : Nat} {l1 : Int32} {l2 : Int32} {σ : Mm} {o : Int32 × Mm} (h : f_X10_lee N l0 l1 l2 σ = some o) : Ct Γ M_X10_lee yX10_lee 0 τ [.ref (Γ.B + pp l0), .int l1, .int l2] σ (PI o) := ct_of (by decide) rfl (fun _ => by first | rfl | contradiction) (Nat.le_of_ble_eq_true rfl) (s_X10_lee_0  h)
abbrev M_X10_canBlow : Ms := (cX10_canBlow, RX10, 4, (some .boolean), false, 0, 0, 1)
def f_X10_canBlow_41 (N : Nat) (t0 : Int32) (σ : Mm) : Option (Int32 × Mm) :=
  if t0 = 0 ∨ t0 = 1 then some (t0, σ) else none
def f_X10_canBlow_40 (N : Nat) (σ : Mm) : Option (Int32 × Mm) :=
  f_X10_canBlow_41 N (0 : Int32) σ
def f_X10_canBlow (N : Nat) (l0 : Nat) (l1 : Int32) (l2 : Int32) (l3 : Int32) (σ : Mm) : Option (Int32 × Mm) :=
  (ob 10 σ l0).bind fun _ =>
  (f_X10_isThere N l0 σ).bind fun q1 =>
  if q1.1 = 0 then (
    f_X10_canBlow_40 N q1.2) else (
    (gI 10 8 q1.2 l0).bind fun x3 =>
    (f_X10_isBelow N l1 x3 q1.2).bind fun q4 =>
    if q4.1 = 0 then (
      f_X10_canBlow_40 N q4.2) else (
      (f_X10_isBelow N l2 (8 : Int32) q4.2).bind fun q6 =>
      if q6.1 = 0 then (
        f_X10_canBlow_40 N q6.2) else (
        (f_X10_isBelow N l3 (25 : Int32) q6.2).bind fun q8 =>
        if q8.1 = 0 then (
          f_X10_canBlow_40 N q8.2) else (
          f_X10_canBlow_41 N (1 : Int32) q8.2))))
theorem mov_X10_canBlow : MOV yX10_canBlow M_X10_canBlow 3 10 0 := ⟨⟨tw_96, tw_734, ⟨by decide, by decide⟩, by decide +kernel⟩, tw_733, tw_19, by decide, ⟨_, rfl, rfl⟩, rfl⟩
set_option maxRecDepth 4000 in
theorem s_X10_canBlow_41 {Γ : Cn} {τ : Mm} {N : Nat} {t0 : Int32} {σ : Mm} {o : Int32 × Mm} (h : f_X10_canBlow_41 N t0 σ = some o) : Gx Γ M_X10_canBlow 0 τ (PI o) 0 0 41 [] [.int t0] σ := by
  unfold f_X10_canBlow_41 at h
  obtain ⟨hz, h⟩ := of_if h
  have h := Option.some.inj h
  subst h
  exact gx_zret dX10_canBlow_41 rfl (nar_z hz) (Nat.le_of_ble_eq_true rfl) (Nat.le_of_ble_eq_true rfl) ⟨rfl, rfl⟩
set_option maxRecDepth 4000 in
theorem s_X10_canBlow_40 {Γ : Cn} {τ : Mm} {N : Nat} {σ : Mm} {o : Int32 × Mm} (h : f_X10_canBlow_40 N σ = some o) : Gx Γ M_X10_canBlow 0 τ (PI o) 0 0 40 [] [] σ := by
  unfold f_X10_canBlow_40 at h
  refine gx_iconst (v := (0 : Int32)) dX10_canBlow_40 ic_0 ?_
  exact s_X10_canBlow_41  h
set_option maxRecDepth 4000 in
theorem s_X10_canBlow_0 {Γ : Cn} {τ : Mm} {N : Nat} {l0 : Nat} {l1 : Int32} {l2 : Int32} {l3 : Int32} {σ : Mm} {o : Int32 × Mm} (h : f_X10_canBlow N l0 l1 l2 l3 σ = some o) : Gx Γ M_X10_canBlow 0 τ (PI o) 0 0 0 [(0, .ref (Γ.B + pp l0)), (1, .int l1), (2, .int l2), (3, .int l3)] [] σ := by
  unfold f_X10_canBlow at h
  refine gx_aload_n 0 dX10_canBlow_0 rfl rfl ?_
  obtain ⟨_, hobq1, h⟩ := bnd h
  obtain ⟨q1, hq1, h⟩ := bnd h
  refine gx_cVI (As := []) (st := []) (o := l0) dX10_canBlow_1 (c_X10_isThere hq1) mov_X10_isThere tw_702 hobq1 rfl ⟨Nat.le_of_ble_eq_true rfl, Nat.le_of_ble_eq_true rfl⟩ (Nat.le_of_ble_eq_true rfl) ?_
  refine gx_if_eq 40 dX10_canBlow_4 (by decide) (fun c1 => ?_) (fun c1 => ?_)
  · rw [if_pos c1] at h
    exact gx_sub [] rfl (s_X10_canBlow_40  h)
  · rw [if_neg c1] at h
    refine gx_iload_n 1 dX10_canBlow_7 rfl rfl ?_
    refine gx_aload_n 0 dX10_canBlow_8 rfl rfl ?_
    obtain ⟨x3, hx3, h⟩ := bnd h
    refine gx_getI dX10_canBlow_9 hx3 fl_X10_59 rfl ?_
    obtain ⟨q4, hq4, h⟩ := bnd h
    refine gx_cSI (As := [.int l1, .int x3]) (st := []) dX10_canBlow_12 (c_X10_isBelow hq4) mos_X10_isBelow tw_706 rfl ⟨Nat.le_of_ble_eq_true rfl, Nat.le_of_ble_eq_true rfl⟩ (Nat.le_of_ble_eq_true rfl) ?_
    refine gx_if_eq 40 dX10_canBlow_15 (by decide) (fun c4 => ?_) (fun c4 => ?_)
    · rw [if_pos c4] at h
      exact gx_sub [] rfl (s_X10_canBlow_40  h)
    · rw [if_neg c4] at h
      refine gx_iload_n 2 dX10_canBlow_18 rfl rfl ?_
      refine gx_bipush (v := (8 : Int32)) dX10_canBlow_19 ib_8 ?_
      obtain ⟨q6, hq6, h⟩ := bnd h
      refine gx_cSI (As := [.int l2, .int (8 : Int32)]) (st := []) dX10_canBlow_21 (c_X10_isBelow hq6) mos_X10_isBelow tw_706 rfl ⟨Nat.le_of_ble_eq_true rfl, Nat.le_of_ble_eq_true rfl⟩ (Nat.le_of_ble_eq_true rfl) ?_
      refine gx_if_eq 40 dX10_canBlow_24 (by decide) (fun c6 => ?_) (fun c6 => ?_)
      · rw [if_pos c6] at h
        exact gx_sub [] rfl (s_X10_canBlow_40  h)
      · rw [if_neg c6] at h
        refine gx_iload_n 3 dX10_canBlow_27 rfl rfl ?_
        refine gx_bipush (v := (25 : Int32)) dX10_canBlow_28 ib_25 ?_
        obtain ⟨q8, hq8, h⟩ := bnd h
        refine gx_cSI (As := [.int l3, .int (25 : Int32)]) (st := []) dX10_canBlow_30 (c_X10_isBelow hq8) mos_X10_isBelow tw_706 rfl ⟨Nat.le_of_ble_eq_true rfl, Nat.le_of_ble_eq_true rfl⟩ (Nat.le_of_ble_eq_true rfl) ?_
        refine gx_if_eq 40 dX10_canBlow_33 (by decide) (fun c8 => ?_) (fun c8 => ?_)
        · rw [if_pos c8] at h
          exact gx_sub [] rfl (s_X10_canBlow_40  h)
        · rw [if_neg c8] at h
          refine gx_iconst (v := (1 : Int32)) dX10_canBlow_36 ic_1 ?_
          refine gx_goto 41 dX10_canBlow_37 (by decide) ?_
          exact gx_sub [] rfl (s_X10_canBlow_41  h)
theorem c_X10_canBlow {Γ : Cn} {τ : Mm} {N : Nat} {l0 : Nat} {l1 : Int32} {l2 : Int32} {l3 : Int32} {σ : Mm} {o : Int32 × Mm} (h : f_X10_canBlow N l0 l1 l2 l3 σ = some o) : Ct Γ M_X10_canBlow yX10_canBlow 0 τ [.ref (Γ.B + pp l0), .int l1, .int l2, .int l3] σ (PI o) := ct_of (by decide) rfl (fun _ => by first | rfl | contradiction) (Nat.le_of_ble_eq_true rfl) (s_X10_canBlow_0  h)
