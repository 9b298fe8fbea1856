abbrev M_X6_cutWord : Ms := (cX6_cutWord, RX6, 5, (some .int), false, 0, 0, 8)
def f_X6_cutWord_33 (N : Nat) (l0 : Nat) (l1 : Nat) (l2 : Int32) (l3 : Int32) (σ : Mm) : Option (Int32 × Mm) :=
  (f_X6_wordKind N l1 l2 l3 σ).bind fun q1 =>
  (ob 6 q1.2 l0).bind fun _ =>
  (f_X6_add N l0 q1.1 l2 (0 : Int32) q1.2).bind fun q2 =>
  some (l3, q2)
def f_X6_cutWord_5 (N : Nat) : Nat → Nat → Nat → Int32 → Int32 → Int32 → Mm → Option (Int32 × Mm)
  | 0, _, _, _, _, _, _ => none
  | n + 1, l0, l1, l2, l3, l4, σ =>
      if (400 : Int32) ≤ l4 then (
        f_X6_cutWord_33 N l0 l1 l2 l3 σ) else (
        (ob 5 σ l1).bind fun _ =>
        (f_X5_at N l1 l3 σ).bind fun q2 =>
        (f_X6_isLetter N q2.1 q2.2).bind fun q3 =>
        if q3.1 = 0 then (
          f_X6_cutWord_33 N l0 l1 l2 l3 q3.2) else (
          f_X6_cutWord_5 N n l0 l1 l2 (l3 + (1 : Int32)) (l4 + (1 : Int32)) q3.2))
def f_X6_cutWord (N : Nat) (l0 : Nat) (l1 : Nat) (l2 : Int32) (σ : Mm) : Option (Int32 × Mm) :=
  f_X6_cutWord_5 N N l0 l1 l2 l2 (0 : Int32) σ
theorem mov_X6_cutWord : MOV yX6_cutWord M_X6_cutWord 2 6 0 := ⟨⟨tw_98, tw_499, ⟨by decide, by decide⟩, by decide +kernel⟩, tw_498, tw_3, by decide, ⟨_, rfl, rfl⟩, rfl⟩
set_option maxRecDepth 4000 in
theorem s_X6_cutWord_33 {Γ : Cn} {τ : Mm} {N : Nat} {l0 : Nat} {l1 : Nat} {l2 : Int32} {l3 : Int32} {σ : Mm} {o : Int32 × Mm} (h : f_X6_cutWord_33 N l0 l1 l2 l3 σ = some o) : Gx Γ M_X6_cutWord 0 τ (PI o) 0 0 33 [(0, .ref (Γ.B + pp l0)), (1, .ref (Γ.B + pp l1)), (2, .int l2), (3, .int l3)] [] σ := by
  unfold f_X6_cutWord_33 at h
  refine gx_aload_n 0 dX6_cutWord_33 rfl rfl ?_
  refine gx_aload_n 1 dX6_cutWord_34 rfl rfl ?_
  refine gx_iload_n 2 dX6_cutWord_35 rfl rfl ?_
  refine gx_iload_n 3 dX6_cutWord_36 rfl rfl ?_
  obtain ⟨q1, hq1, h⟩ := bnd h
  refine gx_cSI (As := [.ref (Γ.B + pp l1), .int l2, .int l3]) (st := [.ref (Γ.B + pp l0)]) dX6_cutWord_37 (c_X6_wordKind hq1) mos_X6_wordKind tw_500 rfl ⟨Nat.le_of_ble_eq_true rfl, Nat.le_of_ble_eq_true rfl⟩ (Nat.le_of_ble_eq_true rfl) ?_
  refine gx_iload_n 2 dX6_cutWord_40 rfl rfl ?_
  refine gx_iconst (v := (0 : Int32)) dX6_cutWord_41 ic_0 ?_
  obtain ⟨_, hobq2, h⟩ := bnd h
  obtain ⟨q2, hq2, h⟩ := bnd h
  refine gx_cVV (As := [.int q1.1, .int l2, .int (0 : Int32)]) (st := []) (o := l0) dX6_cutWord_42 (c_X6_add hq2) mov_X6_add tw_489 hobq2 rfl ⟨Nat.le_of_ble_eq_true rfl, Nat.le_of_ble_eq_true rfl⟩ (Nat.le_of_ble_eq_true rfl) ?_
  refine gx_iload_n 3 dX6_cutWord_45 rfl rfl ?_
  have h := Option.some.inj h
  subst h
  exact gx_iret dX6_cutWord_46 rfl (Nat.le_of_ble_eq_true rfl) (Nat.le_of_ble_eq_true rfl) ⟨rfl, rfl⟩
set_option maxRecDepth 4000 in
theorem s_X6_cutWord_5 {Γ : Cn} {τ : Mm} {N : Nat} : ∀ (n : Nat) (l0 : Nat) (l1 : Nat) (l2 : Int32) (l3 : Int32) (l4 : Int32) (σ : Mm) (o : Int32 × Mm), f_X6_cutWord_5 N n l0 l1 l2 l3 l4 σ = some o → Gx Γ M_X6_cutWord 0 τ (PI o) 0 0 5 [(0, .ref (Γ.B + pp l0)), (1, .ref (Γ.B + pp l1)), (2, .int l2), (3, .int l3), (4, .int l4)] [] σ := by
  intro n
  induction n with
  | zero =>
    intro l0 l1 l2 l3 l4 σ o h
    exact absurd h (by rw [f_X6_cutWord_5]; exact fun q => nomatch q)
  | succ n ih =>
    intro l0 l1 l2 l3 l4 σ o h
    rw [f_X6_cutWord_5] at h
    refine gx_iload 4 dX6_cutWord_5 rfl ?_
    refine gx_sipush (v := (400 : Int32)) dX6_cutWord_7 is_400 ?_
    refine gx_icmp_ge 33 dX6_cutWord_10 (by decide) (fun c0 => ?_) (fun c0 => ?_)
    · rw [if_pos c0] at h
      exact gx_sub [0, 1, 2, 3] rfl (s_X6_cutWord_33  h)
    · rw [if_neg c0] at h
      refine gx_aload_n 1 dX6_cutWord_13 rfl rfl ?_
      refine gx_iload_n 3 dX6_cutWord_14 rfl rfl ?_
      obtain ⟨_, hobq2, h⟩ := bnd h
      obtain ⟨q2, hq2, h⟩ := bnd h
      refine gx_cVI (As := [.int l3]) (st := []) (o := l1) dX6_cutWord_15 (c_X5_at hq2) mov_X5_at tw_478 hobq2 rfl ⟨Nat.le_of_ble_eq_true rfl, Nat.le_of_ble_eq_true rfl⟩ (Nat.le_of_ble_eq_true rfl) ?_
      obtain ⟨q3, hq3, h⟩ := bnd h
      refine gx_cSI (As := [.int q2.1]) (st := []) dX6_cutWord_18 (c_X6_isLetter hq3) mos_X6_isLetter tw_493 rfl ⟨Nat.le_of_ble_eq_true rfl, Nat.le_of_ble_eq_true rfl⟩ (Nat.le_of_ble_eq_true rfl) ?_
      refine gx_if_eq 33 dX6_cutWord_21 (by decide) (fun c3 => ?_) (fun c3 => ?_)
      · rw [if_pos c3] at h
        exact gx_sub [0, 1, 2, 3] rfl (s_X6_cutWord_33  h)
      · rw [if_neg c3] at h
        refine gx_iinc (v := (l3 + (1 : Int32))) (lv' := [(3, .int (l3 + (1 : Int32))), (0, .ref (Γ.B + pp l0)), (1, .ref (Γ.B + pp l1)), (2, .int l2), (4, .int l4)]) 3 dX6_cutWord_24 rfl (by rw [ic_1]) (Nat.le_of_ble_eq_true rfl) rfl ?_
        refine gx_iinc (v := (l4 + (1 : Int32))) (lv' := [(4, .int (l4 + (1 : Int32))), (3, .int (l3 + (1 : Int32))), (0, .ref (Γ.B + pp l0)), (1, .ref (Γ.B + pp l1)), (2, .int l2)]) 4 dX6_cutWord_27 rfl (by rw [ic_1]) (Nat.le_of_ble_eq_true rfl) rfl ?_
        refine gx_goto 5 dX6_cutWord_30 (by decide) ?_
        exact gx_sub [2, 3, 4, 1, 0] rfl (ih _ _ _ _ _ _ _ h)
set_option maxRecDepth 4000 in
theorem s_X6_cutWord_0 {Γ : Cn} {τ : Mm} {N : Nat} {l0 : Nat} {l1 : Nat} {l2 : Int32} {σ : Mm} {o : Int32 × Mm} (h : f_X6_cutWord N l0 l1 l2 σ = some o) : Gx Γ M_X6_cutWord 0 τ (PI o) 0 0 0 [(0, .ref (Γ.B + pp l0)), (1, .ref (Γ.B + pp l1)), (2, .int l2)] [] σ := by
  unfold f_X6_cutWord at h
  refine gx_iload_n 2 dX6_cutWord_0 rfl rfl ?_
  refine gx_istore_n (lv' := [(3, .int l2), (0, .ref (Γ.B + pp l0)), (1, .ref (Γ.B + pp l1)), (2, .int l2)]) dX6_cutWord_1 rfl (Nat.le_of_ble_eq_true rfl) rfl ?_
  refine gx_iconst (v := (0 : Int32)) dX6_cutWord_2 ic_0 ?_
  refine gx_istore (lv' := [(4, .int (0 : Int32)), (3, .int l2), (0, .ref (Γ.B + pp l0)), (1, .ref (Γ.B + pp l1)), (2, .int l2)]) dX6_cutWord_3 (Nat.le_of_ble_eq_true rfl) rfl ?_
  exact gx_sub [2, 3, 4, 1, 0] rfl (s_X6_cutWord_5  N _ _ _ _ _ _ _ h)
theorem c_X6_cutWord {Γ : Cn} {τ : Mm} {N : Nat} {l0 : Nat} {l1 : Nat} {l2 : Int32} {σ : Mm} {o : Int32 × Mm} (h : f_X6_cutWord N l0 l1 l2 σ = some o) : Ct Γ M_X6_cutWord yX6_cutWord 0 τ [.ref (Γ.B + pp l0), .ref (Γ.B + pp l1), .int l2] σ (PI o) := ct_of (by decide) rfl (fun _ => by first | rfl | contradiction) (Nat.le_of_ble_eq_true rfl) (s_X6_cutWord_0  h)
abbrev M_X6_signKind : Ms := (cX6_signKind, RX6, 1, (some .int), false, 0, 0, 0)
def f_X6_signKind (N : Nat) (l0 : Int32) (σ : Mm) : Option (Int32 × Mm) :=
  if l0 = (42 : Int32) then (
    some ((9 : Int32), σ)) else
  if l0 = (43 : Int32) then (
    some ((7 : Int32), σ)) else
  if l0 = (45 : Int32) then (
    some ((8 : Int32), σ)) else
  if l0 = (47 : Int32) then (
    some ((10 : Int32), σ)) else
  if l0 = (59 : Int32) then (
    some ((4 : Int32), σ)) else
  if l0 = (60 : Int32) then (
    some ((11 : Int32), σ)) else
  if l0 = (61 : Int32) then (
    some ((13 : Int32), σ)) else
  if l0 = (62 : Int32) then (
    some ((15 : Int32), σ)) else
  if l0 = (91 : Int32) then (
    some ((5 : Int32), σ)) else
  if l0 = (93 : Int32) then (
    some ((6 : Int32), σ)) else
  some ((2 : Int32), σ)
theorem mos_X6_signKind : MOS yX6_signKind M_X6_signKind 1 := ⟨⟨tw_98, tw_561, ⟨by decide, by decide⟩, by decide +kernel⟩, tw_560⟩
set_option maxRecDepth 4000 in
theorem s_X6_signKind_0 {Γ : Cn} {τ : Mm} {N : Nat} {l0 : Int32} {σ : Mm} {o : Int32 × Mm} (h : f_X6_signKind N l0 σ = some o) : Gx Γ M_X6_signKind 0 τ (PI o) 0 0 0 [(0, .int l0)] [] σ := by
  unfold f_X6_signKind at h
  refine gx_iload_n 0 dX6_signKind_0 rfl rfl ?_
  by_cases c1 : l0 = (42 : Int32)
  · rw [if_pos c1] at h
    refine gx_look 105 dX6_signKind_1 (by decide) (by rw [c1]) (by decide) ?_
    refine gx_bipush (v := (9 : Int32)) dX6_signKind_105 ib_9 ?_
    have h := Option.some.inj h
    subst h
    exact gx_iret dX6_signKind_107 rfl (Nat.le_of_ble_eq_true rfl) (Nat.le_of_ble_eq_true rfl) ⟨rfl, rfl⟩
  rw [if_neg c1] at h
  by_cases c2 : l0 = (43 : Int32)
  · rw [if_pos c2] at h
    refine gx_look 99 dX6_signKind_1 (by decide) (by rw [c2]) (by decide) ?_
    refine gx_bipush (v := (7 : Int32)) dX6_signKind_99 ib_7 ?_
    have h := Option.some.inj h
    subst h
    exact gx_iret dX6_signKind_101 rfl (Nat.le_of_ble_eq_true rfl) (Nat.le_of_ble_eq_true rfl) ⟨rfl, rfl⟩
  rw [if_neg c2] at h
  by_cases c3 : l0 = (45 : Int32)
  · rw [if_pos c3] at h
    refine gx_look 102 dX6_signKind_1 (by decide) (by rw [c3]) (by decide) ?_
    refine gx_bipush (v := (8 : Int32)) dX6_signKind_102 ib_8 ?_
    have h := Option.some.inj h
    subst h
    exact gx_iret dX6_signKind_104 rfl (Nat.le_of_ble_eq_true rfl) (Nat.le_of_ble_eq_true rfl) ⟨rfl, rfl⟩
  rw [if_neg c3] at h
  by_cases c4 : l0 = (47 : Int32)
  · rw [if_pos c4] at h
    refine gx_look 108 dX6_signKind_1 (by decide) (by rw [c4]) (by decide) ?_
    refine gx_bipush (v := (10 : Int32)) dX6_signKind_108 ib_10 ?_
    have h := Option.some.inj h
    subst h
    exact gx_iret dX6_signKind_110 rfl (Nat.le_of_ble_eq_true rfl) (Nat.le_of_ble_eq_true rfl) ⟨rfl, rfl⟩
  rw [if_neg c4] at h
  by_cases c5 : l0 = (59 : Int32)
  · rw [if_pos c5] at h
    refine gx_look 92 dX6_signKind_1 (by decide) (by rw [c5]) (by decide) ?_
    refine gx_iconst (v := (4 : Int32)) dX6_signKind_92 ic_4 ?_
    have h := Option.some.inj h
    subst h
    exact gx_iret dX6_signKind_93 rfl (Nat.le_of_ble_eq_true rfl) (Nat.le_of_ble_eq_true rfl) ⟨rfl, rfl⟩
  rw [if_neg c5] at h
  by_cases c6 : l0 = (60 : Int32)
  · rw [if_pos c6] at h
    refine gx_look 111 dX6_signKind_1 (by decide) (by rw [c6]) (by decide) ?_
    refine gx_bipush (v := (11 : Int32)) dX6_signKind_111 ib_11 ?_
    have h := Option.some.inj h
    subst h
    exact gx_iret dX6_signKind_113 rfl (Nat.le_of_ble_eq_true rfl) (Nat.le_of_ble_eq_true rfl) ⟨rfl, rfl⟩
  rw [if_neg c6] at h
  by_cases c7 : l0 = (61 : Int32)
  · rw [if_pos c7] at h
    refine gx_look 114 dX6_signKind_1 (by decide) (by rw [c7]) (by decide) ?_
    refine gx_bipush (v := (13 : Int32)) dX6_signKind_114 ib_13 ?_
    have h := Option.some.inj h
    subst h
    exact gx_iret dX6_signKind_116 rfl (Nat.le_of_ble_eq_true rfl) (Nat.le_of_ble_eq_true rfl) ⟨rfl, rfl⟩
  rw [if_neg c7] at h
  by_cases c8 : l0 = (62 : Int32)
  · rw [if_pos c8] at h
    refine gx_look 117 dX6_signKind_1 (by decide) (by rw [c8]) (by decide) ?_
    refine gx_bipush (v := (15 : Int32)) dX6_signKind_117 ib_15 ?_
    have h := Option.some.inj h
    subst h
    exact gx_iret dX6_signKind_119 rfl (Nat.le_of_ble_eq_true rfl) (Nat.le_of_ble_eq_true rfl) ⟨rfl, rfl⟩
  rw [if_neg c8] at h
  by_cases c9 : l0 = (91 : Int32)
  · rw [if_pos c9] at h
    refine gx_look 94 dX6_signKind_1 (by decide) (by rw [c9]) (by decide) ?_
    refine gx_iconst (v := (5 : Int32)) dX6_signKind_94 ic_5 ?_
    have h := Option.some.inj h
    subst h
    exact gx_iret dX6_signKind_95 rfl (Nat.le_of_ble_eq_true rfl) (Nat.le_of_ble_eq_true rfl) ⟨rfl, rfl⟩
  rw [if_neg c9] at h
  by_cases c10 : l0 = (93 : Int32)
  · rw [if_pos c10] at h
    refine gx_look 96 dX6_signKind_1 (by decide) (by rw [c10]) (by decide) ?_
    refine gx_bipush (v := (6 : Int32)) dX6_signKind_96 ib_6 ?_
    have h := Option.some.inj h
    subst h
    exact gx_iret dX6_signKind_98 rfl (Nat.le_of_ble_eq_true rfl) (Nat.le_of_ble_eq_true rfl) ⟨rfl, rfl⟩
  rw [if_neg c10] at h
  have K12 : Gx Γ M_X6_signKind 0 τ (PI o) 0 0 120 [(0, .int l0)] [] σ := by
    refine gx_iconst (v := (2 : Int32)) dX6_signKind_120 ic_2 ?_
    have h := Option.some.inj h
    subst h
    exact gx_iret dX6_signKind_121 rfl (Nat.le_of_ble_eq_true rfl) (Nat.le_of_ble_eq_true rfl) ⟨rfl, rfl⟩
  exact gx_look 120 dX6_signKind_1 (by decide) (lk_cons c1 (by decide) (lk_cons c2 (by decide) (lk_cons c3 (by decide) (lk_cons c4 (by decide) (lk_cons c5 (by decide) (lk_cons c6 (by decide) (lk_cons c7 (by decide) (lk_cons c8 (by decide) (lk_cons c9 (by decide) (lk_cons c10 (by decide) rfl)))))))))) (by decide) K12
theorem c_X6_signKind {Γ : Cn} {τ : Mm} {N : Nat} {l0 : Int32} {σ : Mm} {o : Int32 × Mm} (h : f_X6_signKind N l0 σ = some o) : Ct Γ M_X6_signKind yX6_signKind 0 τ [.int l0] σ (PI o) := ct_of (by decide) rfl (fun _ => by first | rfl | contradiction) (Nat.le_of_ble_eq_true rfl) (s_X6_signKind_0  h)
abbrev M_X6_cutSign : Ms := (cX6_cutSign, RX6, 5, (some .int), false, 0, 0, 1)
def f_X6_cutSign_80 (N : Nat) (t0 : Int32) (σ : Mm) : Option (Int32 × Mm) :=
  some (t0, σ)
def f_X6_cutSign_59 (N : Nat) (l0 : Nat) (l2 : Int32) (l3 : Int32) (l4 : Int32) (σ : Mm) : Option (Int32 × Mm) :=
  (ob 6 σ l0).bind fun _ =>
  (f_X6_add N l0 l3 l2 (0 : Int32) σ).bind fun q1 =>
  if l4 = 0 then (
    f_X6_cutSign_80 N (l2 + (1 : Int32)) q1) else (
    f_X6_cutSign_80 N (l2 + (2 : Int32)) q1)
def f_X6_cutSign_58 (N : Nat) (l0 : Nat) (l2 : Int32) (l4 : Int32) (t0 : Int32) (σ : Mm) : Option (Int32 × Mm) :=
  f_X6_cutSign_59 N l0 l2 t0 l4 σ
def f_X6_cutSign_38 (N : Nat) (l0 : Nat) (l2 : Int32) (l3 : Int32) (t0 : Int32) (σ : Mm) : Option (Int32 × Mm) :=
  if t0 = 0 then (
    f_X6_cutSign_59 N l0 l2 l3 t0 σ) else (
    if l3 = (11 : Int32) then (
      f_X6_cutSign_58 N l0 l2 t0 (12 : Int32) σ) else (
      f_X6_cutSign_58 N l0 l2 t0 (14 : Int32) σ))
def f_X6_cutSign_37 (N : Nat) (l0 : Nat) (l2 : Int32) (l3 : Int32) (σ : Mm) : Option (Int32 × Mm) :=
  f_X6_cutSign_38 N l0 l2 l3 (0 : Int32) σ
def f_X6_cutSign_21 (N : Nat) (l0 : Nat) (l1 : Nat) (l2 : Int32) (l3 : Int32) (σ : Mm) : Option (Int32 × Mm) :=
  (ob 5 σ l1).bind fun _ =>
  (f_X5_at N l1 (l2 + (1 : Int32)) σ).bind fun q1 =>
  if q1.1 = (61 : Int32) then (
    f_X6_cutSign_38 N l0 l2 l3 (1 : Int32) q1.2) else (
    f_X6_cutSign_37 N l0 l2 l3 q1.2)
def f_X6_cutSign (N : Nat) (l0 : Nat) (l1 : Nat) (l2 : Int32) (σ : Mm) : Option (Int32 × Mm) :=
  (ob 5 σ l1).bind fun _ =>
  (f_X5_at N l1 l2 σ).bind fun q1 =>
  (f_X6_signKind N q1.1 q1.2).bind fun q2 =>
  if q2.1 = (11 : Int32) then (
    f_X6_cutSign_21 N l0 l1 l2 q2.1 q2.2) else (
    if q2.1 = (15 : Int32) then (
      f_X6_cutSign_21 N l0 l1 l2 q2.1 q2.2) else (
      f_X6_cutSign_37 N l0 l2 q2.1 q2.2))
theorem mov_X6_cutSign : MOV yX6_cutSign M_X6_cutSign 2 6 0 := ⟨⟨tw_98, tw_558, ⟨by decide, by decide⟩, by decide +kernel⟩, tw_557, tw_4, by decide, ⟨_, rfl, rfl⟩, rfl⟩
set_option maxRecDepth 4000 in
theorem s_X6_cutSign_80 {Γ : Cn} {τ : Mm} {N : Nat} {t0 : Int32} {σ : Mm} {o : Int32 × Mm} (h : f_X6_cutSign_80 N t0 σ = some o) : Gx Γ M_X6_cutSign 0 τ (PI o) 0 0 80 [] [.int t0] σ := by
  unfold f_X6_cutSign_80 at h
  have h := Option.some.inj h
  subst h
  exact gx_iret dX6_cutSign_80 rfl (Nat.le_of_ble_eq_true rfl) (Nat.le_of_ble_eq_true rfl) ⟨rfl, rfl⟩
set_option maxRecDepth 4000 in
theorem s_X6_cutSign_59 {Γ : Cn} {τ : Mm} {N : Nat} {l0 : Nat} {l2 : Int32} {l3 : Int32} {l4 : Int32} {σ : Mm} {o : Int32 × Mm} (h : f_X6_cutSign_59 N l0 l2 l3 l4 σ = some o) : Gx Γ M_X6_cutSign 0 τ (PI o) 0 0 59 [(0, .ref (Γ.B + pp l0)), (2, .int l2), (3, .int l3), (4, .int l4)] [] σ := by
  unfold f_X6_cutSign_59 at h
  refine gx_aload_n 0 dX6_cutSign_59 rfl rfl ?_
  refine gx_iload_n 2 dX6_cutSign_60 rfl rfl ?_
  refine gx_iload_n 1 dX6_cutSign_61 rfl rfl ?_
  refine gx_iconst (v := (0 : Int32)) dX6_cutSign_62 ic_0 ?_
  obtain ⟨_, hobq1, h⟩ := bnd h
  obtain ⟨q1, hq1, h⟩ := bnd h
  refine gx_cVV (As := [.int l3, .int l2, .int (0 : Int32)]) (st := []) (o := l0) dX6_cutSign_63 (c_X6_add hq1) mov_X6_add tw_489 hobq1 rfl ⟨Nat.le_of_ble_eq_true rfl, Nat.le_of_ble_eq_true rfl⟩ (Nat.le_of_ble_eq_true rfl) ?_
  refine gx_iload 3 dX6_cutSign_66 rfl ?_
  refine gx_if_eq 77 dX6_cutSign_68 (by decide) (fun c1 => ?_) (fun c1 => ?_)
  · rw [if_pos c1] at h
    refine gx_iload_n 1 dX6_cutSign_77 rfl rfl ?_
    refine gx_iconst (v := (1 : Int32)) dX6_cutSign_78 ic_1 ?_
    refine gx_iadd dX6_cutSign_79 ?_
    exact gx_sub [] rfl (s_X6_cutSign_80  h)
  · rw [if_neg c1] at h
    refine gx_iload_n 1 dX6_cutSign_71 rfl rfl ?_
    refine gx_iconst (v := (2 : Int32)) dX6_cutSign_72 ic_2 ?_
    refine gx_iadd dX6_cutSign_73 ?_
    refine gx_goto 80 dX6_cutSign_74 (by decide) ?_
    exact gx_sub [] rfl (s_X6_cutSign_80  h)
set_option maxRecDepth 4000 in
theorem s_X6_cutSign_58 {Γ : Cn} {τ : Mm} {N : Nat} {l0 : Nat} {l2 : Int32} {l4 : Int32} {t0 : Int32} {σ : Mm} {o : Int32 × Mm} (h : f_X6_cutSign_58 N l0 l2 l4 t0 σ = some o) : Gx Γ M_X6_cutSign 0 τ (PI o) 0 0 58 [(0, .ref (Γ.B + pp l0)), (2, .int l2), (4, .int l4)] [.int t0] σ := by
  unfold f_X6_cutSign_58 at h
  refine gx_istore_n (lv' := [(3, .int t0), (0, .ref (Γ.B + pp l0)), (2, .int l2), (4, .int l4)]) dX6_cutSign_58 rfl (Nat.le_of_ble_eq_true rfl) rfl ?_
  exact gx_sub [1, 2, 0, 3] rfl (s_X6_cutSign_59  h)
set_option maxRecDepth 4000 in
theorem s_X6_cutSign_38 {Γ : Cn} {τ : Mm} {N : Nat} {l0 : Nat} {l2 : Int32} {l3 : Int32} {t0 : Int32} {σ : Mm} {o : Int32 × Mm} (h : f_X6_cutSign_38 N l0 l2 l3 t0 σ = some o) : Gx Γ M_X6_cutSign 0 τ (PI o) 0 0 38 [(0, .ref (Γ.B + pp l0)), (2, .int l2), (3, .int l3)] [.int t0] σ := by
  unfold f_X6_cutSign_38 at h
  refine gx_istore (lv' := [(4, .int t0), (0, .ref (Γ.B + pp l0)), (2, .int l2), (3, .int l3)]) dX6_cutSign_38 (Nat.le_of_ble_eq_true rfl) rfl ?_
  refine gx_iload 0 dX6_cutSign_40 rfl ?_
  refine gx_if_eq 59 dX6_cutSign_42 (by decide) (fun c0 => ?_) (fun c0 => ?_)
  · rw [if_pos c0] at h
    exact gx_sub [1, 2, 3, 0] rfl (s_X6_cutSign_59  h)
  · rw [if_neg c0] at h
    refine gx_iload_n 3 dX6_cutSign_45 rfl rfl ?_
    refine gx_bipush (v := (11 : Int32)) dX6_cutSign_46 ib_11 ?_
    refine gx_icmp_ne 56 dX6_cutSign_48 (by decide) (fun c1 => ?_) (fun c1 => ?_)
    · rw [if_neg c1] at h
      refine gx_bipush (v := (14 : Int32)) dX6_cutSign_56 ib_14 ?_
      exact gx_sub [1, 2, 0] rfl (s_X6_cutSign_58  h)
    · rw [if_pos c1] at h
      refine gx_bipush (v := (12 : Int32)) dX6_cutSign_51 ib_12 ?_
      refine gx_goto 58 dX6_cutSign_53 (by decide) ?_
      exact gx_sub [1, 2, 0] rfl (s_X6_cutSign_58  h)
set_option maxRecDepth 4000 in
theorem s_X6_cutSign_37 {Γ : Cn} {τ : Mm} {N : Nat} {l0 : Nat} {l2 : Int32} {l3 : Int32} {σ : Mm} {o : Int32 × Mm} (h : f_X6_cutSign_37 N l0 l2 l3 σ = some o) : Gx Γ M_X6_cutSign 0 τ (PI o) 0 0 37 [(0, .ref (Γ.B + pp l0)), (2, .int l2), (3, .int l3)] [] σ := by
  unfold f_X6_cutSign_37 at h
  refine gx_iconst (v := (0 : Int32)) dX6_cutSign_37 ic_0 ?_
  exact s_X6_cutSign_38  h
set_option maxRecDepth 4000 in
theorem s_X6_cutSign_21 {Γ : Cn} {τ : Mm} {N : Nat} {l0 : Nat} {l1 : Nat} {l2 : Int32} {l3 : Int32} {σ : Mm} {o : Int32 × Mm} (h : f_X6_cutSign_21 N l0 l1 l2 l3 σ = some o) : Gx Γ M_X6_cutSign 0 τ (PI o) 0 0 21 [(0, .ref (Γ.B + pp l0)), (1, .ref (Γ.B + pp l1)), (2, .int l2), (3, .int l3)] [] σ := by
  unfold f_X6_cutSign_21 at h
  refine gx_aload_n 1 dX6_cutSign_21 rfl rfl ?_
  refine gx_iload_n 2 dX6_cutSign_22 rfl rfl ?_
  refine gx_iconst (v := (1 : Int32)) dX6_cutSign_23 ic_1 ?_
  refine gx_iadd dX6_cutSign_24 ?_
  obtain ⟨_, hobq1, h⟩ := bnd h
  obtain ⟨q1, hq1, h⟩ := bnd h
  refine gx_cVI (As := [.int (l2 + (1 : Int32))]) (st := []) (o := l1) dX6_cutSign_25 (c_X5_at hq1) mov_X5_at tw_478 hobq1 rfl ⟨Nat.le_of_ble_eq_true rfl, Nat.le_of_ble_eq_true rfl⟩ (Nat.le_of_ble_eq_true rfl) ?_
  refine gx_bipush (v := (61 : Int32)) dX6_cutSign_28 ib_61 ?_
  refine gx_icmp_ne 37 dX6_cutSign_30 (by decide) (fun c1 => ?_) (fun c1 => ?_)
  · rw [if_neg c1] at h
    exact gx_sub [0, 2, 3] rfl (s_X6_cutSign_37  h)
  · rw [if_pos c1] at h
    refine gx_iconst (v := (1 : Int32)) dX6_cutSign_33 ic_1 ?_
    refine gx_goto 38 dX6_cutSign_34 (by decide) ?_
    exact gx_sub [0, 2, 3] rfl (s_X6_cutSign_38  h)
set_option maxRecDepth 4000 in
theorem s_X6_cutSign_0 {Γ : Cn} {τ : Mm} {N : Nat} {l0 : Nat} {l1 : Nat} {l2 : Int32} {σ : Mm} {o : Int32 × Mm} (h : f_X6_cutSign N l0 l1 l2 σ = some o) : Gx Γ M_X6_cutSign 0 τ (PI o) 0 0 0 [(0, .ref (Γ.B + pp l0)), (1, .ref (Γ.B + pp l1)), (2, .int l2)] [] σ := by
  unfold f_X6_cutSign at h
  refine gx_aload_n 1 dX6_cutSign_0 rfl rfl ?_
  refine gx_iload_n 2 dX6_cutSign_1 rfl rfl ?_
  obtain ⟨_, hobq1, h⟩ := bnd h
  obtain ⟨q1, hq1, h⟩ := bnd h
  refine gx_cVI (As := [.int l2]) (st := []) (o := l1) dX6_cutSign_2 (c_X5_at hq1) mov_X5_at tw_478 hobq1 rfl ⟨Nat.le_of_ble_eq_true rfl, Nat.le_of_ble_eq_true rfl⟩ (Nat.le_of_ble_eq_true rfl) ?_
  obtain ⟨q2, hq2, h⟩ := bnd h
  refine gx_cSI (As := [.int q1.1]) (st := []) dX6_cutSign_5 (c_X6_signKind hq2) mos_X6_signKind tw_559 rfl ⟨Nat.le_of_ble_eq_true rfl, Nat.le_of_ble_eq_true rfl⟩ (Nat.le_of_ble_eq_true rfl) ?_
  refine gx_istore_n (lv' := [(3, .int q2.1), (0, .ref (Γ.B + pp l0)), (1, .ref (Γ.B + pp l1)), (2, .int l2)]) dX6_cutSign_8 rfl (Nat.le_of_ble_eq_true rfl) rfl ?_
  refine gx_iload_n 0 dX6_cutSign_9 rfl rfl ?_
  refine gx_bipush (v := (11 : Int32)) dX6_cutSign_10 ib_11 ?_
  refine gx_icmp_eq 21 dX6_cutSign_12 (by decide) (fun c2 => ?_) (fun c2 => ?_)
  · rw [if_pos c2] at h
    exact gx_sub [1, 2, 3, 0] rfl (s_X6_cutSign_21  h)
  · rw [if_neg c2] at h
    refine gx_iload_n 0 dX6_cutSign_15 rfl rfl ?_
    refine gx_bipush (v := (15 : Int32)) dX6_cutSign_16 ib_15 ?_
    refine gx_icmp_ne 37 dX6_cutSign_18 (by decide) (fun c3 => ?_) (fun c3 => ?_)
    · rw [if_neg c3] at h
      exact gx_sub [1, 3, 0] rfl (s_X6_cutSign_37  h)
    · rw [if_pos c3] at h
      exact gx_sub [1, 2, 3, 0] rfl (s_X6_cutSign_21  h)
theorem c_X6_cutSign {Γ : Cn} {τ : Mm} {N : Nat} {l0 : Nat} {l1 : Nat} {l2 : Int32} {σ : Mm} {o : Int32 × Mm} (h : f_X6_cutSign N l0 l1 l2 σ = some o) : Ct Γ M_X6_cutSign yX6_cutSign 0 τ [.ref (Γ.B + pp l0), .ref (Γ.B + pp l1), .int l2] σ (PI o) := ct_of (by decide) rfl (fun _ => by first | rfl | contradiction) (Nat.le_of_ble_eq_true rfl) (s_X6_cutSign_0  h)
abbrev M_X6_cutOne : Ms := (cX6_cutOne, RX6, 4, (some .int), false, 0, 0, 9)
def f_X6_cutOne_52 (N : Nat) (t0 : Int32) (σ : Mm) : Option (Int32 × Mm) :=
  some (t0, σ)
def f_X6_cutOne (N : Nat) (l0 : Nat) (l1 : Nat) (l2 : Int32) (σ : Mm) : Option (Int32 × Mm) :=
  (ob 5 σ l1).bind fun _ =>
  (f_X5_at N l1 l2 σ).bind fun q1 =>
  if q1.1 = (32 : Int32) then (
    some ((l2 + (1 : Int32)), q1.2)) else (
    (f_X6_isDigit N q1.1 q1.2).bind fun q3 =>
    if q3.1 = 0 then (
      (f_X6_isLetter N q1.1 q3.2).bind fun q5 =>
      if q5.1 = 0 then (
        (ob 6 q5.2 l0).bind fun _ =>
        (f_X6_cutSign N l0 l1 l2 q5.2).bind fun q7 =>
        f_X6_cutOne_52 N q7.1 q7.2) else (
        (ob 6 q5.2 l0).bind fun _ =>
        (f_X6_cutWord N l0 l1 l2 q5.2).bind fun q8 =>
        f_X6_cutOne_52 N q8.1 q8.2)) else (
      (ob 6 q3.2 l0).bind fun _ =>
      (f_X6_cutNumber N l0 l1 l2 q3.2).bind fun q9 =>
      some (q9.1, q9.2)))
theorem mov_X6_cutOne : MOV yX6_cutOne M_X6_cutOne 2 6 0 := ⟨⟨tw_98, tw_477, ⟨by decide, by decide⟩, by decide +kernel⟩, tw_476, tw_0, by decide, ⟨_, rfl, rfl⟩, rfl⟩
set_option maxRecDepth 4000 in
theorem s_X6_cutOne_52 {Γ : Cn} {τ : Mm} {N : Nat} {t0 : Int32} {σ : Mm} {o : Int32 × Mm} (h : f_X6_cutOne_52 N t0 σ = some o) : Gx Γ M_X6_cutOne 0 τ (PI o) 0 0 52 [] [.int t0] σ := by
  unfold f_X6_cutOne_52 at h
  have h := Option.some.inj h
  subst h
  exact gx_iret dX6_cutOne_52 rfl (Nat.le_of_ble_eq_true rfl) (Nat.le_of_ble_eq_true rfl) ⟨rfl, rfl⟩
set_option maxRecDepth 4000 in
theorem s_X6_cutOne_0 {Γ : Cn} {τ : Mm} {N : Nat} {l0 : Nat} {l1 : Nat} {l2 : Int32} {σ : Mm} {o : Int32 × Mm} (h : f_X6_cutOne N l0 l1 l2 σ = some o) : Gx Γ M_X6_cutOne 0 τ (PI o) 0 0 0 [(0, .ref (Γ.B + pp l0)), (1, .ref (Γ.B + pp l1)), (2, .int l2)] [] σ := by
  unfold f_X6_cutOne at h
  refine gx_aload_n 1 dX6_cutOne_0 rfl rfl ?_
  refine gx_iload_n 2 dX6_cutOne_1 rfl rfl ?_
  obtain ⟨_, hobq1, h⟩ := bnd h
  obtain ⟨q1, hq1, h⟩ := bnd h
  refine gx_cVI (As := [.int l2]) (st := []) (o := l1) dX6_cutOne_2 (c_X5_at hq1) mov_X5_at tw_478 hobq1 rfl ⟨Nat.le_of_ble_eq_true rfl, Nat.le_of_ble_eq_true rfl⟩ (Nat.le_of_ble_eq_true rfl) ?_
  refine gx_istore_n (lv' := [(3, .int q1.1), (0, .ref (Γ.B + pp l0)), (1, .ref (Γ.B + pp l1)), (2, .int l2)]) dX6_cutOne_5 rfl (Nat.le_of_ble_eq_true rfl) rfl ?_
  refine gx_iload_n 0 dX6_cutOne_6 rfl rfl ?_
  refine gx_bipush (v := (32 : Int32)) dX6_cutOne_7 ib_32 ?_
  refine gx_icmp_ne 16 dX6_cutOne_9 (by decide) (fun c1 => ?_) (fun c1 => ?_)
  · rw [if_neg c1] at h
    refine gx_iload_n 0 dX6_cutOne_16 rfl rfl ?_
    obtain ⟨q3, hq3, h⟩ := bnd h
    refine gx_cSI (As := [.int q1.1]) (st := []) dX6_cutOne_17 (c_X6_isDigit hq3) mos_X6_isDigit tw_482 rfl ⟨Nat.le_of_ble_eq_true rfl, Nat.le_of_ble_eq_true rfl⟩ (Nat.le_of_ble_eq_true rfl) ?_
    refine gx_if_eq 30 dX6_cutOne_20 (by decide) (fun c3 => ?_) (fun c3 => ?_)
    · rw [if_pos c3] at h
      refine gx_iload_n 0 dX6_cutOne_30 rfl rfl ?_
      obtain ⟨q5, hq5, h⟩ := bnd h
      refine gx_cSI (As := [.int q1.1]) (st := []) dX6_cutOne_31 (c_X6_isLetter hq5) mos_X6_isLetter tw_493 rfl ⟨Nat.le_of_ble_eq_true rfl, Nat.le_of_ble_eq_true rfl⟩ (Nat.le_of_ble_eq_true rfl) ?_
      refine gx_if_eq 46 dX6_cutOne_34 (by decide) (fun c5 => ?_) (fun c5 => ?_)
      · rw [if_pos c5] at h
        refine gx_aload_n 1 dX6_cutOne_46 rfl rfl ?_
        refine gx_aload_n 2 dX6_cutOne_47 rfl rfl ?_
        refine gx_iload_n 3 dX6_cutOne_48 rfl rfl ?_
        obtain ⟨_, hobq7, h⟩ := bnd h
        obtain ⟨q7, hq7, h⟩ := bnd h
        refine gx_cVI (As := [.ref (Γ.B + pp l1), .int l2]) (st := []) (o := l0) dX6_cutOne_49 (c_X6_cutSign hq7) mov_X6_cutSign tw_555 hobq7 rfl ⟨Nat.le_of_ble_eq_true rfl, Nat.le_of_ble_eq_true rfl⟩ (Nat.le_of_ble_eq_true rfl) ?_
        exact gx_sub [] rfl (s_X6_cutOne_52  h)
      · rw [if_neg c5] at h
        refine gx_aload_n 1 dX6_cutOne_37 rfl rfl ?_
        refine gx_aload_n 2 dX6_cutOne_38 rfl rfl ?_
        refine gx_iload_n 3 dX6_cutOne_39 rfl rfl ?_
        obtain ⟨_, hobq8, h⟩ := bnd h
        obtain ⟨q8, hq8, h⟩ := bnd h
        refine gx_cVI (As := [.ref (Γ.B + pp l1), .int l2]) (st := []) (o := l0) dX6_cutOne_40 (c_X6_cutWord hq8) mov_X6_cutWord tw_496 hobq8 rfl ⟨Nat.le_of_ble_eq_true rfl, Nat.le_of_ble_eq_true rfl⟩ (Nat.le_of_ble_eq_true rfl) ?_
        refine gx_goto 52 dX6_cutOne_43 (by decide) ?_
        exact gx_sub [] rfl (s_X6_cutOne_52  h)
    · rw [if_neg c3] at h
      refine gx_aload_n 1 dX6_cutOne_23 rfl rfl ?_
      refine gx_aload_n 2 dX6_cutOne_24 rfl rfl ?_
      refine gx_iload_n 3 dX6_cutOne_25 rfl rfl ?_
      obtain ⟨_, hobq9, h⟩ := bnd h
      obtain ⟨q9, hq9, h⟩ := bnd h
      refine gx_cVI (As := [.ref (Γ.B + pp l1), .int l2]) (st := []) (o := l0) dX6_cutOne_26 (c_X6_cutNumber hq9) mov_X6_cutNumber tw_485 hobq9 rfl ⟨Nat.le_of_ble_eq_true rfl, Nat.le_of_ble_eq_true rfl⟩ (Nat.le_of_ble_eq_true rfl) ?_
      have h := Option.some.inj h
      subst h
      exact gx_iret dX6_cutOne_29 rfl (Nat.le_of_ble_eq_true rfl) (Nat.le_of_ble_eq_true rfl) ⟨rfl, rfl⟩
  · rw [if_pos c1] at h
    refine gx_iload_n 3 dX6_cutOne_12 rfl rfl ?_
    refine gx_iconst (v := (1 : Int32)) dX6_cutOne_13 ic_1 ?_
    refine gx_iadd dX6_cutOne_14 ?_
    have h := Option.some.inj h
    subst h
    exact gx_iret dX6_cutOne_15 rfl (Nat.le_of_ble_eq_true rfl) (Nat.le_of_ble_eq_true rfl) ⟨rfl, rfl⟩
theorem c_X6_cutOne {Γ : Cn} {τ : Mm} {N : Nat} {l0 : Nat} {l1 : Nat} {l2 : Int32} {σ : Mm} {o : Int32 × Mm} (h : f_X6_cutOne N l0 l1 l2 σ = some o) : Ct Γ M_X6_cutOne yX6_cutOne 0 τ [.ref (Γ.B + pp l0), .ref (Γ.B + pp l1), .int l2] σ (PI o) := ct_of (by decide) rfl (fun _ => by first | rfl | contradiction) (Nat.le_of_ble_eq_true rfl) (s_X6_cutOne_0  h)
abbrev M_X6_cut : Ms := (cX6_cut, RX6, 4, none, false, 0, 0, 10)
def f_X6_cut_47 (N : Nat) (l0 : Nat) (l1 : Nat) (σ : Mm) : Option Mm :=
  (gI 5 1 σ l1).bind fun x1 =>
  (ob 6 σ l0).bind fun _ =>
  (f_X6_add N l0 (1 : Int32) x1 (0 : Int32) σ).bind fun q2 =>
  some q2
def f_X6_cut_19 (N : Nat) : Nat → Nat → Nat → Int32 → Int32 → Mm → Option Mm
  | 0, _, _, _, _, _ => none
  | n + 1, l0, l1, l2, l3, σ =>
      if (400 : Int32) ≤ l3 then (
        f_X6_cut_47 N l0 l1 σ) else (
        (gI 5 1 σ l1).bind fun x2 =>
        if x2 ≤ l2 then (
          f_X6_cut_47 N l0 l1 σ) else (
          (ob 6 σ l0).bind fun _ =>
          (f_X6_cutOne N l0 l1 l2 σ).bind fun q4 =>
          f_X6_cut_19 N n l0 l1 q4.1 (l3 + (1 : Int32)) q4.2))
def f_X6_cut (N : Nat) (l0 : Nat) (l1 : Nat) (σ : Mm) : Option Mm :=
  (pI 6 3 σ l0 (0 : Int32)).bind fun s1 =>
  (pI 6 4 s1 l0 (0 : Int32)).bind fun s2 =>
  (pI 6 5 s2 l0 (0 : Int32)).bind fun s3 =>
  f_X6_cut_19 N N l0 l1 (0 : Int32) (0 : Int32) s3
theorem mov_X6_cut : MOV yX6_cut M_X6_cut 1 6 0 := ⟨⟨tw_98, tw_473, ⟨by decide, by decide⟩, by decide +kernel⟩, tw_471, tw_472, by decide, ⟨_, rfl, rfl⟩, rfl⟩
set_option maxRecDepth 4000 in
theorem s_X6_cut_47 {Γ : Cn} {τ : Mm} {N : Nat} {l0 : Nat} {l1 : Nat} {σ : Mm} {o : Mm} (h : f_X6_cut_47 N l0 l1 σ = some o) : Gx Γ M_X6_cut 0 τ (PV o) 0 0 47 [(0, .ref (Γ.B + pp l0)), (1, .ref (Γ.B + pp l1))] [] σ := by
  unfold f_X6_cut_47 at h
  refine gx_aload_n 0 dX6_cut_47 rfl rfl ?_
  refine gx_iconst (v := (1 : Int32)) dX6_cut_48 ic_1 ?_
  refine gx_aload_n 1 dX6_cut_49 rfl rfl ?_
  obtain ⟨x1, hx1, h⟩ := bnd h
  refine gx_getI dX6_cut_50 hx1 fl_X6_31 rfl ?_
  refine gx_iconst (v := (0 : Int32)) dX6_cut_53 ic_0 ?_
  obtain ⟨_, hobq2, h⟩ := bnd h
  obtain ⟨q2, hq2, h⟩ := bnd h
  refine gx_cVV (As := [.int (1 : Int32), .int x1, .int (0 : Int32)]) (st := []) (o := l0) dX6_cut_54 (c_X6_add hq2) mov_X6_add tw_489 hobq2 rfl ⟨Nat.le_of_ble_eq_true rfl, Nat.le_of_ble_eq_true rfl⟩ (Nat.le_of_ble_eq_true rfl) ?_
  have h := Option.some.inj h
  subst h
  exact gx_vret dX6_cut_57 rfl (Nat.le_of_ble_eq_true rfl) (Nat.le_of_ble_eq_true rfl) ⟨rfl, rfl⟩
set_option maxRecDepth 4000 in
theorem s_X6_cut_19 {Γ : Cn} {τ : Mm} {N : Nat} : ∀ (n : Nat) (l0 : Nat) (l1 : Nat) (l2 : Int32) (l3 : Int32) (σ : Mm) (o : Mm), f_X6_cut_19 N n l0 l1 l2 l3 σ = some o → Gx Γ M_X6_cut 0 τ (PV o) 0 0 19 [(0, .ref (Γ.B + pp l0)), (1, .ref (Γ.B + pp l1)), (2, .int l2), (3, .int l3)] [] σ := by
  intro n
  induction n with
  | zero =>
    intro l0 l1 l2 l3 σ o h
    exact absurd h (by rw [f_X6_cut_19]; exact fun q => nomatch q)
  | succ n ih =>
    intro l0 l1 l2 l3 σ o h
    rw [f_X6_cut_19] at h
    refine gx_iload_n 3 dX6_cut_19 rfl rfl ?_
    refine gx_sipush (v := (400 : Int32)) dX6_cut_20 is_400 ?_
    refine gx_icmp_ge 47 dX6_cut_23 (by decide) (fun c0 => ?_) (fun c0 => ?_)
    · rw [if_pos c0] at h
      exact gx_sub [0, 1] rfl (s_X6_cut_47  h)
    · rw [if_neg c0] at h
      refine gx_iload_n 2 dX6_cut_26 rfl rfl ?_
      refine gx_aload_n 1 dX6_cut_27 rfl rfl ?_
      obtain ⟨x2, hx2, h⟩ := bnd h
      refine gx_getI dX6_cut_28 hx2 fl_X6_31 rfl ?_
      refine gx_icmp_ge 47 dX6_cut_31 (by decide) (fun c2 => ?_) (fun c2 => ?_)
      · rw [if_pos c2] at h
        exact gx_sub [0, 1] rfl (s_X6_cut_47  h)
      · rw [if_neg c2] at h
        refine gx_aload_n 0 dX6_cut_34 rfl rfl ?_
        refine gx_aload_n 1 dX6_cut_35 rfl rfl ?_
        refine gx_iload_n 2 dX6_cut_36 rfl rfl ?_
        obtain ⟨_, hobq4, h⟩ := bnd h
        obtain ⟨q4, hq4, h⟩ := bnd h
        refine gx_cVI (As := [.ref (Γ.B + pp l1), .int l2]) (st := []) (o := l0) dX6_cut_37 (c_X6_cutOne hq4) mov_X6_cutOne tw_474 hobq4 rfl ⟨Nat.le_of_ble_eq_true rfl, Nat.le_of_ble_eq_true rfl⟩ (Nat.le_of_ble_eq_true rfl) ?_
        refine gx_istore_n (lv' := [(2, .int q4.1), (0, .ref (Γ.B + pp l0)), (1, .ref (Γ.B + pp l1)), (3, .int l3)]) dX6_cut_40 rfl (Nat.le_of_ble_eq_true rfl) rfl ?_
        refine gx_iinc (v := (l3 + (1 : Int32))) (lv' := [(3, .int (l3 + (1 : Int32))), (2, .int q4.1), (0, .ref (Γ.B + pp l0)), (1, .ref (Γ.B + pp l1))]) 3 dX6_cut_41 rfl (by rw [ic_1]) (Nat.le_of_ble_eq_true rfl) rfl ?_
        refine gx_goto 19 dX6_cut_44 (by decide) ?_
        exact gx_sub [2, 3, 1, 0] rfl (ih _ _ _ _ _ _ h)
set_option maxRecDepth 4000 in
theorem s_X6_cut_0 {Γ : Cn} {τ : Mm} {N : Nat} {l0 : Nat} {l1 : Nat} {σ : Mm} {o : Mm} (h : f_X6_cut N l0 l1 σ = some o) : Gx Γ M_X6_cut 0 τ (PV o) 0 0 0 [(0, .ref (Γ.B + pp l0)), (1, .ref (Γ.B + pp l1))] [] σ := by
  unfold f_X6_cut at h
  refine gx_aload_n 0 dX6_cut_0 rfl rfl ?_
  refine gx_iconst (v := (0 : Int32)) dX6_cut_1 ic_0 ?_
  obtain ⟨s1, hs1, h⟩ := bnd h
  refine gx_putI dX6_cut_2 hs1 fl_X6_21 fp_X6_6_3 rfl ?_
  refine gx_aload_n 0 dX6_cut_5 rfl rfl ?_
  refine gx_iconst (v := (0 : Int32)) dX6_cut_6 ic_0 ?_
  obtain ⟨s2, hs2, h⟩ := bnd h
  refine gx_putI dX6_cut_7 hs2 fl_X6_25 fp_X6_6_4 rfl ?_
  refine gx_aload_n 0 dX6_cut_10 rfl rfl ?_
  refine gx_iconst (v := (0 : Int32)) dX6_cut_11 ic_0 ?_
  obtain ⟨s3, hs3, h⟩ := bnd h
  refine gx_putI dX6_cut_12 hs3 fl_X6_28 fp_X6_6_5 rfl ?_
  refine gx_iconst (v := (0 : Int32)) dX6_cut_15 ic_0 ?_
  refine gx_istore_n (lv' := [(2, .int (0 : Int32)), (0, .ref (Γ.B + pp l0)), (1, .ref (Γ.B + pp l1))]) dX6_cut_16 rfl (Nat.le_of_ble_eq_true rfl) rfl ?_
  refine gx_iconst (v := (0 : Int32)) dX6_cut_17 ic_0 ?_
  refine gx_istore_n (lv' := [(3, .int (0 : Int32)), (2, .int (0 : Int32)), (0, .ref (Γ.B + pp l0)), (1, .ref (Γ.B + pp l1))]) dX6_cut_18 rfl (Nat.le_of_ble_eq_true rfl) rfl ?_
  exact gx_sub [2, 3, 1, 0] rfl (s_X6_cut_19  N _ _ _ _ _ _ h)
theorem c_X6_cut {Γ : Cn} {τ : Mm} {N : Nat} {l0 : Nat} {l1 : Nat} {σ : Mm} {o : Mm} (h : f_X6_cut N l0 l1 σ = some o) : Ct Γ M_X6_cut yX6_cut 0 τ [.ref (Γ.B + pp l0), .ref (Γ.B + pp l1)] σ (PV o) := ct_of (by decide) rfl (fun _ => by first | rfl | contradiction) (Nat.le_of_ble_eq_true rfl) (s_X6_cut_0  h)
abbrev M_X7_init : Ms := (cX7_init, RX7, 1, none, true, 10, 140, 1)
def f_X7_init (N : Nat) (l0 : Nat) (σ : Mm) : Option Mm :=
  (pI 7 0 σ l0 (0 : Int32)).bind fun s1 =>
  (nA 13 s1 (12 : Int32)).bind fun s2 =>
  (pR 7 1 s2 l0 (some (pq (nn s1)))).bind fun s3 =>
  (nA 13 s3 (12 : Int32)).bind fun s4 =>
  (pR 7 2 s4 l0 (some (pq (nn s3)))).bind fun s5 =>
  (nA 13 s5 (12 : Int32)).bind fun s6 =>
  (pR 7 3 s6 l0 (some (pq (nn s5)))).bind fun s7 =>
  (nA 13 s7 (12 : Int32)).bind fun s8 =>
  (pR 7 4 s8 l0 (some (pq (nn s7)))).bind fun s9 =>
  (nA 13 s9 (12 : Int32)).bind fun s10 =>
  (pR 7 5 s10 l0 (some (pq (nn s9)))).bind fun s11 =>
  (nA 13 s11 (12 : Int32)).bind fun s12 =>
  (pR 7 6 s12 l0 (some (pq (nn s11)))).bind fun s13 =>
  (nA 13 s13 (12 : Int32)).bind fun s14 =>
  (pR 7 7 s14 l0 (some (pq (nn s13)))).bind fun s15 =>
  (pI 7 8 s15 l0 (0 : Int32)).bind fun s16 =>
  (nA 13 s16 (12 : Int32)).bind fun s17 =>
  (pR 7 9 s17 l0 (some (pq (nn s16)))).bind fun s18 =>
  (nA 13 s18 (12 : Int32)).bind fun s19 =>
  (pR 7 10 s19 l0 (some (pq (nn s18)))).bind fun s20 =>
  (pI 7 11 s20 l0 (0 : Int32)).bind fun s21 =>
  (nA 13 s21 (32 : Int32)).bind fun s22 =>
  (pR 7 12 s22 l0 (some (pq (nn s21)))).bind fun s23 =>
  (pI 7 13 s23 l0 (0 : Int32)).bind fun s24 =>
  some s24
theorem moi_X7_init : MOI yX7_init M_X7_init 0 := ⟨⟨tw_102, tw_211, ⟨by decide, by decide⟩, by decide +kernel⟩, tw_210, rfl, rfl⟩
set_option maxRecDepth 4000 in
theorem s_X7_init_0 {Γ : Cn} {τ : Mm} {N : Nat} {l0 : Nat} {σ : Mm} {o : Mm} (h : f_X7_init N l0 σ = some o) : Gx Γ M_X7_init 0 τ (PV o) 0 0 0 [(0, .ref (Γ.B + pp l0))] [] σ := by
  unfold f_X7_init at h
  refine gx_aload_n 0 dX7_init_0 rfl rfl ?_
  refine gx_objInit dX7_init_1 tw_212 tw_oi tw_oc (Nat.le_of_ble_eq_true rfl) (Nat.le_of_ble_eq_true rfl) ?_
  refine gx_aload_n 0 dX7_init_4 rfl rfl ?_
  refine gx_iconst (v := (0 : Int32)) dX7_init_5 ic_0 ?_
  obtain ⟨s1, hs1, h⟩ := bnd h
  refine gx_putI dX7_init_6 hs1 fl_X7_9 fp_X7_7_0 rfl ?_
  refine gx_aload_n 0 dX7_init_9 rfl rfl ?_
  refine gx_bipush (v := (12 : Int32)) dX7_init_10 ib_12 ?_
  obtain ⟨s2, hs2, h⟩ := bnd h
  refine gx_newI dX7_init_12 hs2 ac_I rfl (by decide) rfl (Nat.le_of_ble_eq_true rfl) (Nat.le_of_ble_eq_true rfl) ?_
  obtain ⟨s3, hs3, h⟩ := bnd h
  refine gx_putR (r := (some (pq (nn s1)))) dX7_init_14 hs3 fl_X7_15 fp_X7_7_1 (Or.inr ⟨_, rfl⟩) (fun _ => rfl) rfl ?_
  refine gx_aload_n 0 dX7_init_17 rfl rfl ?_
  refine gx_bipush (v := (12 : Int32)) dX7_init_18 ib_12 ?_
  obtain ⟨s4, hs4, h⟩ := bnd h
  refine gx_newI dX7_init_20 hs4 ac_I rfl (by decide) rfl (Nat.le_of_ble_eq_true rfl) (Nat.le_of_ble_eq_true rfl) ?_
  obtain ⟨s5, hs5, h⟩ := bnd h
  refine gx_putR (r := (some (pq (nn s3)))) dX7_init_22 hs5 fl_X7_19 fp_X7_7_2 (Or.inr ⟨_, rfl⟩) (fun _ => rfl) rfl ?_
  refine gx_aload_n 0 dX7_init_25 rfl rfl ?_
  refine gx_bipush (v := (12 : Int32)) dX7_init_26 ib_12 ?_
  obtain ⟨s6, hs6, h⟩ := bnd h
  refine gx_newI dX7_init_28 hs6 ac_I rfl (by decide) rfl (Nat.le_of_ble_eq_true rfl) (Nat.le_of_ble_eq_true rfl) ?_
  obtain ⟨s7, hs7, h⟩ := bnd h
  refine gx_putR (r := (some (pq (nn s5)))) dX7_init_30 hs7 fl_X7_22 fp_X7_7_3 (Or.inr ⟨_, rfl⟩) (fun _ => rfl) rfl ?_
  refine gx_aload_n 0 dX7_init_33 rfl rfl ?_
  refine gx_bipush (v := (12 : Int32)) dX7_init_34 ib_12 ?_
  obtain ⟨s8, hs8, h⟩ := bnd h
  refine gx_newI dX7_init_36 hs8 ac_I rfl (by decide) rfl (Nat.le_of_ble_eq_true rfl) (Nat.le_of_ble_eq_true rfl) ?_
  obtain ⟨s9, hs9, h⟩ := bnd h
  refine gx_putR (r := (some (pq (nn s7)))) dX7_init_38 hs9 fl_X7_25 fp_X7_7_4 (Or.inr ⟨_, rfl⟩) (fun _ => rfl) rfl ?_
  refine gx_aload_n 0 dX7_init_41 rfl rfl ?_
  refine gx_bipush (v := (12 : Int32)) dX7_init_42 ib_12 ?_
  obtain ⟨s10, hs10, h⟩ := bnd h
  refine gx_newI dX7_init_44 hs10 ac_I rfl (by decide) rfl (Nat.le_of_ble_eq_true rfl) (Nat.le_of_ble_eq_true rfl) ?_
  obtain ⟨s11, hs11, h⟩ := bnd h
  refine gx_putR (r := (some (pq (nn s9)))) dX7_init_46 hs11 fl_X7_28 fp_X7_7_5 (Or.inr ⟨_, rfl⟩) (fun _ => rfl) rfl ?_
  refine gx_aload_n 0 dX7_init_49 rfl rfl ?_
  refine gx_bipush (v := (12 : Int32)) dX7_init_50 ib_12 ?_
  obtain ⟨s12, hs12, h⟩ := bnd h
  refine gx_newI dX7_init_52 hs12 ac_I rfl (by decide) rfl (Nat.le_of_ble_eq_true rfl) (Nat.le_of_ble_eq_true rfl) ?_
  obtain ⟨s13, hs13, h⟩ := bnd h
  refine gx_putR (r := (some (pq (nn s11)))) dX7_init_54 hs13 fl_X7_31 fp_X7_7_6 (Or.inr ⟨_, rfl⟩) (fun _ => rfl) rfl ?_
  refine gx_aload_n 0 dX7_init_57 rfl rfl ?_
  refine gx_bipush (v := (12 : Int32)) dX7_init_58 ib_12 ?_
  obtain ⟨s14, hs14, h⟩ := bnd h
  refine gx_newI dX7_init_60 hs14 ac_I rfl (by decide) rfl (Nat.le_of_ble_eq_true rfl) (Nat.le_of_ble_eq_true rfl) ?_
  obtain ⟨s15, hs15, h⟩ := bnd h
  refine gx_putR (r := (some (pq (nn s13)))) dX7_init_62 hs15 fl_X7_34 fp_X7_7_7 (Or.inr ⟨_, rfl⟩) (fun _ => rfl) rfl ?_
  refine gx_aload_n 0 dX7_init_65 rfl rfl ?_
  refine gx_iconst (v := (0 : Int32)) dX7_init_66 ic_0 ?_
  obtain ⟨s16, hs16, h⟩ := bnd h
  refine gx_putI dX7_init_67 hs16 fl_X7_37 fp_X7_7_8 rfl ?_
  refine gx_aload_n 0 dX7_init_70 rfl rfl ?_
  refine gx_bipush (v := (12 : Int32)) dX7_init_71 ib_12 ?_
  obtain ⟨s17, hs17, h⟩ := bnd h
  refine gx_newI dX7_init_73 hs17 ac_I rfl (by decide) rfl (Nat.le_of_ble_eq_true rfl) (Nat.le_of_ble_eq_true rfl) ?_
  obtain ⟨s18, hs18, h⟩ := bnd h
  refine gx_putR (r := (some (pq (nn s16)))) dX7_init_75 hs18 fl_X7_40 fp_X7_7_9 (Or.inr ⟨_, rfl⟩) (fun _ => rfl) rfl ?_
  refine gx_aload_n 0 dX7_init_78 rfl rfl ?_
  refine gx_bipush (v := (12 : Int32)) dX7_init_79 ib_12 ?_
  obtain ⟨s19, hs19, h⟩ := bnd h
  refine gx_newI dX7_init_81 hs19 ac_I rfl (by decide) rfl (Nat.le_of_ble_eq_true rfl) (Nat.le_of_ble_eq_true rfl) ?_
  obtain ⟨s20, hs20, h⟩ := bnd h
  refine gx_putR (r := (some (pq (nn s18)))) dX7_init_83 hs20 fl_X7_43 fp_X7_7_10 (Or.inr ⟨_, rfl⟩) (fun _ => rfl) rfl ?_
  refine gx_aload_n 0 dX7_init_86 rfl rfl ?_
  refine gx_iconst (v := (0 : Int32)) dX7_init_87 ic_0 ?_
  obtain ⟨s21, hs21, h⟩ := bnd h
  refine gx_putI dX7_init_88 hs21 fl_X7_46 fp_X7_7_11 rfl ?_
  refine gx_aload_n 0 dX7_init_91 rfl rfl ?_
  refine gx_bipush (v := (32 : Int32)) dX7_init_92 ib_32 ?_
  obtain ⟨s22, hs22, h⟩ := bnd h
  refine gx_newI dX7_init_94 hs22 ac_I rfl (by decide) rfl (Nat.le_of_ble_eq_true rfl) (Nat.le_of_ble_eq_true rfl) ?_
  obtain ⟨s23, hs23, h⟩ := bnd h
  refine gx_putR (r := (some (pq (nn s21)))) dX7_init_96 hs23 fl_X7_49 fp_X7_7_12 (Or.inr ⟨_, rfl⟩) (fun _ => rfl) rfl ?_
  refine gx_aload_n 0 dX7_init_99 rfl rfl ?_
  refine gx_iconst (v := (0 : Int32)) dX7_init_100 ic_0 ?_
  obtain ⟨s24, hs24, h⟩ := bnd h
  refine gx_putI dX7_init_101 hs24 fl_X7_52 fp_X7_7_13 rfl ?_
  have h := Option.some.inj h
  subst h
  exact gx_vret dX7_init_104 rfl (Nat.le_of_ble_eq_true rfl) (Nat.le_of_ble_eq_true rfl) ⟨rfl, rfl⟩
theorem c_X7_init {Γ : Cn} {τ : Mm} {N : Nat} {l0 : Nat} {σ : Mm} {o : Mm} (h : f_X7_init N l0 σ = some o) : Ct Γ M_X7_init yX7_init 0 τ [.ref (Γ.B + pp l0)] σ (PV o) := ct_of (by decide) rfl (fun _ => by first | rfl | contradiction) (Nat.le_of_ble_eq_true rfl) (s_X7_init_0  h)
abbrev M_X7_clear : Ms := (cX7_clear, RX7, 2, none, false, 0, 0, 0)
def f_X7_clear_17 (N : Nat) : Nat → Nat → Int32 → Mm → Option Mm
  | 0, _, _, _ => none
  | n + 1, l0, l1, σ =>
      if (32 : Int32) ≤ l1 then (
        some σ) else (
        (gN 7 12 σ l0).bind fun a2 =>
        (sI 13 σ a2 l1 (0 : Int32)).bind fun s3 =>
        f_X7_clear_17 N n l0 (l1 + (1 : Int32)) s3)
def f_X7_clear (N : Nat) (l0 : Nat) (σ : Mm) : Option Mm :=
  (pI 7 0 σ l0 (0 : Int32)).bind fun s1 =>
  (pI 7 8 s1 l0 (0 : Int32)).bind fun s2 =>
  (pI 7 11 s2 l0 (0 : Int32)).bind fun s3 =>
  f_X7_clear_17 N N l0 (0 : Int32) s3
theorem mov_X7_clear : MOV yX7_clear M_X7_clear 0 7 0 := ⟨⟨tw_102, tw_569, ⟨by decide, by decide⟩, by decide +kernel⟩, tw_567, tw_568, by decide, ⟨_, rfl, rfl⟩, rfl⟩
set_option maxRecDepth 4000 in
theorem s_X7_clear_17 {Γ : Cn} {τ : Mm} {N : Nat} : ∀ (n : Nat) (l0 : Nat) (l1 : Int32) (σ : Mm) (o : Mm), f_X7_clear_17 N n l0 l1 σ = some o → Gx Γ M_X7_clear 0 τ (PV o) 0 0 17 [(0, .ref (Γ.B + pp l0)), (1, .int l1)] [] σ := by
  intro n
  induction n with
  | zero =>
    intro l0 l1 σ o h
    exact absurd h (by rw [f_X7_clear_17]; exact fun q => nomatch q)
  | succ n ih =>
    intro l0 l1 σ o h
    rw [f_X7_clear_17] at h
    refine gx_iload_n 1 dX7_clear_17 rfl rfl ?_
    refine gx_bipush (v := (32 : Int32)) dX7_clear_18 ib_32 ?_
    refine gx_icmp_ge 36 dX7_clear_20 (by decide) (fun c0 => ?_) (fun c0 => ?_)
    · rw [if_pos c0] at h
      have h := Option.some.inj h
      subst h
      exact gx_vret dX7_clear_36 rfl (Nat.le_of_ble_eq_true rfl) (Nat.le_of_ble_eq_true rfl) ⟨rfl, rfl⟩
    · rw [if_neg c0] at h
      refine gx_aload_n 0 dX7_clear_23 rfl rfl ?_
      obtain ⟨a2, ha2, h⟩ := bnd h
      refine gx_getN dX7_clear_24 ha2 fl_X7_49 rfl ?_
      refine gx_iload_n 1 dX7_clear_27 rfl rfl ?_
      refine gx_iconst (v := (0 : Int32)) dX7_clear_28 ic_0 ?_
      obtain ⟨s3, hs3, h⟩ := bnd h
      refine gx_iast (kd := 13) dX7_clear_29 hs3 rfl rfl ?_
      refine gx_iinc (v := (l1 + (1 : Int32))) (lv' := [(1, .int (l1 + (1 : Int32))), (0, .ref (Γ.B + pp l0))]) 1 dX7_clear_30 rfl (by rw [ic_1]) (Nat.le_of_ble_eq_true rfl) rfl ?_
      refine gx_goto 17 dX7_clear_33 (by decide) ?_
      exact gx_sub [1, 0] rfl (ih _ _ _ _ h)
set_option maxRecDepth 4000 in
theorem s_X7_clear_0 {Γ : Cn} {τ : Mm} {N : Nat} {l0 : Nat} {σ : Mm} {o : Mm} (h : f_X7_clear N l0 σ = some o) : Gx Γ M_X7_clear 0 τ (PV o) 0 0 0 [(0, .ref (Γ.B + pp l0))] [] σ := by
  unfold f_X7_clear at h
  refine gx_aload_n 0 dX7_clear_0 rfl rfl ?_
  refine gx_iconst (v := (0 : Int32)) dX7_clear_1 ic_0 ?_
  obtain ⟨s1, hs1, h⟩ := bnd h
  refine gx_putI dX7_clear_2 hs1 fl_X7_9 fp_X7_7_0 rfl ?_
  refine gx_aload_n 0 dX7_clear_5 rfl rfl ?_
  refine gx_iconst (v := (0 : Int32)) dX7_clear_6 ic_0 ?_
  obtain ⟨s2, hs2, h⟩ := bnd h
  refine gx_putI dX7_clear_7 hs2 fl_X7_37 fp_X7_7_8 rfl ?_
  refine gx_aload_n 0 dX7_clear_10 rfl rfl ?_
  refine gx_iconst (v := (0 : Int32)) dX7_clear_11 ic_0 ?_
  obtain ⟨s3, hs3, h⟩ := bnd h
  refine gx_putI dX7_clear_12 hs3 fl_X7_46 fp_X7_7_11 rfl ?_
  refine gx_iconst (v := (0 : Int32)) dX7_clear_15 ic_0 ?_
  refine gx_istore_n (lv' := [(1, .int (0 : Int32)), (0, .ref (Γ.B + pp l0))]) dX7_clear_16 rfl (Nat.le_of_ble_eq_true rfl) rfl ?_
  exact gx_sub [1, 0] rfl (s_X7_clear_17  N _ _ _ _ h)
theorem c_X7_clear {Γ : Cn} {τ : Mm} {N : Nat} {l0 : Nat} {σ : Mm} {o : Mm} (h : f_X7_clear N l0 σ = some o) : Ct Γ M_X7_clear yX7_clear 0 τ [.ref (Γ.B + pp l0)] σ (PV o) := ct_of (by decide) rfl (fun _ => by first | rfl | contradiction) (Nat.le_of_ble_eq_true rfl) (s_X7_clear_0  h)
abbrev M_X7_become : Ms := (cX7_become, RX7, 2, none, false, 0, 0, 1)
def f_X7_become (N : Nat) (l0 : Nat) (l1 : Nat) (σ : Mm) : Option Mm :=
  (gI 7 0 σ l1).bind fun x1 =>
  (pI 7 0 σ l0 x1).bind fun s2 =>
  (gN 7 1 s2 l1).bind fun a3 =>
  (gN 7 1 s2 l0).bind fun a4 =>
  (cpA 13 s2 a3 (0 : Int32) a4 (0 : Int32) (12 : Int32)).bind fun s5 =>
  (gN 7 2 s5 l1).bind fun a6 =>
  (gN 7 2 s5 l0).bind fun a7 =>
  (cpA 13 s5 a6 (0 : Int32) a7 (0 : Int32) (12 : Int32)).bind fun s8 =>
  (gN 7 3 s8 l1).bind fun a9 =>
  (gN 7 3 s8 l0).bind fun a10 =>
  (cpA 13 s8 a9 (0 : Int32) a10 (0 : Int32) (12 : Int32)).bind fun s11 =>
  (gN 7 4 s11 l1).bind fun a12 =>
  (gN 7 4 s11 l0).bind fun a13 =>
  (cpA 13 s11 a12 (0 : Int32) a13 (0 : Int32) (12 : Int32)).bind fun s14 =>
  (gN 7 5 s14 l1).bind fun a15 =>
  (gN 7 5 s14 l0).bind fun a16 =>
  (cpA 13 s14 a15 (0 : Int32) a16 (0 : Int32) (12 : Int32)).bind fun s17 =>
  (gN 7 6 s17 l1).bind fun a18 =>
  (gN 7 6 s17 l0).bind fun a19 =>
  (cpA 13 s17 a18 (0 : Int32) a19 (0 : Int32) (12 : Int32)).bind fun s20 =>
  (gN 7 7 s20 l1).bind fun a21 =>
  (gN 7 7 s20 l0).bind fun a22 =>
  (cpA 13 s20 a21 (0 : Int32) a22 (0 : Int32) (12 : Int32)).bind fun s23 =>
  (gI 7 8 s23 l1).bind fun x24 =>
  (pI 7 8 s23 l0 x24).bind fun s25 =>
  (gN 7 9 s25 l1).bind fun a26 =>
  (gN 7 9 s25 l0).bind fun a27 =>
  (cpA 13 s25 a26 (0 : Int32) a27 (0 : Int32) (12 : Int32)).bind fun s28 =>
  (gN 7 10 s28 l1).bind fun a29 =>
  (gN 7 10 s28 l0).bind fun a30 =>
  (cpA 13 s28 a29 (0 : Int32) a30 (0 : Int32) (12 : Int32)).bind fun s31 =>
  (gI 7 11 s31 l1).bind fun x32 =>
  (pI 7 11 s31 l0 x32).bind fun s33 =>
  (gN 7 12 s33 l1).bind fun a34 =>
  (gN 7 12 s33 l0).bind fun a35 =>
  (cpA 13 s33 a34 (0 : Int32) a35 (0 : Int32) (32 : Int32)).bind fun s36 =>
  (gI 7 13 s36 l1).bind fun x37 =>
  (pI 7 13 s36 l0 x37).bind fun s38 =>
  some s38
theorem mov_X7_become : MOV yX7_become M_X7_become 1 7 0 := ⟨⟨tw_102, tw_627, ⟨by decide, by decide⟩, by decide +kernel⟩, tw_625, tw_626, by decide, ⟨_, rfl, rfl⟩, rfl⟩
set_option maxRecDepth 4000 in
theorem s_X7_become_0 {Γ : Cn} {τ : Mm} {N : Nat} {l0 : Nat} {l1 : Nat} {σ : Mm} {o : Mm} (h : f_X7_become N l0 l1 σ = some o) : Gx Γ M_X7_become 0 τ (PV o) 0 0 0 [(0, .ref (Γ.B + pp l0)), (1, .ref (Γ.B + pp l1))] [] σ := by
  unfold f_X7_become at h
  refine gx_aload_n 0 dX7_become_0 rfl rfl ?_
  refine gx_aload_n 1 dX7_become_1 rfl rfl ?_
  obtain ⟨x1, hx1, h⟩ := bnd h
  refine gx_getI dX7_become_2 hx1 fl_X7_9 rfl ?_
  obtain ⟨s2, hs2, h⟩ := bnd h
  refine gx_putI dX7_become_5 hs2 fl_X7_9 fp_X7_7_0 rfl ?_
  refine gx_aload_n 1 dX7_become_8 rfl rfl ?_
  obtain ⟨a3, ha3, h⟩ := bnd h
  refine gx_getN dX7_become_9 ha3 fl_X7_15 rfl ?_
  refine gx_iconst (v := (0 : Int32)) dX7_become_12 ic_0 ?_
  refine gx_aload_n 0 dX7_become_13 rfl rfl ?_
  obtain ⟨a4, ha4, h⟩ := bnd h
  refine gx_getN dX7_become_14 ha4 fl_X7_15 rfl ?_
  refine gx_iconst (v := (0 : Int32)) dX7_become_17 ic_0 ?_
  refine gx_bipush (v := (12 : Int32)) dX7_become_18 ib_12 ?_
  obtain ⟨s5, hs5, h⟩ := bnd h
  refine gx_copy (kd := 13) dX7_become_20 hs5 rfl tw_621 tw_ac1 tw_ac2 tw_ac3 rfl (Nat.le_of_ble_eq_true rfl) (by decide) ?_
  refine gx_aload_n 1 dX7_become_23 rfl rfl ?_
  obtain ⟨a6, ha6, h⟩ := bnd h
  refine gx_getN dX7_become_24 ha6 fl_X7_19 rfl ?_
  refine gx_iconst (v := (0 : Int32)) dX7_become_27 ic_0 ?_
  refine gx_aload_n 0 dX7_become_28 rfl rfl ?_
  obtain ⟨a7, ha7, h⟩ := bnd h
  refine gx_getN dX7_become_29 ha7 fl_X7_19 rfl ?_
  refine gx_iconst (v := (0 : Int32)) dX7_become_32 ic_0 ?_
  refine gx_bipush (v := (12 : Int32)) dX7_become_33 ib_12 ?_
  obtain ⟨s8, hs8, h⟩ := bnd h
  refine gx_copy (kd := 13) dX7_become_35 hs8 rfl tw_621 tw_ac1 tw_ac2 tw_ac3 rfl (Nat.le_of_ble_eq_true rfl) (by decide) ?_
  refine gx_aload_n 1 dX7_become_38 rfl rfl ?_
  obtain ⟨a9, ha9, h⟩ := bnd h
  refine gx_getN dX7_become_39 ha9 fl_X7_22 rfl ?_
  refine gx_iconst (v := (0 : Int32)) dX7_become_42 ic_0 ?_
  refine gx_aload_n 0 dX7_become_43 rfl rfl ?_
  obtain ⟨a10, ha10, h⟩ := bnd h
  refine gx_getN dX7_become_44 ha10 fl_X7_22 rfl ?_
  refine gx_iconst (v := (0 : Int32)) dX7_become_47 ic_0 ?_
  refine gx_bipush (v := (12 : Int32)) dX7_become_48 ib_12 ?_
  obtain ⟨s11, hs11, h⟩ := bnd h
  refine gx_copy (kd := 13) dX7_become_50 hs11 rfl tw_621 tw_ac1 tw_ac2 tw_ac3 rfl (Nat.le_of_ble_eq_true rfl) (by decide) ?_
  refine gx_aload_n 1 dX7_become_53 rfl rfl ?_
  obtain ⟨a12, ha12, h⟩ := bnd h
  refine gx_getN dX7_become_54 ha12 fl_X7_25 rfl ?_
  refine gx_iconst (v := (0 : Int32)) dX7_become_57 ic_0 ?_
  refine gx_aload_n 0 dX7_become_58 rfl rfl ?_
  obtain ⟨a13, ha13, h⟩ := bnd h
  refine gx_getN dX7_become_59 ha13 fl_X7_25 rfl ?_
  refine gx_iconst (v := (0 : Int32)) dX7_become_62 ic_0 ?_
  refine gx_bipush (v := (12 : Int32)) dX7_become_63 ib_12 ?_
  obtain ⟨s14, hs14, h⟩ := bnd h
  refine gx_copy (kd := 13) dX7_become_65 hs14 rfl tw_621 tw_ac1 tw_ac2 tw_ac3 rfl (Nat.le_of_ble_eq_true rfl) (by decide) ?_
  refine gx_aload_n 1 dX7_become_68 rfl rfl ?_
  obtain ⟨a15, ha15, h⟩ := bnd h
  refine gx_getN dX7_become_69 ha15 fl_X7_28 rfl ?_
  refine gx_iconst (v := (0 : Int32)) dX7_become_72 ic_0 ?_
  refine gx_aload_n 0 dX7_become_73 rfl rfl ?_
  obtain ⟨a16, ha16, h⟩ := bnd h
  refine gx_getN dX7_become_74 ha16 fl_X7_28 rfl ?_
  refine gx_iconst (v := (0 : Int32)) dX7_become_77 ic_0 ?_
  refine gx_bipush (v := (12 : Int32)) dX7_become_78 ib_12 ?_
  obtain ⟨s17, hs17, h⟩ := bnd h
  refine gx_copy (kd := 13) dX7_become_80 hs17 rfl tw_621 tw_ac1 tw_ac2 tw_ac3 rfl (Nat.le_of_ble_eq_true rfl) (by decide) ?_
  refine gx_aload_n 1 dX7_become_83 rfl rfl ?_
  obtain ⟨a18, ha18, h⟩ := bnd h
  refine gx_getN dX7_become_84 ha18 fl_X7_31 rfl ?_
  refine gx_iconst (v := (0 : Int32)) dX7_become_87 ic_0 ?_
  refine gx_aload_n 0 dX7_become_88 rfl rfl ?_
  obtain ⟨a19, ha19, h⟩ := bnd h
  refine gx_getN dX7_become_89 ha19 fl_X7_31 rfl ?_
  refine gx_iconst (v := (0 : Int32)) dX7_become_92 ic_0 ?_
  refine gx_bipush (v := (12 : Int32)) dX7_become_93 ib_12 ?_
  obtain ⟨s20, hs20, h⟩ := bnd h
  refine gx_copy (kd := 13) dX7_become_95 hs20 rfl tw_621 tw_ac1 tw_ac2 tw_ac3 rfl (Nat.le_of_ble_eq_true rfl) (by decide) ?_
  refine gx_aload_n 1 dX7_become_98 rfl rfl ?_
  obtain ⟨a21, ha21, h⟩ := bnd h
  refine gx_getN dX7_become_99 ha21 fl_X7_34 rfl ?_
  refine gx_iconst (v := (0 : Int32)) dX7_become_102 ic_0 ?_
  refine gx_aload_n 0 dX7_become_103 rfl rfl ?_
  obtain ⟨a22, ha22, h⟩ := bnd h
  refine gx_getN dX7_become_104 ha22 fl_X7_34 rfl ?_
  refine gx_iconst (v := (0 : Int32)) dX7_become_107 ic_0 ?_
  refine gx_bipush (v := (12 : Int32)) dX7_become_108 ib_12 ?_
  obtain ⟨s23, hs23, h⟩ := bnd h
  refine gx_copy (kd := 13) dX7_become_110 hs23 rfl tw_621 tw_ac1 tw_ac2 tw_ac3 rfl (Nat.le_of_ble_eq_true rfl) (by decide) ?_
  refine gx_aload_n 0 dX7_become_113 rfl rfl ?_
  refine gx_aload_n 1 dX7_become_114 rfl rfl ?_
  obtain ⟨x24, hx24, h⟩ := bnd h
  refine gx_getI dX7_become_115 hx24 fl_X7_37 rfl ?_
  obtain ⟨s25, hs25, h⟩ := bnd h
  refine gx_putI dX7_become_118 hs25 fl_X7_37 fp_X7_7_8 rfl ?_
  refine gx_aload_n 1 dX7_become_121 rfl rfl ?_
  obtain ⟨a26, ha26, h⟩ := bnd h
  refine gx_getN dX7_become_122 ha26 fl_X7_40 rfl ?_
  refine gx_iconst (v := (0 : Int32)) dX7_become_125 ic_0 ?_
  refine gx_aload_n 0 dX7_become_126 rfl rfl ?_
  obtain ⟨a27, ha27, h⟩ := bnd h
  refine gx_getN dX7_become_127 ha27 fl_X7_40 rfl ?_
  refine gx_iconst (v := (0 : Int32)) dX7_become_130 ic_0 ?_
  refine gx_bipush (v := (12 : Int32)) dX7_become_131 ib_12 ?_
  obtain ⟨s28, hs28, h⟩ := bnd h
  refine gx_copy (kd := 13) dX7_become_133 hs28 rfl tw_621 tw_ac1 tw_ac2 tw_ac3 rfl (Nat.le_of_ble_eq_true rfl) (by decide) ?_
  refine gx_aload_n 1 dX7_become_136 rfl rfl ?_
  obtain ⟨a29, ha29, h⟩ := bnd h
  refine gx_getN dX7_become_137 ha29 fl_X7_43 rfl ?_
  refine gx_iconst (v := (0 : Int32)) dX7_become_140 ic_0 ?_
  refine gx_aload_n 0 dX7_become_141 rfl rfl ?_
  obtain ⟨a30, ha30, h⟩ := bnd h
  refine gx_getN dX7_become_142 ha30 fl_X7_43 rfl ?_
  refine gx_iconst (v := (0 : Int32)) dX7_become_145 ic_0 ?_
  refine gx_bipush (v := (12 : Int32)) dX7_become_146 ib_12 ?_
  obtain ⟨s31, hs31, h⟩ := bnd h
  refine gx_copy (kd := 13) dX7_become_148 hs31 rfl tw_621 tw_ac1 tw_ac2 tw_ac3 rfl (Nat.le_of_ble_eq_true rfl) (by decide) ?_
  refine gx_aload_n 0 dX7_become_151 rfl rfl ?_
  refine gx_aload_n 1 dX7_become_152 rfl rfl ?_
  obtain ⟨x32, hx32, h⟩ := bnd h
  refine gx_getI dX7_become_153 hx32 fl_X7_46 rfl ?_
  obtain ⟨s33, hs33, h⟩ := bnd h
  refine gx_putI dX7_become_156 hs33 fl_X7_46 fp_X7_7_11 rfl ?_
  refine gx_aload_n 1 dX7_become_159 rfl rfl ?_
  obtain ⟨a34, ha34, h⟩ := bnd h
  refine gx_getN dX7_become_160 ha34 fl_X7_49 rfl ?_
  refine gx_iconst (v := (0 : Int32)) dX7_become_163 ic_0 ?_
  refine gx_aload_n 0 dX7_become_164 rfl rfl ?_
  obtain ⟨a35, ha35, h⟩ := bnd h
  refine gx_getN dX7_become_165 ha35 fl_X7_49 rfl ?_
  refine gx_iconst (v := (0 : Int32)) dX7_become_168 ic_0 ?_
  refine gx_bipush (v := (32 : Int32)) dX7_become_169 ib_32 ?_
  obtain ⟨s36, hs36, h⟩ := bnd h
  refine gx_copy (kd := 13) dX7_become_171 hs36 rfl tw_621 tw_ac1 tw_ac2 tw_ac3 rfl (Nat.le_of_ble_eq_true rfl) (by decide) ?_
  refine gx_aload_n 0 dX7_become_174 rfl rfl ?_
  refine gx_aload_n 1 dX7_become_175 rfl rfl ?_
  obtain ⟨x37, hx37, h⟩ := bnd h
  refine gx_getI dX7_become_176 hx37 fl_X7_52 rfl ?_
  obtain ⟨s38, hs38, h⟩ := bnd h
  refine gx_putI dX7_become_179 hs38 fl_X7_52 fp_X7_7_13 rfl ?_
  have h := Option.some.inj h
  subst h
  exact gx_vret dX7_become_182 rfl (Nat.le_of_ble_eq_true rfl) (Nat.le_of_ble_eq_true rfl) ⟨rfl, rfl⟩
theorem c_X7_become {Γ : Cn} {τ : Mm} {N : Nat} {l0 : Nat} {l1 : Nat} {σ : Mm} {o : Mm} (h : f_X7_become N l0 l1 σ = some o) : Ct Γ M_X7_become yX7_become 0 τ [.ref (Γ.B + pp l0), .ref (Γ.B + pp l1)] σ (PV o) := ct_of (by decide) rfl (fun _ => by first | rfl | contradiction) (Nat.le_of_ble_eq_true rfl) (s_X7_become_0  h)
abbrev M_X7_hasAllOf : Ms := (cX7_hasAllOf, RX7, 2, (some .boolean), false, 0, 0, 1)
def f_X7_hasAllOf (N : Nat) (l0 : Nat) (l1 : Int32) (σ : Mm) : Option (Int32 × Mm) :=
  (gI 7 0 σ l0).bind fun x1 =>
  (f_X10_isBelow N l1 ((1 : Int32) <<< (x1 &&& 31)) σ).bind fun q2 =>
  if q2.1 = 0 ∨ q2.1 = 1 then some (q2.1, q2.2) else none
theorem mov_X7_hasAllOf : MOV yX7_hasAllOf M_X7_hasAllOf 1 7 0 := ⟨⟨tw_102, tw_857, ⟨by decide, by decide⟩, by decide +kernel⟩, tw_855, tw_856, by decide, ⟨_, rfl, rfl⟩, rfl⟩
set_option maxRecDepth 4000 in
theorem s_X7_hasAllOf_0 {Γ : Cn} {τ : Mm} {N : Nat} {l0 : Nat} {l1 : Int32} {σ : Mm} {o : Int32 × Mm} (h : f_X7_hasAllOf N l0 l1 σ = some o) : Gx Γ M_X7_hasAllOf 0 τ (PI o) 0 0 0 [(0, .ref (Γ.B + pp l0)), (1, .int l1)] [] σ := by
  unfold f_X7_hasAllOf at h
  refine gx_iload_n 1 dX7_hasAllOf_0 rfl rfl ?_
  refine gx_iconst (v := (1 : Int32)) dX7_hasAllOf_1 ic_1 ?_
  refine gx_aload_n 0 dX7_hasAllOf_2 rfl rfl ?_
  obtain ⟨x1, hx1, h⟩ := bnd h
  refine gx_getI dX7_hasAllOf_3 hx1 fl_X7_9 rfl ?_
  refine gx_ishl dX7_hasAllOf_6 ?_
  obtain ⟨q2, hq2, h⟩ := bnd h
  refine gx_cSNI (As := [.int l1, .int ((1 : Int32) <<< (x1 &&& 31))]) (st := []) dX7_hasAllOf_7 (c_X10_isBelow hq2) mos_X10_isBelow (by decide) rfl ⟨Nat.le_of_ble_eq_true rfl, Nat.le_of_ble_eq_true rfl⟩ (Nat.le_of_ble_eq_true rfl) ?_
  obtain ⟨hz, h⟩ := of_if h
  have h := Option.some.inj h
  subst h
  exact gx_zret dX7_hasAllOf_10 rfl (nar_z hz) (Nat.le_of_ble_eq_true rfl) (Nat.le_of_ble_eq_true rfl) ⟨rfl, rfl⟩
theorem c_X7_hasAllOf {Γ : Cn} {τ : Mm} {N : Nat} {l0 : Nat} {l1 : Int32} {σ : Mm} {o : Int32 × Mm} (h : f_X7_hasAllOf N l0 l1 σ = some o) : Ct Γ M_X7_hasAllOf yX7_hasAllOf 0 τ [.ref (Γ.B + pp l0), .int l1] σ (PI o) := ct_of (by decide) rfl (fun _ => by first | rfl | contradiction) (Nat.le_of_ble_eq_true rfl) (s_X7_hasAllOf_0  h)
abbrev M_X7_hasTree : Ms := (cX7_hasTree, RX7, 2, (some .boolean), false, 0, 0, 0)
def f_X7_hasTree_23 (N : Nat) (t0 : Int32) (σ : Mm) : Option (Int32 × Mm) :=
  if t0 = 0 ∨ t0 = 1 then some (t0, σ) else none
def f_X7_hasTree_22 (N : Nat) (σ : Mm) : Option (Int32 × Mm) :=
  f_X7_hasTree_23 N (0 : Int32) σ
def f_X7_hasTree (N : Nat) (l0 : Nat) (l1 : Int32) (σ : Mm) : Option (Int32 × Mm) :=
  if l1 < 0 then (
    f_X7_hasTree_22 N σ) else (
    (gI 7 8 σ l0).bind fun x2 =>
    if x2 ≤ l1 then (
      f_X7_hasTree_22 N σ) else (
      if (12 : Int32) ≤ l1 then (
        f_X7_hasTree_22 N σ) else (
        f_X7_hasTree_23 N (1 : Int32) σ)))
theorem mov_X7_hasTree : MOV yX7_hasTree M_X7_hasTree 1 7 0 := ⟨⟨tw_102, tw_697, ⟨by decide, by decide⟩, by decide +kernel⟩, tw_695, tw_696, by decide, ⟨_, rfl, rfl⟩, rfl⟩
set_option maxRecDepth 4000 in
theorem s_X7_hasTree_23 {Γ : Cn} {τ : Mm} {N : Nat} {t0 : Int32} {σ : Mm} {o : Int32 × Mm} (h : f_X7_hasTree_23 N t0 σ = some o) : Gx Γ M_X7_hasTree 0 τ (PI o) 0 0 23 [] [.int t0] σ := by
  unfold f_X7_hasTree_23 at h
  obtain ⟨hz, h⟩ := of_if h
  have h := Option.some.inj h
  subst h
  exact gx_zret dX7_hasTree_23 rfl (nar_z hz) (Nat.le_of_ble_eq_true rfl) (Nat.le_of_ble_eq_true rfl) ⟨rfl, rfl⟩
set_option maxRecDepth 4000 in
theorem s_X7_hasTree_22 {Γ : Cn} {τ : Mm} {N : Nat} {σ : Mm} {o : Int32 × Mm} (h : f_X7_hasTree_22 N σ = some o) : Gx Γ M_X7_hasTree 0 τ (PI o) 0 0 22 [] [] σ := by
  unfold f_X7_hasTree_22 at h
  refine gx_iconst (v := (0 : Int32)) dX7_hasTree_22 ic_0 ?_
  exact s_X7_hasTree_23  h
set_option maxRecDepth 4000 in
theorem s_X7_hasTree_0 {Γ : Cn} {τ : Mm} {N : Nat} {l0 : Nat} {l1 : Int32} {σ : Mm} {o : Int32 × Mm} (h : f_X7_hasTree N l0 l1 σ = some o) : Gx Γ M_X7_hasTree 0 τ (PI o) 0 0 0 [(0, .ref (Γ.B + pp l0)), (1, .int l1)] [] σ := by
  unfold f_X7_hasTree at h
  refine gx_iload_n 1 dX7_hasTree_0 rfl rfl ?_
  refine gx_if_lt 22 dX7_hasTree_1 (by decide) (fun c0 => ?_) (fun c0 => ?_)
  · rw [if_pos c0] at h
    exact gx_sub [] rfl (s_X7_hasTree_22  h)
  · rw [if_neg c0] at h
    refine gx_iload_n 1 dX7_hasTree_4 rfl rfl ?_
    refine gx_aload_n 0 dX7_hasTree_5 rfl rfl ?_
    obtain ⟨x2, hx2, h⟩ := bnd h
    refine gx_getI dX7_hasTree_6 hx2 fl_X7_37 rfl ?_
    refine gx_icmp_ge 22 dX7_hasTree_9 (by decide) (fun c2 => ?_) (fun c2 => ?_)
    · rw [if_pos c2] at h
      exact gx_sub [] rfl (s_X7_hasTree_22  h)
    · rw [if_neg c2] at h
      refine gx_iload_n 1 dX7_hasTree_12 rfl rfl ?_
      refine gx_bipush (v := (12 : Int32)) dX7_hasTree_13 ib_12 ?_
      refine gx_icmp_ge 22 dX7_hasTree_15 (by decide) (fun c3 => ?_) (fun c3 => ?_)
      · rw [if_pos c3] at h
        exact gx_sub [] rfl (s_X7_hasTree_22  h)
      · rw [if_neg c3] at h
        refine gx_iconst (v := (1 : Int32)) dX7_hasTree_18 ic_1 ?_
        refine gx_goto 23 dX7_hasTree_19 (by decide) ?_
        exact gx_sub [] rfl (s_X7_hasTree_23  h)
theorem c_X7_hasTree {Γ : Cn} {τ : Mm} {N : Nat} {l0 : Nat} {l1 : Int32} {σ : Mm} {o : Int32 × Mm} (h : f_X7_hasTree N l0 l1 σ = some o) : Ct Γ M_X7_hasTree yX7_hasTree 0 τ [.ref (Γ.B + pp l0), .int l1] σ (PI o) := ct_of (by decide) rfl (fun _ => by first | rfl | contradiction) (Nat.le_of_ble_eq_true rfl) (s_X7_hasTree_0  h)
abbrev M_X7_keepMorning : Ms := (cX7_keepMorning, RX7, 1, none, false, 0, 0, 1)
def f_X7_keepMorning (N : Nat) (l0 : Nat) (σ : Mm) : Option Mm :=
  (gN 7 6 σ l0).bind fun a1 =>
  (gN 7 7 σ l0).bind fun a2 =>
  (cpA 13 σ a1 (0 : Int32) a2 (0 : Int32) (12 : Int32)).bind fun s3 =>
  some s3
theorem mov_X7_keepMorning : MOV yX7_keepMorning M_X7_keepMorning 0 7 0 := ⟨⟨tw_102, tw_620, ⟨by decide, by decide⟩, by decide +kernel⟩, tw_618, tw_619, by decide, ⟨_, rfl, rfl⟩, rfl⟩
set_option maxRecDepth 4000 in
theorem s_X7_keepMorning_0 {Γ : Cn} {τ : Mm} {N : Nat} {l0 : Nat} {σ : Mm} {o : Mm} (h : f_X7_keepMorning N l0 σ = some o) : Gx Γ M_X7_keepMorning 0 τ (PV o) 0 0 0 [(0, .ref (Γ.B + pp l0))] [] σ := by
  unfold f_X7_keepMorning at h
  refine gx_aload_n 0 dX7_keepMorning_0 rfl rfl ?_
  obtain ⟨a1, ha1, h⟩ := bnd h
  refine gx_getN dX7_keepMorning_1 ha1 fl_X7_31 rfl ?_
  refine gx_iconst (v := (0 : Int32)) dX7_keepMorning_4 ic_0 ?_
  refine gx_aload_n 0 dX7_keepMorning_5 rfl rfl ?_
  obtain ⟨a2, ha2, h⟩ := bnd h
  refine gx_getN dX7_keepMorning_6 ha2 fl_X7_34 rfl ?_
  refine gx_iconst (v := (0 : Int32)) dX7_keepMorning_9 ic_0 ?_
  refine gx_bipush (v := (12 : Int32)) dX7_keepMorning_10 ib_12 ?_
  obtain ⟨s3, hs3, h⟩ := bnd h
  refine gx_copy (kd := 13) dX7_keepMorning_12 hs3 rfl tw_621 tw_ac1 tw_ac2 tw_ac3 rfl (Nat.le_of_ble_eq_true rfl) (by decide) ?_
  have h := Option.some.inj h
  subst h
  exact gx_vret dX7_keepMorning_15 rfl (Nat.le_of_ble_eq_true rfl) (Nat.le_of_ble_eq_true rfl) ⟨rfl, rfl⟩
theorem c_X7_keepMorning {Γ : Cn} {τ : Mm} {N : Nat} {l0 : Nat} {σ : Mm} {o : Mm} (h : f_X7_keepMorning N l0 σ = some o) : Ct Γ M_X7_keepMorning yX7_keepMorning 0 τ [.ref (Γ.B + pp l0)] σ (PV o) := ct_of (by decide) rfl (fun _ => by first | rfl | contradiction) (Nat.le_of_ble_eq_true rfl) (s_X7_keepMorning_0  h)
abbrev M_X7_gain : Ms := (cX7_gain, RX7, 3, (some .int), false, 0, 0, 1)
def f_X7_gain_32 (N : Nat) (t0 : Int32) (σ : Mm) : Option (Int32 × Mm) :=
  some (t0, σ)
def f_X7_gain_31 (N : Nat) (σ : Mm) : Option (Int32 × Mm) :=
  f_X7_gain_32 N (0 : Int32) σ
def f_X7_gain (N : Nat) (l0 : Nat) (l1 : Int32) (l2 : Int32) (σ : Mm) : Option (Int32 × Mm) :=
  (f_X10_isBelow N l1 (4 : Int32) σ).bind fun q1 =>
  if q1.1 = 0 then (
    f_X7_gain_31 N q1.2) else (
    (f_X10_isBelow N l2 (8 : Int32) q1.2).bind fun q3 =>
    if q3.1 = 0 then (
      f_X7_gain_31 N q3.2) else (
      (gN 7 12 q3.2 l0).bind fun a5 =>
      (aI 13 q3.2 a5 ((l1 * (8 : Int32)) + l2)).bind fun x6 =>
      f_X7_gain_32 N x6 q3.2))
theorem mov_X7_gain : MOV yX7_gain M_X7_gain 2 7 0 := ⟨⟨tw_102, tw_710, ⟨by decide, by decide⟩, by decide +kernel⟩, tw_708, tw_709, by decide, ⟨_, rfl, rfl⟩, rfl⟩
set_option maxRecDepth 4000 in
theorem s_X7_gain_32 {Γ : Cn} {τ : Mm} {N : Nat} {t0 : Int32} {σ : Mm} {o : Int32 × Mm} (h : f_X7_gain_32 N t0 σ = some o) : Gx Γ M_X7_gain 0 τ (PI o) 0 0 32 [] [.int t0] σ := by
  unfold f_X7_gain_32 at h
  have h := Option.some.inj h
  subst h
  exact gx_iret dX7_gain_32 rfl (Nat.le_of_ble_eq_true rfl) (Nat.le_of_ble_eq_true rfl) ⟨rfl, rfl⟩
set_option maxRecDepth 4000 in
theorem s_X7_gain_31 {Γ : Cn} {τ : Mm} {N : Nat} {σ : Mm} {o : Int32 × Mm} (h : f_X7_gain_31 N σ = some o) : Gx Γ M_X7_gain 0 τ (PI o) 0 0 31 [] [] σ := by
  unfold f_X7_gain_31 at h
  refine gx_iconst (v := (0 : Int32)) dX7_gain_31 ic_0 ?_
  exact s_X7_gain_32  h
set_option maxRecDepth 4000 in
theorem s_X7_gain_0 {Γ : Cn} {τ : Mm} {N : Nat} {l0 : Nat} {l1 : Int32} {l2 : Int32} {σ : Mm} {o : Int32 × Mm} (h : f_X7_gain N l0 l1 l2 σ = some o) : Gx Γ M_X7_gain 0 τ (PI o) 0 0 0 [(0, .ref (Γ.B + pp l0)), (1, .int l1), (2, .int l2)] [] σ := by
  unfold f_X7_gain at h
  refine gx_iload_n 1 dX7_gain_0 rfl rfl ?_
  refine gx_iconst (v := (4 : Int32)) dX7_gain_1 ic_4 ?_
  obtain ⟨q1, hq1, h⟩ := bnd h
  refine gx_cSNI (As := [.int l1, .int (4 : Int32)]) (st := []) dX7_gain_2 (c_X10_isBelow hq1) mos_X10_isBelow (by decide) rfl ⟨Nat.le_of_ble_eq_true rfl, Nat.le_of_ble_eq_true rfl⟩ (Nat.le_of_ble_eq_true rfl) ?_
  refine gx_if_eq 31 dX7_gain_5 (by decide) (fun c1 => ?_) (fun c1 => ?_)
  · rw [if_pos c1] at h
    exact gx_sub [] rfl (s_X7_gain_31  h)
  · rw [if_neg c1] at h
    refine gx_iload_n 2 dX7_gain_8 rfl rfl ?_
    refine gx_bipush (v := (8 : Int32)) dX7_gain_9 ib_8 ?_
    obtain ⟨q3, hq3, h⟩ := bnd h
    refine gx_cSNI (As := [.int l2, .int (8 : Int32)]) (st := []) dX7_gain_11 (c_X10_isBelow hq3) mos_X10_isBelow (by decide) rfl ⟨Nat.le_of_ble_eq_true rfl, Nat.le_of_ble_eq_true rfl⟩ (Nat.le_of_ble_eq_true rfl) ?_
    refine gx_if_eq 31 dX7_gain_14 (by decide) (fun c3 => ?_) (fun c3 => ?_)
    · rw [if_pos c3] at h
      exact gx_sub [] rfl (s_X7_gain_31  h)
    · rw [if_neg c3] at h
      refine gx_aload_n 0 dX7_gain_17 rfl rfl ?_
      obtain ⟨a5, ha5, h⟩ := bnd h
      refine gx_getN dX7_gain_18 ha5 fl_X7_49 rfl ?_
      refine gx_iload_n 1 dX7_gain_21 rfl rfl ?_
      refine gx_bipush (v := (8 : Int32)) dX7_gain_22 ib_8 ?_
      refine gx_imul dX7_gain_24 ?_
      refine gx_iload_n 2 dX7_gain_25 rfl rfl ?_
      refine gx_iadd dX7_gain_26 ?_
      obtain ⟨x6, hx6, h⟩ := bnd h
      refine gx_iald (kd := 13) dX7_gain_27 hx6 rfl rfl ?_
      refine gx_goto 32 dX7_gain_28 (by decide) ?_
      exact gx_sub [] rfl (s_X7_gain_32  h)
theorem c_X7_gain {Γ : Cn} {τ : Mm} {N : Nat} {l0 : Nat} {l1 : Int32} {l2 : Int32} {σ : Mm} {o : Int32 × Mm} (h : f_X7_gain N l0 l1 l2 σ = some o) : Ct Γ M_X7_gain yX7_gain 0 τ [.ref (Γ.B + pp l0), .int l1, .int l2] σ (PI o) := ct_of (by decide) rfl (fun _ => by first | rfl | contradiction) (Nat.le_of_ble_eq_true rfl) (s_X7_gain_0  h)
abbrev M_X7_setGain : Ms := (cX7_setGain, RX7, 4, none, false, 0, 0, 1)
def f_X7_setGain_29 (N : Nat) (σ : Mm) : Option Mm :=
  some σ
def f_X7_setGain (N : Nat) (l0 : Nat) (l1 : Int32) (l2 : Int32) (l3 : Int32) (σ : Mm) : Option Mm :=
  (f_X10_isBelow N l1 (4 : Int32) σ).bind fun q1 =>
  if q1.1 = 0 then (
    f_X7_setGain_29 N q1.2) else (
    (f_X10_isBelow N l2 (8 : Int32) q1.2).bind fun q3 =>
    if q3.1 = 0 then (
      f_X7_setGain_29 N q3.2) else (
      (gN 7 12 q3.2 l0).bind fun a5 =>
      (sI 13 q3.2 a5 ((l1 * (8 : Int32)) + l2) l3).bind fun s6 =>
      f_X7_setGain_29 N s6))
theorem mov_X7_setGain : MOV yX7_setGain M_X7_setGain 3 7 0 := ⟨⟨tw_102, tw_613, ⟨by decide, by decide⟩, by decide +kernel⟩, tw_611, tw_612, by decide, ⟨_, rfl, rfl⟩, rfl⟩
set_option maxRecDepth 4000 in
theorem s_X7_setGain_29 {Γ : Cn} {τ : Mm} {N : Nat} {σ : Mm} {o : Mm} (h : f_X7_setGain_29 N σ = some o) : Gx Γ M_X7_setGain 0 τ (PV o) 0 0 29 [] [] σ := by
  unfold f_X7_setGain_29 at h
  have h := Option.some.inj h
  subst h
  exact gx_vret dX7_setGain_29 rfl (Nat.le_of_ble_eq_true rfl) (Nat.le_of_ble_eq_true rfl) ⟨rfl, rfl⟩
set_option maxRecDepth 4000 in
theorem s_X7_setGain_0 {Γ : Cn} {τ : Mm} {N : Nat} {l0 : Nat} {l1 : Int32} {l2 : Int32} {l3 : Int32} {σ : Mm} {o : Mm} (h : f_X7_setGain N l0 l1 l2 l3 σ = some o) : Gx Γ M_X7_setGain 0 τ (PV o) 0 0 0 [(0, .ref (Γ.B + pp l0)), (1, .int l1), (2, .int l2), (3, .int l3)] [] σ := by
  unfold f_X7_setGain at h
  refine gx_iload_n 1 dX7_setGain_0 rfl rfl ?_
  refine gx_iconst (v := (4 : Int32)) dX7_setGain_1 ic_4 ?_
  obtain ⟨q1, hq1, h⟩ := bnd h
  refine gx_cSNI (As := [.int l1, .int (4 : Int32)]) (st := []) dX7_setGain_2 (c_X10_isBelow hq1) mos_X10_isBelow (by decide) rfl ⟨Nat.le_of_ble_eq_true rfl, Nat.le_of_ble_eq_true rfl⟩ (Nat.le_of_ble_eq_true rfl) ?_
  refine gx_if_eq 29 dX7_setGain_5 (by decide) (fun c1 => ?_) (fun c1 => ?_)
  · rw [if_pos c1] at h
    exact gx_sub [] rfl (s_X7_setGain_29  h)
  · rw [if_neg c1] at h
    refine gx_iload_n 2 dX7_setGain_8 rfl rfl ?_
    refine gx_bipush (v := (8 : Int32)) dX7_setGain_9 ib_8 ?_
    obtain ⟨q3, hq3, h⟩ := bnd h
    refine gx_cSNI (As := [.int l2, .int (8 : Int32)]) (st := []) dX7_setGain_11 (c_X10_isBelow hq3) mos_X10_isBelow (by decide) rfl ⟨Nat.le_of_ble_eq_true rfl, Nat.le_of_ble_eq_true rfl⟩ (Nat.le_of_ble_eq_true rfl) ?_
    refine gx_if_eq 29 dX7_setGain_14 (by decide) (fun c3 => ?_) (fun c3 => ?_)
    · rw [if_pos c3] at h
      exact gx_sub [] rfl (s_X7_setGain_29  h)
    · rw [if_neg c3] at h
      refine gx_aload_n 0 dX7_setGain_17 rfl rfl ?_
      obtain ⟨a5, ha5, h⟩ := bnd h
      refine gx_getN dX7_setGain_18 ha5 fl_X7_49 rfl ?_
      refine gx_iload_n 1 dX7_setGain_21 rfl rfl ?_
      refine gx_bipush (v := (8 : Int32)) dX7_setGain_22 ib_8 ?_
      refine gx_imul dX7_setGain_24 ?_
      refine gx_iload_n 2 dX7_setGain_25 rfl rfl ?_
      refine gx_iadd dX7_setGain_26 ?_
      refine gx_iload_n 3 dX7_setGain_27 rfl rfl ?_
      obtain ⟨s6, hs6, h⟩ := bnd h
      refine gx_iast (kd := 13) dX7_setGain_28 hs6 rfl rfl ?_
      exact gx_sub [] rfl (s_X7_setGain_29  h)
theorem c_X7_setGain {Γ : Cn} {τ : Mm} {N : Nat} {l0 : Nat} {l1 : Int32} {l2 : Int32} {l3 : Int32} {σ : Mm} {o : Mm} (h : f_X7_setGain N l0 l1 l2 l3 σ = some o) : Ct Γ M_X7_setGain yX7_setGain 0 τ [.ref (Γ.B + pp l0), .int l1, .int l2, .int l3] σ (PV o) := ct_of (by decide) rfl (fun _ => by first | rfl | contradiction) (Nat.le_of_ble_eq_true rfl) (s_X7_setGain_0  h)
abbrev M_X7_ageOfAll : Ms := (cX7_ageOfAll, RX7, 3, (some .int), false, 0, 0, 0)
def f_X7_ageOfAll_33 (N : Nat) (l1 : Int32) (σ : Mm) : Option (Int32 × Mm) :=
  some (l1, σ)
def f_X7_ageOfAll_4 (N : Nat) : Nat → Nat → Int32 → Int32 → Mm → Option (Int32 × Mm)
  | 0, _, _, _, _ => none
  | n + 1, l0, l1, l2, σ =>
      (gI 7 0 σ l0).bind fun x1 =>
      if x1 ≤ l2 then (
        f_X7_ageOfAll_33 N l1 σ) else (
        if (12 : Int32) ≤ l2 then (
          f_X7_ageOfAll_33 N l1 σ) else (
          (gN 7 4 σ l0).bind fun a4 =>
          (aI 13 σ a4 l2).bind fun x5 =>
          f_X7_ageOfAll_4 N n l0 (l1 + x5) (l2 + (1 : Int32)) σ))
def f_X7_ageOfAll (N : Nat) (l0 : Nat) (σ : Mm) : Option (Int32 × Mm) :=
  f_X7_ageOfAll_4 N N l0 (0 : Int32) (0 : Int32) σ
theorem mov_X7_ageOfAll : MOV yX7_ageOfAll M_X7_ageOfAll 0 7 0 := ⟨⟨tw_102, tw_1017, ⟨by decide, by decide⟩, by decide +kernel⟩, tw_1015, tw_1016, by decide, ⟨_, rfl, rfl⟩, rfl⟩
set_option maxRecDepth 4000 in
theorem s_X7_ageOfAll_33 {Γ : Cn} {τ : Mm} {N : Nat} {l1 : Int32} {σ : Mm} {o : Int32 × Mm} (h : f_X7_ageOfAll_33 N l1 σ = some o) : Gx Γ M_X7_ageOfAll 0 τ (PI o) 0 0 33 [(1, .int l1)] [] σ := by
  unfold f_X7_ageOfAll_33 at h
  refine gx_iload_n 0 dX7_ageOfAll_33 rfl rfl ?_
  have h := Option.some.inj h
  subst h
  exact gx_iret dX7_ageOfAll_34 rfl (Nat.le_of_ble_eq_true rfl) (Nat.le_of_ble_eq_true rfl) ⟨rfl, rfl⟩
set_option maxRecDepth 4000 in
theorem s_X7_ageOfAll_4 {Γ : Cn} {τ : Mm} {N : Nat} : ∀ (n : Nat) (l0 : Nat) (l1 : Int32) (l2 : Int32) (σ : Mm) (o : Int32 × Mm), f_X7_ageOfAll_4 N n l0 l1 l2 σ = some o → Gx Γ M_X7_ageOfAll 0 τ (PI o) 0 0 4 [(0, .ref (Γ.B + pp l0)), (1, .int l1), (2, .int l2)] [] σ := by
  intro n
  induction n with
  | zero =>
    intro l0 l1 l2 σ o h
    exact absurd h (by rw [f_X7_ageOfAll_4]; exact fun q => nomatch q)
  | succ n ih =>
    intro l0 l1 l2 σ o h
    rw [f_X7_ageOfAll_4] at h
    refine gx_iload_n 2 dX7_ageOfAll_4 rfl rfl ?_
    refine gx_aload_n 0 dX7_ageOfAll_5 rfl rfl ?_
    obtain ⟨x1, hx1, h⟩ := bnd h
    refine gx_getI dX7_ageOfAll_6 hx1 fl_X7_9 rfl ?_
    refine gx_icmp_ge 33 dX7_ageOfAll_9 (by decide) (fun c1 => ?_) (fun c1 => ?_)
    · rw [if_pos c1] at h
      exact gx_sub [1] rfl (s_X7_ageOfAll_33  h)
    · rw [if_neg c1] at h
      refine gx_iload_n 2 dX7_ageOfAll_12 rfl rfl ?_
      refine gx_bipush (v := (12 : Int32)) dX7_ageOfAll_13 ib_12 ?_
      refine gx_icmp_ge 33 dX7_ageOfAll_15 (by decide) (fun c2 => ?_) (fun c2 => ?_)
      · rw [if_pos c2] at h
        exact gx_sub [1] rfl (s_X7_ageOfAll_33  h)
      · rw [if_neg c2] at h
        refine gx_iload_n 1 dX7_ageOfAll_18 rfl rfl ?_
        refine gx_aload_n 0 dX7_ageOfAll_19 rfl rfl ?_
        obtain ⟨a4, ha4, h⟩ := bnd h
        refine gx_getN dX7_ageOfAll_20 ha4 fl_X7_25 rfl ?_
        refine gx_iload_n 2 dX7_ageOfAll_23 rfl rfl ?_
        obtain ⟨x5, hx5, h⟩ := bnd h
        refine gx_iald (kd := 13) dX7_ageOfAll_24 hx5 rfl rfl ?_
        refine gx_iadd dX7_ageOfAll_25 ?_
        refine gx_istore_n (lv' := [(1, .int (l1 + x5)), (0, .ref (Γ.B + pp l0)), (2, .int l2)]) dX7_ageOfAll_26 rfl (Nat.le_of_ble_eq_true rfl) rfl ?_
        refine gx_iinc (v := (l2 + (1 : Int32))) (lv' := [(2, .int (l2 + (1 : Int32))), (1, .int (l1 + x5)), (0, .ref (Γ.B + pp l0))]) 2 dX7_ageOfAll_27 rfl (by rw [ic_1]) (Nat.le_of_ble_eq_true rfl) rfl ?_
        refine gx_goto 4 dX7_ageOfAll_30 (by decide) ?_
        exact gx_sub [2, 1, 0] rfl (ih _ _ _ _ _ h)
set_option maxRecDepth 4000 in
theorem s_X7_ageOfAll_0 {Γ : Cn} {τ : Mm} {N : Nat} {l0 : Nat} {σ : Mm} {o : Int32 × Mm} (h : f_X7_ageOfAll N l0 σ = some o) : Gx Γ M_X7_ageOfAll 0 τ (PI o) 0 0 0 [(0, .ref (Γ.B + pp l0))] [] σ := by
  unfold f_X7_ageOfAll at h
  refine gx_iconst (v := (0 : Int32)) dX7_ageOfAll_0 ic_0 ?_
  refine gx_istore_n (lv' := [(1, .int (0 : Int32)), (0, .ref (Γ.B + pp l0))]) dX7_ageOfAll_1 rfl (Nat.le_of_ble_eq_true rfl) rfl ?_
  refine gx_iconst (v := (0 : Int32)) dX7_ageOfAll_2 ic_0 ?_
  refine gx_istore_n (lv' := [(2, .int (0 : Int32)), (1, .int (0 : Int32)), (0, .ref (Γ.B + pp l0))]) dX7_ageOfAll_3 rfl (Nat.le_of_ble_eq_true rfl) rfl ?_
  exact gx_sub [2, 1, 0] rfl (s_X7_ageOfAll_4  N _ _ _ _ _ h)
theorem c_X7_ageOfAll {Γ : Cn} {τ : Mm} {N : Nat} {l0 : Nat} {σ : Mm} {o : Int32 × Mm} (h : f_X7_ageOfAll N l0 σ = some o) : Ct Γ M_X7_ageOfAll yX7_ageOfAll 0 τ [.ref (Γ.B + pp l0)] σ (PI o) := ct_of (by decide) rfl (fun _ => by first | rfl | contradiction) (Nat.le_of_ble_eq_true rfl) (s_X7_ageOfAll_0  h)
abbrev M_X7_cocksOf : Ms := (cX7_cocksOf, RX7, 4, (some .int), false, 0, 0, 0)
def f_X7_cocksOf_34 (N : Nat) (r_4 : Nat → Int32 → Int32 → Int32 → Mm → Option (Int32 × Mm)) (l0 : Nat) (l1 : Int32) (l2 : Int32) (l3 : Int32) (σ : Mm) : Option (Int32 × Mm) :=
  r_4 l0 l1 l2 (l3 + (1 : Int32)) σ
def f_X7_cocksOf_40 (N : Nat) (l2 : Int32) (σ : Mm) : Option (Int32 × Mm) :=
  some (l2, σ)
def f_X7_cocksOf_4 (N : Nat) : Nat → Nat → Int32 → Int32 → Int32 → Mm → Option (Int32 × Mm)
  | 0, _, _, _, _, _ => none
  | n + 1, l0, l1, l2, l3, σ =>
      (gI 7 0 σ l0).bind fun x1 =>
      if x1 ≤ l3 then (
        f_X7_cocksOf_40 N l2 σ) else (
        if (12 : Int32) ≤ l3 then (
          f_X7_cocksOf_40 N l2 σ) else (
          (gN 7 5 σ l0).bind fun a4 =>
          (aI 13 σ a4 l3).bind fun x5 =>
          if x5 = l1 then (
            f_X7_cocksOf_34 N (f_X7_cocksOf_4 N n) l0 l1 (l2 ||| ((1 : Int32) <<< (l3 &&& 31))) l3 σ) else (
            f_X7_cocksOf_34 N (f_X7_cocksOf_4 N n) l0 l1 l2 l3 σ)))
def f_X7_cocksOf (N : Nat) (l0 : Nat) (l1 : Int32) (σ : Mm) : Option (Int32 × Mm) :=
  f_X7_cocksOf_4 N N l0 l1 (0 : Int32) (0 : Int32) σ
theorem mov_X7_cocksOf : MOV yX7_cocksOf M_X7_cocksOf 1 7 0 := ⟨⟨tw_102, tw_971, ⟨by decide, by decide⟩, by decide +kernel⟩, tw_969, tw_970, by decide, ⟨_, rfl, rfl⟩, rfl⟩
set_option maxRecDepth 4000 in
theorem s_X7_cocksOf_34 {Γ : Cn} {τ : Mm} {N : Nat} {r_4 : Nat → Int32 → Int32 → Int32 → Mm → Option (Int32 × Mm)} (hr_4 : ∀ (l0 : Nat) (l1 : Int32) (l2 : Int32) (l3 : Int32) (σ : Mm) (o : Int32 × Mm), r_4 l0 l1 l2 l3 σ = some o → Gx Γ M_X7_cocksOf 0 τ (PI o) 0 0 4 [(0, .ref (Γ.B + pp l0)), (1, .int l1), (2, .int l2), (3, .int l3)] [] σ) {l0 : Nat} {l1 : Int32} {l2 : Int32} {l3 : Int32} {σ : Mm} {o : Int32 × Mm} (h : f_X7_cocksOf_34 N r_4 l0 l1 l2 l3 σ = some o) : Gx Γ M_X7_cocksOf 0 τ (PI o) 0 0 34 [(0, .ref (Γ.B + pp l0)), (1, .int l1), (2, .int l2), (3, .int l3)] [] σ := by
  unfold f_X7_cocksOf_34 at h
  refine gx_iinc (v := (l3 + (1 : Int32))) (lv' := [(3, .int (l3 + (1 : Int32))), (0, .ref (Γ.B + pp l0)), (1, .int l1), (2, .int l2)]) 3 dX7_cocksOf_34 rfl (by rw [ic_1]) (Nat.le_of_ble_eq_true rfl) rfl ?_
  refine gx_goto 4 dX7_cocksOf_37 (by decide) ?_
  exact gx_sub [1, 2, 3, 0] rfl (hr_4 _ _ _ _ _ _ h)
set_option maxRecDepth 4000 in
theorem s_X7_cocksOf_40 {Γ : Cn} {τ : Mm} {N : Nat} {l2 : Int32} {σ : Mm} {o : Int32 × Mm} (h : f_X7_cocksOf_40 N l2 σ = some o) : Gx Γ M_X7_cocksOf 0 τ (PI o) 0 0 40 [(2, .int l2)] [] σ := by
  unfold f_X7_cocksOf_40 at h
  refine gx_iload_n 0 dX7_cocksOf_40 rfl rfl ?_
  have h := Option.some.inj h
  subst h
  exact gx_iret dX7_cocksOf_41 rfl (Nat.le_of_ble_eq_true rfl) (Nat.le_of_ble_eq_true rfl) ⟨rfl, rfl⟩
set_option maxRecDepth 4000 in
theorem s_X7_cocksOf_4 {Γ : Cn} {τ : Mm} {N : Nat} : ∀ (n : Nat) (l0 : Nat) (l1 : Int32) (l2 : Int32) (l3 : Int32) (σ : Mm) (o : Int32 × Mm), f_X7_cocksOf_4 N n l0 l1 l2 l3 σ = some o → Gx Γ M_X7_cocksOf 0 τ (PI o) 0 0 4 [(0, .ref (Γ.B + pp l0)), (1, .int l1), (2, .int l2), (3, .int l3)] [] σ := by
  intro n
  induction n with
  | zero =>
    intro l0 l1 l2 l3 σ o h
    exact absurd h (by rw [f_X7_cocksOf_4]; exact fun q => nomatch q)
  | succ n ih =>
    intro l0 l1 l2 l3 σ o h
    rw [f_X7_cocksOf_4] at h
    refine gx_iload_n 3 dX7_cocksOf_4 rfl rfl ?_
    refine gx_aload_n 0 dX7_cocksOf_5 rfl rfl ?_
    obtain ⟨x1, hx1, h⟩ := bnd h
    refine gx_getI dX7_cocksOf_6 hx1 fl_X7_9 rfl ?_
    refine gx_icmp_ge 40 dX7_cocksOf_9 (by decide) (fun c1 => ?_) (fun c1 => ?_)
    · rw [if_pos c1] at h
      exact gx_sub [2] rfl (s_X7_cocksOf_40  h)
    · rw [if_neg c1] at h
      refine gx_iload_n 3 dX7_cocksOf_12 rfl rfl ?_
      refine gx_bipush (v := (12 : Int32)) dX7_cocksOf_13 ib_12 ?_
      refine gx_icmp_ge 40 dX7_cocksOf_15 (by decide) (fun c2 => ?_) (fun c2 => ?_)
      · rw [if_pos c2] at h
        exact gx_sub [2] rfl (s_X7_cocksOf_40  h)
      · rw [if_neg c2] at h
        refine gx_aload_n 0 dX7_cocksOf_18 rfl rfl ?_
        obtain ⟨a4, ha4, h⟩ := bnd h
        refine gx_getN dX7_cocksOf_19 ha4 fl_X7_28 rfl ?_
        refine gx_iload_n 3 dX7_cocksOf_22 rfl rfl ?_
        obtain ⟨x5, hx5, h⟩ := bnd h
        refine gx_iald (kd := 13) dX7_cocksOf_23 hx5 rfl rfl ?_
        refine gx_iload_n 1 dX7_cocksOf_24 rfl rfl ?_
        refine gx_icmp_ne 34 dX7_cocksOf_25 (by decide) (fun c5 => ?_) (fun c5 => ?_)
        · rw [if_neg c5] at h
          exact s_X7_cocksOf_34 ih h
        · rw [if_pos c5] at h
          refine gx_iload_n 2 dX7_cocksOf_28 rfl rfl ?_
          refine gx_iconst (v := (1 : Int32)) dX7_cocksOf_29 ic_1 ?_
          refine gx_iload_n 3 dX7_cocksOf_30 rfl rfl ?_
          refine gx_ishl dX7_cocksOf_31 ?_
          refine gx_ior dX7_cocksOf_32 ?_
          refine gx_istore_n (lv' := [(2, .int (l2 ||| ((1 : Int32) <<< (l3 &&& 31)))), (0, .ref (Γ.B + pp l0)), (1, .int l1), (3, .int l3)]) dX7_cocksOf_33 rfl (Nat.le_of_ble_eq_true rfl) rfl ?_
          exact gx_sub [1, 2, 0, 3] rfl (s_X7_cocksOf_34 ih h)
set_option maxRecDepth 4000 in
theorem s_X7_cocksOf_0 {Γ : Cn} {τ : Mm} {N : Nat} {l0 : Nat} {l1 : Int32} {σ : Mm} {o : Int32 × Mm} (h : f_X7_cocksOf N l0 l1 σ = some o) : Gx Γ M_X7_cocksOf 0 τ (PI o) 0 0 0 [(0, .ref (Γ.B + pp l0)), (1, .int l1)] [] σ := by
  unfold f_X7_cocksOf at h
  refine gx_iconst (v := (0 : Int32)) dX7_cocksOf_0 ic_0 ?_
  refine gx_istore_n (lv' := [(2, .int (0 : Int32)), (0, .ref (Γ.B + pp l0)), (1, .int l1)]) dX7_cocksOf_1 rfl (Nat.le_of_ble_eq_true rfl) rfl ?_
  refine gx_iconst (v := (0 : Int32)) dX7_cocksOf_2 ic_0 ?_
  refine gx_istore_n (lv' := [(3, .int (0 : Int32)), (2, .int (0 : Int32)), (0, .ref (Γ.B + pp l0)), (1, .int l1)]) dX7_cocksOf_3 rfl (Nat.le_of_ble_eq_true rfl) rfl ?_
  exact gx_sub [2, 3, 1, 0] rfl (s_X7_cocksOf_4  N _ _ _ _ _ _ h)
theorem c_X7_cocksOf {Γ : Cn} {τ : Mm} {N : Nat} {l0 : Nat} {l1 : Int32} {σ : Mm} {o : Int32 × Mm} (h : f_X7_cocksOf N l0 l1 σ = some o) : Ct Γ M_X7_cocksOf yX7_cocksOf 0 τ [.ref (Γ.B + pp l0), .int l1] σ (PI o) := ct_of (by decide) rfl (fun _ => by first | rfl | contradiction) (Nat.le_of_ble_eq_true rfl) (s_X7_cocksOf_0  h)
abbrev M_X8_init : Ms := (cX8_init, RX8, 2, none, true, 0, 0, 1)
def f_X8_init (N : Nat) (l0 : Nat) (l1 : Nat) (σ : Mm) : Option Mm :=
  (pI 8 1 σ l0 (0 : Int32)).bind fun s1 =>
  (pR 8 0 s1 l0 (some l1)).bind fun s2 =>
  some s2
theorem moi_X8_init : MOI yX8_init M_X8_init 1 := ⟨⟨tw_99, tw_169, ⟨by decide, by decide⟩, by decide +kernel⟩, tw_168, rfl, rfl⟩
set_option maxRecDepth 4000 in
theorem s_X8_init_0 {Γ : Cn} {τ : Mm} {N : Nat} {l0 : Nat} {l1 : Nat} {σ : Mm} {o : Mm} (h : f_X8_init N l0 l1 σ = some o) : Gx Γ M_X8_init 0 τ (PV o) 0 0 0 [(0, .ref (Γ.B + pp l0)), (1, .ref (Γ.B + pp l1))] [] σ := by
  unfold f_X8_init at h
  refine gx_aload_n 0 dX8_init_0 rfl rfl ?_
  refine gx_objInit dX8_init_1 tw_170 tw_oi tw_oc (Nat.le_of_ble_eq_true rfl) (Nat.le_of_ble_eq_true rfl) ?_
  refine gx_aload_n 0 dX8_init_4 rfl rfl ?_
  refine gx_iconst (v := (0 : Int32)) dX8_init_5 ic_0 ?_
  obtain ⟨s1, hs1, h⟩ := bnd h
  refine gx_putI dX8_init_6 hs1 fl_X8_9 fp_X8_8_1 rfl ?_
  refine gx_aload_n 0 dX8_init_9 rfl rfl ?_
  refine gx_aload_n 1 dX8_init_10 rfl rfl ?_
  obtain ⟨s2, hs2, h⟩ := bnd h
  refine gx_putR (r := (some l1)) dX8_init_11 hs2 fl_X8_15 fp_X8_8_0 (Or.inl ⟨_, rfl⟩) (fun _ => rfl) rfl ?_
  have h := Option.some.inj h
  subst h
  exact gx_vret dX8_init_14 rfl (Nat.le_of_ble_eq_true rfl) (Nat.le_of_ble_eq_true rfl) ⟨rfl, rfl⟩
theorem c_X8_init {Γ : Cn} {τ : Mm} {N : Nat} {l0 : Nat} {l1 : Nat} {σ : Mm} {o : Mm} (h : f_X8_init N l0 l1 σ = some o) : Ct Γ M_X8_init yX8_init 0 τ [.ref (Γ.B + pp l0), .ref (Γ.B + pp l1)] σ (PV o) := ct_of (by decide) rfl (fun _ => by first | rfl | contradiction) (Nat.le_of_ble_eq_true rfl) (s_X8_init_0  h)
abbrev M_X8_readsNumber : Ms := (cX8_readsNumber, RX8, 2, (some .boolean), false, 0, 0, 1)
def f_X8_readsNumber_46 (N : Nat) (l0 : Nat) (σ : Mm) : Option (Int32 × Mm) :=
  (gN 8 0 σ l0).bind fun a1 =>
  (ob 6 σ a1).bind fun _ =>
  (f_X6_fails N a1 (1 : Int32) σ).bind fun q2 =>
  if q2.1 = 0 ∨ q2.1 = 1 then some (q2.1, q2.2) else none
def f_X8_readsNumber (N : Nat) (l0 : Nat) (l1 : Int32) (σ : Mm) : Option (Int32 × Mm) :=
  (gN 8 0 σ l0).bind fun a1 =>
  (ob 6 σ a1).bind fun _ =>
  (f_X6_kind N a1 σ).bind fun q2 =>
  if q2.1 = (3 : Int32) then (
    (gN 8 0 q2.2 l0).bind fun a4 =>
    (ob 6 q2.2 a4).bind fun _ =>
    (f_X6_value N a4 q2.2).bind fun q5 =>
    (pI 8 1 q5.2 l0 q5.1).bind fun s6 =>
    (gI 8 1 s6 l0).bind fun x7 =>
    if x7 < 0 then (
      f_X8_readsNumber_46 N l0 s6) else (
      (gI 8 1 s6 l0).bind fun x9 =>
      if x9 ≤ l1 then (
        (gN 8 0 s6 l0).bind fun a11 =>
        (ob 6 s6 a11).bind fun _ =>
        (f_X6_skip N a11 s6).bind fun q12 =>
        some ((1 : Int32), q12)) else (
        f_X8_readsNumber_46 N l0 s6))) else (
    (gN 8 0 q2.2 l0).bind fun a13 =>
    (ob 6 q2.2 a13).bind fun _ =>
    (f_X6_fails N a13 (0 : Int32) q2.2).bind fun q14 =>
    if q14.1 = 0 ∨ q14.1 = 1 then some (q14.1, q14.2) else none)
theorem mov_X8_readsNumber : MOV yX8_readsNumber M_X8_readsNumber 1 8 0 := ⟨⟨tw_99, tw_597, ⟨by decide, by decide⟩, by decide +kernel⟩, tw_596, tw_8, by decide, ⟨_, rfl, rfl⟩, rfl⟩
set_option maxRecDepth 4000 in
theorem s_X8_readsNumber_46 {Γ : Cn} {τ : Mm} {N : Nat} {l0 : Nat} {σ : Mm} {o : Int32 × Mm} (h : f_X8_readsNumber_46 N l0 σ = some o) : Gx Γ M_X8_readsNumber 0 τ (PI o) 0 0 46 [(0, .ref (Γ.B + pp l0))] [] σ := by
  unfold f_X8_readsNumber_46 at h
  refine gx_aload_n 0 dX8_readsNumber_46 rfl rfl ?_
  obtain ⟨a1, ha1, h⟩ := bnd h
  refine gx_getN dX8_readsNumber_47 ha1 fl_X8_15 rfl ?_
  refine gx_iconst (v := (1 : Int32)) dX8_readsNumber_50 ic_1 ?_
  obtain ⟨_, hobq2, h⟩ := bnd h
  obtain ⟨q2, hq2, h⟩ := bnd h
  refine gx_cVI (As := [.int (1 : Int32)]) (st := []) (o := a1) dX8_readsNumber_51 (c_X6_fails hq2) mov_X6_fails tw_578 hobq2 rfl ⟨Nat.le_of_ble_eq_true rfl, Nat.le_of_ble_eq_true rfl⟩ (Nat.le_of_ble_eq_true rfl) ?_
  obtain ⟨hz, h⟩ := of_if h
  have h := Option.some.inj h
  subst h
  exact gx_zret dX8_readsNumber_54 rfl (nar_z hz) (Nat.le_of_ble_eq_true rfl) (Nat.le_of_ble_eq_true rfl) ⟨rfl, rfl⟩
set_option maxRecDepth 4000 in
theorem s_X8_readsNumber_0 {Γ : Cn} {τ : Mm} {N : Nat} {l0 : Nat} {l1 : Int32} {σ : Mm} {o : Int32 × Mm} (h : f_X8_readsNumber N l0 l1 σ = some o) : Gx Γ M_X8_readsNumber 0 τ (PI o) 0 0 0 [(0, .ref (Γ.B + pp l0)), (1, .int l1)] [] σ := by
  unfold f_X8_readsNumber at h
  refine gx_aload_n 0 dX8_readsNumber_0 rfl rfl ?_
  obtain ⟨a1, ha1, h⟩ := bnd h
  refine gx_getN dX8_readsNumber_1 ha1 fl_X8_15 rfl ?_
  obtain ⟨_, hobq2, h⟩ := bnd h
  obtain ⟨q2, hq2, h⟩ := bnd h
  refine gx_cVI (As := []) (st := []) (o := a1) dX8_readsNumber_4 (c_X6_kind hq2) mov_X6_kind tw_574 hobq2 rfl ⟨Nat.le_of_ble_eq_true rfl, Nat.le_of_ble_eq_true rfl⟩ (Nat.le_of_ble_eq_true rfl) ?_
  refine gx_iconst (v := (3 : Int32)) dX8_readsNumber_7 ic_3 ?_
  refine gx_icmp_eq 20 dX8_readsNumber_8 (by decide) (fun c2 => ?_) (fun c2 => ?_)
  · rw [if_pos c2] at h
    refine gx_aload_n 0 dX8_readsNumber_20 rfl rfl ?_
    refine gx_aload_n 0 dX8_readsNumber_21 rfl rfl ?_
    obtain ⟨a4, ha4, h⟩ := bnd h
    refine gx_getN dX8_readsNumber_22 ha4 fl_X8_15 rfl ?_
    obtain ⟨_, hobq5, h⟩ := bnd h
    obtain ⟨q5, hq5, h⟩ := bnd h
    refine gx_cVI (As := []) (st := [.ref (Γ.B + pp l0)]) (o := a4) dX8_readsNumber_25 (c_X6_value hq5) mov_X6_value tw_598 hobq5 rfl ⟨Nat.le_of_ble_eq_true rfl, Nat.le_of_ble_eq_true rfl⟩ (Nat.le_of_ble_eq_true rfl) ?_
    obtain ⟨s6, hs6, h⟩ := bnd h
    refine gx_putI dX8_readsNumber_28 hs6 fl_X8_9 fp_X8_8_1 rfl ?_
    refine gx_aload_n 0 dX8_readsNumber_31 rfl rfl ?_
    obtain ⟨x7, hx7, h⟩ := bnd h
    refine gx_getI dX8_readsNumber_32 hx7 fl_X8_9 rfl ?_
    refine gx_if_lt 46 dX8_readsNumber_35 (by decide) (fun c7 => ?_) (fun c7 => ?_)
    · rw [if_pos c7] at h
      exact gx_sub [0] rfl (s_X8_readsNumber_46  h)
    · rw [if_neg c7] at h
      refine gx_aload_n 0 dX8_readsNumber_38 rfl rfl ?_
      obtain ⟨x9, hx9, h⟩ := bnd h
      refine gx_getI dX8_readsNumber_39 hx9 fl_X8_9 rfl ?_
      refine gx_iload_n 1 dX8_readsNumber_42 rfl rfl ?_
      refine gx_icmp_le 55 dX8_readsNumber_43 (by decide) (fun c9 => ?_) (fun c9 => ?_)
      · rw [if_pos c9] at h
        refine gx_aload_n 0 dX8_readsNumber_55 rfl rfl ?_
        obtain ⟨a11, ha11, h⟩ := bnd h
        refine gx_getN dX8_readsNumber_56 ha11 fl_X8_15 rfl ?_
        obtain ⟨_, hobq12, h⟩ := bnd h
        obtain ⟨q12, hq12, h⟩ := bnd h
        refine gx_cVV (As := []) (st := []) (o := a11) dX8_readsNumber_59 (c_X6_skip hq12) mov_X6_skip tw_582 hobq12 rfl ⟨Nat.le_of_ble_eq_true rfl, Nat.le_of_ble_eq_true rfl⟩ (Nat.le_of_ble_eq_true rfl) ?_
        refine gx_iconst (v := (1 : Int32)) dX8_readsNumber_62 ic_1 ?_
        have h := Option.some.inj h
        subst h
        exact gx_zret dX8_readsNumber_63 rfl rfl (Nat.le_of_ble_eq_true rfl) (Nat.le_of_ble_eq_true rfl) ⟨rfl, rfl⟩
      · rw [if_neg c9] at h
        exact gx_sub [0] rfl (s_X8_readsNumber_46  h)
  · rw [if_neg c2] at h
    refine gx_aload_n 0 dX8_readsNumber_11 rfl rfl ?_
    obtain ⟨a13, ha13, h⟩ := bnd h
    refine gx_getN dX8_readsNumber_12 ha13 fl_X8_15 rfl ?_
    refine gx_iconst (v := (0 : Int32)) dX8_readsNumber_15 ic_0 ?_
    obtain ⟨_, hobq14, h⟩ := bnd h
    obtain ⟨q14, hq14, h⟩ := bnd h
    refine gx_cVI (As := [.int (0 : Int32)]) (st := []) (o := a13) dX8_readsNumber_16 (c_X6_fails hq14) mov_X6_fails tw_578 hobq14 rfl ⟨Nat.le_of_ble_eq_true rfl, Nat.le_of_ble_eq_true rfl⟩ (Nat.le_of_ble_eq_true rfl) ?_
    obtain ⟨hz, h⟩ := of_if h
    have h := Option.some.inj h
    subst h
    exact gx_zret dX8_readsNumber_19 rfl (nar_z hz) (Nat.le_of_ble_eq_true rfl) (Nat.le_of_ble_eq_true rfl) ⟨rfl, rfl⟩
theorem c_X8_readsNumber {Γ : Cn} {τ : Mm} {N : Nat} {l0 : Nat} {l1 : Int32} {σ : Mm} {o : Int32 × Mm} (h : f_X8_readsNumber N l0 l1 σ = some o) : Ct Γ M_X8_readsNumber yX8_readsNumber 0 τ [.ref (Γ.B + pp l0), .int l1] σ (PI o) := ct_of (by decide) rfl (fun _ => by first | rfl | contradiction) (Nat.le_of_ble_eq_true rfl) (s_X8_readsNumber_0  h)
abbrev M_X8_readsInto : Ms := (cX8_readsInto, RX8, 4, (some .boolean), false, 0, 0, 2)
def f_X8_readsInto_27 (N : Nat) (σ : Mm) : Option (Int32 × Mm) :=
  some ((1 : Int32), σ)
def f_X8_readsInto (N : Nat) (l0 : Nat) (l1 : Nat) (l2 : Int32) (l3 : Int32) (σ : Mm) : Option (Int32 × Mm) :=
  (ob 8 σ l0).bind fun _ =>
  (f_X8_readsNumber N l0 l3 σ).bind fun q1 =>
  if q1.1 = 0 then (
    some ((0 : Int32), q1.2)) else (
    if l2 < 0 then (
      f_X8_readsInto_27 N q1.2) else (
      (ln 0 q1.2 l1).bind fun x4 =>
      if x4 ≤ l2 then (
        f_X8_readsInto_27 N q1.2) else (
        (gI 8 1 q1.2 l0).bind fun x6 =>
        (sI 13 q1.2 l1 l2 x6).bind fun s7 =>
        f_X8_readsInto_27 N s7)))
theorem mov_X8_readsInto : MOV yX8_readsInto M_X8_readsInto 3 8 0 := ⟨⟨tw_99, tw_593, ⟨by decide, by decide⟩, by decide +kernel⟩, tw_592, tw_7, by decide, ⟨_, rfl, rfl⟩, rfl⟩
set_option maxRecDepth 4000 in
theorem s_X8_readsInto_27 {Γ : Cn} {τ : Mm} {N : Nat} {σ : Mm} {o : Int32 × Mm} (h : f_X8_readsInto_27 N σ = some o) : Gx Γ M_X8_readsInto 0 τ (PI o) 0 0 27 [] [] σ := by
  unfold f_X8_readsInto_27 at h
  refine gx_iconst (v := (1 : Int32)) dX8_readsInto_27 ic_1 ?_
  have h := Option.some.inj h
  subst h
  exact gx_zret dX8_readsInto_28 rfl rfl (Nat.le_of_ble_eq_true rfl) (Nat.le_of_ble_eq_true rfl) ⟨rfl, rfl⟩
set_option maxRecDepth 4000 in
theorem s_X8_readsInto_0 {Γ : Cn} {τ : Mm} {N : Nat} {l0 : Nat} {l1 : Nat} {l2 : Int32} {l3 : Int32} {σ : Mm} {o : Int32 × Mm} (h : f_X8_readsInto N l0 l1 l2 l3 σ = some o) : Gx Γ M_X8_readsInto 0 τ (PI o) 0 0 0 [(0, .ref (Γ.B + pp l0)), (1, .ref (Γ.B + pp l1)), (2, .int l2), (3, .int l3)] [] σ := by
  unfold f_X8_readsInto at h
  refine gx_aload_n 0 dX8_readsInto_0 rfl rfl ?_
  refine gx_iload_n 3 dX8_readsInto_1 rfl rfl ?_
  obtain ⟨_, hobq1, h⟩ := bnd h
  obtain ⟨q1, hq1, h⟩ := bnd h
  refine gx_cVI (As := [.int l3]) (st := []) (o := l0) dX8_readsInto_2 (c_X8_readsNumber hq1) mov_X8_readsNumber tw_594 hobq1 rfl ⟨Nat.le_of_ble_eq_true rfl, Nat.le_of_ble_eq_true rfl⟩ (Nat.le_of_ble_eq_true rfl) ?_
  refine gx_if_ne 10 dX8_readsInto_5 (by decide) (fun c1 => ?_) (fun c1 => ?_)
  · rw [if_neg c1] at h
    refine gx_iload_n 2 dX8_readsInto_10 rfl rfl ?_
    refine gx_if_lt 27 dX8_readsInto_11 (by decide) (fun c2 => ?_) (fun c2 => ?_)
    · rw [if_pos c2] at h
      exact gx_sub [] rfl (s_X8_readsInto_27  h)
    · rw [if_neg c2] at h
      refine gx_iload_n 2 dX8_readsInto_14 rfl rfl ?_
      refine gx_aload_n 1 dX8_readsInto_15 rfl rfl ?_
      obtain ⟨x4, hx4, h⟩ := bnd h
      refine gx_alen dX8_readsInto_16 hx4 ?_
      refine gx_icmp_ge 27 dX8_readsInto_17 (by decide) (fun c4 => ?_) (fun c4 => ?_)
      · rw [if_pos c4] at h
        exact gx_sub [] rfl (s_X8_readsInto_27  h)
      · rw [if_neg c4] at h
        refine gx_aload_n 1 dX8_readsInto_20 rfl rfl ?_
        refine gx_iload_n 2 dX8_readsInto_21 rfl rfl ?_
        refine gx_aload_n 0 dX8_readsInto_22 rfl rfl ?_
        obtain ⟨x6, hx6, h⟩ := bnd h
        refine gx_getI dX8_readsInto_23 hx6 fl_X8_9 rfl ?_
        obtain ⟨s7, hs7, h⟩ := bnd h
        refine gx_iast (kd := 13) dX8_readsInto_26 hs7 rfl rfl ?_
        exact gx_sub [] rfl (s_X8_readsInto_27  h)
  · rw [if_pos c1] at h
    refine gx_iconst (v := (0 : Int32)) dX8_readsInto_8 ic_0 ?_
    have h := Option.some.inj h
    subst h
    exact gx_zret dX8_readsInto_9 rfl rfl (Nat.le_of_ble_eq_true rfl) (Nat.le_of_ble_eq_true rfl) ⟨rfl, rfl⟩
theorem c_X8_readsInto {Γ : Cn} {τ : Mm} {N : Nat} {l0 : Nat} {l1 : Nat} {l2 : Int32} {l3 : Int32} {σ : Mm} {o : Int32 × Mm} (h : f_X8_readsInto N l0 l1 l2 l3 σ = some o) : Ct Γ M_X8_readsInto yX8_readsInto 0 τ [.ref (Γ.B + pp l0), .ref (Γ.B + pp l1), .int l2, .int l3] σ (PI o) := ct_of (by decide) rfl (fun _ => by first | rfl | contradiction) (Nat.le_of_ble_eq_true rfl) (s_X8_readsInto_0  h)
abbrev M_X8_readsCock : Ms := (cX8_readsCock, RX8, 3, (some .boolean), false, 0, 0, 3)
def f_X8_readsCock_88 (N : Nat) (σ : Mm) : Option (Int32 × Mm) :=
  some ((0 : Int32), σ)
def f_X8_readsCock (N : Nat) (l0 : Nat) (l1 : Nat) (σ : Mm) : Option (Int32 × Mm) :=
  (gI 7 0 σ l1).bind fun x1 =>
  (gN 7 1 σ l1).bind fun a2 =>
  (ob 8 σ l0).bind fun _ =>
  (f_X8_readsInto N l0 a2 x1 (9 : Int32) σ).bind fun q3 =>
  if q3.1 = 0 then (
    f_X8_readsCock_88 N q3.2) else (
    (gN 7 2 q3.2 l1).bind fun a5 =>
    (ob 8 q3.2 l0).bind fun _ =>
    (f_X8_readsInto N l0 a5 x1 (9 : Int32) q3.2).bind fun q6 =>
    if q6.1 = 0 then (
      f_X8_readsCock_88 N q6.2) else (
      (gN 7 3 q6.2 l1).bind fun a8 =>
      (ob 8 q6.2 l0).bind fun _ =>
      (f_X8_readsInto N l0 a8 x1 (9 : Int32) q6.2).bind fun q9 =>
      if q9.1 = 0 then (
        f_X8_readsCock_88 N q9.2) else (
        (gN 7 4 q9.2 l1).bind fun a11 =>
        (ob 8 q9.2 l0).bind fun _ =>
        (f_X8_readsInto N l0 a11 x1 (99 : Int32) q9.2).bind fun q12 =>
        if q12.1 = 0 then (
          f_X8_readsCock_88 N q12.2) else (
          (gN 7 5 q12.2 l1).bind fun a14 =>
          (ob 8 q12.2 l0).bind fun _ =>
          (f_X8_readsInto N l0 a14 x1 (3 : Int32) q12.2).bind fun q15 =>
          if q15.1 = 0 then (
            f_X8_readsCock_88 N q15.2) else (
            (gN 7 6 q15.2 l1).bind fun a17 =>
            (ob 8 q15.2 l0).bind fun _ =>
            (f_X8_readsInto N l0 a17 x1 (7 : Int32) q15.2).bind fun q18 =>
            if q18.1 = 0 then (
              f_X8_readsCock_88 N q18.2) else (
              (gI 7 0 q18.2 l1).bind fun x20 =>
              (pI 7 0 q18.2 l1 (x20 + (1 : Int32))).bind fun s21 =>
              some ((1 : Int32), s21)))))))
theorem mov_X8_readsCock : MOV yX8_readsCock M_X8_readsCock 1 8 0 := ⟨⟨tw_99, tw_589, ⟨by decide, by decide⟩, by decide +kernel⟩, tw_588, tw_6, by decide, ⟨_, rfl, rfl⟩, rfl⟩
set_option maxRecDepth 4000 in
theorem s_X8_readsCock_88 {Γ : Cn} {τ : Mm} {N : Nat} {σ : Mm} {o : Int32 × Mm} (h : f_X8_readsCock_88 N σ = some o) : Gx Γ M_X8_readsCock 0 τ (PI o) 0 0 88 [] [] σ := by
  unfold f_X8_readsCock_88 at h
  refine gx_iconst (v := (0 : Int32)) dX8_readsCock_88 ic_0 ?_
  have h := Option.some.inj h
  subst h
  exact gx_zret dX8_readsCock_89 rfl rfl (Nat.le_of_ble_eq_true rfl) (Nat.le_of_ble_eq_true rfl) ⟨rfl, rfl⟩
set_option maxRecDepth 4000 in
theorem s_X8_readsCock_0 {Γ : Cn} {τ : Mm} {N : Nat} {l0 : Nat} {l1 : Nat} {σ : Mm} {o : Int32 × Mm} (h : f_X8_readsCock N l0 l1 σ = some o) : Gx Γ M_X8_readsCock 0 τ (PI o) 0 0 0 [(0, .ref (Γ.B + pp l0)), (1, .ref (Γ.B + pp l1))] [] σ := by
  unfold f_X8_readsCock at h
  refine gx_aload_n 1 dX8_readsCock_0 rfl rfl ?_
  obtain ⟨x1, hx1, h⟩ := bnd h
  refine gx_getI dX8_readsCock_1 hx1 fl_X8_34 rfl ?_
  refine gx_istore_n (lv' := [(2, .int x1), (0, .ref (Γ.B + pp l0)), (1, .ref (Γ.B + pp l1))]) dX8_readsCock_4 rfl (Nat.le_of_ble_eq_true rfl) rfl ?_
  refine gx_aload_n 1 dX8_readsCock_5 rfl rfl ?_
  refine gx_aload_n 2 dX8_readsCock_6 rfl rfl ?_
  obtain ⟨a2, ha2, h⟩ := bnd h
  refine gx_getN dX8_readsCock_7 ha2 fl_X8_57 rfl ?_
  refine gx_iload_n 0 dX8_readsCock_10 rfl rfl ?_
  refine gx_bipush (v := (9 : Int32)) dX8_readsCock_11 ib_9 ?_
  obtain ⟨_, hobq3, h⟩ := bnd h
  obtain ⟨q3, hq3, h⟩ := bnd h
  refine gx_cVI (As := [.ref (Γ.B + pp a2), .int x1, .int (9 : Int32)]) (st := []) (o := l0) dX8_readsCock_13 (c_X8_readsInto hq3) mov_X8_readsInto tw_590 hobq3 rfl ⟨Nat.le_of_ble_eq_true rfl, Nat.le_of_ble_eq_true rfl⟩ (Nat.le_of_ble_eq_true rfl) ?_
  refine gx_if_eq 88 dX8_readsCock_16 (by decide) (fun c3 => ?_) (fun c3 => ?_)
  · rw [if_pos c3] at h
    exact gx_sub [] rfl (s_X8_readsCock_88  h)
  · rw [if_neg c3] at h
    refine gx_aload_n 1 dX8_readsCock_19 rfl rfl ?_
    refine gx_aload_n 2 dX8_readsCock_20 rfl rfl ?_
    obtain ⟨a5, ha5, h⟩ := bnd h
    refine gx_getN dX8_readsCock_21 ha5 fl_X8_65 rfl ?_
    refine gx_iload_n 0 dX8_readsCock_24 rfl rfl ?_
    refine gx_bipush (v := (9 : Int32)) dX8_readsCock_25 ib_9 ?_
    obtain ⟨_, hobq6, h⟩ := bnd h
    obtain ⟨q6, hq6, h⟩ := bnd h
    refine gx_cVI (As := [.ref (Γ.B + pp a5), .int x1, .int (9 : Int32)]) (st := []) (o := l0) dX8_readsCock_27 (c_X8_readsInto hq6) mov_X8_readsInto tw_590 hobq6 rfl ⟨Nat.le_of_ble_eq_true rfl, Nat.le_of_ble_eq_true rfl⟩ (Nat.le_of_ble_eq_true rfl) ?_
    refine gx_if_eq 88 dX8_readsCock_30 (by decide) (fun c6 => ?_) (fun c6 => ?_)
    · rw [if_pos c6] at h
      exact gx_sub [] rfl (s_X8_readsCock_88  h)
    · rw [if_neg c6] at h
      refine gx_aload_n 1 dX8_readsCock_33 rfl rfl ?_
      refine gx_aload_n 2 dX8_readsCock_34 rfl rfl ?_
      obtain ⟨a8, ha8, h⟩ := bnd h
      refine gx_getN dX8_readsCock_35 ha8 fl_X8_68 rfl ?_
      refine gx_iload_n 0 dX8_readsCock_38 rfl rfl ?_
      refine gx_bipush (v := (9 : Int32)) dX8_readsCock_39 ib_9 ?_
      obtain ⟨_, hobq9, h⟩ := bnd h
      obtain ⟨q9, hq9, h⟩ := bnd h
      refine gx_cVI (As := [.ref (Γ.B + pp a8), .int x1, .int (9 : Int32)]) (st := []) (o := l0) dX8_readsCock_41 (c_X8_readsInto hq9) mov_X8_readsInto tw_590 hobq9 rfl ⟨Nat.le_of_ble_eq_true rfl, Nat.le_of_ble_eq_true rfl⟩ (Nat.le_of_ble_eq_true rfl) ?_
      refine gx_if_eq 88 dX8_readsCock_44 (by decide) (fun c9 => ?_) (fun c9 => ?_)
      · rw [if_pos c9] at h
        exact gx_sub [] rfl (s_X8_readsCock_88  h)
      · rw [if_neg c9] at h
        refine gx_aload_n 1 dX8_readsCock_47 rfl rfl ?_
        refine gx_aload_n 2 dX8_readsCock_48 rfl rfl ?_
        obtain ⟨a11, ha11, h⟩ := bnd h
        refine gx_getN dX8_readsCock_49 ha11 fl_X8_71 rfl ?_
        refine gx_iload_n 0 dX8_readsCock_52 rfl rfl ?_
        refine gx_bipush (v := (99 : Int32)) dX8_readsCock_53 ib_99 ?_
        obtain ⟨_, hobq12, h⟩ := bnd h
        obtain ⟨q12, hq12, h⟩ := bnd h
        refine gx_cVI (As := [.ref (Γ.B + pp a11), .int x1, .int (99 : Int32)]) (st := []) (o := l0) dX8_readsCock_55 (c_X8_readsInto hq12) mov_X8_readsInto tw_590 hobq12 rfl ⟨Nat.le_of_ble_eq_true rfl, Nat.le_of_ble_eq_true rfl⟩ (Nat.le_of_ble_eq_true rfl) ?_
        refine gx_if_eq 88 dX8_readsCock_58 (by decide) (fun c12 => ?_) (fun c12 => ?_)
        · rw [if_pos c12] at h
          exact gx_sub [] rfl (s_X8_readsCock_88  h)
        · rw [if_neg c12] at h
          refine gx_aload_n 1 dX8_readsCock_61 rfl rfl ?_
          refine gx_aload_n 2 dX8_readsCock_62 rfl rfl ?_
          obtain ⟨a14, ha14, h⟩ := bnd h
          refine gx_getN dX8_readsCock_63 ha14 fl_X8_74 rfl ?_
          refine gx_iload_n 0 dX8_readsCock_66 rfl rfl ?_
          refine gx_iconst (v := (3 : Int32)) dX8_readsCock_67 ic_3 ?_
          obtain ⟨_, hobq15, h⟩ := bnd h
          obtain ⟨q15, hq15, h⟩ := bnd h
          refine gx_cVI (As := [.ref (Γ.B + pp a14), .int x1, .int (3 : Int32)]) (st := []) (o := l0) dX8_readsCock_68 (c_X8_readsInto hq15) mov_X8_readsInto tw_590 hobq15 rfl ⟨Nat.le_of_ble_eq_true rfl, Nat.le_of_ble_eq_true rfl⟩ (Nat.le_of_ble_eq_true rfl) ?_
          refine gx_if_eq 88 dX8_readsCock_71 (by decide) (fun c15 => ?_) (fun c15 => ?_)
          · rw [if_pos c15] at h
            exact gx_sub [] rfl (s_X8_readsCock_88  h)
          · rw [if_neg c15] at h
            refine gx_aload_n 1 dX8_readsCock_74 rfl rfl ?_
            refine gx_aload_n 2 dX8_readsCock_75 rfl rfl ?_
            obtain ⟨a17, ha17, h⟩ := bnd h
            refine gx_getN dX8_readsCock_76 ha17 fl_X8_77 rfl ?_
            refine gx_iload_n 0 dX8_readsCock_79 rfl rfl ?_
            refine gx_bipush (v := (7 : Int32)) dX8_readsCock_80 ib_7 ?_
            obtain ⟨_, hobq18, h⟩ := bnd h
            obtain ⟨q18, hq18, h⟩ := bnd h
            refine gx_cVI (As := [.ref (Γ.B + pp a17), .int x1, .int (7 : Int32)]) (st := []) (o := l0) dX8_readsCock_82 (c_X8_readsInto hq18) mov_X8_readsInto tw_590 hobq18 rfl ⟨Nat.le_of_ble_eq_true rfl, Nat.le_of_ble_eq_true rfl⟩ (Nat.le_of_ble_eq_true rfl) ?_
            refine gx_if_ne 90 dX8_readsCock_85 (by decide) (fun c18 => ?_) (fun c18 => ?_)
            · rw [if_neg c18] at h
              refine gx_aload_n 2 dX8_readsCock_90 rfl rfl ?_
              refine gx_dup dX8_readsCock_91 rfl ?_
              obtain ⟨x20, hx20, h⟩ := bnd h
              refine gx_getI dX8_readsCock_92 hx20 fl_X8_34 rfl ?_
              refine gx_iconst (v := (1 : Int32)) dX8_readsCock_95 ic_1 ?_
              refine gx_iadd dX8_readsCock_96 ?_
              obtain ⟨s21, hs21, h⟩ := bnd h
              refine gx_putI dX8_readsCock_97 hs21 fl_X8_34 fp_X8_7_0 rfl ?_
              refine gx_iconst (v := (1 : Int32)) dX8_readsCock_100 ic_1 ?_
              have h := Option.some.inj h
              subst h
              exact gx_zret dX8_readsCock_101 rfl rfl (Nat.le_of_ble_eq_true rfl) (Nat.le_of_ble_eq_true rfl) ⟨rfl, rfl⟩
            · rw [if_pos c18] at h
              exact gx_sub [] rfl (s_X8_readsCock_88  h)
theorem c_X8_readsCock {Γ : Cn} {τ : Mm} {N : Nat} {l0 : Nat} {l1 : Nat} {σ : Mm} {o : Int32 × Mm} (h : f_X8_readsCock N l0 l1 σ = some o) : Ct Γ M_X8_readsCock yX8_readsCock 0 τ [.ref (Γ.B + pp l0), .ref (Γ.B + pp l1)] σ (PI o) := ct_of (by decide) rfl (fun _ => by first | rfl | contradiction) (Nat.le_of_ble_eq_true rfl) (s_X8_readsCock_0  h)
abbrev M_X8_readsTree : Ms := (cX8_readsTree, RX8, 2, (some .boolean), false, 0, 0, 3)
def f_X8_readsTree_34 (N : Nat) (σ : Mm) : Option (Int32 × Mm) :=
  some ((0 : Int32), σ)
def f_X8_readsTree (N : Nat) (l0 : Nat) (l1 : Nat) (σ : Mm) : Option (Int32 × Mm) :=
  (gN 7 9 σ l1).bind fun a1 =>
  (gI 7 8 σ l1).bind fun x2 =>
  (ob 8 σ l0).bind fun _ =>
  (f_X8_readsInto N l0 a1 x2 (9 : Int32) σ).bind fun q3 =>
  if q3.1 = 0 then (
    f_X8_readsTree_34 N q3.2) else (
    (gN 7 10 q3.2 l1).bind fun a5 =>
    (gI 7 8 q3.2 l1).bind fun x6 =>
    (ob 8 q3.2 l0).bind fun _ =>
    (f_X8_readsInto N l0 a5 x6 (9 : Int32) q3.2).bind fun q7 =>
    if q7.1 = 0 then (
      f_X8_readsTree_34 N q7.2) else (
      (gI 7 8 q7.2 l1).bind fun x9 =>
      (pI 7 8 q7.2 l1 (x9 + (1 : Int32))).bind fun s10 =>
      some ((1 : Int32), s10)))
theorem mov_X8_readsTree : MOV yX8_readsTree M_X8_readsTree 1 8 0 := ⟨⟨tw_99, tw_605, ⟨by decide, by decide⟩, by decide +kernel⟩, tw_604, tw_9, by decide, ⟨_, rfl, rfl⟩, rfl⟩
set_option maxRecDepth 4000 in
theorem s_X8_readsTree_34 {Γ : Cn} {τ : Mm} {N : Nat} {σ : Mm} {o : Int32 × Mm} (h : f_X8_readsTree_34 N σ = some o) : Gx Γ M_X8_readsTree 0 τ (PI o) 0 0 34 [] [] σ := by
  unfold f_X8_readsTree_34 at h
  refine gx_iconst (v := (0 : Int32)) dX8_readsTree_34 ic_0 ?_
  have h := Option.some.inj h
  subst h
  exact gx_zret dX8_readsTree_35 rfl rfl (Nat.le_of_ble_eq_true rfl) (Nat.le_of_ble_eq_true rfl) ⟨rfl, rfl⟩
set_option maxRecDepth 4000 in
theorem s_X8_readsTree_0 {Γ : Cn} {τ : Mm} {N : Nat} {l0 : Nat} {l1 : Nat} {σ : Mm} {o : Int32 × Mm} (h : f_X8_readsTree N l0 l1 σ = some o) : Gx Γ M_X8_readsTree 0 τ (PI o) 0 0 0 [(0, .ref (Γ.B + pp l0)), (1, .ref (Γ.B + pp l1))] [] σ := by
  unfold f_X8_readsTree at h
  refine gx_aload_n 0 dX8_readsTree_0 rfl rfl ?_
  refine gx_aload_n 1 dX8_readsTree_1 rfl rfl ?_
  obtain ⟨a1, ha1, h⟩ := bnd h
  refine gx_getN dX8_readsTree_2 ha1 fl_X8_80 rfl ?_
  refine gx_aload_n 1 dX8_readsTree_5 rfl rfl ?_
  obtain ⟨x2, hx2, h⟩ := bnd h
  refine gx_getI dX8_readsTree_6 hx2 fl_X8_44 rfl ?_
  refine gx_bipush (v := (9 : Int32)) dX8_readsTree_9 ib_9 ?_
  obtain ⟨_, hobq3, h⟩ := bnd h
  obtain ⟨q3, hq3, h⟩ := bnd h
  refine gx_cVI (As := [.ref (Γ.B + pp a1), .int x2, .int (9 : Int32)]) (st := []) (o := l0) dX8_readsTree_11 (c_X8_readsInto hq3) mov_X8_readsInto tw_590 hobq3 rfl ⟨Nat.le_of_ble_eq_true rfl, Nat.le_of_ble_eq_true rfl⟩ (Nat.le_of_ble_eq_true rfl) ?_
  refine gx_if_eq 34 dX8_readsTree_14 (by decide) (fun c3 => ?_) (fun c3 => ?_)
  · rw [if_pos c3] at h
    exact gx_sub [] rfl (s_X8_readsTree_34  h)
  · rw [if_neg c3] at h
    refine gx_aload_n 0 dX8_readsTree_17 rfl rfl ?_
    refine gx_aload_n 1 dX8_readsTree_18 rfl rfl ?_
    obtain ⟨a5, ha5, h⟩ := bnd h
    refine gx_getN dX8_readsTree_19 ha5 fl_X8_83 rfl ?_
    refine gx_aload_n 1 dX8_readsTree_22 rfl rfl ?_
    obtain ⟨x6, hx6, h⟩ := bnd h
    refine gx_getI dX8_readsTree_23 hx6 fl_X8_44 rfl ?_
    refine gx_bipush (v := (9 : Int32)) dX8_readsTree_26 ib_9 ?_
    obtain ⟨_, hobq7, h⟩ := bnd h
    obtain ⟨q7, hq7, h⟩ := bnd h
    refine gx_cVI (As := [.ref (Γ.B + pp a5), .int x6, .int (9 : Int32)]) (st := []) (o := l0) dX8_readsTree_28 (c_X8_readsInto hq7) mov_X8_readsInto tw_590 hobq7 rfl ⟨Nat.le_of_ble_eq_true rfl, Nat.le_of_ble_eq_true rfl⟩ (Nat.le_of_ble_eq_true rfl) ?_
    refine gx_if_ne 36 dX8_readsTree_31 (by decide) (fun c7 => ?_) (fun c7 => ?_)
    · rw [if_neg c7] at h
      refine gx_aload_n 1 dX8_readsTree_36 rfl rfl ?_
      refine gx_dup dX8_readsTree_37 rfl ?_
      obtain ⟨x9, hx9, h⟩ := bnd h
      refine gx_getI dX8_readsTree_38 hx9 fl_X8_44 rfl ?_
      refine gx_iconst (v := (1 : Int32)) dX8_readsTree_41 ic_1 ?_
      refine gx_iadd dX8_readsTree_42 ?_
      obtain ⟨s10, hs10, h⟩ := bnd h
      refine gx_putI dX8_readsTree_43 hs10 fl_X8_44 fp_X8_7_8 rfl ?_
      refine gx_iconst (v := (1 : Int32)) dX8_readsTree_46 ic_1 ?_
      have h := Option.some.inj h
      subst h
      exact gx_zret dX8_readsTree_47 rfl rfl (Nat.le_of_ble_eq_true rfl) (Nat.le_of_ble_eq_true rfl) ⟨rfl, rfl⟩
    · rw [if_pos c7] at h
      exact gx_sub [] rfl (s_X8_readsTree_34  h)
theorem c_X8_readsTree {Γ : Cn} {τ : Mm} {N : Nat} {l0 : Nat} {l1 : Nat} {σ : Mm} {o : Int32 × Mm} (h : f_X8_readsTree N l0 l1 σ = some o) : Ct Γ M_X8_readsTree yX8_readsTree 0 τ [.ref (Γ.B + pp l0), .ref (Γ.B + pp l1)] σ (PI o) := ct_of (by decide) rfl (fun _ => by first | rfl | contradiction) (Nat.le_of_ble_eq_true rfl) (s_X8_readsTree_0  h)
