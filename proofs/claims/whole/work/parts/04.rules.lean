/-! the context: the launch, the classes' numbers, the arrays' classes, the first object's address, the addresses of what stood there before (STEP_X, STEP_Y, the words, the words' bytes) -/
abbrev Cn : Type := Launch × va_G × (Nat → ClassId) × Nat × (Nat → Nat)
abbrev Cn.B (Γ : Cn) : Nat := Γ.2.2.2.1
abbrev Cn.D (Γ : Cn) : va_G := Γ.2.1
abbrev Cn.cy (Γ : Cn) : Nat → ClassId := Γ.2.2.1
abbrev Cn.sa (Γ : Cn) : Nat → Nat := Γ.2.2.2.2
abbrev Cn.A (Γ : Cn) : Nat → Prop := fun q => Γ.B ≤ q
def stX (j : Nat) : Int32 := ([0, 1, 1, 1, 0, -1, -1, -1] : List Int32).getD j 0
def stY (j : Nat) : Int32 := ([-1, -1, 0, 1, 1, 1, 0, -1] : List Int32).getD j 0
def wdT : String := "turn  if    or    and   not   cock  rust  age   owner at    off   wind  lee   hour  tree  worth "
def wdB : List Int32 := [116, 117, 114, 110, 32, 32, 105, 102, 32, 32, 32, 32, 111, 114, 32, 32, 32, 32, 97, 110, 100, 32, 32, 32, 110, 111, 116, 32, 32, 32, 99, 111, 99, 107, 32, 32, 114, 117, 115, 116, 32, 32, 97, 103, 101, 32, 32, 32, 111, 119, 110, 101, 114, 32, 97, 116, 32, 32, 32, 32, 111, 102, 102, 32, 32, 32, 119, 105, 110, 100, 32, 32, 108, 101, 101, 32, 32, 32, 104, 111, 117, 114, 32, 32, 116, 114, 101, 101, 32, 32, 119, 111, 114, 116, 104, 32]
/-- links of private methods between nest mates: the class, the entry, the method -/
abbrev nwl : List (String × Nat × MethodName) := [(RX10, 9, yX5_init), (RX10, 18, yX6_init), (RX10, 41, yX7_init), (RX10, 65, yX9_init), (RX10, 72, yX1_init), (RX10, 99, yX2_init), (RX7, 61, yX10_isBelow), (RX9, 40, yX10_offBetween), (RX1, 47, yX10_isBelow), (RX4, 59, yX10_bendingCost), (RX3, 11, yX2_init), (RX4, 96, yX10_isBelow), (RX0, 56, yX10_nextDrawn)]
/-- what stood there before and stays -/
def Sx (Γ : Cn) (s : State) (H : Heap) : Prop :=
  (∀ w ∈ nwl, va_Nw (.methodLinkNest w.1 w.2.1 w.2.2 "MostCocks") s) ∧ (va_AO "MostCocks$Law" s ∧ va_AO "MostCocks$Valley" s) ∧
  (va_Z "MostCocks$Valley" "STEP_X" "[I" (.ref (Γ.sa 0)) Γ.A s H ∧ va_T .int (Γ.sa 0) 8 (fun j => .int (stX j)) Γ.A s H) ∧
  (va_Z "MostCocks$Valley" "STEP_Y" "[I" (.ref (Γ.sa 1)) Γ.A s H ∧ va_T .int (Γ.sa 1) 8 (fun j => .int (stY j)) Γ.A s H) ∧
  (va_Z "java/lang/String" "COMPACT_STRINGS" "Z" (.int 1) Γ.A s H ∧ va_Zq "jdk/internal/util/Preconditions" "SIOOBE_FORMATTER" "Ljava/util/function/BiFunction;" Γ.A s H) ∧
  vk_R "MostCocks$Tokens" 71 wdT (Γ.sa 2) s ∧ vk_S 1 [96] [wdB] (fun _ => Γ.sa 2) (fun _ => Γ.sa 3) Γ.A s H
theorem Sx.warm {Γ : Cn} {s U : State} {H : Heap} (hW : s.WarmedH U.vm) (h : Sx Γ s H) : Sx Γ U H := by
  obtain ⟨h1, ⟨h2, h3⟩, ⟨h4, h5⟩, ⟨h6, h7⟩, ⟨h8, h9⟩, h10, h11⟩ := h
  have ha := hW.alike
  exact ⟨fun w hw => va_Nw.warmM hW (h1 w hw), ⟨h2.moved ha, h3.moved ha⟩, ⟨h4.moved ha, h5.moved ha⟩, ⟨h6.moved ha, h7.moved ha⟩, ⟨h8.moved ha, h9.moved ha⟩, h10.warm hW, h11.moved ha⟩
theorem Sx.same {Γ : Cn} {s U : State} {H : Heap} (hv : s.vm = U.vm) (h : Sx Γ s H) : Sx Γ U H := by
  obtain ⟨h1, ⟨h2, h3⟩, ⟨h4, h5⟩, ⟨h6, h7⟩, ⟨h8, h9⟩, h10, h11⟩ := h
  have ha : s.vm.Alike U.vm := by rw [hv]; exact Vm.Alike.refl U.vm
  exact ⟨fun w hw => va_Nw.same rfl hv (h1 w hw), ⟨h2.moved ha, h3.moved ha⟩, ⟨h4.moved ha, h5.moved ha⟩, ⟨h6.moved ha, h7.moved ha⟩, ⟨h8.moved ha, h9.moved ha⟩, h10.same hv.symm, h11.moved ha⟩
theorem Sx.kept {Γ : Cn} {s : State} {H H1 : Heap} (hq : ∀ a : Nat, a < H.size → ¬ Γ.A a → H1[a]? = H[a]?) (h : Sx Γ s H) : Sx Γ s H1 := by
  obtain ⟨h1, h23, ⟨h4, h5⟩, ⟨h6, h7⟩, ⟨h8, h9⟩, h10, h11⟩ := h
  exact ⟨h1, h23, ⟨h4.kept hq, h5.kept hq⟩, ⟨h6.kept hq, h7.kept hq⟩, ⟨h8.kept hq, h9.kept hq⟩, h10, h11.kept hq⟩
/-- the heap holds the memory -/
def Wp (Γ : Cn) (b : Nat) (τ σ : Mm) (H : Heap) : Prop := H.size = Γ.B + nn σ ∧ va_P Γ.D vwCl (wld Γ.B Γ.cy σ τ b (nn σ)) H
/-- a method: its bytes, its class, its locals, what it answers, whether it makes an object; cells, slots; how deep it calls -/
abbrev Ms : Type := ByteArray × String × Nat × Option FieldType × Bool × Nat × Nat × Nat
abbrev Ms.cc (M : Ms) : ByteArray := M.1
abbrev Ms.own (M : Ms) : String := M.2.1
abbrev Ms.nL (M : Ms) : Nat := M.2.2.1
abbrev Ms.ret (M : Ms) : Option FieldType := M.2.2.2.1
abbrev Ms.ini (M : Ms) : Bool := M.2.2.2.2.1
abbrev Ms.mc (M : Ms) : Nat := M.2.2.2.2.2.1
abbrev Ms.ms (M : Ms) : Nat := M.2.2.2.2.2.2.1
abbrev Ms.d (M : Ms) : Nat := M.2.2.2.2.2.2.2
abbrev Ms.rm (M : Ms) : Room := { frames := M.d, cells := M.mc, slots := M.ms, locals := 64 * M.d }
/-- a method's end -/
def QQ (Γ : Cn) (b : Nat) (τ : Mm) (P : Option Value → Mm → Prop) : Array Value → State → Outcome → State → Prop := fun _ st oc t =>
  (∃ (v : Option Value) (σ' : Mm), oc = .returned v ∧ P v σ' ∧ Wp Γ b τ σ' t.heap) ∧ va_F Γ.A st t
/-- a method's contract -/
def Ct (Γ : Cn) (M : Ms) (y : MethodName) (b : Nat) (τ : Mm) (av : List Value) (σ : Mm) (P : Option Value → Mm → Prop) : Prop :=
  Met Γ.1 y (.code y M.cc M.nL M.ret :: tbl) M.rm (va_Pc av (fun U => Wp Γ b τ σ U.heap ∧ va_K Γ.D vwCl (tyl Γ.cy) U ∧ Sx Γ U U.heap ∧ Γ.B ≤ U.heap.size)) (QQ Γ b τ P) M.mc M.ms Γ.A
/-- what holds in a method all the time -/
def Gc (Γ : Cn) (M : Ms) (p : Program) (s : State) (m : MethodId) (args : Array Value) (meth : Method) (c : Code) : Prop :=
  CallFix p m c M.cc M.nL s args tbl M.own ∧ meth.sig.returnType = M.ret ∧ meth.locks = false ∧ (M.ini = true → meth.name = "<init>") ∧ va_K Γ.D vwCl (tyl Γ.cy) s ∧ Sx Γ s s.heap ∧ Γ.B ≤ s.heap.size
/-- from here the method comes to its end, with P -/
def Gx (Γ : Cn) (M : Ms) (b : Nat) (τ : Mm) (P : Option Value → Mm → Prop) (k n pc : Nat) (lv : List (Nat × Value)) (st : List Value) (σ : Mm) : Prop :=
  ∀ (p : Program) (e : Env) (s : State) (m : MethodId) (args : Array Value) (below : List Frame) (meth : Method) (c : Code) (H : Heap) (locs : List Loc) (ls : Array Slot),
    Gc Γ M p s m args meth c → lv_has ls M.nL lv → Wp Γ b τ σ H → va_S Γ.A s.heap H locs → s.heap.size + k = H.size →
    W p Γ.1 e M.rm s m args below meth c H locs k n (MQ below (QQ Γ b τ P) args s M.mc M.ms Γ.A) (F0 m pc ls st)
section GX
variable {Γ : Cn} {M : Ms} {b : Nat} {τ : Mm} {P : Option Value → Mm → Prop} {k n pc : Nat} {lv lv' : List (Nat × Value)} {st : List Value} {σ : Mm}
theorem ct_of {y : MethodName} {av : List Value} (hy : plainName y.cls = true) (hc : y.cls = M.own) (hi : M.ini = true → y.name = "<init>") (hl : (lg_sl av).length ≤ M.nL) (h : Gx Γ M b τ P 0 0 0 (lv_args 0 av) [] σ) : Ct Γ M y b τ av σ P := by
  refine Met.ofW (cc := M.cc) (maxL := M.nL) (ret := M.ret) hy rfl ?_
  intro p e s m args below meth c s₁ Bd hml hv
  obtain ⟨rfl, hw, hK, hSx, hB⟩ := hv
  have hts := atoms_spec (ws := .code y M.cc M.nL M.ret :: tbl) Bd.pre
  rw [lg_entry_eq]
  refine h p e s m _ below meth c s.heap [] _ ⟨⟨Bd.exec, Bd.bytes, hml, ?_, fun w hw => hts w (List.mem_cons_of_mem _ hw)⟩, Bd.returns, Bd.notSynchronized, fun hi' => ?_, hK, hSx, hB⟩ (lv_entry av hl) hw va_S.rf rfl
  · rw [← hc]; exact findClass_of_methodNamed Bd.named
  · rw [← hi hi']; exact (name_of_methodNamed Bd.named Bd.method).1
/-! fewer locals -/
theorem gx_sub (ks : List Nat) (hl : lv_pick lv ks = lv') (h : Gx Γ M b τ P k n pc lv' st σ) : Gx Γ M b τ P k n pc lv st σ :=
  fun p e s m args below meth c H locs ls g hlv hw hS hz => h p e s m args below meth c H locs ls g (lv_sub hlv ks hl) hw hS hz
theorem gx_iconst {i : Int} {v : Int32} (hd : decode M.cc pc = .ok (.iconst i, 1)) (hv : Int32.ofInt i = v) (h : Gx Γ M b τ P k n (pc + 1) lv (.int v :: st) σ) : Gx Γ M b τ P k n pc lv st σ :=
  fun p e s m args below meth c H locs ls g hlv hw hS hz => lv_iconst g.1.1 g.1.2.1 hd hv (h p e s m args below meth c H locs ls g hlv hw hS hz)
theorem gx_bipush {i : Int} {v : Int32} (hd : decode M.cc pc = .ok (.bipush i, 2)) (hv : (Int8.ofInt i).toInt32 = v) (h : Gx Γ M b τ P k n (pc + 2) lv (.int v :: st) σ) : Gx Γ M b τ P k n pc lv st σ :=
  fun p e s m args below meth c H locs ls g hlv hw hS hz => lv_bipush g.1.1 g.1.2.1 hd hv (h p e s m args below meth c H locs ls g hlv hw hS hz)
theorem gx_sipush {i : Int} {v : Int32} (hd : decode M.cc pc = .ok (.sipush i, 3)) (hv : (Int16.ofInt i).toInt32 = v) (h : Gx Γ M b τ P k n (pc + 3) lv (.int v :: st) σ) : Gx Γ M b τ P k n pc lv st σ :=
  fun p e s m args below meth c H locs ls g hlv hw hS hz => lv_sipush g.1.1 g.1.2.1 hd hv (h p e s m args below meth c H locs ls g hlv hw hS hz)
theorem gx_lconst {i : Fin 2} {v : Int64} (hd : decode M.cc pc = .ok (.lconst i, 1)) (hv : Int64.ofNat (i : Nat) = v) (h : Gx Γ M b τ P k n (pc + 1) lv (.long v :: st) σ) : Gx Γ M b τ P k n pc lv st σ :=
  fun p e s m args below meth c H locs ls g hlv hw hS hz => lv_lconst g.1.1 g.1.2.1 hd hv (h p e s m args below meth c H locs ls g hlv hw hS hz)
theorem gx_ldc {i : Nat} {v : Int32} (hd : decode M.cc pc = .ok (.ldc i, 2)) (hm : Cond.constant M.own i v ∈ tbl) (h : Gx Γ M b τ P k n (pc + 2) lv (.int v :: st) σ) : Gx Γ M b τ P k n pc lv st σ :=
  fun p e s m args below meth c H locs ls g hlv hw hS hz => lv_ldc g.1.1 g.1.2.1 g.1.2.2.2.1 (g.1.2.2.2.2 _ hm) hd (h p e s m args below meth c H locs ls g hlv hw hS hz)
theorem gx_ldcw {i : Nat} {v : Int32} (hd : decode M.cc pc = .ok (.ldc_w i, 3)) (hm : Cond.constant M.own i v ∈ tbl) (h : Gx Γ M b τ P k n (pc + 3) lv (.int v :: st) σ) : Gx Γ M b τ P k n pc lv st σ :=
  fun p e s m args below meth c H locs ls g hlv hw hS hz => lv_ldcw g.1.1 g.1.2.1 g.1.2.2.2.1 (g.1.2.2.2.2 _ hm) hd (h p e s m args below meth c H locs ls g hlv hw hS hz)
theorem gx_ldc2 {i : Nat} {v : Int64} (hd : decode M.cc pc = .ok (.ldc2_w i, 3)) (hm : Cond.constantLong M.own i v ∈ tbl) (h : Gx Γ M b τ P k n (pc + 3) lv (.long v :: st) σ) : Gx Γ M b τ P k n pc lv st σ :=
  fun p e s m args below meth c H locs ls g hlv hw hS hz => lv_ldc2 g.1.1 g.1.2.1 g.1.2.2.2.1 (g.1.2.2.2.2 _ hm) hd (h p e s m args below meth c H locs ls g hlv hw hS hz)
theorem gx_iload_n {j : Fin 4} {i : Nat} {x : Int32} (q : Nat) (hd : decode M.cc pc = .ok (.iload_n j, 1)) (hi : (j : Nat) = i) (hq : lv[q]? = some (i, .int x)) (h : Gx Γ M b τ P k n (pc + 1) lv (.int x :: st) σ) : Gx Γ M b τ P k n pc lv st σ :=
  fun p e s m args below meth c H locs ls g hlv hw hS hz => lv_iload_n g.1.1 g.1.2.1 hd hi (lv_at hlv q hq) (h p e s m args below meth c H locs ls g hlv hw hS hz)
theorem gx_iload {i : Nat} {x : Int32} (q : Nat) (hd : decode M.cc pc = .ok (.iload i, 2)) (hq : lv[q]? = some (i, .int x)) (h : Gx Γ M b τ P k n (pc + 2) lv (.int x :: st) σ) : Gx Γ M b τ P k n pc lv st σ :=
  fun p e s m args below meth c H locs ls g hlv hw hS hz => lv_iload g.1.1 g.1.2.1 hd (lv_at hlv q hq) (h p e s m args below meth c H locs ls g hlv hw hS hz)
theorem gx_lload_n {j : Fin 4} {i : Nat} {x : Int64} (q : Nat) (hd : decode M.cc pc = .ok (.lload_n j, 1)) (hi : (j : Nat) = i) (hq : lv[q]? = some (i, .long x)) (h : Gx Γ M b τ P k n (pc + 1) lv (.long x :: st) σ) : Gx Γ M b τ P k n pc lv st σ :=
  fun p e s m args below meth c H locs ls g hlv hw hS hz => lv_lload_n g.1.1 g.1.2.1 hd hi (lv_at hlv q hq) (h p e s m args below meth c H locs ls g hlv hw hS hz)
theorem gx_lload {i : Nat} {x : Int64} (q : Nat) (hd : decode M.cc pc = .ok (.lload i, 2)) (hq : lv[q]? = some (i, .long x)) (h : Gx Γ M b τ P k n (pc + 2) lv (.long x :: st) σ) : Gx Γ M b τ P k n pc lv st σ :=
  fun p e s m args below meth c H locs ls g hlv hw hS hz => lv_lload g.1.1 g.1.2.1 hd (lv_at hlv q hq) (h p e s m args below meth c H locs ls g hlv hw hS hz)
theorem gx_aload_n {j : Fin 4} {i x : Nat} (q : Nat) (hd : decode M.cc pc = .ok (.aload_n j, 1)) (hi : (j : Nat) = i) (hq : lv[q]? = some (i, .ref x)) (h : Gx Γ M b τ P k n (pc + 1) lv (.ref x :: st) σ) : Gx Γ M b τ P k n pc lv st σ :=
  fun p e s m args below meth c H locs ls g hlv hw hS hz => lv_aload_n g.1.1 g.1.2.1 hd hi (lv_at hlv q hq) (h p e s m args below meth c H locs ls g hlv hw hS hz)
theorem gx_aload {i x : Nat} (q : Nat) (hd : decode M.cc pc = .ok (.aload i, 2)) (hq : lv[q]? = some (i, .ref x)) (h : Gx Γ M b τ P k n (pc + 2) lv (.ref x :: st) σ) : Gx Γ M b τ P k n pc lv st σ :=
  fun p e s m args below meth c H locs ls g hlv hw hS hz => lv_aload g.1.1 g.1.2.1 hd (lv_at hlv q hq) (h p e s m args below meth c H locs ls g hlv hw hS hz)
theorem gx_istore_n {j : Fin 4} {i : Nat} {x : Int32} (hd : decode M.cc pc = .ok (.istore_n j, 1)) (hi : (j : Nat) = i) (hn : i < M.nL) (hl : (i, Value.int x) :: lv.filter (fun q => !(q.1 == i) && !(q.1 + 1 == i && q.2.category == 2)) = lv') (h : Gx Γ M b τ P k n (pc + 1) lv' st σ) : Gx Γ M b τ P k n pc lv (.int x :: st) σ :=
  fun p e s m args below meth c H locs _ g hlv hw hS hz => lv_istore_n g.1.1 g.1.2.1 hd hi hlv hn hl (fun ls hlv => h p e s m args below meth c H locs ls g hlv hw hS hz)
theorem gx_istore {i : Nat} {x : Int32} (hd : decode M.cc pc = .ok (.istore i, 2)) (hn : i < M.nL) (hl : (i, Value.int x) :: lv.filter (fun q => !(q.1 == i) && !(q.1 + 1 == i && q.2.category == 2)) = lv') (h : Gx Γ M b τ P k n (pc + 2) lv' st σ) : Gx Γ M b τ P k n pc lv (.int x :: st) σ :=
  fun p e s m args below meth c H locs _ g hlv hw hS hz => lv_istore g.1.1 g.1.2.1 hd hlv hn hl (fun ls hlv => h p e s m args below meth c H locs ls g hlv hw hS hz)
theorem gx_lstore_n {j : Fin 4} {i : Nat} {x : Int64} (hd : decode M.cc pc = .ok (.lstore_n j, 1)) (hi : (j : Nat) = i) (hn : i + 1 < M.nL) (hl : (i, Value.long x) :: lv.filter (fun q => !(q.1 == i) && (!(q.1 == i + 1) && !(q.1 + 1 == i && q.2.category == 2))) = lv') (h : Gx Γ M b τ P k n (pc + 1) lv' st σ) : Gx Γ M b τ P k n pc lv (.long x :: st) σ :=
  fun p e s m args below meth c H locs _ g hlv hw hS hz => lv_lstore_n g.1.1 g.1.2.1 hd hi hlv hn hl (fun ls hlv => h p e s m args below meth c H locs ls g hlv hw hS hz)
theorem gx_lstore {i : Nat} {x : Int64} (hd : decode M.cc pc = .ok (.lstore i, 2)) (hn : i + 1 < M.nL) (hl : (i, Value.long x) :: lv.filter (fun q => !(q.1 == i) && (!(q.1 == i + 1) && !(q.1 + 1 == i && q.2.category == 2))) = lv') (h : Gx Γ M b τ P k n (pc + 2) lv' st σ) : Gx Γ M b τ P k n pc lv (.long x :: st) σ :=
  fun p e s m args below meth c H locs _ g hlv hw hS hz => lv_lstore g.1.1 g.1.2.1 hd hlv hn hl (fun ls hlv => h p e s m args below meth c H locs ls g hlv hw hS hz)
theorem gx_astore_n {j : Fin 4} {i x : Nat} (hd : decode M.cc pc = .ok (.astore_n j, 1)) (hi : (j : Nat) = i) (hn : i < M.nL) (hl : (i, Value.ref x) :: lv.filter (fun q => !(q.1 == i) && !(q.1 + 1 == i && q.2.category == 2)) = lv') (h : Gx Γ M b τ P k n (pc + 1) lv' st σ) : Gx Γ M b τ P k n pc lv (.ref x :: st) σ :=
  fun p e s m args below meth c H locs _ g hlv hw hS hz => lv_astore_n g.1.1 g.1.2.1 hd hi hlv hn hl (fun ls hlv => h p e s m args below meth c H locs ls g hlv hw hS hz)
theorem gx_iinc {i : Nat} {j : Int} {x v : Int32} (q : Nat) (hd : decode M.cc pc = .ok (.iinc i j, 3)) (hq : lv[q]? = some (i, .int x)) (hv : x + Int32.ofInt j = v) (hn : i < M.nL) (hl : (i, Value.int v) :: lv.filter (fun q => !(q.1 == i) && !(q.1 + 1 == i && q.2.category == 2)) = lv') (h : Gx Γ M b τ P k n (pc + 3) lv' st σ) : Gx Γ M b τ P k n pc lv st σ :=
  fun p e s m args below meth c H locs _ g hlv hw hS hz => lv_iinc g.1.1 g.1.2.1 hd hlv hq hv hn hl (fun ls hlv => h p e s m args below meth c H locs ls g hlv hw hS hz)
theorem gx_iadd {x y : Int32} (hd : decode M.cc pc = .ok (.iadd, 1)) (h : Gx Γ M b τ P k n (pc + 1) lv (.int (x + y) :: st) σ) : Gx Γ M b τ P k n pc lv (.int y :: .int x :: st) σ :=
  fun p e s m args below meth c H locs ls g hlv hw hS hz => lv_iadd g.1.1 g.1.2.1 hd (h p e s m args below meth c H locs ls g hlv hw hS hz)
theorem gx_isub {x y : Int32} (hd : decode M.cc pc = .ok (.isub, 1)) (h : Gx Γ M b τ P k n (pc + 1) lv (.int (x - y) :: st) σ) : Gx Γ M b τ P k n pc lv (.int y :: .int x :: st) σ :=
  fun p e s m args below meth c H locs ls g hlv hw hS hz => lv_isub g.1.1 g.1.2.1 hd (h p e s m args below meth c H locs ls g hlv hw hS hz)
theorem gx_imul {x y : Int32} (hd : decode M.cc pc = .ok (.imul, 1)) (h : Gx Γ M b τ P k n (pc + 1) lv (.int (x * y) :: st) σ) : Gx Γ M b τ P k n pc lv (.int y :: .int x :: st) σ :=
  fun p e s m args below meth c H locs ls g hlv hw hS hz => lv_imul g.1.1 g.1.2.1 hd (h p e s m args below meth c H locs ls g hlv hw hS hz)
theorem gx_iand {x y : Int32} (hd : decode M.cc pc = .ok (.iand, 1)) (h : Gx Γ M b τ P k n (pc + 1) lv (.int (x &&& y) :: st) σ) : Gx Γ M b τ P k n pc lv (.int y :: .int x :: st) σ :=
  fun p e s m args below meth c H locs ls g hlv hw hS hz => lv_iand g.1.1 g.1.2.1 hd (h p e s m args below meth c H locs ls g hlv hw hS hz)
theorem gx_ior {x y : Int32} (hd : decode M.cc pc = .ok (.ior, 1)) (h : Gx Γ M b τ P k n (pc + 1) lv (.int (x ||| y) :: st) σ) : Gx Γ M b τ P k n pc lv (.int y :: .int x :: st) σ :=
  fun p e s m args below meth c H locs ls g hlv hw hS hz => lv_ior g.1.1 g.1.2.1 hd (h p e s m args below meth c H locs ls g hlv hw hS hz)
theorem gx_ixor {x y : Int32} (hd : decode M.cc pc = .ok (.ixor, 1)) (h : Gx Γ M b τ P k n (pc + 1) lv (.int (x ^^^ y) :: st) σ) : Gx Γ M b τ P k n pc lv (.int y :: .int x :: st) σ :=
  fun p e s m args below meth c H locs ls g hlv hw hS hz => lv_ixor g.1.1 g.1.2.1 hd (h p e s m args below meth c H locs ls g hlv hw hS hz)
theorem gx_ishl {x y : Int32} (hd : decode M.cc pc = .ok (.ishl, 1)) (h : Gx Γ M b τ P k n (pc + 1) lv (.int (x <<< (y &&& 31)) :: st) σ) : Gx Γ M b τ P k n pc lv (.int y :: .int x :: st) σ :=
  fun p e s m args below meth c H locs ls g hlv hw hS hz => lv_ishl g.1.1 g.1.2.1 hd (h p e s m args below meth c H locs ls g hlv hw hS hz)
theorem gx_ishr {x y : Int32} (hd : decode M.cc pc = .ok (.ishr, 1)) (h : Gx Γ M b τ P k n (pc + 1) lv (.int (x >>> (y &&& 31)) :: st) σ) : Gx Γ M b τ P k n pc lv (.int y :: .int x :: st) σ :=
  fun p e s m args below meth c H locs ls g hlv hw hS hz => lv_ishr g.1.1 g.1.2.1 hd (h p e s m args below meth c H locs ls g hlv hw hS hz)
theorem gx_ladd {x y : Int64} (hd : decode M.cc pc = .ok (.ladd, 1)) (h : Gx Γ M b τ P k n (pc + 1) lv (.long (x + y) :: st) σ) : Gx Γ M b τ P k n pc lv (.long y :: .long x :: st) σ :=
  fun p e s m args below meth c H locs ls g hlv hw hS hz => lv_ladd g.1.1 g.1.2.1 hd (h p e s m args below meth c H locs ls g hlv hw hS hz)
theorem gx_lsub {x y : Int64} (hd : decode M.cc pc = .ok (.lsub, 1)) (h : Gx Γ M b τ P k n (pc + 1) lv (.long (x - y) :: st) σ) : Gx Γ M b τ P k n pc lv (.long y :: .long x :: st) σ :=
  fun p e s m args below meth c H locs ls g hlv hw hS hz => lv_lsub g.1.1 g.1.2.1 hd (h p e s m args below meth c H locs ls g hlv hw hS hz)
theorem gx_lmul {x y : Int64} (hd : decode M.cc pc = .ok (.lmul, 1)) (h : Gx Γ M b τ P k n (pc + 1) lv (.long (x * y) :: st) σ) : Gx Γ M b τ P k n pc lv (.long y :: .long x :: st) σ :=
  fun p e s m args below meth c H locs ls g hlv hw hS hz => lv_lmul g.1.1 g.1.2.1 hd (h p e s m args below meth c H locs ls g hlv hw hS hz)
theorem gx_land {x y : Int64} (hd : decode M.cc pc = .ok (.land, 1)) (h : Gx Γ M b τ P k n (pc + 1) lv (.long (x &&& y) :: st) σ) : Gx Γ M b τ P k n pc lv (.long y :: .long x :: st) σ :=
  fun p e s m args below meth c H locs ls g hlv hw hS hz => lv_land g.1.1 g.1.2.1 hd (h p e s m args below meth c H locs ls g hlv hw hS hz)
theorem gx_lor {x y : Int64} (hd : decode M.cc pc = .ok (.lor, 1)) (h : Gx Γ M b τ P k n (pc + 1) lv (.long (x ||| y) :: st) σ) : Gx Γ M b τ P k n pc lv (.long y :: .long x :: st) σ :=
  fun p e s m args below meth c H locs ls g hlv hw hS hz => lv_lor g.1.1 g.1.2.1 hd (h p e s m args below meth c H locs ls g hlv hw hS hz)
theorem gx_idiv {x y : Int32} (hd : decode M.cc pc = .ok (.idiv, 1)) (hne : ¬ y = 0) (h : Gx Γ M b τ P k n (pc + 1) lv (.int (x / y) :: st) σ) : Gx Γ M b τ P k n pc lv (.int y :: .int x :: st) σ :=
  fun p e s m args below meth c H locs ls g hlv hw hS hz => lv_idiv g.1.1 g.1.2.1 hd hne (h p e s m args below meth c H locs ls g hlv hw hS hz)
theorem gx_irem {x y : Int32} (hd : decode M.cc pc = .ok (.irem, 1)) (hne : ¬ y = 0) (h : Gx Γ M b τ P k n (pc + 1) lv (.int (x - x / y * y) :: st) σ) : Gx Γ M b τ P k n pc lv (.int y :: .int x :: st) σ :=
  fun p e s m args below meth c H locs ls g hlv hw hS hz => lv_irem g.1.1 g.1.2.1 hd hne (h p e s m args below meth c H locs ls g hlv hw hS hz)
theorem gx_ldiv {x y : Int64} (hd : decode M.cc pc = .ok (.ldiv, 1)) (hne : ¬ y = 0) (h : Gx Γ M b τ P k n (pc + 1) lv (.long (x / y) :: st) σ) : Gx Γ M b τ P k n pc lv (.long y :: .long x :: st) σ :=
  fun p e s m args below meth c H locs ls g hlv hw hS hz => lv_ldiv g.1.1 g.1.2.1 hd hne (h p e s m args below meth c H locs ls g hlv hw hS hz)
theorem gx_lrem {x y : Int64} (hd : decode M.cc pc = .ok (.lrem, 1)) (hne : ¬ y = 0) (h : Gx Γ M b τ P k n (pc + 1) lv (.long (x - x / y * y) :: st) σ) : Gx Γ M b τ P k n pc lv (.long y :: .long x :: st) σ :=
  fun p e s m args below meth c H locs ls g hlv hw hS hz => lv_lrem g.1.1 g.1.2.1 hd hne (h p e s m args below meth c H locs ls g hlv hw hS hz)
theorem gx_ineg {x : Int32} (hd : decode M.cc pc = .ok (.ineg, 1)) (h : Gx Γ M b τ P k n (pc + 1) lv (.int (-x) :: st) σ) : Gx Γ M b τ P k n pc lv (.int x :: st) σ :=
  fun p e s m args below meth c H locs ls g hlv hw hS hz => lv_ineg g.1.1 g.1.2.1 hd (h p e s m args below meth c H locs ls g hlv hw hS hz)
theorem gx_i2l {x : Int32} (hd : decode M.cc pc = .ok (.i2l, 1)) (h : Gx Γ M b τ P k n (pc + 1) lv (.long x.toInt64 :: st) σ) : Gx Γ M b τ P k n pc lv (.int x :: st) σ :=
  fun p e s m args below meth c H locs ls g hlv hw hS hz => lv_i2l g.1.1 g.1.2.1 hd rfl (h p e s m args below meth c H locs ls g hlv hw hS hz)
theorem gx_l2i {x : Int64} (hd : decode M.cc pc = .ok (.l2i, 1)) (h : Gx Γ M b τ P k n (pc + 1) lv (.int x.toInt32 :: st) σ) : Gx Γ M b τ P k n pc lv (.long x :: st) σ :=
  fun p e s m args below meth c H locs ls g hlv hw hS hz => lv_l2i g.1.1 g.1.2.1 hd rfl (h p e s m args below meth c H locs ls g hlv hw hS hz)
theorem gx_i2b {x : Int32} (hd : decode M.cc pc = .ok (.i2b, 1)) (h : Gx Γ M b τ P k n (pc + 1) lv (.int x.toInt8.toInt32 :: st) σ) : Gx Γ M b τ P k n pc lv (.int x :: st) σ :=
  fun p e s m args below meth c H locs ls g hlv hw hS hz => lv_i2b g.1.1 g.1.2.1 hd rfl (h p e s m args below meth c H locs ls g hlv hw hS hz)
theorem gx_i2c {x : Int32} (hd : decode M.cc pc = .ok (.i2c, 1)) (h : Gx Γ M b τ P k n (pc + 1) lv (.int (x.toUInt32 % 65536).toInt32 :: st) σ) : Gx Γ M b τ P k n pc lv (.int x :: st) σ :=
  fun p e s m args below meth c H locs ls g hlv hw hS hz => lv_i2c g.1.1 g.1.2.1 hd rfl (h p e s m args below meth c H locs ls g hlv hw hS hz)
theorem gx_iushr {x y : Int32} (hd : decode M.cc pc = .ok (.iushr, 1)) (h : Gx Γ M b τ P k n (pc + 1) lv (.int (x.toUInt32 >>> (y.toUInt32 &&& Int32.toUInt32 31)).toInt32 :: st) σ) : Gx Γ M b τ P k n pc lv (.int y :: .int x :: st) σ :=
  fun p e s m args below meth c H locs ls g hlv hw hS hz => lv_iushr g.1.1 g.1.2.1 hd rfl (h p e s m args below meth c H locs ls g hlv hw hS hz)
theorem gx_lshl {x : Int64} {y : Int32} (hd : decode M.cc pc = .ok (.lshl, 1)) (h : Gx Γ M b τ P k n (pc + 1) lv (.long (x <<< (y.toInt64 &&& 63)) :: st) σ) : Gx Γ M b τ P k n pc lv (.int y :: .long x :: st) σ :=
  fun p e s m args below meth c H locs ls g hlv hw hS hz => lv_lshl g.1.1 g.1.2.1 hd rfl (h p e s m args below meth c H locs ls g hlv hw hS hz)
theorem gx_dup {v : Value} (hd : decode M.cc pc = .ok (.dup, 1)) (hc : v.category = 1) (h : Gx Γ M b τ P k n (pc + 1) lv (v :: v :: st) σ) : Gx Γ M b τ P k n pc lv (v :: st) σ :=
  fun p e s m args below meth c H locs ls g hlv hw hS hz => lv_dup g.1.1 g.1.2.1 hd hc (h p e s m args below meth c H locs ls g hlv hw hS hz)
theorem gx_pop {v : Value} (hd : decode M.cc pc = .ok (.pop, 1)) (hc : v.category = 1) (h : Gx Γ M b τ P k n (pc + 1) lv st σ) : Gx Γ M b τ P k n pc lv (v :: st) σ :=
  fun p e s m args below meth c H locs ls g hlv hw hS hz => lv_pop g.1.1 g.1.2.1 hd hc (h p e s m args below meth c H locs ls g hlv hw hS hz)
theorem gx_dup2 {v w : Value} (hd : decode M.cc pc = .ok (.dup2, 1)) (hc : v.category = 1) (hc' : w.category = 1) (h : Gx Γ M b τ P k n (pc + 1) lv (v :: w :: v :: w :: st) σ) : Gx Γ M b τ P k n pc lv (v :: w :: st) σ :=
  fun p e s m args below meth c H locs ls g hlv hw hS hz => lv_dup2_11 g.1.1 g.1.2.1 hd hc hc' (h p e s m args below meth c H locs ls g hlv hw hS hz)
theorem gx_null (hd : decode M.cc pc = .ok (.aconst_null, 1)) (h : Gx Γ M b τ P k n (pc + 1) lv (.null :: st) σ) : Gx Γ M b τ P k n pc lv st σ :=
  fun p e s m args below meth c H locs ls g hlv hw hS hz => lv_null g.1.1 g.1.2.1 hd (h p e s m args below meth c H locs ls g hlv hw hS hz)
theorem gx_goto {off : Int} (tgt : Nat) (hd : decode M.cc pc = .ok (.goto off, 3)) (ht : (pc : Int) + off = (tgt : Int)) (h : Gx Γ M b τ P k n tgt lv st σ) : Gx Γ M b τ P k n pc lv st σ :=
  fun p e s m args below meth c H locs ls g hlv hw hS hz => lv_goto g.1.1 g.1.2.1 hd ht (h p e s m args below meth c H locs ls g hlv hw hS hz)
theorem gx_if_eq {x : Int32} {off : Int} (tgt : Nat) (hd : decode M.cc pc = .ok (.ifCond .eq off, 3)) (ht : (pc : Int) + off = (tgt : Int)) (h1 : x = 0 → Gx Γ M b τ P k n tgt lv st σ) (h2 : ¬ x = 0 → Gx Γ M b τ P k n (pc + 3) lv st σ) : Gx Γ M b τ P k n pc lv (.int x :: st) σ :=
  fun p e s m args below meth c H locs ls g hlv hw hS hz => lv_if_eq g.1.1 g.1.2.1 hd ht (fun q => h1 q p e s m args below meth c H locs ls g hlv hw hS hz) (fun q => h2 q p e s m args below meth c H locs ls g hlv hw hS hz)
theorem gx_if_ne {x : Int32} {off : Int} (tgt : Nat) (hd : decode M.cc pc = .ok (.ifCond .ne off, 3)) (ht : (pc : Int) + off = (tgt : Int)) (h1 : ¬ x = 0 → Gx Γ M b τ P k n tgt lv st σ) (h2 : x = 0 → Gx Γ M b τ P k n (pc + 3) lv st σ) : Gx Γ M b τ P k n pc lv (.int x :: st) σ :=
  fun p e s m args below meth c H locs ls g hlv hw hS hz => lv_if_ne g.1.1 g.1.2.1 hd ht (fun q => h1 q p e s m args below meth c H locs ls g hlv hw hS hz) (fun q => h2 q p e s m args below meth c H locs ls g hlv hw hS hz)
theorem gx_if_lt {x : Int32} {off : Int} (tgt : Nat) (hd : decode M.cc pc = .ok (.ifCond .lt off, 3)) (ht : (pc : Int) + off = (tgt : Int)) (h1 : x < 0 → Gx Γ M b τ P k n tgt lv st σ) (h2 : ¬ x < 0 → Gx Γ M b τ P k n (pc + 3) lv st σ) : Gx Γ M b τ P k n pc lv (.int x :: st) σ :=
  fun p e s m args below meth c H locs ls g hlv hw hS hz => lv_if_lt g.1.1 g.1.2.1 hd ht (fun q => h1 q p e s m args below meth c H locs ls g hlv hw hS hz) (fun q => h2 q p e s m args below meth c H locs ls g hlv hw hS hz)
theorem gx_if_ge {x : Int32} {off : Int} (tgt : Nat) (hd : decode M.cc pc = .ok (.ifCond .ge off, 3)) (ht : (pc : Int) + off = (tgt : Int)) (h1 : 0 ≤ x → Gx Γ M b τ P k n tgt lv st σ) (h2 : ¬ 0 ≤ x → Gx Γ M b τ P k n (pc + 3) lv st σ) : Gx Γ M b τ P k n pc lv (.int x :: st) σ :=
  fun p e s m args below meth c H locs ls g hlv hw hS hz => lv_if_ge g.1.1 g.1.2.1 hd ht (fun q => h1 q p e s m args below meth c H locs ls g hlv hw hS hz) (fun q => h2 q p e s m args below meth c H locs ls g hlv hw hS hz)
theorem gx_if_gt {x : Int32} {off : Int} (tgt : Nat) (hd : decode M.cc pc = .ok (.ifCond .gt off, 3)) (ht : (pc : Int) + off = (tgt : Int)) (h1 : 0 < x → Gx Γ M b τ P k n tgt lv st σ) (h2 : ¬ 0 < x → Gx Γ M b τ P k n (pc + 3) lv st σ) : Gx Γ M b τ P k n pc lv (.int x :: st) σ :=
  fun p e s m args below meth c H locs ls g hlv hw hS hz => lv_if_gt g.1.1 g.1.2.1 hd ht (fun q => h1 q p e s m args below meth c H locs ls g hlv hw hS hz) (fun q => h2 q p e s m args below meth c H locs ls g hlv hw hS hz)
theorem gx_if_le {x : Int32} {off : Int} (tgt : Nat) (hd : decode M.cc pc = .ok (.ifCond .le off, 3)) (ht : (pc : Int) + off = (tgt : Int)) (h1 : x ≤ 0 → Gx Γ M b τ P k n tgt lv st σ) (h2 : ¬ x ≤ 0 → Gx Γ M b τ P k n (pc + 3) lv st σ) : Gx Γ M b τ P k n pc lv (.int x :: st) σ :=
  fun p e s m args below meth c H locs ls g hlv hw hS hz => lv_if_le g.1.1 g.1.2.1 hd ht (fun q => h1 q p e s m args below meth c H locs ls g hlv hw hS hz) (fun q => h2 q p e s m args below meth c H locs ls g hlv hw hS hz)
theorem gx_icmp_eq {x y : Int32} {off : Int} (tgt : Nat) (hd : decode M.cc pc = .ok (.if_icmp .eq off, 3)) (ht : (pc : Int) + off = (tgt : Int)) (h1 : x = y → Gx Γ M b τ P k n tgt lv st σ) (h2 : ¬ x = y → Gx Γ M b τ P k n (pc + 3) lv st σ) : Gx Γ M b τ P k n pc lv (.int y :: .int x :: st) σ :=
  fun p e s m args below meth c H locs ls g hlv hw hS hz => lv_icmp_eq g.1.1 g.1.2.1 hd ht (fun q => h1 q p e s m args below meth c H locs ls g hlv hw hS hz) (fun q => h2 q p e s m args below meth c H locs ls g hlv hw hS hz)
theorem gx_icmp_ne {x y : Int32} {off : Int} (tgt : Nat) (hd : decode M.cc pc = .ok (.if_icmp .ne off, 3)) (ht : (pc : Int) + off = (tgt : Int)) (h1 : ¬ x = y → Gx Γ M b τ P k n tgt lv st σ) (h2 : x = y → Gx Γ M b τ P k n (pc + 3) lv st σ) : Gx Γ M b τ P k n pc lv (.int y :: .int x :: st) σ :=
  fun p e s m args below meth c H locs ls g hlv hw hS hz => lv_icmp_ne g.1.1 g.1.2.1 hd ht (fun q => h1 q p e s m args below meth c H locs ls g hlv hw hS hz) (fun q => h2 q p e s m args below meth c H locs ls g hlv hw hS hz)
theorem gx_icmp_lt {x y : Int32} {off : Int} (tgt : Nat) (hd : decode M.cc pc = .ok (.if_icmp .lt off, 3)) (ht : (pc : Int) + off = (tgt : Int)) (h1 : x < y → Gx Γ M b τ P k n tgt lv st σ) (h2 : ¬ x < y → Gx Γ M b τ P k n (pc + 3) lv st σ) : Gx Γ M b τ P k n pc lv (.int y :: .int x :: st) σ :=
  fun p e s m args below meth c H locs ls g hlv hw hS hz => lv_icmp_lt g.1.1 g.1.2.1 hd ht (fun q => h1 q p e s m args below meth c H locs ls g hlv hw hS hz) (fun q => h2 q p e s m args below meth c H locs ls g hlv hw hS hz)
theorem gx_icmp_ge {x y : Int32} {off : Int} (tgt : Nat) (hd : decode M.cc pc = .ok (.if_icmp .ge off, 3)) (ht : (pc : Int) + off = (tgt : Int)) (h1 : y ≤ x → Gx Γ M b τ P k n tgt lv st σ) (h2 : ¬ y ≤ x → Gx Γ M b τ P k n (pc + 3) lv st σ) : Gx Γ M b τ P k n pc lv (.int y :: .int x :: st) σ :=
  fun p e s m args below meth c H locs ls g hlv hw hS hz => lv_icmp_ge g.1.1 g.1.2.1 hd ht (fun q => h1 q p e s m args below meth c H locs ls g hlv hw hS hz) (fun q => h2 q p e s m args below meth c H locs ls g hlv hw hS hz)
theorem gx_icmp_gt {x y : Int32} {off : Int} (tgt : Nat) (hd : decode M.cc pc = .ok (.if_icmp .gt off, 3)) (ht : (pc : Int) + off = (tgt : Int)) (h1 : y < x → Gx Γ M b τ P k n tgt lv st σ) (h2 : ¬ y < x → Gx Γ M b τ P k n (pc + 3) lv st σ) : Gx Γ M b τ P k n pc lv (.int y :: .int x :: st) σ :=
  fun p e s m args below meth c H locs ls g hlv hw hS hz => lv_icmp_gt g.1.1 g.1.2.1 hd ht (fun q => h1 q p e s m args below meth c H locs ls g hlv hw hS hz) (fun q => h2 q p e s m args below meth c H locs ls g hlv hw hS hz)
theorem gx_icmp_le {x y : Int32} {off : Int} (tgt : Nat) (hd : decode M.cc pc = .ok (.if_icmp .le off, 3)) (ht : (pc : Int) + off = (tgt : Int)) (h1 : x ≤ y → Gx Γ M b τ P k n tgt lv st σ) (h2 : ¬ x ≤ y → Gx Γ M b τ P k n (pc + 3) lv st σ) : Gx Γ M b τ P k n pc lv (.int y :: .int x :: st) σ :=
  fun p e s m args below meth c H locs ls g hlv hw hS hz => lv_icmp_le g.1.1 g.1.2.1 hd ht (fun q => h1 q p e s m args below meth c H locs ls g hlv hw hS hz) (fun q => h2 q p e s m args below meth c H locs ls g hlv hw hS hz)
theorem gx_lcmp {x y : Int64} (hd : decode M.cc pc = .ok (.lcmp, 1)) (h : Gx Γ M b τ P k n (pc + 1) lv (.int (lg_cmp x y) :: st) σ) : Gx Γ M b τ P k n pc lv (.long y :: .long x :: st) σ :=
  fun p e s m args below meth c H locs ls g hlv hw hS hz => W.lcmp g.1.1 g.1.2.1 hd (h p e s m args below meth c H locs ls g hlv hw hS hz)
theorem gx_nonnull {off : Int} {x : Nat} (tgt : Nat) (hd : decode M.cc pc = .ok (.ifnonnull off, 3)) (ht : (pc : Int) + off = (tgt : Int)) (h : Gx Γ M b τ P k n tgt lv st σ) : Gx Γ M b τ P k n pc lv (.ref x :: st) σ :=
  fun p e s m args below meth c H locs ls g hlv hw hS hz => lv_ifnonnull g.1.1 g.1.2.1 hd ht (h p e s m args below meth c H locs ls g hlv hw hS hz)
theorem gx_nonnullN {off : Int} (hd : decode M.cc pc = .ok (.ifnonnull off, 3)) (h : Gx Γ M b τ P k n (pc + 3) lv st σ) : Gx Γ M b τ P k n pc lv (.null :: st) σ :=
  fun p e s m args below meth c H locs ls g hlv hw hS hz => lv_ifnonnullN g.1.1 g.1.2.1 hd (h p e s m args below meth c H locs ls g hlv hw hS hz)
theorem gx_tIn {dflt lo hi : Int} {offs : Array Int} {len : Nat} {x : Int32} {off : Int} (tgt : Nat) (hd : decode M.cc pc = .ok (.tableswitch dflt lo hi offs, len)) (h1 : ¬ x.toInt < lo) (h2 : ¬ hi < x.toInt) (ho : offs[(x.toInt - lo).toNat]? = some off) (ht : (pc : Int) + off = (tgt : Int)) (h : Gx Γ M b τ P k n tgt lv st σ) : Gx Γ M b τ P k n pc lv (.int x :: st) σ :=
  fun p e s m args below meth c H locs ls g hlv hw hS hz => lv_tableIn g.1.1 g.1.2.1 hd h1 h2 ho ht (h p e s m args below meth c H locs ls g hlv hw hS hz)
theorem gx_tOut {dflt lo hi : Int} {offs : Array Int} {len : Nat} {x : Int32} (tgt : Nat) (hd : decode M.cc pc = .ok (.tableswitch dflt lo hi offs, len)) (h1 : x.toInt < lo ∨ hi < x.toInt) (ht : (pc : Int) + dflt = (tgt : Int)) (h : Gx Γ M b τ P k n tgt lv st σ) : Gx Γ M b τ P k n pc lv (.int x :: st) σ :=
  fun p e s m args below meth c H locs ls g hlv hw hS hz => lv_tableOut g.1.1 g.1.2.1 hd h1 ht (h p e s m args below meth c H locs ls g hlv hw hS hz)
theorem gx_look {dflt : Int} {ps : Array (Int × Int)} {len : Nat} {x : Int32} {off : Int} (tgt : Nat) (hd : decode M.cc pc = .ok (.lookupswitch dflt ps, len)) (hp : (ps.toList.zip (ps.toList.drop 1)).all (fun (a, next) => a.1 < next.1) = true) (ho : Op.lookupswitch.offset ps.toList dflt x.toInt = off) (ht : (pc : Int) + off = (tgt : Int)) (h : Gx Γ M b τ P k n tgt lv st σ) : Gx Γ M b τ P k n pc lv (.int x :: st) σ :=
  fun p e s m args below meth c H locs ls g hlv hw hS hz => lv_lookup g.1.1 g.1.2.1 hd hp ho ht (h p e s m args below meth c H locs ls g hlv hw hS hz)
end GX
