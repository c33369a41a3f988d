/-! THE ABSTRACT MACHINE. Values: an int or a long as a whole number, a reference as a code (0 null, 1 the script, 2 to 15 what stands before the law begins, 16 + k the k-th cell that the law makes), or nothing known. -/
abbrev xV : Type := Int ⊕ (Int ⊕ (Nat ⊕ Unit))
abbrev xi (x : Int) : xV := .inl x
abbrev xl (x : Int) : xV := .inr (.inl x)
abbrev xr (r : Nat) : xV := .inr (.inr (.inl r))
abbrev xu : xV := .inr (.inr (.inr ()))
/-- the heap: each cell's kind (0 to 9 the classes, 10 int[], 11 long[], 12 boolean[], 13 Act[]) and length; what it holds, by its code and place -/
abbrev xH : Type := List (Nat × Nat) × (Nat → Nat → Int)
/-- what stays the same over the law's run: launch, the first own cell, the classes' numbers, the arrays' classes, the codes' addresses, the script -/
abbrev xG : Type := Launch × Nat × va_G × (Nat → ClassId) × (Nat → Nat) × Nat × (Nat → Int32)
abbrev xG.l (g : xG) : Launch := g.1
abbrev xG.b (g : xG) : Nat := g.2.1
abbrev xG.D (g : xG) : va_G := g.2.2.1
abbrev xG.ac (g : xG) : Nat → ClassId := g.2.2.2.1
abbrev xG.sa (g : xG) : Nat → Nat := g.2.2.2.2.1
abbrev xG.L (g : xG) : Nat := g.2.2.2.2.2.1
abbrev xG.xs (g : xG) : Nat → Int32 := g.2.2.2.2.2.2
def x32 (x : Int) : Int := x.bmod 4294967296
def x64 (x : Int) : Int := x.bmod 18446744073709551616
/-- four cells that nobody uses lie between the own cells 59 and 60 (the reader's first draft), from where on g.sa 0 is 4 and not 0: they have no codes of their own, but the first of them the code 15 -/
def x_sk (g : xG) (r : Nat) : Nat := if r < 75 then 0 else g.sa 0
def x_ad (g : xG) (r : Nat) : Nat := if r < 16 then g.sa r else g.b + (r - 16) + x_sk g r
def x_ro (g : xG) (r : Nat) : Option Nat := if r = 0 then none else some (x_ad g r)
def x_v (g : xG) : xV → Value
  | .inl x => .int (Int32.ofInt x)
  | .inr (.inl x) => .long (Int64.ofInt x)
  | .inr (.inr (.inl r)) => va_rf (x_ro g r)
  | .inr (.inr (.inr _)) => .null
/-- what a value may be -/
def x_ok : xV → Prop
  | .inl x => x32 x = x
  | .inr (.inl x) => x64 x = x
  | _ => True
/-- the type of a place of a cell: 0 int, 1 long, 2 reference, 3 boolean -/
def x_tc (c j : Nat) : Nat := if c = 10 then 0 else if c = 11 then 1 else if c = 12 then 3 else if c = 13 then 2 else (x_ft.getD c []).getD j 0
def x_fv (g : xG) (t : Nat) (x : Int) : xV := if t = 1 then xl x else if t = 2 then xr x.toNat else xi x
def x_E (g : xG) (e : Nat × Nat) (f : Nat → Int) : va_E :=
  if e.1 = 10 then .inl (g.ac 0, e.2, .inl fun j => Int32.ofInt (f j))
  else if e.1 = 11 then .inl (g.ac 1, e.2, .inr (.inl fun j => Int64.ofInt (f j)))
  else if e.1 = 12 then .inl (g.ac 2, e.2, .inl fun j => Int32.ofInt (f j))
  else if e.1 = 13 then .inl (g.ac 3, e.2, .inr (.inr (.inr (.inr fun j => x_ro g (f j).toNat))))
  else .inr (e.1, (List.range e.2).map fun j => x_v g (x_fv g (x_tc e.1 j) (f j)))
def x_ws (g : xG) (h : xH) : va_W := (List.range h.1.length).map fun k => (x_ad g (k + 16), x_E g (h.1.getD k (0, 0)) (h.2 (k + 16)))
def x_okH (h : xH) : Prop := ∀ (k : Nat) (e : Nat × Nat), h.1[k]? = some e → (e.1 < 10 → e.2 = (x_ft.getD e.1 []).length) ∧ e.1 < 14 ∧ e.2 < 1000000 ∧ ∀ j, j < e.2 → (x_tc e.1 j = 0 → x32 (h.2 (k + 16) j) = h.2 (k + 16) j) ∧ (x_tc e.1 j = 3 → h.2 (k + 16) j = 0 ∨ h.2 (k + 16) j = 1) ∧ (x_tc e.1 j = 1 → x64 (h.2 (k + 16) j) = h.2 (k + 16) j)
/-- the real heap holds the abstract one -/
def x_R (g : xG) (h : xH) (H : Heap) : Prop := (H.size = x_ad g (h.1.length + 16) ∧ (g.sa 0 = 0 ∨ 59 ≤ h.1.length)) ∧ va_P g.D x_cl (x_ws g h) H ∧ x_okH h
def x_A (g : xG) : Nat → Prop := fun q => g.b ≤ q
abbrev x_tys (g : xG) : List (ClassId × FieldType) := [(g.ac 0, .int), (g.ac 1, .long), (g.ac 2, .boolean), (g.ac 3, .object "LinenBoard$Act")]
/-- the words of the tables that a call hands on as they are -/
def x_tb : List Cond := lw_tbl.filter goodWord
/-- links to private members of nest mates -/
def x_nm : List (String × Nat × MethodName) := [("LinenBoard", 11, ⟨"LinenBoard$Ledger", "<init>", "()V"⟩), ("LinenBoard", 14, ⟨"LinenBoard$Tape", "<init>", "()V"⟩), ("LinenBoard", 53, ⟨"LinenBoard$Urn", "<init>", "()V"⟩), ("LinenBoard$Reader", 113, ⟨"LinenBoard", "isWithin", "(III)Z"⟩), ("LinenBoard", 245, ⟨"LinenBoard$Loom", "search", "(III)V"⟩)]
def x_lt : List (List Int) := [[0, 0, 0, 0, 0, 0, 0, 1, 1, 0], [9, 0, 0, 0, 0, 0, 20, 99, 500, 100], [0, 0, 0, 0, 0, 0, 0, 10, 100, 5]]
def x_sn : List (String × Nat × String) := [("LinenBoard$Reader", 104, "LEAST_TOLD"), ("LinenBoard$Reader", 107, "MOST_TOLD"), ("LinenBoard$Bench", 114, "UNTOLD")]
def x_by : List (List Int) := [[115, 111, 114, 116, 32, 32, 115, 101, 97, 108, 32, 32, 112, 114, 105, 122, 101, 32, 102, 101, 101, 32, 32, 32, 98, 111, 117, 110, 116, 121, 102, 105, 110, 101, 32, 32, 115, 104, 114, 105, 110, 107, 121, 105, 101, 108, 100, 32, 104, 97, 110, 107, 32, 32, 108, 101, 118, 101, 108, 32, 119, 105, 100, 116, 104, 32, 99, 111, 117, 110, 116, 32, 108, 101, 110, 103, 116, 104, 119, 101, 101, 107, 115, 32, 116, 111, 119, 110, 32, 32, 100, 97, 121, 32, 32, 32, 97, 110, 100, 32, 32, 32, 111, 114, 32, 32, 32, 32, 110, 111, 116, 32, 32, 32, 109, 105, 110, 32, 32, 32, 109, 97, 120, 32, 32, 32], [60, 62, 61, 35, 43, 45, 42, 47, 40, 41, 44, 59]]
def x_tx : List (Nat × String) := [(59, "sort  seal  prize fee   bountyfine  shrinkyield hank  level width count lengthweeks town  day   and   or    not   min   max   "), (76, "<>=#+-*/(),;")]
/-- what a state has besides: the classes, the links to nest mates, the script, the three static arrays, the two texts -/
def x_U (g : xG) (U : State) : Prop :=
  va_K g.D x_cl (x_tys g) U ∧ va_AO "LinenBoard$Act" U ∧ (∀ q ∈ x_nm, va_Nw (.methodLinkNest q.1 q.2.1 q.2.2 "LinenBoard") U) ∧
  va_X (g.sa 1) g.L g.xs U U.heap ∧ g.sa 1 < g.b ∧
  (∀ (i : Nat) (q : String × Nat × String), x_sn[i]? = some q → va_Nw (.fieldLinkNest q.1 q.2.1 "LinenBoard" q.2.2 "[I" "LinenBoard") U ∧ va_Z "LinenBoard" q.2.2 "[I" (.ref (g.sa (2 + i))) (x_A g) U U.heap ∧ va_T .int (g.sa (2 + i)) 10 (fun j => .int (Int32.ofInt ((x_lt.getD i []).getD j 0))) (x_A g) U U.heap) ∧
  (∀ (i : Nat) (q : Nat × String), x_tx[i]? = some q → vk_R "LinenBoard$Tape" q.1 q.2 (g.sa (5 + i)) U) ∧
  vk_S 2 [126, 12] (x_by.map fun l => l.map Int32.ofInt) (fun i => g.sa (5 + i)) (fun i => g.sa (7 + i)) (x_A g) U U.heap ∧
  (va_Z "java/lang/String" "COMPACT_STRINGS" "Z" (.int 1) (x_A g) U U.heap ∧ ∃ z : Nat, z < 16 ∧ va_Z "jdk/internal/util/Preconditions" "SIOOBE_FORMATTER" "Ljava/util/function/BiFunction;" (va_rf (x_ro g z)) (x_A g) U U.heap) ∧ g.b ≤ U.heap.size ∧ g.L ≤ 4096
/-- what a method's walk knows of its method -/
def x_C (g : xG) (M : Nat) (p : Program) (s : State) (m : MethodId) (args : Array Value) (meth : Method) (c : Code) : Prop :=
  p.tables.exec = Jvm.exec ∧ c.code = x_cd M ∧ meth.sig.returnType = x_rt M ∧ c.maxLocals = x_ml M ∧ s.vm.findClass (x_y M).cls = some m.cls ∧ (∀ w ∈ x_tb, w.before args s = true) ∧ meth.locks = false ∧ meth.name = (x_y M).name ∧ x_U g s
def x_rm (D M : Nat) : Room := { frames := D, cells := x_bc M, slots := x_bs M, locals := 60 * D }
def x_out (g : xG) : xV → Outcome
  | .inr (.inr (.inr _)) => .returned none
  | v => .returned (some (x_v g v))
/-- a method's end -/
def x_Q (g : xG) (Q : xV → xH → Prop) : Array Value → State → Outcome → State → Prop := fun _ st o t => (∃ (r : xV) (h : xH), o = x_out g r ∧ Q r h ∧ x_R g h t.heap ∧ x_ok r) ∧ va_F (x_A g) st t
/-- a walk's end; of the law's own end the heap is not told -/
def x_Qj (g : xG) (M : Nat) (Q : xV → xH → Prop) : Array Value → State → Outcome → State → Prop := fun _ st o t => (∃ (r : xV) (h : xH), o = x_out g r ∧ Q r h ∧ (M ≠ 247 → x_R g h t.heap) ∧ x_ok r) ∧ va_F (x_A g) st t
/-- the locals that are known -/
def x_lv (g : xG) : Nat → List xV → List (Nat × Value)
  | _, [] => []
  | i, .inr (.inr (.inr _)) :: vs => x_lv g (i + 1) vs
  | i, v :: vs => (i, x_v g v) :: x_lv g (i + 1) vs
/-- THE WALK: method M, at most D frames deep, k cells of n slots made so far, stands at pc with these locals, stack and heap; it returns, with Q of its answer and heap -/
def xJ (g : xG) (D M k n pc : Nat) (ls st : List xV) (h : xH) (Q : xV → xH → Prop) : Prop :=
  ∀ (p : Program) (e : Env) (s : State) (m : MethodId) (args : Array Value) (below : List Frame) (meth : Method) (c : Code) (H : Heap) (locs : List Loc) (la : Array Slot),
    x_C g M p s m args meth c → x_R g h H → va_S (x_A g) s.heap H locs → lv_has la (x_ml M) (x_lv g 0 ls) → (∀ v ∈ ls, x_ok v) → (∀ v ∈ st, x_ok v) → k ≤ x_bc M → n ≤ x_bs M →
    W p g.l e (x_rm D M) s m args below meth c H locs k n (MQ below (x_Qj g M Q) args s (x_bc M) (x_bs M) (x_A g)) (F0 m pc la (st.map (x_v g)))
/-- THE CALL: method M, at most D frames deep, called with args over h, returns, with Q of its answer and heap -/
def xS (g : xG) (D M : Nat) (args : List xV) (h : xH) (Q : xV → xH → Prop) : Prop :=
  (∀ v ∈ args, x_ok v) → Met g.l (x_y M) (.code (x_y M) (x_cd M) (x_ml M) (x_rt M) :: x_tb) (x_rm D M) (va_Pc (args.map (x_v g)) (fun U => x_R g h U.heap ∧ x_U g U)) (x_Q g Q) (x_bc M) (x_bs M) (x_A g)
