/-! THE START: what the tables and the statement's own words say of the state at the law's entry -/
def lwN1 : List Cond := flatC (Jvm.Cond.and given_1 narrow_1)
def lwTm (i : Nat) : Term := Term.string "LinenBoard$Tape" ((x_tx.getD i (0, "")).1)
def lwSt (i : Nat) : Term := Term.static "LinenBoard" ((x_sn.getD i ("", 0, "")).2.2) "[I"
theorem n_cl : ∀ q ∈ x_cl, Cond.instantiable q.1 q.2.2 ∈ lw_tbl := by decide +kernel
theorem n_nm : ∀ q ∈ x_nm, Cond.methodLinkNest q.1 q.2.1 q.2.2 "LinenBoard" ∈ lw_tbl := by decide +kernel
theorem n_sn : ∀ q ∈ x_sn, Cond.fieldLinkNest q.1 q.2.1 "LinenBoard" q.2.2 "[I" "LinenBoard" ∈ lw_tbl ∧ Cond.laysStatic "LinenBoard" q.2.2 "[I" ∈ lw_tbl := by decide +kernel
theorem n_sa : ∀ i, i < 3 → Cond.arrayOf (lwSt i) .int ∈ lwN1 ∧ Cond.eq (.length (lwSt i)) (.int (Int32.ofNat 10)) ∈ lwN1 := by decide +kernel
theorem n_el : ∀ i, i < 3 → ∀ j, j < 10 → Cond.eq (.elem (lwSt i) (.int (Int32.ofNat j))) (.int (Int32.ofInt ((x_lt.getD i []).getD j 0))) ∈ lwN1 := by decide +kernel
theorem n_tx : ∀ q ∈ x_tx, Cond.stringRef "LinenBoard$Tape" q.1 q.2 ∈ lw_tbl := by decide +kernel
theorem n_t1 : ∀ i, i < 2 → Cond.exactly (lwTm i) "java/lang/String" ∈ lwN1 ∧ Cond.eq (.field (lwTm i) "java/lang/String" "coder" "B") (.int 0) ∈ lwN1 ∧ Cond.arrayOf (.field (lwTm i) "java/lang/String" "value" "[B") .byte ∈ lwN1 ∧ Cond.eq (.length (.field (lwTm i) "java/lang/String" "value" "[B")) (.int (Int32.ofNat (([126, 12] : List Nat).getD i 0))) ∈ lwN1 := by decide +kernel
def lwCd (i j : Nat) : Cond := Cond.eq (.elem (.field (lwTm i) "java/lang/String" "value" "[B") (.int (Int32.ofNat j))) (.int (((x_by.map fun l => l.map Int32.ofInt).getD i []).getD j 0))
theorem n_t2a : (lwN1.drop 52).take 126 = (List.range 126).map (lwCd 0) := by decide +kernel
theorem n_t2b : (lwN1.drop 182).take 12 = (List.range 12).map (lwCd 1) := by decide +kernel
theorem n_t2 : ∀ i, i < 2 → ∀ j, j < (([126, 12] : List Nat).getD i 0) → lwCd i j ∈ lwN1 := by
  intro i hi j hj
  rcases (show i = 0 ∨ i = 1 by omega) with e | e <;> subst e
  · have h : lwCd 0 j ∈ (lwN1.drop 52).take 126 := by rw [n_t2a]; exact List.mem_map.mpr ⟨j, List.mem_range.mpr hj, rfl⟩
    exact List.mem_of_mem_drop (List.mem_of_mem_take h)
  · have h : lwCd 1 j ∈ (lwN1.drop 182).take 12 := by rw [n_t2b]; exact List.mem_map.mpr ⟨j, List.mem_range.mpr hj, rfl⟩
    exact List.mem_of_mem_drop (List.mem_of_mem_take h)
theorem n_t3 : Cond.not (Cond.eq (lwTm 0) (lwTm 1)) ∈ lwN1 := by decide +kernel
theorem n_st : Cond.laysStatic "java/lang/String" "COMPACT_STRINGS" "Z" ∈ lw_tbl ∧ Cond.initialized "java/lang/String" ∈ lw_tbl ∧ Cond.laysStatic "jdk/internal/util/Preconditions" "SIOOBE_FORMATTER" "Ljava/util/function/BiFunction;" ∈ lw_tbl ∧ Cond.initialized "jdk/internal/util/Preconditions" ∈ lw_tbl ∧ Cond.initialized "LinenBoard" ∈ lw_tbl ∧ Cond.arrayClass .int ∈ lw_tbl ∧ Cond.arrayClass .long ∈ lw_tbl ∧ Cond.arrayClass .boolean ∈ lw_tbl ∧ Cond.arrayOver (.object "LinenBoard$Act") ∈ lw_tbl := by decide +kernel
theorem n_s2 : Cond.eq (.static "java/lang/String" "COMPACT_STRINGS" "Z") (.int 1) ∈ lwN1 ∧ Cond.isRef (.static "jdk/internal/util/Preconditions" "SIOOBE_FORMATTER" "Ljava/util/function/BiFunction;") ∈ lwN1 := by decide +kernel
theorem lw_arr {args : Array Value} {s : State} {ty : FieldType} (h : (Cond.arrayClass ty).before args s = true) : ∃ c : ClassId, ArrOfT s c ty ∧ s.vm.findClass ("[" ++ ty.toString) = some c := by
  obtain ⟨c, k, comp, h1, h2, h3⟩ := Cond.arrayClass_spec (args := args) (first := s) (o := none) (s := s) (idx := []) h
  exact ⟨c, fun n z => ⟨fun k h => (by cases h), k, h2, comp, h3⟩, h1⟩
theorem lw_arrO {args : Array Value} {s : State} {C : String} (h : (Cond.arrayOver (.object C)).before args s = true) : ∃ c : ClassId, ArrOfT s c (.object C) ∧ va_RA s c (.object C) := by
  obtain ⟨comp, c, k, h1, -, h2, h3, h4⟩ := Cond.arrayOver_spec (args := args) (first := s) (o := none) (s := s) (idx := []) h
  exact ⟨c, fun n z => ⟨fun k h => (by cases h), k, h2, comp, h3⟩, k, comp, h2, h3, h1, h4⟩
theorem lw_U {s : State} {b L : Nat} {xs : Nat → Int32} (hL : L ≤ 4096) (hts : ∀ w ∈ lw_tbl, w.before #[Value.ref b] s = true) (hX : va_X b L xs s s.heap) (hbl : b < s.heap.size) (hgv : (Jvm.Cond.and given_1 narrow_1).before #[Value.ref b] s = true) : ∃ (D : va_G) (ac : Nat → ClassId) (sa : Nat → Nat), sa 1 = b ∧ sa 0 = 0 ∧ sa 15 = s.heap.size + 59 ∧ ∀ l : Launch, x_U (l, s.heap.size, D, ac, sa, L, xs) s := by
  have hs : ∀ w ∈ lwN1, w.before #[Value.ref b] s = true := flat_of_before _ hgv
  have hA : ∀ a : Nat, a < s.heap.size → ¬ (fun q : Nat => s.heap.size ≤ q) a := fun a h => Nat.not_le.mpr h
  have htb : ∀ w ∈ x_tb, w.before #[Value.ref b] s = true := fun w hw => hts w (List.mem_filter.mp hw).1
  obtain ⟨t1, t2, t3, t4, t5, t6, t7, t8, t9⟩ := n_st
  -- the classes
  have hcl : ∀ k : Nat, ∃ D : ClassId × (Nat → Nat), ∀ q : vw_C, x_cl[k]? = some q → u_Kn s q.1 q.2.1 q.2.2 D.1 D.2 := by
    intro k
    cases hk : x_cl[k]? with
    | none => exact ⟨(0, fun _ => 0), fun q hq => by cases hq⟩
    | some q =>
      obtain ⟨c, iS, h⟩ := u_known (C := q.1) (T := q.2.1) (N := q.2.2) (n := q.2.2) htb (x_cl_lay hk) (hts _ (n_cl q (List.mem_of_getElem? hk)))
      exact ⟨(c, iS), fun q' hq => by cases hq; exact h⟩
  obtain ⟨D, hD⟩ := Classical.axiomOfChoice hcl
  -- the arrays' classes
  obtain ⟨c0, a0, b0⟩ := lw_arr (hts _ t6)
  obtain ⟨c1, a1, b1⟩ := lw_arr (hts _ t7)
  obtain ⟨c2, a2, b2⟩ := lw_arr (hts _ t8)
  obtain ⟨c3, a3, b3⟩ := lw_arrO (hts _ t9)
  -- the static arrays
  have hst : ∀ i : Nat, ∃ t : Nat, i < 3 → (lwSt i).eval #[Value.ref b] s none [] s = some (.ref t) ∧ va_T .int t 10 (fun j => .int (Int32.ofInt ((x_lt.getD i []).getD j 0))) (fun q : Nat => s.heap.size ≤ q) s s.heap := by
    intro i
    by_cases hi : i < 3
    · obtain ⟨h1, h2⟩ := n_sa i hi
      obtain ⟨t, e1, e2⟩ := va_Tof (f := fun j => .int (Int32.ofInt ((x_lt.getD i []).getD j 0))) (A := fun q : Nat => s.heap.size ≤ q) (N := 10) (by decide) (hs _ h1) (va_eqt (hs _ h2)) (fun j hj => va_eqt (hs _ (n_el i hi j hj))) hA
      exact ⟨t, fun _ => ⟨e1, e2⟩⟩
    · exact ⟨0, fun h => absurd h hi⟩
  obtain ⟨st, hst⟩ := Classical.axiomOfChoice hst
  -- the texts
  obtain ⟨adK, adV, hS, hE⟩ := vk_Sof (args := #[Value.ref b]) (s := s) (N := 2) (tm := lwTm) (len := [126, 12]) (byt := (x_by.map fun (l : List Int) => l.map Int32.ofInt)) (A := fun q : Nat => s.heap.size ≤ q) (by decide) (fun i hi => hs _ (n_t1 i hi).1) (fun i hi => hs _ (n_t1 i hi).2.1) (fun i hi => hs _ (n_t1 i hi).2.2.1) (fun i hi => hs _ (n_t1 i hi).2.2.2) (fun i hi j hj => hs (lwCd i j) (n_t2 i hi j hj)) (fun i j hi hj hne => by
    rcases (show (i = 0 ∧ j = 1) ∨ (i = 1 ∧ j = 0) by omega) with ⟨e1, e2⟩ | ⟨e1, e2⟩ <;> subst e1 <;> subst e2
    · exact Or.inl (hs _ n_t3)
    · exact Or.inr (hs _ n_t3)) hA
  -- a thing that is handed on
  obtain ⟨v, hv, hvr⟩ := Cond.isRef_spec (args := #[Value.ref b]) (first := s) (o := none) (s := s) (idx := []) (hs _ n_s2.2)
  obtain ⟨z9, s9, h9⟩ : ∃ z9 s9 : Nat, (z9 = 0 ∨ z9 = 9) ∧ v = va_rf (if z9 = 0 then none else some s9) := by
    cases v with
    | ref a => exact ⟨9, a, Or.inr rfl, rfl⟩
    | null => exact ⟨0, 0, Or.inl rfl, rfl⟩
    | _ => cases hvr
  refine ⟨(fun c => (D c).1, fun c => (D c).2), fun k => if k = 0 then c0 else if k = 1 then c1 else if k = 2 then c2 else c3, fun r => if r = 0 then 0 else if r = 1 then b else if r < 5 then st (r - 2) else if r < 7 then adK (r - 5) else if r < 9 then adV (r - 7) else if r = 15 then s.heap.size + 59 else s9, rfl, rfl, rfl, fun l => ?_⟩
  refine ⟨⟨fun k q hk => hD k q hk, fun k q hk => ?_⟩, va_AO.of (hts _ t9), fun q hq => va_Nw.of rfl (hts _ (n_nm q hq)), hX, hbl, fun i q hq => ?_, fun i q hq => ?_, ⟨fun i hi => ?_, fun i j hi hj e => ?_⟩, ⟨va_Zof (hts _ t1) (hts _ t2) (va_eqi (hs _ n_s2.1)) hA, ⟨z9, by rcases h9.1 with e | e <;> omega, ?_⟩⟩, Nat.le_refl _, hL⟩
  · match k, hk with
    | 0, hk => cases hk; exact ⟨a0, b0⟩
    | 1, hk => cases hk; exact ⟨a1, b1⟩
    | 2, hk => cases hk; exact ⟨a2, b2⟩
    | 3, hk => cases hk; exact ⟨a3, b3⟩
    | k + 4, hk => simp at hk
  · have hi : i < 3 := (List.getElem?_eq_some_iff.mp hq).1
    obtain ⟨m1, m2⟩ := n_sn q (List.mem_of_getElem? hq)
    have eq : lwSt i = Term.static "LinenBoard" q.2.2 "[I" := by unfold lwSt; rw [List.getD_eq_getElem?_getD, hq]; rfl
    obtain ⟨e1, e2⟩ := hst i hi
    rw [eq] at e1
    have es : (if 2 + i = 0 then 0 else if 2 + i = 1 then b else if 2 + i < 5 then st (2 + i - 2) else if 2 + i < 7 then adK (2 + i - 5) else if 2 + i < 9 then adV (2 + i - 7) else if 2 + i = 15 then s.heap.size + 59 else s9) = st i := by
      rw [if_neg (by omega), if_neg (by omega), if_pos (by omega), show 2 + i - 2 = i by omega]
    refine ⟨va_Nw.of rfl (hts _ m1), ?_, ?_⟩
    · show va_Z "LinenBoard" q.2.2 "[I" (.ref (if 2 + i = 0 then 0 else if 2 + i = 1 then b else if 2 + i < 5 then st (2 + i - 2) else if 2 + i < 7 then adK (2 + i - 5) else if 2 + i < 9 then adV (2 + i - 7) else if 2 + i = 15 then s.heap.size + 59 else s9)) (fun q : Nat => s.heap.size ≤ q) s s.heap
      rw [es]
      exact va_Zof (hts _ m2) (hts _ t5) e1 hA
    · show va_T .int (if 2 + i = 0 then 0 else if 2 + i = 1 then b else if 2 + i < 5 then st (2 + i - 2) else if 2 + i < 7 then adK (2 + i - 5) else if 2 + i < 9 then adV (2 + i - 7) else if 2 + i = 15 then s.heap.size + 59 else s9) 10 _ (fun q : Nat => s.heap.size ≤ q) s s.heap
      rw [es]
      exact e2
  · have hi : i < 2 := (List.getElem?_eq_some_iff.mp hq).1
    have eq : lwTm i = Term.string "LinenBoard$Tape" q.1 := by unfold lwTm; rw [List.getD_eq_getElem?_getD, hq]; rfl
    have e1 := hE i hi
    rw [eq] at e1
    show vk_R "LinenBoard$Tape" q.1 q.2 (if 5 + i = 0 then 0 else if 5 + i = 1 then b else if 5 + i < 5 then st (5 + i - 2) else if 5 + i < 7 then adK (5 + i - 5) else if 5 + i < 9 then adV (5 + i - 7) else if 5 + i = 15 then s.heap.size + 59 else s9) s
    rw [if_neg (by omega), if_neg (by omega), if_neg (by omega), if_pos (by omega), show 5 + i - 5 = i by omega]
    exact vk_R.of (A := #[Value.ref b]) (hts _ (n_tx q (List.mem_of_getElem? hq))) e1
  · rcases (show i = 0 ∨ i = 1 by omega) with e | e <;> subst e
    · exact hS.1 0 (by omega)
    · exact hS.1 1 (by omega)
  · rcases (show i = 0 ∨ i = 1 by omega) with e1 | e1 <;> rcases (show j = 0 ∨ j = 1 by omega) with e2 | e2 <;> subst e1 <;> subst e2
    · rfl
    · exact absurd (hS.2 0 1 (by omega) (by omega) e) (by decide)
    · exact absurd (hS.2 1 0 (by omega) (by omega) e) (by decide)
    · rfl
  · have e2 : va_rf (x_ro ((l, s.heap.size, (fun c => (D c).1, fun c => (D c).2), fun k => if k = 0 then c0 else if k = 1 then c1 else if k = 2 then c2 else c3, fun r => if r = 0 then 0 else if r = 1 then b else if r < 5 then st (r - 2) else if r < 7 then adK (r - 5) else if r < 9 then adV (r - 7) else if r = 15 then s.heap.size + 59 else s9, L, xs) : xG) z9) = v := by
      rw [h9.2]
      rcases h9.1 with e | e <;> subst e <;> rfl
    rw [e2]
    exact va_Zof (hts _ t3) (hts _ t4) hv hA
/-- a smaller room will do -/
theorem lw_room {s : State} {pl : Platform} {R R' : Room} (h : s.hasRoom pl R = true) (h1 : R'.frames ≤ R.frames) (h2 : R'.cells ≤ R.cells) (h3 : R'.slots ≤ R.slots) (h4 : R'.locals ≤ R.locals) : s.hasRoom pl R' = true := by
  simp only [State.hasRoom, Bool.and_eq_true, decide_eq_true_eq] at h ⊢
  obtain ⟨⟨⟨⟨a, b, c, d, e, f⟩, g⟩, i⟩, j⟩ := h
  exact ⟨⟨⟨⟨by omega, by omega, by omega, by omega, by omega, f⟩, by omega⟩, by omega⟩, j⟩
def R_law : String := "LinenBoardLaw"
def lw_P (b : Addr) (xs : List Int32) (args : Array Value) (s : State) : Prop := args = #[.ref b] ∧ s.IntsAt b xs ∧ xs.length ≤ 4096 ∧ (Jvm.Cond.and given_1 narrow_1).before args s = true
def lw_Q (_ : Array Value) (s : State) (o : Outcome) (t : State) : Prop := o = .returned (some (.int 1)) ∧ Framed s o t [] 3000 1100000
def lw_Z (below : List Frame) (a : Array Value) (s : State) : State → Prop := fun t => ∃ o, t.status = .running ∧ Ended t below o ∧ lw_Q a s o t
/-- what holds at the law's entry: the machine, the code, the tables' words (any of lw_tbl by 'hts w (by decide +kernel)'), the script of L ints xs at the cell b, what the Statement gives of the start (any of its parts by flat_of_before) -/
def lw_At (p : Program) (s : State) (m : MethodId) (meth : Method) (c : Code) (b L : Nat) (xs : Nat → Int32) : Prop :=
  p.tables.exec = Jvm.exec ∧ c.code = code ∧ meth.sig.returnType = ret ∧ c.maxLocals = 4 ∧ s.vm.findClass R_law = some m.cls ∧ (∀ w ∈ lw_tbl, w.before #[Value.ref b] s = true) ∧ va_X b L xs s s.heap ∧ b < s.heap.size ∧ meth.locks = false ∧ (Jvm.Cond.and given_1 narrow_1).before #[Value.ref b] s = true ∧ meth.name = "law"
theorem lw_bridge {Q : xV → xH → Prop} (hQ : ∀ r h, Q r h → r = xi 1) {N : Nat → Nat → Int} (J : ∀ g : xG, g.L ≤ 4096 → g.sa 0 = 0 → g.sa 15 = g.b + 59 → xJ g 60 247 0 0 0 [xr 1, xu, xu, xu] [] ([], N) Q) {p : Program} {e : Env} {s : State} {m : MethodId} {below : List Frame} {meth : Method} {c : Code} (l : Launch) {b L : Nat} {xs : Nat → Int32} (hL : L ≤ 4096) (C0 : lw_At p s m meth c b L xs) : W p l e room_1 s m #[Value.ref b] below meth c s.heap [] 0 0 (lw_Z below #[Value.ref b] s) (entryFrame m ([Value.ref b] : List Value).toArray 4) := by
  obtain ⟨hx, hb, hr, hml, hown, hts, hX, hbl, hlocks, hgv, hnm⟩ := C0
  obtain ⟨D, ac, sa, h1, hs0, hs15, hU⟩ := lw_U hL hts hX hbl hgv
  have hU := hU l
  have hl := lv_entry ([Value.ref b]) (n := 4) (Nat.le_of_ble_eq_true rfl)
  rw [lg_entry_eq]
  have hP : va_P D x_cl (x_ws (l, s.heap.size, D, ac, sa, L, xs) ([], N)) s.heap := fun k q h => (by cases h)
  have hO : x_okH ([], N) := fun k q h => (by cases h)
  have h0 : ∀ q ∈ x_lv (l, s.heap.size, D, ac, sa, L, xs) 0 [xr 1, xu, xu, xu], q ∈ lv_args 0 [Value.ref b] := by
    intro q hq
    have e : q = (0, .ref (sa 1)) := by
      rcases List.mem_cons.mp hq with z | z
      · exact z
      · cases z
    rw [e, h1]
    exact List.mem_cons_self
  have hv : ∀ v ∈ ([xr 1, xu, xu, xu] : List xV), x_ok v := by
    intro v hv
    rcases List.mem_cons.mp hv with z | z
    · rw [z]; trivial
    · rcases List.mem_cons.mp z with z | z
      · rw [z]; trivial
      · rcases List.mem_cons.mp z with z | z
        · rw [z]; trivial
        · rcases List.mem_cons.mp z with z | z
          · rw [z]; trivial
          · cases z
  have hz0 : s.heap.size = x_ad (l, s.heap.size, D, ac, sa, L, xs) ((([], N) : xH).1.length + 16) := by
    show s.heap.size = (if 16 < 16 then sa 16 else s.heap.size + (16 - 16) + (if 16 < 75 then 0 else sa 0))
    rw [if_neg (by decide), if_pos (by decide)]
    all_goals omega
  have K := J (l, s.heap.size, D, ac, sa, L, xs) hL hs0 hs15 p e s m #[.ref b] below meth c s.heap [] _ ⟨hx, hb, hr, hml, hown, fun w hw => hts w (List.mem_filter.mp hw).1, hlocks, hnm, hU⟩ ⟨⟨hz0, Or.inl hs0⟩, hP, hO⟩ va_S.rf ⟨hl.1, hl.2.1, fun q hq => hl.2.2 q (h0 q hq)⟩ hv (fun v hv => (by cases hv)) (Nat.zero_le _) (Nat.zero_le _)
  intro T hT X
  obtain ⟨t, a, o, b1, b2, ⟨⟨r, h, c1, c2, c3, c4⟩, c5⟩, Ls, ⟨f1, f2, f3⟩, f4⟩ := K T hT ⟨X.admits, X.cas, X.clock, X.frames, lw_room X.room (by decide) (by decide) (by decide) (by decide), X.hears, X.method, X.code, X.here, X.tail, X.warmed, X.limits, X.bytes, X.same⟩
  refine ⟨t, a, o, b1, b2, ?_, f1, f2, f3.weaken (fun y hy hlt => absurd hlt (Nat.not_lt.mpr (show s.heap.size ≤ y.base from f4 y hy))) (by decide) (by decide)⟩
  rw [c1, hQ r h c2]
  rfl
