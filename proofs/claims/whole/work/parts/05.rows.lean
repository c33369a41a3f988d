/-! the walk, instruction by instruction: what touches no heap -/
section XR
variable {g : xG} {D M k n pc : Nat} {ls st : List xV} {h : xH} {Q : xV → xH → Prop}
theorem x_okc {v : xV} {st : List xV} (hv : x_ok v) (hs : ∀ w ∈ st, x_ok w) : ∀ w ∈ v :: st, x_ok w := fun w hw => (List.mem_cons.mp hw).elim (fun e => e ▸ hv) (hs w)
theorem x_okt {v : xV} {st : List xV} (hs : ∀ w ∈ v :: st, x_ok w) : ∀ w ∈ st, x_ok w := fun w hw => hs w (List.mem_cons_of_mem _ hw)
theorem x_okh {v : xV} {st : List xV} (hs : ∀ w ∈ v :: st, x_ok w) : x_ok v := hs v List.mem_cons_self

theorem xj_iadd {x y : Int} (hd : decode (x_cd M) pc = .ok (.iadd, 1)) (kk : xJ g D M k n (pc + 1) ls (xi (x32 (x + y)) :: st) h Q) : xJ g D M k n pc ls (xi y :: xi x :: st) h Q := by
  intro p e s m args below meth c H locs la C R S hl ol os hk hn
  have kk := kk p e s m args below meth c H locs la C R S hl ol (x_okc (x32_idem _) (x_okt (x_okt os))) hk hn
  refine lv_iadd C.1 C.2.1 hd ?_
  rw [xn_add]
  exact kk
theorem xj_isub {x y : Int} (hd : decode (x_cd M) pc = .ok (.isub, 1)) (kk : xJ g D M k n (pc + 1) ls (xi (x32 (x - y)) :: st) h Q) : xJ g D M k n pc ls (xi y :: xi x :: st) h Q := by
  intro p e s m args below meth c H locs la C R S hl ol os hk hn
  have kk := kk p e s m args below meth c H locs la C R S hl ol (x_okc (x32_idem _) (x_okt (x_okt os))) hk hn
  refine lv_isub C.1 C.2.1 hd ?_
  rw [xn_sub]
  exact kk
theorem xj_imul {x y : Int} (hd : decode (x_cd M) pc = .ok (.imul, 1)) (kk : xJ g D M k n (pc + 1) ls (xi (x32 (x * y)) :: st) h Q) : xJ g D M k n pc ls (xi y :: xi x :: st) h Q := by
  intro p e s m args below meth c H locs la C R S hl ol os hk hn
  have kk := kk p e s m args below meth c H locs la C R S hl ol (x_okc (x32_idem _) (x_okt (x_okt os))) hk hn
  refine lv_imul C.1 C.2.1 hd ?_
  rw [xn_mul]
  exact kk
theorem xj_ladd {x y : Int} (hd : decode (x_cd M) pc = .ok (.ladd, 1)) (kk : xJ g D M k n (pc + 1) ls (xl (x64 (x + y)) :: st) h Q) : xJ g D M k n pc ls (xl y :: xl x :: st) h Q := by
  intro p e s m args below meth c H locs la C R S hl ol os hk hn
  have kk := kk p e s m args below meth c H locs la C R S hl ol (x_okc (x64_idem _) (x_okt (x_okt os))) hk hn
  refine lv_ladd C.1 C.2.1 hd ?_
  rw [xn_addL]
  exact kk
theorem xj_lsub {x y : Int} (hd : decode (x_cd M) pc = .ok (.lsub, 1)) (kk : xJ g D M k n (pc + 1) ls (xl (x64 (x - y)) :: st) h Q) : xJ g D M k n pc ls (xl y :: xl x :: st) h Q := by
  intro p e s m args below meth c H locs la C R S hl ol os hk hn
  have kk := kk p e s m args below meth c H locs la C R S hl ol (x_okc (x64_idem _) (x_okt (x_okt os))) hk hn
  refine lv_lsub C.1 C.2.1 hd ?_
  rw [xn_subL]
  exact kk
theorem xj_lmul {x y : Int} (hd : decode (x_cd M) pc = .ok (.lmul, 1)) (kk : xJ g D M k n (pc + 1) ls (xl (x64 (x * y)) :: st) h Q) : xJ g D M k n pc ls (xl y :: xl x :: st) h Q := by
  intro p e s m args below meth c H locs la C R S hl ol os hk hn
  have kk := kk p e s m args below meth c H locs la C R S hl ol (x_okc (x64_idem _) (x_okt (x_okt os))) hk hn
  refine lv_lmul C.1 C.2.1 hd ?_
  rw [xn_mulL]
  exact kk
theorem xj_ineg {x : Int} (hd : decode (x_cd M) pc = .ok (.ineg, 1)) (kk : xJ g D M k n (pc + 1) ls (xi (x32 (-x)) :: st) h Q) : xJ g D M k n pc ls (xi x :: st) h Q := by
  intro p e s m args below meth c H locs la C R S hl ol os hk hn
  have kk := kk p e s m args below meth c H locs la C R S hl ol (x_okc (x32_idem _) (x_okt os)) hk hn
  refine lv_ineg C.1 C.2.1 hd ?_
  rw [xn_neg]
  exact kk
theorem xj_lneg {x : Int} (hd : decode (x_cd M) pc = .ok (.lneg, 1)) (kk : xJ g D M k n (pc + 1) ls (xl (x64 (-x)) :: st) h Q) : xJ g D M k n pc ls (xl x :: st) h Q := by
  intro p e s m args below meth c H locs la C R S hl ol os hk hn
  have kk := kk p e s m args below meth c H locs la C R S hl ol (x_okc (x64_idem _) (x_okt os)) hk hn
  refine lv_lneg C.1 C.2.1 hd ?_
  rw [xn_negL]
  exact kk
theorem xj_idiv {x y : Int} (hd : decode (x_cd M) pc = .ok (.idiv, 1)) (h0 : y ≠ 0) (kk : xJ g D M k n (pc + 1) ls (xi (x32 (x.tdiv y)) :: st) h Q) : xJ g D M k n pc ls (xi y :: xi x :: st) h Q := by
  intro p e s m args below meth c H locs la C R S hl ol os hk hn
  have kk := kk p e s m args below meth c H locs la C R S hl ol (x_okc (x32_idem _) (x_okt (x_okt os))) hk hn
  have hy : x32 y = y := x_okh os
  have hx : x32 x = x := x_okh (x_okt os)
  refine lv_idiv C.1 C.2.1 hd (fun q => h0 ((xn_eq hy xn_ok0).mp q)) ?_
  rw [xn_div hx hy]
  exact kk
theorem xj_ldiv {x y : Int} (hd : decode (x_cd M) pc = .ok (.ldiv, 1)) (h0 : y ≠ 0) (kk : xJ g D M k n (pc + 1) ls (xl (x64 (x.tdiv y)) :: st) h Q) : xJ g D M k n pc ls (xl y :: xl x :: st) h Q := by
  intro p e s m args below meth c H locs la C R S hl ol os hk hn
  have kk := kk p e s m args below meth c H locs la C R S hl ol (x_okc (x64_idem _) (x_okt (x_okt os))) hk hn
  have hy : x64 y = y := x_okh os
  have hx : x64 x = x := x_okh (x_okt os)
  refine lv_ldiv C.1 C.2.1 hd (fun q => h0 ((xn_eqL hy xn_ok0L).mp q)) ?_
  rw [xn_divL hx hy]
  exact kk
theorem xj_irem {x y : Int} (hd : decode (x_cd M) pc = .ok (.irem, 1)) (h0 : y ≠ 0) (kk : xJ g D M k n (pc + 1) ls (xi (x32 (x.tmod y)) :: st) h Q) : xJ g D M k n pc ls (xi y :: xi x :: st) h Q := by
  intro p e s m args below meth c H locs la C R S hl ol os hk hn
  have kk := kk p e s m args below meth c H locs la C R S hl ol (x_okc (x32_idem _) (x_okt (x_okt os))) hk hn
  have hy : x32 y = y := x_okh os
  have hx : x32 x = x := x_okh (x_okt os)
  refine lv_irem C.1 C.2.1 hd (fun q => h0 ((xn_eq hy xn_ok0).mp q)) ?_
  rw [xn_rem hx hy h0]
  exact kk
theorem xj_i2l {x : Int} (hd : decode (x_cd M) pc = .ok (.i2l, 1)) (kk : xJ g D M k n (pc + 1) ls (xl x :: st) h Q) : xJ g D M k n pc ls (xi x :: st) h Q := by
  intro p e s m args below meth c H locs la C R S hl ol os hk hn
  have hx : x32 x = x := x_okh os
  have hx2 := x32_iff.mp hx
  have kk := kk p e s m args below meth c H locs la C R S hl ol (x_okc (x64_of (by omega) (by omega)) (x_okt os)) hk hn
  exact lv_i2l C.1 C.2.1 hd (xn_i2l hx) kk
theorem xj_l2i {x : Int} (hd : decode (x_cd M) pc = .ok (.l2i, 1)) (kk : xJ g D M k n (pc + 1) ls (xi (x32 x) :: st) h Q) : xJ g D M k n pc ls (xl x :: st) h Q := by
  intro p e s m args below meth c H locs la C R S hl ol os hk hn
  have kk := kk p e s m args below meth c H locs la C R S hl ol (x_okc (x32_idem _) (x_okt os)) hk hn
  exact lv_l2i C.1 C.2.1 hd (xn_l2i (x_okh os)) kk
theorem xj_lcmp {x y : Int} (hd : decode (x_cd M) pc = .ok (.lcmp, 1)) (kk : xJ g D M k n (pc + 1) ls (xi (x_cmp x y) :: st) h Q) : xJ g D M k n pc ls (xl y :: xl x :: st) h Q := by
  intro p e s m args below meth c H locs la C R S hl ol os hk hn
  have kk := kk p e s m args below meth c H locs la C R S hl ol (x_okc (xn_okcmp x y) (x_okt (x_okt os))) hk hn
  have hy : x64 y = y := x_okh os
  have hx : x64 x = x := x_okh (x_okt os)
  refine W.lcmp C.1 C.2.1 hd ?_
  rw [xn_cmp hx hy]
  exact kk
theorem xj_iand {x y : Int} (hd : decode (x_cd M) pc = .ok (.iand, 1)) (kk : xJ g D M k n (pc + 1) ls (xi (x_and x y) :: st) h Q) : xJ g D M k n pc ls (xi y :: xi x :: st) h Q := by
  intro p e s m args below meth c H locs la C R S hl ol os hk hn
  have kk := kk p e s m args below meth c H locs la C R S hl ol (x_okc (xn_okT _) (x_okt (x_okt os))) hk hn
  have e1 : x_v g (xi (x_and x y)) = .int _ := congrArg Value.int (xn_back _)
  rw [List.map_cons, e1] at kk
  exact lv_iand C.1 C.2.1 hd kk
theorem xj_ior {x y : Int} (hd : decode (x_cd M) pc = .ok (.ior, 1)) (kk : xJ g D M k n (pc + 1) ls (xi (x_or x y) :: st) h Q) : xJ g D M k n pc ls (xi y :: xi x :: st) h Q := by
  intro p e s m args below meth c H locs la C R S hl ol os hk hn
  have kk := kk p e s m args below meth c H locs la C R S hl ol (x_okc (xn_okT _) (x_okt (x_okt os))) hk hn
  have e1 : x_v g (xi (x_or x y)) = .int _ := congrArg Value.int (xn_back _)
  rw [List.map_cons, e1] at kk
  exact lv_ior C.1 C.2.1 hd kk
theorem xj_ishl {x y : Int} (hd : decode (x_cd M) pc = .ok (.ishl, 1)) (kk : xJ g D M k n (pc + 1) ls (xi (x_shl x y) :: st) h Q) : xJ g D M k n pc ls (xi y :: xi x :: st) h Q := by
  intro p e s m args below meth c H locs la C R S hl ol os hk hn
  have kk := kk p e s m args below meth c H locs la C R S hl ol (x_okc (xn_okT _) (x_okt (x_okt os))) hk hn
  have e1 : x_v g (xi (x_shl x y)) = .int _ := congrArg Value.int (xn_back _)
  rw [List.map_cons, e1] at kk
  exact lv_ishl C.1 C.2.1 hd kk
theorem xj_ishr {x y : Int} (hd : decode (x_cd M) pc = .ok (.ishr, 1)) (kk : xJ g D M k n (pc + 1) ls (xi (x_shr x y) :: st) h Q) : xJ g D M k n pc ls (xi y :: xi x :: st) h Q := by
  intro p e s m args below meth c H locs la C R S hl ol os hk hn
  have kk := kk p e s m args below meth c H locs la C R S hl ol (x_okc (xn_okT _) (x_okt (x_okt os))) hk hn
  have e1 : x_v g (xi (x_shr x y)) = .int _ := congrArg Value.int (xn_back _)
  rw [List.map_cons, e1] at kk
  exact lv_ishr C.1 C.2.1 hd kk
theorem xj_land {x y : Int} (hd : decode (x_cd M) pc = .ok (.land, 1)) (kk : xJ g D M k n (pc + 1) ls (xl (x_andL x y) :: st) h Q) : xJ g D M k n pc ls (xl y :: xl x :: st) h Q := by
  intro p e s m args below meth c H locs la C R S hl ol os hk hn
  have kk := kk p e s m args below meth c H locs la C R S hl ol (x_okc (xn_okTL _) (x_okt (x_okt os))) hk hn
  have e1 : x_v g (xl (x_andL x y)) = .long _ := congrArg Value.long (xn_backL _)
  rw [List.map_cons, e1] at kk
  exact lv_land C.1 C.2.1 hd kk
theorem xj_lor {x y : Int} (hd : decode (x_cd M) pc = .ok (.lor, 1)) (kk : xJ g D M k n (pc + 1) ls (xl (x_orL x y) :: st) h Q) : xJ g D M k n pc ls (xl y :: xl x :: st) h Q := by
  intro p e s m args below meth c H locs la C R S hl ol os hk hn
  have kk := kk p e s m args below meth c H locs la C R S hl ol (x_okc (xn_okTL _) (x_okt (x_okt os))) hk hn
  have e1 : x_v g (xl (x_orL x y)) = .long _ := congrArg Value.long (xn_backL _)
  rw [List.map_cons, e1] at kk
  exact lv_lor C.1 C.2.1 hd kk
theorem xj_iushr {x y : Int} (hd : decode (x_cd M) pc = .ok (.iushr, 1)) (kk : xJ g D M k n (pc + 1) ls (xi (x_ushr x y) :: st) h Q) : xJ g D M k n pc ls (xi y :: xi x :: st) h Q := by
  intro p e s m args below meth c H locs la C R S hl ol os hk hn
  have kk := kk p e s m args below meth c H locs la C R S hl ol (x_okc (xn_okT _) (x_okt (x_okt os))) hk hn
  exact lv_iushr C.1 C.2.1 hd (xn_back _).symm kk
theorem xj_lshl {x y : Int} (hd : decode (x_cd M) pc = .ok (.lshl, 1)) (kk : xJ g D M k n (pc + 1) ls (xl (x_shlL x y) :: st) h Q) : xJ g D M k n pc ls (xi y :: xl x :: st) h Q := by
  intro p e s m args below meth c H locs la C R S hl ol os hk hn
  have kk := kk p e s m args below meth c H locs la C R S hl ol (x_okc (xn_okTL _) (x_okt (x_okt os))) hk hn
  exact lv_lshl C.1 C.2.1 hd (xn_backL _).symm kk
theorem xj_i2c {x : Int} (hd : decode (x_cd M) pc = .ok (.i2c, 1)) (kk : xJ g D M k n (pc + 1) ls (xi (x_i2c x) :: st) h Q) : xJ g D M k n pc ls (xi x :: st) h Q := by
  intro p e s m args below meth c H locs la C R S hl ol os hk hn
  have kk := kk p e s m args below meth c H locs la C R S hl ol (x_okc (xn_okT _) (x_okt os)) hk hn
  exact lv_i2c C.1 C.2.1 hd (xn_back _).symm kk
theorem xj_iconst {i : Int} (hd : decode (x_cd M) pc = .ok (.iconst i, 1)) (hi : x32 i = i) (kk : xJ g D M k n (pc + 1) ls (xi i :: st) h Q) : xJ g D M k n pc ls st h Q := by
  intro p e s m args below meth c H locs la C R S hl ol os hk hn
  have kk := kk p e s m args below meth c H locs la C R S hl ol (x_okc hi os) hk hn
  exact lv_iconst C.1 C.2.1 hd rfl kk
theorem xj_bipush {i : Int} (hd : decode (x_cd M) pc = .ok (.bipush i, 2)) (hi : x32 i = i) (hb : (Int8.ofInt i).toInt32 = Int32.ofInt i) (kk : xJ g D M k n (pc + 2) ls (xi i :: st) h Q) : xJ g D M k n pc ls st h Q := by
  intro p e s m args below meth c H locs la C R S hl ol os hk hn
  have kk := kk p e s m args below meth c H locs la C R S hl ol (x_okc hi os) hk hn
  exact lv_bipush C.1 C.2.1 hd hb kk
theorem xj_sipush {i : Int} (hd : decode (x_cd M) pc = .ok (.sipush i, 3)) (hi : x32 i = i) (hb : (Int16.ofInt i).toInt32 = Int32.ofInt i) (kk : xJ g D M k n (pc + 3) ls (xi i :: st) h Q) : xJ g D M k n pc ls st h Q := by
  intro p e s m args below meth c H locs la C R S hl ol os hk hn
  have kk := kk p e s m args below meth c H locs la C R S hl ol (x_okc hi os) hk hn
  exact lv_sipush C.1 C.2.1 hd hb kk
theorem xj_lconst {i : Fin 2} (hd : decode (x_cd M) pc = .ok (.lconst i, 1)) (kk : xJ g D M k n (pc + 1) ls (xl (i : Nat) :: st) h Q) : xJ g D M k n pc ls st h Q := by
  intro p e s m args below meth c H locs la C R S hl ol os hk hn
  have hi : (i : Nat) < 2 := i.2
  have kk := kk p e s m args below meth c H locs la C R S hl ol (x_okc (x64_of (by omega) (by omega)) os) hk hn
  exact lv_lconst C.1 C.2.1 hd (by first | rfl | simp) kk
theorem xj_null (hd : decode (x_cd M) pc = .ok (.aconst_null, 1)) (kk : xJ g D M k n (pc + 1) ls (xr 0 :: st) h Q) : xJ g D M k n pc ls st h Q := by
  intro p e s m args below meth c H locs la C R S hl ol os hk hn
  have kk := kk p e s m args below meth c H locs la C R S hl ol (x_okc trivial os) hk hn
  exact lv_null C.1 C.2.1 hd kk
theorem xj_ldc {i : Nat} {v : Int} (hd : decode (x_cd M) pc = .ok (.ldc i, 2)) (hi : x32 v = v) (hw : Cond.constant (x_y M).cls i (Int32.ofInt v) ∈ x_tb) (kk : xJ g D M k n (pc + 2) ls (xi v :: st) h Q) : xJ g D M k n pc ls st h Q := by
  intro p e s m args below meth c H locs la C R S hl ol os hk hn
  have kk := kk p e s m args below meth c H locs la C R S hl ol (x_okc hi os) hk hn
  exact lv_ldc C.1 C.2.1 C.2.2.2.2.1 (C.2.2.2.2.2.1 _ hw) hd kk
theorem xj_ldcw {i : Nat} {v : Int} (hd : decode (x_cd M) pc = .ok (.ldc_w i, 3)) (hi : x32 v = v) (hw : Cond.constant (x_y M).cls i (Int32.ofInt v) ∈ x_tb) (kk : xJ g D M k n (pc + 3) ls (xi v :: st) h Q) : xJ g D M k n pc ls st h Q := by
  intro p e s m args below meth c H locs la C R S hl ol os hk hn
  have kk := kk p e s m args below meth c H locs la C R S hl ol (x_okc hi os) hk hn
  exact lv_ldcw C.1 C.2.1 C.2.2.2.2.1 (C.2.2.2.2.2.1 _ hw) hd kk
theorem xj_ldc2 {i : Nat} {v : Int} (hd : decode (x_cd M) pc = .ok (.ldc2_w i, 3)) (hi : x64 v = v) (hw : Cond.constantLong (x_y M).cls i (Int64.ofInt v) ∈ x_tb) (kk : xJ g D M k n (pc + 3) ls (xl v :: st) h Q) : xJ g D M k n pc ls st h Q := by
  intro p e s m args below meth c H locs la C R S hl ol os hk hn
  have kk := kk p e s m args below meth c H locs la C R S hl ol (x_okc hi os) hk hn
  exact lv_ldc2 C.1 C.2.1 C.2.2.2.2.1 (C.2.2.2.2.2.1 _ hw) hd kk
theorem x_cat1 {v : xV} (hv : ∀ x, v ≠ xl x) : (x_v g v).category = 1 := by
  rcases v with x | x | r | u
  · rfl
  · exact absurd rfl (hv x)
  · show (va_rf (x_ro g r)).category = 1
    cases x_ro g r <;> rfl
  · rfl
theorem xj_dup {v : xV} (hd : decode (x_cd M) pc = .ok (.dup, 1)) (hv : ∀ x, v ≠ xl x) (kk : xJ g D M k n (pc + 1) ls (v :: v :: st) h Q) : xJ g D M k n pc ls (v :: st) h Q := by
  intro p e s m args below meth c H locs la C R S hl ol os hk hn
  have kk := kk p e s m args below meth c H locs la C R S hl ol (x_okc (x_okh os) os) hk hn
  exact lv_dup C.1 C.2.1 hd (x_cat1 hv) kk
theorem xj_pop {v : xV} (hd : decode (x_cd M) pc = .ok (.pop, 1)) (hv : ∀ x, v ≠ xl x) (kk : xJ g D M k n (pc + 1) ls st h Q) : xJ g D M k n pc ls (v :: st) h Q := by
  intro p e s m args below meth c H locs la C R S hl ol os hk hn
  have kk := kk p e s m args below meth c H locs la C R S hl ol (x_okt os) hk hn
  exact lv_pop C.1 C.2.1 hd (x_cat1 hv) kk
theorem xj_dup2 {v w : xV} (hd : decode (x_cd M) pc = .ok (.dup2, 1)) (hv : ∀ x, v ≠ xl x) (hw : ∀ x, w ≠ xl x) (kk : xJ g D M k n (pc + 1) ls (v :: w :: v :: w :: st) h Q) : xJ g D M k n pc ls (v :: w :: st) h Q := by
  intro p e s m args below meth c H locs la C R S hl ol os hk hn
  have kk := kk p e s m args below meth c H locs la C R S hl ol (x_okc (x_okh os) (x_okc (x_okh (x_okt os)) os)) hk hn
  exact lv_dup2_11 C.1 C.2.1 hd (x_cat1 hv) (x_cat1 hw) kk
theorem xj_dup2L {x : Int} (hd : decode (x_cd M) pc = .ok (.dup2, 1)) (kk : xJ g D M k n (pc + 1) ls (xl x :: xl x :: st) h Q) : xJ g D M k n pc ls (xl x :: st) h Q := by
  intro p e s m args below meth c H locs la C R S hl ol os hk hn
  have kk := kk p e s m args below meth c H locs la C R S hl ol (x_okc (x_okh os) os) hk hn
  exact lv_dup2_2 C.1 C.2.1 hd rfl kk
theorem xj_icmp_eq {x y off : Int} {t : Nat} (hd : decode (x_cd M) pc = .ok (.if_icmp .eq off, 3)) (ht : (pc : Int) + off = (t : Int)) (kt : x = y → xJ g D M k n t ls st h Q) (kf : ¬ (x = y) → xJ g D M k n (pc + 3) ls st h Q) : xJ g D M k n pc ls (xi y :: xi x :: st) h Q := by
  intro p e s m args below meth c H locs la C R S hl ol os hk hn
  have hy : x32 y = y := x_okh os
  have hx : x32 x = x := x_okh (x_okt os)
  refine lv_icmp_eq C.1 C.2.1 hd ht (fun q => ?_) (fun q => ?_)
  · exact kt ((xn_eq hx hy).mp q) p e s m args below meth c H locs la C R S hl ol (x_okt (x_okt os)) hk hn
  · exact kf (fun z => q ((xn_eq hx hy).mpr z)) p e s m args below meth c H locs la C R S hl ol (x_okt (x_okt os)) hk hn
theorem xj_if_eq {x off : Int} {t : Nat} (hd : decode (x_cd M) pc = .ok (.ifCond .eq off, 3)) (ht : (pc : Int) + off = (t : Int)) (kt : x = 0 → xJ g D M k n t ls st h Q) (kf : ¬ (x = 0) → xJ g D M k n (pc + 3) ls st h Q) : xJ g D M k n pc ls (xi x :: st) h Q := by
  intro p e s m args below meth c H locs la C R S hl ol os hk hn
  have hy : x32 0 = 0 := xn_ok0
  have hx : x32 x = x := x_okh os
  refine lv_if_eq C.1 C.2.1 hd ht (fun q => ?_) (fun q => ?_)
  · exact kt ((xn_eq hx hy).mp q) p e s m args below meth c H locs la C R S hl ol (x_okt os) hk hn
  · exact kf (fun z => q ((xn_eq hx hy).mpr z)) p e s m args below meth c H locs la C R S hl ol (x_okt os) hk hn
theorem xj_icmp_ne {x y off : Int} {t : Nat} (hd : decode (x_cd M) pc = .ok (.if_icmp .ne off, 3)) (ht : (pc : Int) + off = (t : Int)) (kt : ¬ x = y → xJ g D M k n t ls st h Q) (kf : x = y → xJ g D M k n (pc + 3) ls st h Q) : xJ g D M k n pc ls (xi y :: xi x :: st) h Q := by
  intro p e s m args below meth c H locs la C R S hl ol os hk hn
  have hy : x32 y = y := x_okh os
  have hx : x32 x = x := x_okh (x_okt os)
  refine lv_icmp_ne C.1 C.2.1 hd ht (fun q => ?_) (fun q => ?_)
  · exact kt ((not_congr (xn_eq hx hy)).mp q) p e s m args below meth c H locs la C R S hl ol (x_okt (x_okt os)) hk hn
  · exact kf ((xn_eq hx hy).mp q) p e s m args below meth c H locs la C R S hl ol (x_okt (x_okt os)) hk hn
theorem xj_if_ne {x off : Int} {t : Nat} (hd : decode (x_cd M) pc = .ok (.ifCond .ne off, 3)) (ht : (pc : Int) + off = (t : Int)) (kt : ¬ x = 0 → xJ g D M k n t ls st h Q) (kf : x = 0 → xJ g D M k n (pc + 3) ls st h Q) : xJ g D M k n pc ls (xi x :: st) h Q := by
  intro p e s m args below meth c H locs la C R S hl ol os hk hn
  have hy : x32 0 = 0 := xn_ok0
  have hx : x32 x = x := x_okh os
  refine lv_if_ne C.1 C.2.1 hd ht (fun q => ?_) (fun q => ?_)
  · exact kt ((not_congr (xn_eq hx hy)).mp q) p e s m args below meth c H locs la C R S hl ol (x_okt os) hk hn
  · exact kf ((xn_eq hx hy).mp q) p e s m args below meth c H locs la C R S hl ol (x_okt os) hk hn
theorem xj_icmp_lt {x y off : Int} {t : Nat} (hd : decode (x_cd M) pc = .ok (.if_icmp .lt off, 3)) (ht : (pc : Int) + off = (t : Int)) (kt : x < y → xJ g D M k n t ls st h Q) (kf : ¬ (x < y) → xJ g D M k n (pc + 3) ls st h Q) : xJ g D M k n pc ls (xi y :: xi x :: st) h Q := by
  intro p e s m args below meth c H locs la C R S hl ol os hk hn
  have hy : x32 y = y := x_okh os
  have hx : x32 x = x := x_okh (x_okt os)
  refine lv_icmp_lt C.1 C.2.1 hd ht (fun q => ?_) (fun q => ?_)
  · exact kt ((xn_lt hx hy).mp q) p e s m args below meth c H locs la C R S hl ol (x_okt (x_okt os)) hk hn
  · exact kf (fun z => q ((xn_lt hx hy).mpr z)) p e s m args below meth c H locs la C R S hl ol (x_okt (x_okt os)) hk hn
theorem xj_if_lt {x off : Int} {t : Nat} (hd : decode (x_cd M) pc = .ok (.ifCond .lt off, 3)) (ht : (pc : Int) + off = (t : Int)) (kt : x < 0 → xJ g D M k n t ls st h Q) (kf : ¬ (x < 0) → xJ g D M k n (pc + 3) ls st h Q) : xJ g D M k n pc ls (xi x :: st) h Q := by
  intro p e s m args below meth c H locs la C R S hl ol os hk hn
  have hy : x32 0 = 0 := xn_ok0
  have hx : x32 x = x := x_okh os
  refine lv_if_lt C.1 C.2.1 hd ht (fun q => ?_) (fun q => ?_)
  · exact kt ((xn_lt hx hy).mp q) p e s m args below meth c H locs la C R S hl ol (x_okt os) hk hn
  · exact kf (fun z => q ((xn_lt hx hy).mpr z)) p e s m args below meth c H locs la C R S hl ol (x_okt os) hk hn
theorem xj_icmp_ge {x y off : Int} {t : Nat} (hd : decode (x_cd M) pc = .ok (.if_icmp .ge off, 3)) (ht : (pc : Int) + off = (t : Int)) (kt : y ≤ x → xJ g D M k n t ls st h Q) (kf : ¬ (y ≤ x) → xJ g D M k n (pc + 3) ls st h Q) : xJ g D M k n pc ls (xi y :: xi x :: st) h Q := by
  intro p e s m args below meth c H locs la C R S hl ol os hk hn
  have hy : x32 y = y := x_okh os
  have hx : x32 x = x := x_okh (x_okt os)
  refine lv_icmp_ge C.1 C.2.1 hd ht (fun q => ?_) (fun q => ?_)
  · exact kt ((xn_le hy hx).mp q) p e s m args below meth c H locs la C R S hl ol (x_okt (x_okt os)) hk hn
  · exact kf (fun z => q ((xn_le hy hx).mpr z)) p e s m args below meth c H locs la C R S hl ol (x_okt (x_okt os)) hk hn
theorem xj_if_ge {x off : Int} {t : Nat} (hd : decode (x_cd M) pc = .ok (.ifCond .ge off, 3)) (ht : (pc : Int) + off = (t : Int)) (kt : 0 ≤ x → xJ g D M k n t ls st h Q) (kf : ¬ (0 ≤ x) → xJ g D M k n (pc + 3) ls st h Q) : xJ g D M k n pc ls (xi x :: st) h Q := by
  intro p e s m args below meth c H locs la C R S hl ol os hk hn
  have hy : x32 0 = 0 := xn_ok0
  have hx : x32 x = x := x_okh os
  refine lv_if_ge C.1 C.2.1 hd ht (fun q => ?_) (fun q => ?_)
  · exact kt ((xn_le hy hx).mp q) p e s m args below meth c H locs la C R S hl ol (x_okt os) hk hn
  · exact kf (fun z => q ((xn_le hy hx).mpr z)) p e s m args below meth c H locs la C R S hl ol (x_okt os) hk hn
theorem xj_icmp_gt {x y off : Int} {t : Nat} (hd : decode (x_cd M) pc = .ok (.if_icmp .gt off, 3)) (ht : (pc : Int) + off = (t : Int)) (kt : y < x → xJ g D M k n t ls st h Q) (kf : ¬ (y < x) → xJ g D M k n (pc + 3) ls st h Q) : xJ g D M k n pc ls (xi y :: xi x :: st) h Q := by
  intro p e s m args below meth c H locs la C R S hl ol os hk hn
  have hy : x32 y = y := x_okh os
  have hx : x32 x = x := x_okh (x_okt os)
  refine lv_icmp_gt C.1 C.2.1 hd ht (fun q => ?_) (fun q => ?_)
  · exact kt ((xn_lt hy hx).mp q) p e s m args below meth c H locs la C R S hl ol (x_okt (x_okt os)) hk hn
  · exact kf (fun z => q ((xn_lt hy hx).mpr z)) p e s m args below meth c H locs la C R S hl ol (x_okt (x_okt os)) hk hn
theorem xj_if_gt {x off : Int} {t : Nat} (hd : decode (x_cd M) pc = .ok (.ifCond .gt off, 3)) (ht : (pc : Int) + off = (t : Int)) (kt : 0 < x → xJ g D M k n t ls st h Q) (kf : ¬ (0 < x) → xJ g D M k n (pc + 3) ls st h Q) : xJ g D M k n pc ls (xi x :: st) h Q := by
  intro p e s m args below meth c H locs la C R S hl ol os hk hn
  have hy : x32 0 = 0 := xn_ok0
  have hx : x32 x = x := x_okh os
  refine lv_if_gt C.1 C.2.1 hd ht (fun q => ?_) (fun q => ?_)
  · exact kt ((xn_lt hy hx).mp q) p e s m args below meth c H locs la C R S hl ol (x_okt os) hk hn
  · exact kf (fun z => q ((xn_lt hy hx).mpr z)) p e s m args below meth c H locs la C R S hl ol (x_okt os) hk hn
theorem xj_icmp_le {x y off : Int} {t : Nat} (hd : decode (x_cd M) pc = .ok (.if_icmp .le off, 3)) (ht : (pc : Int) + off = (t : Int)) (kt : x ≤ y → xJ g D M k n t ls st h Q) (kf : ¬ (x ≤ y) → xJ g D M k n (pc + 3) ls st h Q) : xJ g D M k n pc ls (xi y :: xi x :: st) h Q := by
  intro p e s m args below meth c H locs la C R S hl ol os hk hn
  have hy : x32 y = y := x_okh os
  have hx : x32 x = x := x_okh (x_okt os)
  refine lv_icmp_le C.1 C.2.1 hd ht (fun q => ?_) (fun q => ?_)
  · exact kt ((xn_le hx hy).mp q) p e s m args below meth c H locs la C R S hl ol (x_okt (x_okt os)) hk hn
  · exact kf (fun z => q ((xn_le hx hy).mpr z)) p e s m args below meth c H locs la C R S hl ol (x_okt (x_okt os)) hk hn
theorem xj_if_le {x off : Int} {t : Nat} (hd : decode (x_cd M) pc = .ok (.ifCond .le off, 3)) (ht : (pc : Int) + off = (t : Int)) (kt : x ≤ 0 → xJ g D M k n t ls st h Q) (kf : ¬ (x ≤ 0) → xJ g D M k n (pc + 3) ls st h Q) : xJ g D M k n pc ls (xi x :: st) h Q := by
  intro p e s m args below meth c H locs la C R S hl ol os hk hn
  have hy : x32 0 = 0 := xn_ok0
  have hx : x32 x = x := x_okh os
  refine lv_if_le C.1 C.2.1 hd ht (fun q => ?_) (fun q => ?_)
  · exact kt ((xn_le hx hy).mp q) p e s m args below meth c H locs la C R S hl ol (x_okt os) hk hn
  · exact kf (fun z => q ((xn_le hx hy).mpr z)) p e s m args below meth c H locs la C R S hl ol (x_okt os) hk hn
theorem xj_goto {off : Int} {t : Nat} (hd : decode (x_cd M) pc = .ok (.goto off, 3)) (ht : (pc : Int) + off = (t : Int)) (kk : xJ g D M k n t ls st h Q) : xJ g D M k n pc ls st h Q := by
  intro p e s m args below meth c H locs la C R S hl ol os hk hn
  exact lv_goto C.1 C.2.1 hd ht (kk p e s m args below meth c H locs la C R S hl ol (os) hk hn)
theorem xj_ifnull {r : Nat} {off : Int} {t : Nat} (hd : decode (x_cd M) pc = .ok (.ifnull off, 3)) (ht : (pc : Int) + off = (t : Int)) (kt : r = 0 → xJ g D M k n t ls st h Q) (kf : ¬ r = 0 → xJ g D M k n (pc + 3) ls st h Q) : xJ g D M k n pc ls (xr r :: st) h Q := by
  intro p e s m args below meth c H locs la C R S hl ol os hk hn
  by_cases hr : r = 0
  · subst hr
    exact lv_ifnullN C.1 C.2.1 hd ht (kt rfl p e s m args below meth c H locs la C R S hl ol (x_okt os) hk hn)
  · have e1 : x_v g (xr r) = .ref (x_ad g r) := by simp [x_v, x_ro, hr, va_rf]
    show W _ _ _ _ _ _ _ _ _ _ _ _ _ _ _ (F0 m pc la (x_v g (xr r) :: st.map (x_v g)))
    rw [e1]
    exact lv_ifnull C.1 C.2.1 hd (kf hr p e s m args below meth c H locs la C R S hl ol (x_okt os) hk hn)
theorem xj_ifnonnull {r : Nat} {off : Int} {t : Nat} (hd : decode (x_cd M) pc = .ok (.ifnonnull off, 3)) (ht : (pc : Int) + off = (t : Int)) (kt : ¬ r = 0 → xJ g D M k n t ls st h Q) (kf : r = 0 → xJ g D M k n (pc + 3) ls st h Q) : xJ g D M k n pc ls (xr r :: st) h Q := by
  intro p e s m args below meth c H locs la C R S hl ol os hk hn
  by_cases hr : r = 0
  · subst hr
    exact lv_ifnonnullN C.1 C.2.1 hd (kf rfl p e s m args below meth c H locs la C R S hl ol (x_okt os) hk hn)
  · have e1 : x_v g (xr r) = .ref (x_ad g r) := by simp [x_v, x_ro, hr, va_rf]
    show W _ _ _ _ _ _ _ _ _ _ _ _ _ _ _ (F0 m pc la (x_v g (xr r) :: st.map (x_v g)))
    rw [e1]
    exact lv_ifnonnull C.1 C.2.1 hd ht (kt hr p e s m args below meth c H locs la C R S hl ol (x_okt os) hk hn)
theorem xj_table {x dflt lo hi : Int} {offs : Array Int} {len : Nat} (hd : decode (x_cd M) pc = .ok (.tableswitch dflt lo hi offs, len)) {tg : Int → Nat} {td : Nat}
    (ho : ∀ z : Int, lo ≤ z → z ≤ hi → ∃ off, offs[(z - lo).toNat]? = some off ∧ (pc : Int) + off = (tg z : Int)) (ht : (pc : Int) + dflt = (td : Int))
    (k1 : lo ≤ x → x ≤ hi → xJ g D M k n (tg x) ls st h Q) (k2 : (x < lo ∨ hi < x) → xJ g D M k n td ls st h Q) : xJ g D M k n pc ls (xi x :: st) h Q := by
  intro p e s m args below meth c H locs la C R S hl ol os hk hn
  have hx : x32 x = x := x_okh os
  by_cases hb : x < lo ∨ hi < x
  · exact lv_tableOut C.1 C.2.1 hd (by rw [xn_toInt, hx]; exact hb) ht (k2 hb p e s m args below meth c H locs la C R S hl ol (x_okt os) hk hn)
  · obtain ⟨off, h1, h2⟩ := ho x (by omega) (by omega)
    exact lv_tableIn C.1 C.2.1 hd (by rw [xn_toInt, hx]; omega) (by rw [xn_toInt, hx]; omega) (by rw [xn_toInt, hx]; exact h1) h2 (k1 (by omega) (by omega) p e s m args below meth c H locs la C R S hl ol (x_okt os) hk hn)
/-! locals -/
theorem x_lv_at {i : Nat} {v : xV} (hv : v ≠ xu) : ∀ (ls : List xV) (j : Nat), ls[j]? = some v → (i + j, x_v g v) ∈ x_lv g i ls := by
  intro ls
  induction ls generalizing i with
  | nil => intro j hj; simp at hj
  | cons w ws ih =>
    intro j hj
    cases j with
    | zero =>
      have e1 : w = v := by simpa using hj
      subst e1
      rcases w with x | x | r | u
      · exact List.mem_cons_self
      · exact List.mem_cons_self
      · exact List.mem_cons_self
      · exact absurd rfl hv
    | succ j =>
      have h1 : (i + 1 + j, x_v g v) ∈ x_lv g (i + 1) ws := ih j (by simpa using hj)
      have e2 : i + (j + 1) = i + 1 + j := by omega
      rw [e2]
      rcases w with x | x | r | u
      · exact List.mem_cons_of_mem _ h1
      · exact List.mem_cons_of_mem _ h1
      · exact List.mem_cons_of_mem _ h1
      · exact h1
theorem x_lv_mem : ∀ (ls : List xV) (i : Nat) (q : Nat × Value), q ∈ x_lv g i ls → ∃ (j : Nat) (v : xV), q.1 = i + j ∧ ls[j]? = some v ∧ q.2 = x_v g v ∧ v ≠ xu := by
  intro ls
  induction ls with
  | nil => intro i q hq; simp [x_lv] at hq
  | cons w ws ih =>
    intro i q hq
    rcases w with x | x | r | u
    · rcases List.mem_cons.mp hq with e1 | h1
      · exact ⟨0, xi x, by rw [e1]; rfl, rfl, by rw [e1], by intro z; cases z⟩
      · obtain ⟨j, v, a1, a2, a3, a4⟩ := ih (i + 1) q h1
        exact ⟨j + 1, v, by omega, by simpa using a2, a3, a4⟩
    · rcases List.mem_cons.mp hq with e1 | h1
      · exact ⟨0, xl x, by rw [e1]; rfl, rfl, by rw [e1], by intro z; cases z⟩
      · obtain ⟨j, v, a1, a2, a3, a4⟩ := ih (i + 1) q h1
        exact ⟨j + 1, v, by omega, by simpa using a2, a3, a4⟩
    · rcases List.mem_cons.mp hq with e1 | h1
      · exact ⟨0, xr r, by rw [e1]; rfl, rfl, by rw [e1], by intro z; cases z⟩
      · obtain ⟨j, v, a1, a2, a3, a4⟩ := ih (i + 1) q h1
        exact ⟨j + 1, v, by omega, by simpa using a2, a3, a4⟩
    · obtain ⟨j, v, a1, a2, a3, a4⟩ := ih (i + 1) q hq
      exact ⟨j + 1, v, by omega, by simpa using a2, a3, a4⟩
theorem x_ld {la : Array Slot} {nL j : Nat} {v : xV} (hl : lv_has la nL (x_lv g 0 ls)) (hv : v ≠ xu) (hj : ls[j]? = some v) : la[j]? = some (.val (x_v g v)) := by
  have h1 := hl.2.2 _ (x_lv_at (g := g) (i := 0) hv ls j hj)
  have e1 : 0 + j = j := by omega
  rw [e1] at h1
  exact h1
theorem xj_iload {i : Nat} {x : Int} (hd : decode (x_cd M) pc = .ok (.iload i, 2)) (hi : ls[i]? = some (xi x)) (kk : xJ g D M k n (pc + 2) ls (xi x :: st) h Q) : xJ g D M k n pc ls st h Q := by
  intro p e s m args below meth c H locs la C R S hl ol os hk hn
  have kk := kk p e s m args below meth c H locs la C R S hl ol (x_okc (ol _ (List.mem_of_getElem? hi)) os) hk hn
  exact lv_iload C.1 C.2.1 hd (x_ld hl (by intro z; cases z) hi) kk
theorem xj_iload_n {i : Fin 4} {x : Int} (hd : decode (x_cd M) pc = .ok (.iload_n i, 1)) (hi : ls[(i : Nat)]? = some (xi x)) (kk : xJ g D M k n (pc + 1) ls (xi x :: st) h Q) : xJ g D M k n pc ls st h Q := by
  intro p e s m args below meth c H locs la C R S hl ol os hk hn
  have kk := kk p e s m args below meth c H locs la C R S hl ol (x_okc (ol _ (List.mem_of_getElem? hi)) os) hk hn
  exact lv_iload_n C.1 C.2.1 hd rfl (x_ld hl (by intro z; cases z) hi) kk
theorem xj_lload {i : Nat} {x : Int} (hd : decode (x_cd M) pc = .ok (.lload i, 2)) (hi : ls[i]? = some (xl x)) (kk : xJ g D M k n (pc + 2) ls (xl x :: st) h Q) : xJ g D M k n pc ls st h Q := by
  intro p e s m args below meth c H locs la C R S hl ol os hk hn
  have kk := kk p e s m args below meth c H locs la C R S hl ol (x_okc (ol _ (List.mem_of_getElem? hi)) os) hk hn
  exact lv_lload C.1 C.2.1 hd (x_ld hl (by intro z; cases z) hi) kk
theorem xj_lload_n {i : Fin 4} {x : Int} (hd : decode (x_cd M) pc = .ok (.lload_n i, 1)) (hi : ls[(i : Nat)]? = some (xl x)) (kk : xJ g D M k n (pc + 1) ls (xl x :: st) h Q) : xJ g D M k n pc ls st h Q := by
  intro p e s m args below meth c H locs la C R S hl ol os hk hn
  have kk := kk p e s m args below meth c H locs la C R S hl ol (x_okc (ol _ (List.mem_of_getElem? hi)) os) hk hn
  exact lv_lload_n C.1 C.2.1 hd rfl (x_ld hl (by intro z; cases z) hi) kk
theorem x_rn (r : Nat) : (r = 0 ∧ x_v g (xr r) = .null) ∨ (r ≠ 0 ∧ x_v g (xr r) = .ref (x_ad g r)) := by
  by_cases hr : r = 0
  · subst hr
    exact Or.inl ⟨rfl, rfl⟩
  · exact Or.inr ⟨hr, by simp [x_v, x_ro, hr, va_rf]⟩
theorem xj_aload {i : Nat} {r : Nat} (hd : decode (x_cd M) pc = .ok (.aload i, 2)) (hi : ls[i]? = some (xr r)) (kk : xJ g D M k n (pc + 2) ls (xr r :: st) h Q) : xJ g D M k n pc ls st h Q := by
  intro p e s m args below meth c H locs la C R S hl ol os hk hn
  have kk := kk p e s m args below meth c H locs la C R S hl ol (x_okc trivial os) hk hn
  have h1 := x_ld hl (by intro z; cases z) hi
  rcases x_rn (g := g) r with ⟨-, e1⟩ | ⟨-, e1⟩
  · rw [e1] at h1
    rw [List.map_cons, e1] at kk
    exact lv_aloadN C.1 C.2.1 hd h1 kk
  · rw [e1] at h1
    rw [List.map_cons, e1] at kk
    exact lv_aload C.1 C.2.1 hd h1 kk
theorem xj_aload_n {i : Fin 4} {r : Nat} (hd : decode (x_cd M) pc = .ok (.aload_n i, 1)) (hi : ls[(i : Nat)]? = some (xr r)) (kk : xJ g D M k n (pc + 1) ls (xr r :: st) h Q) : xJ g D M k n pc ls st h Q := by
  intro p e s m args below meth c H locs la C R S hl ol os hk hn
  have kk := kk p e s m args below meth c H locs la C R S hl ol (x_okc trivial os) hk hn
  have h1 := x_ld hl (by intro z; cases z) hi
  rcases x_rn (g := g) r with ⟨-, e1⟩ | ⟨-, e1⟩
  · rw [e1] at h1
    rw [List.map_cons, e1] at kk
    exact lv_aload_nN C.1 C.2.1 hd rfl h1 kk
  · rw [e1] at h1
    rw [List.map_cons, e1] at kk
    exact lv_aload_n C.1 C.2.1 hd rfl h1 kk
/-! stores: what stands below a store and is a long there, is gone; a long takes two places -/
def x_isL : xV → Bool
  | .inr (.inl _) => true
  | _ => false
def x_kl (ls : List xV) (i : Nat) : List xV := match i with
  | 0 => ls
  | j + 1 => match ls[j]? with
    | some (.inr (.inl _)) => ls.set j xu
    | _ => ls
def x_st1 (ls : List xV) (i : Nat) (v : xV) : List xV := (x_kl ls i).set i v
def x_st2 (ls : List xV) (i : Nat) (v : xV) : List xV := ((x_kl ls i).set i v).set (i + 1) xu
theorem x_kl_at {i j : Nat} {v : xV} (h1 : (x_kl ls i)[j]? = some v) (hv : v ≠ xu) : ls[j]? = some v ∧ ¬ (j + 1 = i ∧ ∃ x, v = xl x) := by
  unfold x_kl at h1
  split at h1
  · exact ⟨h1, fun z => by omega⟩
  · rename_i i
    split at h1
    · rename_i x hx
      rw [List.getElem?_set] at h1
      split at h1
      · split at h1
        · exact absurd (Option.some.inj h1).symm hv
        · cases h1
      · exact ⟨h1, fun z => by omega⟩
    · rename_i hx
      refine ⟨h1, fun z => ?_⟩
      obtain ⟨a1, x, a2⟩ := z
      have e1 : j = i := by omega
      subst e1
      rw [a2] at h1
      exact hx x h1
theorem x_kl_ok {i : Nat} (ol : ∀ v ∈ ls, x_ok v) : ∀ v ∈ x_kl ls i, x_ok v := by
  unfold x_kl
  split
  · exact ol
  · split
    · intro v hv
      rcases List.mem_or_eq_of_mem_set hv with h1 | h1
      · exact ol v h1
      · rw [h1]; trivial
    · exact ol
theorem x_st1_ok {i : Nat} {v : xV} (hv : x_ok v) (ol : ∀ v ∈ ls, x_ok v) : ∀ w ∈ x_st1 ls i v, x_ok w := by
  intro w hw
  rcases List.mem_or_eq_of_mem_set hw with h1 | h1
  · exact x_kl_ok ol w h1
  · rw [h1]; exact hv
theorem x_st2_ok {i : Nat} {v : xV} (hv : x_ok v) (ol : ∀ v ∈ ls, x_ok v) : ∀ w ∈ x_st2 ls i v, x_ok w := by
  intro w hw
  rcases List.mem_or_eq_of_mem_set hw with h1 | h1
  · exact x_st1_ok hv ol w h1
  · rw [h1]; trivial
theorem x_cat2 {v : xV} (h1 : (x_v g v).category = 2) : ∃ x, v = xl x := by
  rcases v with x | x | r | u
  · cases h1
  · exact ⟨x, rfl⟩
  · exfalso
    have h2 := x_cat1 (g := g) (v := xr r) (by intro x z; cases z)
    rw [h2] at h1
    cases h1
  · cases h1
theorem x_st1_has {la : Array Slot} {nL i : Nat} {v : xV} (hh : lv_has la nL ((i, x_v g v) :: (x_lv g 0 ls).filter (fun q => !(q.1 == i) && !(q.1 + 1 == i && q.2.category == 2)))) : lv_has la nL (x_lv g 0 (x_st1 ls i v)) := by
  refine ⟨hh.1, hh.2.1, fun q hq => hh.2.2 q ?_⟩
  obtain ⟨j, w, a1, a2, a3, a4⟩ := x_lv_mem _ 0 q hq
  have a1 : q.1 = j := by omega
  unfold x_st1 at a2
  rw [List.getElem?_set] at a2
  by_cases hij : i = j
  · rw [if_pos hij] at a2
    split at a2
    · have e1 : v = w := Option.some.inj a2
      have e2 : q = (i, x_v g v) := Prod.ext (by rw [a1, hij]) (by rw [a3, e1])
      rw [e2]
      exact List.mem_cons_self
    · cases a2
  · rw [if_neg hij] at a2
    obtain ⟨b1, b2⟩ := x_kl_at a2 a4
    refine List.mem_cons_of_mem _ (List.mem_filter.mpr ⟨?_, ?_⟩)
    · have h3 := x_lv_at (g := g) (i := 0) a4 ls j b1
      have e3 : q = (0 + j, x_v g w) := Prod.ext (by rw [a1]; omega) a3
      rw [e3]
      exact h3
    · have c1 : (q.1 == i) = false := by rw [a1]; exact beq_false_of_ne (fun z => hij z.symm)
      rw [c1]
      by_cases c2 : j + 1 = i
      · have c3 : (q.2.category == 2) = false := by
          refine beq_false_of_ne (fun z => b2 ⟨c2, ?_⟩)
          rw [a3] at z
          exact x_cat2 z
        rw [c3]
        simp
      · have c4 : (q.1 + 1 == i) = false := by rw [a1]; exact beq_false_of_ne c2
        rw [c4]
        simp
theorem x_st2_has {la : Array Slot} {nL i : Nat} {v : xV} (hh : lv_has la nL ((i, x_v g v) :: (x_lv g 0 ls).filter (fun q => !(q.1 == i) && (!(q.1 == i + 1) && !(q.1 + 1 == i && q.2.category == 2))))) : lv_has la nL (x_lv g 0 (x_st2 ls i v)) := by
  refine ⟨hh.1, hh.2.1, fun q hq => hh.2.2 q ?_⟩
  obtain ⟨j, w, a1, a2, a3, a4⟩ := x_lv_mem _ 0 q hq
  have a1 : q.1 = j := by omega
  unfold x_st2 at a2
  rw [List.getElem?_set] at a2
  by_cases hi1 : i + 1 = j
  · rw [if_pos hi1] at a2
    split at a2
    · exact absurd (Option.some.inj a2).symm a4
    · cases a2
  · rw [if_neg hi1] at a2
    rw [List.getElem?_set] at a2
    by_cases hij : i = j
    · rw [if_pos hij] at a2
      split at a2
      · have e1 : v = w := Option.some.inj a2
        have e2 : q = (i, x_v g v) := Prod.ext (by rw [a1, hij]) (by rw [a3, e1])
        rw [e2]
        exact List.mem_cons_self
      · cases a2
    · rw [if_neg hij] at a2
      obtain ⟨b1, b2⟩ := x_kl_at a2 a4
      refine List.mem_cons_of_mem _ (List.mem_filter.mpr ⟨?_, ?_⟩)
      · have h3 := x_lv_at (g := g) (i := 0) a4 ls j b1
        have e3 : q = (0 + j, x_v g w) := Prod.ext (by rw [a1]; omega) a3
        rw [e3]
        exact h3
      · have c1 : (q.1 == i) = false := by rw [a1]; exact beq_false_of_ne (fun z => hij z.symm)
        have c5 : (q.1 == i + 1) = false := by rw [a1]; exact beq_false_of_ne (fun z => hi1 z.symm)
        rw [c1, c5]
        by_cases c2 : j + 1 = i
        · have c3 : (q.2.category == 2) = false := by
            refine beq_false_of_ne (fun z => b2 ⟨c2, ?_⟩)
            rw [a3] at z
            exact x_cat2 z
          rw [c3]
          simp
        · have c4 : (q.1 + 1 == i) = false := by rw [a1]; exact beq_false_of_ne c2
          rw [c4]
          simp
theorem xj_istore {i : Nat} {x : Int} (hd : decode (x_cd M) pc = .ok (.istore i, 2)) (hi : i < x_ml M) (kk : xJ g D M k n (pc + 2) (x_st1 ls i (xi x)) st h Q) : xJ g D M k n pc ls (xi x :: st) h Q := by
  intro p e s m args below meth c H locs la C R S hl ol os hk hn
  exact lv_istore C.1 C.2.1 hd hl hi rfl (fun la2 hl2 => kk p e s m args below meth c H locs la2 C R S (x_st1_has (v := xi x) hl2) (x_st1_ok (x_okh os) ol) (x_okt os) hk hn)
theorem xj_istore_n {i : Fin 4} {x : Int} (hd : decode (x_cd M) pc = .ok (.istore_n i, 1)) (hi : (i : Nat) < x_ml M) (kk : xJ g D M k n (pc + 1) (x_st1 ls i (xi x)) st h Q) : xJ g D M k n pc ls (xi x :: st) h Q := by
  intro p e s m args below meth c H locs la C R S hl ol os hk hn
  exact lv_istore_n C.1 C.2.1 hd rfl hl hi rfl (fun la2 hl2 => kk p e s m args below meth c H locs la2 C R S (x_st1_has (v := xi x) hl2) (x_st1_ok (x_okh os) ol) (x_okt os) hk hn)
theorem xj_lstore {i : Nat} {x : Int} (hd : decode (x_cd M) pc = .ok (.lstore i, 2)) (hi : i + 1 < x_ml M) (kk : xJ g D M k n (pc + 2) (x_st2 ls i (xl x)) st h Q) : xJ g D M k n pc ls (xl x :: st) h Q := by
  intro p e s m args below meth c H locs la C R S hl ol os hk hn
  exact lv_lstore C.1 C.2.1 hd hl hi rfl (fun la2 hl2 => kk p e s m args below meth c H locs la2 C R S (x_st2_has (v := xl x) hl2) (x_st2_ok (x_okh os) ol) (x_okt os) hk hn)
theorem xj_lstore_n {i : Fin 4} {x : Int} (hd : decode (x_cd M) pc = .ok (.lstore_n i, 1)) (hi : (i : Nat) + 1 < x_ml M) (kk : xJ g D M k n (pc + 1) (x_st2 ls i (xl x)) st h Q) : xJ g D M k n pc ls (xl x :: st) h Q := by
  intro p e s m args below meth c H locs la C R S hl ol os hk hn
  exact lv_lstore_n C.1 C.2.1 hd rfl hl hi rfl (fun la2 hl2 => kk p e s m args below meth c H locs la2 C R S (x_st2_has (v := xl x) hl2) (x_st2_ok (x_okh os) ol) (x_okt os) hk hn)
theorem xj_astore {i : Nat} {r : Nat} (hd : decode (x_cd M) pc = .ok (.astore i, 2)) (hi : i < x_ml M) (kk : xJ g D M k n (pc + 2) (x_st1 ls i (xr r)) st h Q) : xJ g D M k n pc ls (xr r :: st) h Q := by
  intro p e s m args below meth c H locs la C R S hl ol os hk hn
  have hsv : ∀ la2, lv_has la2 (x_ml M) ((i, x_v g (xr r)) :: (x_lv g 0 ls).filter (fun q => !(q.1 == i) && !(q.1 + 1 == i && q.2.category == 2))) → W p g.l e (x_rm D M) s m args below meth c H locs k n (MQ below (x_Qj g M Q) args s (x_bc M) (x_bs M) (x_A g)) (F0 m (pc + 2) la2 (st.map (x_v g))) := fun la2 hl2 => kk p e s m args below meth c H locs la2 C R S (x_st1_has (v := xr r) hl2) (x_st1_ok trivial ol) (x_okt os) hk hn
  rw [List.map_cons]
  rcases x_rn (g := g) r with ⟨-, e1⟩ | ⟨-, e1⟩
  · rw [e1] at hsv ⊢
    exact lv_astoreN C.1 C.2.1 hd hl hi rfl hsv
  · rw [e1] at hsv ⊢
    exact lv_astore C.1 C.2.1 hd hl hi rfl hsv
theorem xj_astore_n {i : Fin 4} {r : Nat} (hd : decode (x_cd M) pc = .ok (.astore_n i, 1)) (hi : (i : Nat) < x_ml M) (kk : xJ g D M k n (pc + 1) (x_st1 ls i (xr r)) st h Q) : xJ g D M k n pc ls (xr r :: st) h Q := by
  intro p e s m args below meth c H locs la C R S hl ol os hk hn
  have hsv : ∀ la2, lv_has la2 (x_ml M) (((i : Nat), x_v g (xr r)) :: (x_lv g 0 ls).filter (fun q => !(q.1 == (i : Nat)) && !(q.1 + 1 == (i : Nat) && q.2.category == 2))) → W p g.l e (x_rm D M) s m args below meth c H locs k n (MQ below (x_Qj g M Q) args s (x_bc M) (x_bs M) (x_A g)) (F0 m (pc + 1) la2 (st.map (x_v g))) := fun la2 hl2 => kk p e s m args below meth c H locs la2 C R S (x_st1_has (v := xr r) hl2) (x_st1_ok trivial ol) (x_okt os) hk hn
  rw [List.map_cons]
  rcases x_rn (g := g) r with ⟨-, e1⟩ | ⟨-, e1⟩
  · rw [e1] at hsv ⊢
    exact lv_astore_nN C.1 C.2.1 hd rfl hl hi rfl hsv
  · rw [e1] at hsv ⊢
    exact lv_astore_n C.1 C.2.1 hd rfl hl hi rfl hsv
theorem xj_iinc {i : Nat} {x j : Int} (hd : decode (x_cd M) pc = .ok (.iinc i j, 3)) (hi : i < x_ml M) (hx : ls[i]? = some (xi x)) (kk : xJ g D M k n (pc + 3) (x_st1 ls i (xi (x32 (x + j)))) st h Q) : xJ g D M k n pc ls st h Q := by
  intro p e s m args below meth c H locs la C R S hl ol os hk hn
  have h1 := x_lv_at (g := g) (i := 0) (v := xi x) (by intro z; cases z) ls i hx
  obtain ⟨q, hq⟩ := List.getElem?_of_mem h1
  have e0 : (0 + i, x_v g (xi x)) = (i, Value.int (Int32.ofInt x)) := Prod.ext (by simp) rfl
  rw [e0] at hq
  exact lv_iinc C.1 C.2.1 hd hl hq (xn_add x j) hi rfl (fun la2 hl2 => kk p e s m args below meth c H locs la2 C R S (x_st1_has (v := xi (x32 (x + j))) hl2) (x_st1_ok (x32_idem _) ol) os hk hn)
/-! what is known of locals may be forgotten -/
theorem xj_fg {ls' : List xV} (hs : ∀ (j : Nat) (v : xV), ls'[j]? = some v → v = xu ∨ ls[j]? = some v) (kk : xJ g D M k n pc ls' st h Q) : xJ g D M k n pc ls st h Q := by
  intro p e s m args below meth c H locs la C R S hl ol os hk hn
  refine kk p e s m args below meth c H locs la C R S ⟨hl.1, hl.2.1, fun q hq => ?_⟩ ?_ os hk hn
  · obtain ⟨j, w, a1, a2, a3, a4⟩ := x_lv_mem _ 0 q hq
    rcases hs j w a2 with b | b
    · exact absurd b a4
    · have h3 := x_lv_at (g := g) (i := 0) a4 ls j b
      have e3 : q = (0 + j, x_v g w) := Prod.ext a1 a3
      rw [e3]
      exact hl.2.2 _ h3
  · intro v hv
    obtain ⟨j, hj⟩ := List.getElem?_of_mem hv
    rcases hs j v hj with b | b
    · rw [b]; trivial
    · exact ol v (List.mem_of_getElem? b)
end XR
