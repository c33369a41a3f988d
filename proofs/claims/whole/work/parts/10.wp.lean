/-! THE CONDITIONS OF A BLOCK: what must hold for a straight run of instructions, computed from the instructions -/
theorem xS_mono {g : xG} {D M : Nat} {args : List xV} {h : xH} {Q1 Q2 : xV → xH → Prop} (hs : xS g D M args h Q1) (hq : ∀ r h1, Q1 r h1 → Q2 r h1) : xS g D M args h Q2 := by
  intro oa p e a1 a2 a3 s m av below a4 a5 a6 a7
  obtain ⟨n, out, b1, b2, b3, ⟨⟨⟨r, h1, c1, c2, c3⟩, c4⟩, c5⟩⟩ := hs oa p e a1 a2 a3 s m av below a4 a5 a6 a7
  exact ⟨n, out, b1, b2, b3, ⟨⟨⟨r, h1, c1, hq r h1 c2, c3⟩, c4⟩, c5⟩⟩
def x_qi (Q : Int → xH → Prop) : xV → xH → Prop := fun r h => match r with
  | .inl x => Q x h
  | _ => False
def x_ql2 (Q : Int → xH → Prop) : xV → xH → Prop := fun r h => match r with
  | .inr (.inl x) => Q x h
  | _ => False
def x_qr (Q : Nat → xH → Prop) : xV → xH → Prop := fun r h => match r with
  | .inr (.inr (.inl x)) => Q x h
  | _ => False
def x_qv (Q : xH → Prop) : xV → xH → Prop := fun r h => match r with
  | .inr (.inr (.inr _)) => Q h
  | _ => False
def xSi (g : xG) (D M : Nat) (args : List xV) (h : xH) (Q : Int → xH → Prop) : Prop := xS g D M args h (x_qi Q)
def xSl (g : xG) (D M : Nat) (args : List xV) (h : xH) (Q : Int → xH → Prop) : Prop := xS g D M args h (x_ql2 Q)
def xSr (g : xG) (D M : Nat) (args : List xV) (h : xH) (Q : Nat → xH → Prop) : Prop := xS g D M args h (x_qr Q)
def xSv (g : xG) (D M : Nat) (args : List xV) (h : xH) (Q : xH → Prop) : Prop := xS g D M args h (x_qv Q)
section XM
variable {g : xG} {D M k n pc : Nat} {ls st : List xV} {h : xH} {Q : xV → xH → Prop}
theorem x_my0 : x_y 251 = Lib.Math.max.name := by decide +kernel
theorem x_my1 : x_y 253 = Lib.Math.min.name := by decide +kernel
theorem x_my2 : x_y 252 = Lib.MathLoose.max_long.x := by decide +kernel
theorem x_my3 : x_y 254 = Lib.MathLoose.min_long.x := by decide +kernel
theorem xj_mmax {i : Nat} {x y : Int} (hd : decode (x_cd M) pc = .ok (.invokestatic i, 3)) (hl0 : Cond.methodLink (x_y M).cls i (x_y 251) ∈ x_tb) (hw : x_wd st ≤ 8) (kk : xJ g (D + 1) M k n (pc + 3) ls (xi (max x y) :: st) h Q) : xJ g (D + 1) M k n pc ls (xi y :: xi x :: st) h Q := by
  intro p e s m args below meth c0 H locs la C R S hl ol os hk hn
  have hts := C.2.2.2.2.2.1
  have hy : x32 y = y := x_okh os
  have hx : x32 x = x := x_okh (x_okt os)
  have hv : x_ok (xi (max x y)) := by
    show x32 (max x y) = max x y
    rcases Int.le_total x y with z | z
    · first | (rw [Int.max_eq_right z]; assumption) | (rw [Int.min_eq_left z]; assumption)
    · first | (rw [Int.max_eq_left z]; assumption) | (rw [Int.min_eq_right z]; assumption)
  have kk := kk p e s m args below meth c0 H locs la C R S hl ol (x_okc hv (x_okt (x_okt os))) hk hn
  rw [x_my0] at hl0
  have i1 : Cond.static Lib.Math.max.name ∈ x_tb := x_i1 (List.mem_of_getElem? (i := 39) rfl) rfl
  have i2 : Cond.initialized "java/lang/Math" ∈ x_tb := x_i1 (List.mem_of_getElem? (i := 4) rfl) rfl
  have i3 : Cond.code Lib.Math.max.name Lib.Math.max.code 2 (some .int) ∈ x_tb := x_i1 (List.mem_of_getElem? (i := 40) rfl) rfl
  refine va_mmax C.1 C.2.1 (by rw [C.2.2.2.1]; exact hl.1.symm) C.2.2.2.2.1 (hts _ hl0) (hts _ i1) (hts _ i2) (hts _ i3) (by show 1 ≤ D + 1; omega) (by rw [x_wd_sum]; show _ ≤ 60 * (D + 1); omega) hk hn hd ?_
  have e1 : (if Int32.ofInt x < Int32.ofInt y then Int32.ofInt y else Int32.ofInt x) = Int32.ofInt (max x y) := by
    by_cases z : x < y
    · rw [if_pos ((xn_lt hx hy).mpr z)]
      congr 1
      omega
    · rw [if_neg (fun q => z ((xn_lt hx hy).mp q))]
      congr 1
      omega
  rw [e1]
  exact kk
theorem xj_mmin {i : Nat} {x y : Int} (hd : decode (x_cd M) pc = .ok (.invokestatic i, 3)) (hl0 : Cond.methodLink (x_y M).cls i (x_y 253) ∈ x_tb) (hw : x_wd st ≤ 8) (kk : xJ g (D + 1) M k n (pc + 3) ls (xi (min x y) :: st) h Q) : xJ g (D + 1) M k n pc ls (xi y :: xi x :: st) h Q := by
  intro p e s m args below meth c0 H locs la C R S hl ol os hk hn
  have hts := C.2.2.2.2.2.1
  have hy : x32 y = y := x_okh os
  have hx : x32 x = x := x_okh (x_okt os)
  have hv : x_ok (xi (min x y)) := by
    show x32 (min x y) = min x y
    rcases Int.le_total x y with z | z
    · first | (rw [Int.max_eq_right z]; assumption) | (rw [Int.min_eq_left z]; assumption)
    · first | (rw [Int.max_eq_left z]; assumption) | (rw [Int.min_eq_right z]; assumption)
  have kk := kk p e s m args below meth c0 H locs la C R S hl ol (x_okc hv (x_okt (x_okt os))) hk hn
  rw [x_my1] at hl0
  have i1 : Cond.static Lib.Math.min.name ∈ x_tb := x_i3 (List.mem_of_getElem? (i := 94) rfl) rfl
  have i2 : Cond.initialized "java/lang/Math" ∈ x_tb := x_i1 (List.mem_of_getElem? (i := 4) rfl) rfl
  have i3 : Cond.code Lib.Math.min.name Lib.Math.min.code 2 (some .int) ∈ x_tb := x_i3 (List.mem_of_getElem? (i := 95) rfl) rfl
  refine va_mmin C.1 C.2.1 (by rw [C.2.2.2.1]; exact hl.1.symm) C.2.2.2.2.1 (hts _ hl0) (hts _ i1) (hts _ i2) (hts _ i3) (by show 1 ≤ D + 1; omega) (by rw [x_wd_sum]; show _ ≤ 60 * (D + 1); omega) hk hn hd ?_
  have e1 : (if Int32.ofInt y < Int32.ofInt x then Int32.ofInt y else Int32.ofInt x) = Int32.ofInt (min x y) := by
    by_cases z : y < x
    · rw [if_pos ((xn_lt hy hx).mpr z)]
      congr 1
      omega
    · rw [if_neg (fun q => z ((xn_lt hy hx).mp q))]
      congr 1
      omega
  rw [e1]
  exact kk
theorem xj_mmaxL {i : Nat} {x y : Int} (hd : decode (x_cd M) pc = .ok (.invokestatic i, 3)) (hl0 : Cond.methodLink (x_y M).cls i (x_y 252) ∈ x_tb) (hw : x_wd st ≤ 8) (kk : xJ g (D + 1) M k n (pc + 3) ls (xl (max x y) :: st) h Q) : xJ g (D + 1) M k n pc ls (xl y :: xl x :: st) h Q := by
  intro p e s m args below meth c0 H locs la C R S hl ol os hk hn
  have hts := C.2.2.2.2.2.1
  have hy : x64 y = y := x_okh os
  have hx : x64 x = x := x_okh (x_okt os)
  have hv : x_ok (xl (max x y)) := by
    show x64 (max x y) = max x y
    rcases Int.le_total x y with z | z
    · first | (rw [Int.max_eq_right z]; assumption) | (rw [Int.min_eq_left z]; assumption)
    · first | (rw [Int.max_eq_left z]; assumption) | (rw [Int.min_eq_right z]; assumption)
  have kk := kk p e s m args below meth c0 H locs la C R S hl ol (x_okc hv (x_okt (x_okt os))) hk hn
  rw [x_my2] at hl0
  have i1 : Cond.static Lib.MathLoose.max_long.x ∈ x_tb := x_i2 (List.mem_of_getElem? (i := 221) rfl) rfl
  have i2 : Cond.initialized "java/lang/Math" ∈ x_tb := x_i1 (List.mem_of_getElem? (i := 4) rfl) rfl
  have i3 : Cond.code Lib.MathLoose.max_long.x Lib.MathLoose.max_long.code 4 (some .long) ∈ x_tb := x_i2 (List.mem_of_getElem? (i := 222) rfl) rfl
  refine va_mmax_long C.1 C.2.1 (by rw [C.2.2.2.1]; exact hl.1.symm) C.2.2.2.2.1 (hts _ hl0) (hts _ i1) (hts _ i2) (hts _ i3) (by show 1 ≤ D + 1; omega) (by rw [x_wd_sum]; show _ ≤ 60 * (D + 1); omega) hk hn hd ?_
  have e1 : (if Int64.ofInt y < Int64.ofInt x then Int64.ofInt x else Int64.ofInt y) = Int64.ofInt (max x y) := by
    by_cases z : y < x
    · rw [if_pos ((xn_ltL hy hx).mpr z)]
      congr 1
      omega
    · rw [if_neg (fun q => z ((xn_ltL hy hx).mp q))]
      congr 1
      omega
  rw [e1]
  exact kk
theorem xj_mminL {i : Nat} {x y : Int} (hd : decode (x_cd M) pc = .ok (.invokestatic i, 3)) (hl0 : Cond.methodLink (x_y M).cls i (x_y 254) ∈ x_tb) (hw : x_wd st ≤ 8) (kk : xJ g (D + 1) M k n (pc + 3) ls (xl (min x y) :: st) h Q) : xJ g (D + 1) M k n pc ls (xl y :: xl x :: st) h Q := by
  intro p e s m args below meth c0 H locs la C R S hl ol os hk hn
  have hts := C.2.2.2.2.2.1
  have hy : x64 y = y := x_okh os
  have hx : x64 x = x := x_okh (x_okt os)
  have hv : x_ok (xl (min x y)) := by
    show x64 (min x y) = min x y
    rcases Int.le_total x y with z | z
    · first | (rw [Int.max_eq_right z]; assumption) | (rw [Int.min_eq_left z]; assumption)
    · first | (rw [Int.max_eq_left z]; assumption) | (rw [Int.min_eq_right z]; assumption)
  have kk := kk p e s m args below meth c0 H locs la C R S hl ol (x_okc hv (x_okt (x_okt os))) hk hn
  rw [x_my3] at hl0
  have i1 : Cond.static Lib.MathLoose.min_long.x ∈ x_tb := x_i2 (List.mem_of_getElem? (i := 218) rfl) rfl
  have i2 : Cond.initialized "java/lang/Math" ∈ x_tb := x_i1 (List.mem_of_getElem? (i := 4) rfl) rfl
  have i3 : Cond.code Lib.MathLoose.min_long.x Lib.MathLoose.min_long.code 4 (some .long) ∈ x_tb := x_i2 (List.mem_of_getElem? (i := 219) rfl) rfl
  refine va_mmin_long C.1 C.2.1 (by rw [C.2.2.2.1]; exact hl.1.symm) C.2.2.2.2.1 (hts _ hl0) (hts _ i1) (hts _ i2) (hts _ i3) (by show 1 ≤ D + 1; omega) (by rw [x_wd_sum]; show _ ≤ 60 * (D + 1); omega) hk hn hd ?_
  have e1 : (if Int64.ofInt y < Int64.ofInt x then Int64.ofInt y else Int64.ofInt x) = Int64.ofInt (min x y) := by
    by_cases z : y < x
    · rw [if_pos ((xn_ltL hy hx).mpr z)]
      congr 1
      omega
    · rw [if_neg (fun q => z ((xn_ltL hy hx).mp q))]
      congr 1
      omega
  rw [e1]
  exact kk
end XM
abbrev xO : Type := Nat × Nat × Nat × Int
/-- an instruction, its length, and what its operands mean -/
abbrev xI : Type := Instr × Nat × xO
def x_icmp (c : Jvm.ClassFile.Cond) (x y : Int) (P N : Prop) : Prop := match c with
  | .eq => (x = y → P) ∧ (¬ x = y → N)
  | .ne => (¬ x = y → P) ∧ (x = y → N)
  | .lt => (x < y → P) ∧ (y ≤ x → N)
  | .ge => (y ≤ x → P) ∧ (x < y → N)
  | .gt => (y < x → P) ∧ (x ≤ y → N)
  | .le => (x ≤ y → P) ∧ (y < x → N)
def x_sw (J : Nat → Prop) (pc : Nat) (x : Int) : Int → List Int → Prop
  | _, [] => True
  | lo, o :: os => (x = lo → J ((pc : Int) + o).toNat) ∧ x_sw J pc x (lo + 1) os
def x_fitk (t : Nat) (v : xV) (P : Prop) : Prop := match t, v with
  | 0, .inl _ => P
  | 1, .inr (.inl _) => P
  | 2, .inr (.inr (.inl _)) => P
  | 3, .inl x => (x = 0 ∨ x = 1) ∧ P
  | _, _ => False
def x_gv (t : Nat) (x : Int) : xV := match t with
  | 1 => xl x
  | 2 => xr x.toNat
  | _ => xi x
/-- a call's end, by the type of its answer -/
def x_ck2 (c : Nat) (g : xG) (D M : Nat) (args : List xV) (h : xH) (st : List xV) (nx : List xV → xH → Prop) : Prop := match c with
  | 0 => xSi g D M args h (fun x h1 => nx (xi x :: st) h1)
  | 1 => xSl g D M args h (fun x h1 => nx (xl x :: st) h1)
  | 2 => xSr g D M args h (fun x h1 => nx (xr x :: st) h1)
  | _ => xSv g D M args h (fun h1 => nx st h1)
def x_wp1 (g : xG) (D M : Nat) (i : xI) (pc k n : Nat) (ls st : List xV) (h : xH) (Q : xV → xH → Prop) (nx : Nat → Nat → List xV → List xV → xH → Prop) : Prop :=
  match i.1 with
  | .iconst c => nx k n ls (xi c :: st) h
  | .bipush c => nx k n ls (xi c :: st) h
  | .sipush c => nx k n ls (xi c :: st) h
  | .ldc _ => (match i.2.2.1 with
    | 0 => nx k n ls (xi i.2.2.2.2.2 :: st) h
    | r => nx k n ls (xr r :: st) h)
  | .ldc_w _ => nx k n ls (xi i.2.2.2.2.2 :: st) h
  | .ldc2_w _ => nx k n ls (xl i.2.2.2.2.2 :: st) h
  | .lconst _ => nx k n ls (xl i.2.2.2.2.2 :: st) h
  | .aconst_null => nx k n ls (xr 0 :: st) h
  | .iload _ => (match ls[i.2.2.1]? with
    | some (.inl x) => nx k n ls (xi x :: st) h
    | _ => False)
  | .iload_n _ => (match ls[i.2.2.1]? with
    | some (.inl x) => nx k n ls (xi x :: st) h
    | _ => False)
  | .lload _ => (match ls[i.2.2.1]? with
    | some (.inr (.inl x)) => nx k n ls (xl x :: st) h
    | _ => False)
  | .lload_n _ => (match ls[i.2.2.1]? with
    | some (.inr (.inl x)) => nx k n ls (xl x :: st) h
    | _ => False)
  | .aload _ => (match ls[i.2.2.1]? with
    | some (.inr (.inr (.inl x))) => nx k n ls (xr x :: st) h
    | _ => False)
  | .aload_n _ => (match ls[i.2.2.1]? with
    | some (.inr (.inr (.inl x))) => nx k n ls (xr x :: st) h
    | _ => False)
  | .istore _ => (match st with
    | .inl x :: st => nx k n (x_st1 ls i.2.2.1 (xi x)) st h
    | _ => False)
  | .istore_n _ => (match st with
    | .inl x :: st => nx k n (x_st1 ls i.2.2.1 (xi x)) st h
    | _ => False)
  | .lstore _ => (match st with
    | .inr (.inl x) :: st => nx k n (x_st2 ls i.2.2.1 (xl x)) st h
    | _ => False)
  | .lstore_n _ => (match st with
    | .inr (.inl x) :: st => nx k n (x_st2 ls i.2.2.1 (xl x)) st h
    | _ => False)
  | .astore _ => (match st with
    | .inr (.inr (.inl x)) :: st => nx k n (x_st1 ls i.2.2.1 (xr x)) st h
    | _ => False)
  | .astore_n _ => (match st with
    | .inr (.inr (.inl x)) :: st => nx k n (x_st1 ls i.2.2.1 (xr x)) st h
    | _ => False)
  | .iinc _ c => (match ls[i.2.2.1]? with
    | some (.inl x) => nx k n (x_st1 ls i.2.2.1 (xi (x32 (x + c)))) st h
    | _ => False)
  | .iadd => (match st with
    | .inl y :: .inl x :: st => nx k n ls (xi (x32 (x + y)) :: st) h
    | _ => False)
  | .isub => (match st with
    | .inl y :: .inl x :: st => nx k n ls (xi (x32 (x - y)) :: st) h
    | _ => False)
  | .imul => (match st with
    | .inl y :: .inl x :: st => nx k n ls (xi (x32 (x * y)) :: st) h
    | _ => False)
  | .iand => (match st with
    | .inl y :: .inl x :: st => nx k n ls (xi (x_and x y) :: st) h
    | _ => False)
  | .ior => (match st with
    | .inl y :: .inl x :: st => nx k n ls (xi (x_or x y) :: st) h
    | _ => False)
  | .ishl => (match st with
    | .inl y :: .inl x :: st => nx k n ls (xi (x_shl x y) :: st) h
    | _ => False)
  | .ishr => (match st with
    | .inl y :: .inl x :: st => nx k n ls (xi (x_shr x y) :: st) h
    | _ => False)
  | .iushr => (match st with
    | .inl y :: .inl x :: st => nx k n ls (xi (x_ushr x y) :: st) h
    | _ => False)
  | .idiv => (match st with
    | .inl y :: .inl x :: st => y ≠ 0 ∧ nx k n ls (xi (x32 (x.tdiv y)) :: st) h
    | _ => False)
  | .irem => (match st with
    | .inl y :: .inl x :: st => y ≠ 0 ∧ nx k n ls (xi (x32 (x.tmod y)) :: st) h
    | _ => False)
  | .ladd => (match st with
    | .inr (.inl y) :: .inr (.inl x) :: st => nx k n ls (xl (x64 (x + y)) :: st) h
    | _ => False)
  | .lsub => (match st with
    | .inr (.inl y) :: .inr (.inl x) :: st => nx k n ls (xl (x64 (x - y)) :: st) h
    | _ => False)
  | .lmul => (match st with
    | .inr (.inl y) :: .inr (.inl x) :: st => nx k n ls (xl (x64 (x * y)) :: st) h
    | _ => False)
  | .land => (match st with
    | .inr (.inl y) :: .inr (.inl x) :: st => nx k n ls (xl (x_andL x y) :: st) h
    | _ => False)
  | .lor => (match st with
    | .inr (.inl y) :: .inr (.inl x) :: st => nx k n ls (xl (x_orL x y) :: st) h
    | _ => False)
  | .ldiv => (match st with
    | .inr (.inl y) :: .inr (.inl x) :: st => y ≠ 0 ∧ nx k n ls (xl (x64 (x.tdiv y)) :: st) h
    | _ => False)
  | .lcmp => (match st with
    | .inr (.inl y) :: .inr (.inl x) :: st => nx k n ls (xi (x_cmp x y) :: st) h
    | _ => False)
  | .lshl => (match st with
    | .inl y :: .inr (.inl x) :: st => nx k n ls (xl (x_shlL x y) :: st) h
    | _ => False)
  | .ineg => (match st with
    | .inl x :: st => nx k n ls (xi (x32 (-x)) :: st) h
    | _ => False)
  | .lneg => (match st with
    | .inr (.inl x) :: st => nx k n ls (xl (x64 (-x)) :: st) h
    | _ => False)
  | .i2l => (match st with
    | .inl x :: st => nx k n ls (xl x :: st) h
    | _ => False)
  | .l2i => (match st with
    | .inr (.inl x) :: st => nx k n ls (xi (x32 x) :: st) h
    | _ => False)
  | .i2c => (match st with
    | .inl x :: st => nx k n ls (xi (x_i2c x) :: st) h
    | _ => False)
  | .dup => (match st with
    | .inl x :: st => nx k n ls (xi x :: xi x :: st) h
    | .inr (.inr (.inl x)) :: st => nx k n ls (xr x :: xr x :: st) h
    | _ => False)
  | .pop => (match st with
    | .inl _ :: st => nx k n ls st h
    | .inr (.inr (.inl _)) :: st => nx k n ls st h
    | _ => False)
  | .dup2 => (match st with
    | .inl x :: .inr (.inr (.inl r)) :: st => nx k n ls (xi x :: xr r :: xi x :: xr r :: st) h
    | .inr (.inl x) :: st => nx k n ls (xl x :: xl x :: st) h
    | _ => False)
  | .if_icmp c _ => (match st with
    | .inl y :: .inl x :: st => x_icmp c x y (xJ g D M k n i.2.2.1 ls st h Q) (nx k n ls st h)
    | _ => False)
  | .ifCond c _ => (match st with
    | .inl x :: st => x_icmp c x 0 (xJ g D M k n i.2.2.1 ls st h Q) (nx k n ls st h)
    | _ => False)
  | .ifnull _ => (match st with
    | .inr (.inr (.inl r)) :: st => (r = 0 → xJ g D M k n i.2.2.1 ls st h Q) ∧ (¬ r = 0 → nx k n ls st h)
    | _ => False)
  | .ifnonnull _ => (match st with
    | .inr (.inr (.inl r)) :: st => (¬ r = 0 → xJ g D M k n i.2.2.1 ls st h Q) ∧ (r = 0 → nx k n ls st h)
    | _ => False)
  | .goto _ => nx k n ls st h
  | .tableswitch d lo hi offs => (match st with
    | .inl x :: st => ((x < lo ∨ hi < x) → xJ g D M k n ((pc : Int) + d).toNat ls st h Q) ∧ x_sw (fun t => xJ g D M k n t ls st h Q) pc x lo offs.toList
    | _ => False)
  | .getfield _ => (match st with
    | .inr (.inr (.inl r)) :: st => x_is h r i.2.2.1 i.2.2.2.2.1 ∧ nx k n ls (x_gv i.2.2.2.2.2.toNat (h.2 r i.2.2.2.1) :: st) h
    | _ => False)
  | .putfield _ => (match st with
    | v :: .inr (.inr (.inl r)) :: st => x_is h r i.2.2.1 i.2.2.2.2.1 ∧ x_fitk i.2.2.2.2.2.toNat v (nx k n ls st (h.1, x_up h.2 r i.2.2.2.1 (x_pl v)))
    | _ => False)
  | .getstatic _ => nx k n ls (xr (2 + i.2.2.1) :: st) h
  | .new _ => (k + 1 ≤ x_bc M ∧ n + i.2.2.2.1 ≤ x_bs M) ∧ nx (k + 1) (n + i.2.2.2.1) ls (xr (h.1.length + 16) :: st) (h.1 ++ [(i.2.2.1, i.2.2.2.1)], x_nw h.2 (h.1.length + 16))
  | .newarray _ => (match st with
    | .inl N :: st => (0 ≤ N ∧ N < 1000000 ∧ k + 1 ≤ x_bc M ∧ n + N.toNat ≤ x_bs M) ∧ nx (k + 1) (n + N.toNat) ls (xr (h.1.length + 16) :: st) (h.1 ++ [(i.2.2.1, N.toNat)], x_nw h.2 (h.1.length + 16))
    | _ => False)
  | .anewarray _ => (match st with
    | .inl N :: st => (0 ≤ N ∧ N < 1000000 ∧ k + 1 ≤ x_bc M ∧ n + N.toNat ≤ x_bs M) ∧ nx (k + 1) (n + N.toNat) ls (xr (h.1.length + 16) :: st) (h.1 ++ [(13, N.toNat)], x_nw h.2 (h.1.length + 16))
    | _ => False)
  | .iaload => (match i.2.2.1, st with
    | 0, .inl j :: .inr (.inr (.inl r)) :: st => (∃ N : Nat, x_is h r 10 N ∧ 0 ≤ j ∧ j < N) ∧ nx k n ls (xi (h.2 r j.toNat) :: st) h
    | 1, .inl j :: .inr (.inr (.inl 1)) :: st => (0 ≤ j ∧ j < g.L) ∧ nx k n ls (xi (g.xs j.toNat).toInt :: st) h
    | 2, .inl j :: .inr (.inr (.inl 2)) :: st => (0 ≤ j ∧ j < 10) ∧ nx k n ls (xi (x_ltv 0 j.toNat) :: st) h
    | 2, .inl j :: .inr (.inr (.inl 3)) :: st => (0 ≤ j ∧ j < 10) ∧ nx k n ls (xi (x_ltv 1 j.toNat) :: st) h
    | 2, .inl j :: .inr (.inr (.inl 4)) :: st => (0 ≤ j ∧ j < 10) ∧ nx k n ls (xi (x_ltv 2 j.toNat) :: st) h
    | _, _ => False)
  | .laload => (match st with
    | .inl j :: .inr (.inr (.inl r)) :: st => (∃ N : Nat, x_is h r 11 N ∧ 0 ≤ j ∧ j < N) ∧ nx k n ls (xl (h.2 r j.toNat) :: st) h
    | _ => False)
  | .baload => (match st with
    | .inl j :: .inr (.inr (.inl r)) :: st => (∃ N : Nat, x_is h r 12 N ∧ 0 ≤ j ∧ j < N) ∧ nx k n ls (xi (h.2 r j.toNat) :: st) h
    | _ => False)
  | .aaload => (match st with
    | .inl j :: .inr (.inr (.inl r)) :: st => (∃ N : Nat, x_is h r 13 N ∧ 0 ≤ j ∧ j < N) ∧ nx k n ls (xr (h.2 r j.toNat).toNat :: st) h
    | _ => False)
  | .iastore => (match st with
    | .inl x :: .inl j :: .inr (.inr (.inl r)) :: st => (∃ N : Nat, x_is h r 10 N ∧ 0 ≤ j ∧ j < N) ∧ nx k n ls st (h.1, x_up h.2 r j.toNat x)
    | _ => False)
  | .lastore => (match st with
    | .inr (.inl x) :: .inl j :: .inr (.inr (.inl r)) :: st => (∃ N : Nat, x_is h r 11 N ∧ 0 ≤ j ∧ j < N) ∧ nx k n ls st (h.1, x_up h.2 r j.toNat x)
    | _ => False)
  | .bastore => (match st with
    | .inl x :: .inl j :: .inr (.inr (.inl r)) :: st => (∃ N : Nat, x_is h r 12 N ∧ 0 ≤ j ∧ j < N) ∧ (x = 0 ∨ x = 1) ∧ nx k n ls st (h.1, x_up h.2 r j.toNat x)
    | _ => False)
  | .aastore => (match st with
    | .inr (.inr (.inl v)) :: .inl j :: .inr (.inr (.inl r)) :: st => (∃ N : Nat, x_is h r 13 N ∧ 0 ≤ j ∧ j < N) ∧ (∃ N2 : Nat, x_is h v 0 N2) ∧ nx k n ls st (h.1, x_up h.2 r j.toNat v)
    | _ => False)
  | .arraylength => (match i.2.2.1, st with
    | 0, .inr (.inr (.inl r)) :: st => ∃ N : Nat, x_is h r i.2.2.2.1 N ∧ nx k n ls (xi (N : Int) :: st) h
    | 1, .inr (.inr (.inl 1)) :: st => nx k n ls (xi (g.L : Int) :: st) h
    | 2, .inr (.inr (.inl 2)) :: st => nx k n ls (xi 10 :: st) h
    | 2, .inr (.inr (.inl 3)) :: st => nx k n ls (xi 10 :: st) h
    | 2, .inr (.inr (.inl 4)) :: st => nx k n ls (xi 10 :: st) h
    | _, _ => False)
  | .invokevirtual _ => (match D with
    | 0 => False
    | D + 1 => (match st.drop (x_np i.2.2.1) with
      | .inr (.inr (.inl r)) :: st' => (bif Nat.ble (x_wd st') 8 then
          (x_is h r i.2.2.2.1 (x_ft.getD i.2.2.2.1 []).length ∧
            (bif i.2.2.2.2.2 == 0 then x_ck2 i.2.2.2.2.1 g D i.2.2.1 (xr r :: (st.take (x_np i.2.2.1)).reverse) h st' (fun st h => nx k n ls st h)
             else ((k + x_bc i.2.2.1 ≤ x_bc M ∧ n + x_bs i.2.2.1 ≤ x_bs M) ∧ x_ck2 i.2.2.2.2.1 g D i.2.2.1 (xr r :: (st.take (x_np i.2.2.1)).reverse) h st' (fun st h => nx (k + x_bc i.2.2.1) (n + x_bs i.2.2.1) ls st h)))) else False)
      | _ => False))
  | .invokespecial _ => (match D with
    | 0 => False
    | D + 1 => (bif i.2.2.2.2.1 == 9 then
        (match st with
        | .inr (.inr (.inl r)) :: st' => (bif Nat.ble (x_wd st') 8 then ((∃ c N : Nat, x_is h r c N) ∧ nx k n ls st' h) else False)
        | _ => False)
      else (match st.drop (x_np i.2.2.1) with
      | .inr (.inr (.inl r)) :: st' => (bif Nat.ble (x_wd st') 8 then
          ((∃ c N : Nat, x_is h r c N) ∧ (k + x_bc i.2.2.1 ≤ x_bc M ∧ n + x_bs i.2.2.1 ≤ x_bs M) ∧ x_ck2 3 g D i.2.2.1 (xr r :: (st.take (x_np i.2.2.1)).reverse) h st' (fun st h => nx (k + x_bc i.2.2.1) (n + x_bs i.2.2.1) ls st h)) else False)
      | _ => False)))
  | .invokestatic _ => (match D with
    | 0 => False
    | D + 1 => (match i.2.2.2.2.1 with
      | 20 => (match st with
        | .inl y :: .inl x :: st' => (bif Nat.ble (x_wd st') 8 then nx k n ls (xi (max x y) :: st') h else False)
        | _ => False)
      | 21 => (match st with
        | .inl y :: .inl x :: st' => (bif Nat.ble (x_wd st') 8 then nx k n ls (xi (min x y) :: st') h else False)
        | _ => False)
      | 22 => (match st with
        | .inr (.inl y) :: .inr (.inl x) :: st' => (bif Nat.ble (x_wd st') 8 then nx k n ls (xl (max x y) :: st') h else False)
        | _ => False)
      | 23 => (match st with
        | .inr (.inl y) :: .inr (.inl x) :: st' => (bif Nat.ble (x_wd st') 8 then nx k n ls (xl (min x y) :: st') h else False)
        | _ => False)
      | c => (bif Nat.ble (x_np i.2.2.1) st.length && Nat.ble (x_wd (st.drop (x_np i.2.2.1))) 8 then x_ck2 c g D i.2.2.1 (st.take (x_np i.2.2.1)).reverse h (st.drop (x_np i.2.2.1)) (fun st h => nx k n ls st h) else False)))
  | .ireturn => (match i.2.2.1, st with
    | 0, [.inl x] => Q (xi x) h
    | 3, [.inl x] => (x = 0 ∨ x = 1) ∧ Q (xi x) h
    | _, _ => False)
  | .lreturn => (match st with
    | [.inr (.inl x)] => Q (xl x) h
    | _ => False)
  | .areturn => (match st with
    | [.inr (.inr (.inl x))] => Q (xr x) h
    | _ => False)
  | .return_ => (match st with
    | [] => Q xu h
    | _ => False)
  | _ => False
/-- where the run goes on: behind the instruction, or where it jumps to -/
def x_npc (pc : Nat) (i : xI) : Nat := match i.1 with
  | .goto _ => i.2.2.1
  | _ => pc + i.2.1
def x_wp (g : xG) (D M : Nat) (Q : xV → xH → Prop) : List xI → Nat → Nat → Nat → List xV → List xV → xH → Prop
  | [], pc, k, n, ls, st, h => xJ g D M k n pc ls st h Q
  | i :: is, pc, k, n, ls, st, h => x_wp1 g D M i pc k n ls st h Q (fun k n ls st h => x_wp g D M Q is (x_npc pc i) k n ls st h)
/-! what the tables must say of an instruction -/
def x_ck3 (M pc : Nat) (i : xI) : Bool := match i.1 with
  | .iconst c => i.2.1 == 1 && decide (x32 c = c)
  | .bipush c => i.2.1 == 2 && decide (x32 c = c) && decide ((Int8.ofInt c).toInt32 = Int32.ofInt c)
  | .sipush c => i.2.1 == 3 && decide (x32 c = c) && decide ((Int16.ofInt c).toInt32 = Int32.ofInt c)
  | .ldc j => i.2.1 == 2 && i.2.2.1 == 0 && decide (x32 i.2.2.2.2.2 = i.2.2.2.2.2) && x_qc M j i.2.2.2.2.2
  | .ldc_w j => i.2.1 == 3 && decide (x32 i.2.2.2.2.2 = i.2.2.2.2.2) && x_qc M j i.2.2.2.2.2
  | .ldc2_w j => i.2.1 == 3 && decide (x64 i.2.2.2.2.2 = i.2.2.2.2.2) && x_ql M j i.2.2.2.2.2
  | .lconst c => i.2.1 == 1 && decide (i.2.2.2.2.2 = ((c : Nat) : Int))
  | .aconst_null => i.2.1 == 1
  | .iload j => i.2.1 == 2 && i.2.2.1 == j
  | .iload_n j => i.2.1 == 1 && i.2.2.1 == (j : Nat)
  | .lload j => i.2.1 == 2 && i.2.2.1 == j
  | .lload_n j => i.2.1 == 1 && i.2.2.1 == (j : Nat)
  | .aload j => i.2.1 == 2 && i.2.2.1 == j
  | .aload_n j => i.2.1 == 1 && i.2.2.1 == (j : Nat)
  | .istore j => i.2.1 == 2 && i.2.2.1 == j && decide (j < x_ml M)
  | .istore_n j => i.2.1 == 1 && i.2.2.1 == (j : Nat) && decide ((j : Nat) < x_ml M)
  | .lstore j => i.2.1 == 2 && i.2.2.1 == j && decide (j + 1 < x_ml M)
  | .lstore_n j => i.2.1 == 1 && i.2.2.1 == (j : Nat) && decide ((j : Nat) + 1 < x_ml M)
  | .astore j => i.2.1 == 2 && i.2.2.1 == j && decide (j < x_ml M)
  | .astore_n j => i.2.1 == 1 && i.2.2.1 == (j : Nat) && decide ((j : Nat) < x_ml M)
  | .iinc j _ => i.2.1 == 3 && i.2.2.1 == j && decide (j < x_ml M)
  | .iadd | .isub | .imul | .iand | .ior | .ishl | .ishr | .iushr | .idiv | .irem | .ladd | .lsub | .lmul | .land | .lor | .ldiv | .lcmp | .lshl | .ineg | .lneg | .i2l | .l2i | .i2c | .dup | .pop | .dup2 => i.2.1 == 1
  | .iaload | .laload | .baload | .aaload | .iastore | .lastore | .bastore | .aastore => i.2.1 == 1
  | .arraylength => i.2.1 == 1 && (i.2.2.1 != 0 || Nat.ble 10 i.2.2.2.1)
  | .if_icmp _ off => i.2.1 == 3 && decide ((pc : Int) + off = (i.2.2.1 : Int))
  | .ifCond _ off => i.2.1 == 3 && decide ((pc : Int) + off = (i.2.2.1 : Int))
  | .ifnull off => i.2.1 == 3 && decide ((pc : Int) + off = (i.2.2.1 : Int))
  | .ifnonnull off => i.2.1 == 3 && decide ((pc : Int) + off = (i.2.2.1 : Int))
  | .goto off => i.2.1 == 3 && decide ((pc : Int) + off = (i.2.2.1 : Int))
  | .tableswitch d lo hi offs => decide (0 ≤ (pc : Int) + d) && decide ((offs.toList.length : Int) = hi - lo + 1) && offs.toList.all (fun o => decide (0 ≤ (pc : Int) + o))
  | .getfield j => i.2.1 == 3 && decide (i.2.2.1 < 10) && decide (i.2.2.2.1 < (x_ft.getD i.2.2.1 []).length) && decide (i.2.2.2.2.2 = (x_tc i.2.2.1 i.2.2.2.1 : Int)) && x_fk M j i.2.2.1 i.2.2.2.1
  | .putfield j => i.2.1 == 3 && decide (i.2.2.1 < 10) && decide (i.2.2.2.1 < (x_ft.getD i.2.2.1 []).length) && decide (i.2.2.2.2.2 = (x_tc i.2.2.1 i.2.2.2.1 : Int)) && x_fk M j i.2.2.1 i.2.2.2.1 && (!(x_T i.2.2.1 i.2.2.2.1).2.2.2 || (decide ((x_y M).name = "<init>") && decide ((x_T i.2.2.1 i.2.2.2.1).1 = (x_y M).cls)))
  | .getstatic j => i.2.1 == 3 && (match x_sn[i.2.2.1]? with
    | some q => decide ((x_y M).cls = q.1) && decide (j = q.2.1)
    | none => false)
  | .new j => i.2.1 == 3 && decide (i.2.2.1 < 10) && decide (i.2.2.2.1 = (x_ft.getD i.2.2.1 []).length) && x_ck M j i.2.2.1
  | .newarray t => i.2.1 == 2 && (match t with
    | .int => i.2.2.1 == 10
    | .long => i.2.2.1 == 11
    | .boolean => i.2.2.1 == 12
    | _ => false)
  | .anewarray j => i.2.1 == 3 && x_ck M j 0
  | .invokevirtual j => i.2.1 == 3 && x_mc i.2.2.1 && decide (i.2.2.1 < 279) && decide (i.2.2.2.1 < 10) && decide (x_cn.getD i.2.2.2.1 "" = (x_y i.2.2.1).cls) && x_lk M j i.2.2.1 && (x_ims.any fun q => q.1 == i.2.2.1) && (x_sel.any fun q => q.1 == i.2.2.1) && (i.2.2.2.2.2 != 0 || (x_bc i.2.2.1 == 0 && x_bs i.2.2.1 == 0))
  | .invokespecial j => i.2.1 == 3 && (if i.2.2.2.2.1 == 9 then x_ob M j else (x_mc i.2.2.1 && decide (i.2.2.1 < 279) && decide ((x_y i.2.2.1).name = "<init>") && decide (x_rt i.2.2.1 = none) && x_lk M j i.2.2.1 && (x_ims.any fun q => q.1 == i.2.2.1)))
  | .invokestatic j => i.2.1 == 3 && (match i.2.2.2.2.1 with
    | 20 => x_lk M j 251
    | 21 => x_lk M j 253
    | 22 => x_lk M j 252
    | 23 => x_lk M j 254
    | _ => x_mc i.2.2.1 && decide (i.2.2.1 < 279) && x_lk M j i.2.2.1 && (x_sts.any fun q => q.1 == i.2.2.1) && x_bc i.2.2.1 == 0 && x_bs i.2.2.1 == 0)
  | .ireturn => i.2.1 == 1 && ((i.2.2.1 == 0 && decide (x_rt M = some .int)) || (i.2.2.1 == 3 && decide (x_rt M = some .boolean)))
  | .lreturn => i.2.1 == 1 && decide (x_rt M = some .long)
  | .areturn => i.2.1 == 1 && (match x_rt M with
    | some (.object _) => true
    | _ => false)
  | .return_ => i.2.1 == 1 && decide (x_rt M = none)
  | _ => false
