/-! TEXTS: codes 5, 6 the class's two texts, 7, 8 their bytes, 9 a thing that is handed on; the JDK's own methods on them -/
section STR
variable {g : xG} {D M k n pc : Nat} {ls st : List xV} {h : xH} {Q : xV → xH → Prop}
theorem x_sv {r : Nat} (h0 : 0 < r) (h1 : r < 16) : x_v g (xr r) = .ref (g.sa r) := by
  rcases x_rn (g := g) r with ⟨z, -⟩ | ⟨-, z⟩
  · omega
  · rw [z]; unfold x_ad; rw [if_pos h1]
theorem xj_ldcS {t i : Nat} {q : Nat × String} (hd : decode (x_cd M) pc = .ok (.ldc i, 2)) (hq : x_tx[t]? = some q) (ho : (x_y M).cls = "LinenBoard$Tape") (hi : i = q.1) (kk : xJ g D M k n (pc + 2) ls (xr (5 + t) :: st) h Q) : xJ g D M k n pc ls st h Q := by
  intro p e s m args below meth c0 H locs la C R S hl ol os hk hn
  have kk := kk p e s m args below meth c0 H locs la C R S hl ol (x_okc trivial os) hk hn
  have hU := C.2.2.2.2.2.2.2.2
  have hZ := hU.2.2.2.2.2.2.1 t q hq
  have ht : t < 2 := (List.getElem?_eq_some_iff.mp hq).1
  rw [List.map_cons, x_sv (by omega) (by omega)] at kk
  subst hi
  exact va_ldcS C.1 C.2.1 (by rw [← ho]; exact C.2.2.2.2.1) hZ hd kk
theorem xj_gfv {t : Nat} (hd : decode (x_cd M) pc = .ok (.getfield 9, 3)) (ht : t < 2) (ho : (x_y M).cls = "java/lang/String") (kk : xJ g D M k n (pc + 3) ls (xr (7 + t) :: st) h Q) : xJ g D M k n pc ls (xr (5 + t) :: st) h Q := by
  intro p e s m args below meth c0 H locs la C R S hl ol os hk hn
  have kk := kk p e s m args below meth c0 H locs la C R S hl ol (x_okc trivial (x_okt os)) hk hn
  have hU := C.2.2.2.2.2.2.2.2
  have hE := (hU.2.2.2.2.2.2.2.1.1 t ht).2.2.1
  rw [List.map_cons, x_sv (by omega) (by omega)] at kk ⊢
  exact vk_getf C.1 C.2.1 hE S (own := "java/lang/String") (by rw [← ho]; exact C.2.2.2.2.1) (C.2.2.2.2.2.1 _ (x_i7 (List.mem_of_getElem? (i := 83) rfl) rfl)) (fun _ z => z) hd kk
theorem xj_gfc {t : Nat} (hd : decode (x_cd M) pc = .ok (.getfield 15, 3)) (ht : t < 2) (ho : (x_y M).cls = "java/lang/String") (kk : xJ g D M k n (pc + 3) ls (xi 0 :: st) h Q) : xJ g D M k n pc ls (xr (5 + t) :: st) h Q := by
  intro p e s m args below meth c0 H locs la C R S hl ol os hk hn
  have kk := kk p e s m args below meth c0 H locs la C R S hl ol (x_okc xn_ok0 (x_okt os)) hk hn
  have hU := C.2.2.2.2.2.2.2.2
  have hE := (hU.2.2.2.2.2.2.2.1.1 t ht).2.1
  rw [List.map_cons, x_sv (by omega) (by omega)]
  exact vk_getf C.1 C.2.1 hE S (own := "java/lang/String") (by rw [← ho]; exact C.2.2.2.2.1) (C.2.2.2.2.2.1 _ (x_i7 (List.mem_of_getElem? (i := 84) rfl) rfl)) (fun _ z => z) hd kk
theorem xj_compact (hd : decode (x_cd M) pc = .ok (.getstatic 38, 3)) (ho : (x_y M).cls = "java/lang/String") (kk : xJ g D M k n (pc + 3) ls (xi 1 :: st) h Q) : xJ g D M k n pc ls st h Q := by
  intro p e s m args below meth c0 H locs la C R S hl ol os hk hn
  have kk := kk p e s m args below meth c0 H locs la C R S hl ol (x_okc (show x32 1 = 1 by decide) os) hk hn
  have hU := C.2.2.2.2.2.2.2.2
  have hZ := hU.2.2.2.2.2.2.2.2.1.1
  exact va_gets C.1 C.2.1 hZ S (own := "java/lang/String") (by rw [← ho]; exact C.2.2.2.2.1) (C.2.2.2.2.2.1 _ (x_i3 (List.mem_of_getElem? (i := 42) rfl) rfl)) (fun _ z => z) hd kk
theorem xj_sioobe (hd : decode (x_cd M) pc = .ok (.getstatic 1053, 3)) (ho : (x_y M).cls = "java/lang/String") (kk : ∀ z : Nat, xJ g D M k n (pc + 3) ls (xr z :: st) h Q) : xJ g D M k n pc ls st h Q := by
  intro p e s m args below meth c0 H locs la C R S hl ol os hk hn
  have hU := C.2.2.2.2.2.2.2.2
  obtain ⟨z, -, hZ⟩ := hU.2.2.2.2.2.2.2.2.1.2
  have kk := kk z p e s m args below meth c0 H locs la C R S hl ol (x_okc trivial os) hk hn
  rw [List.map_cons] at kk
  exact va_gets C.1 C.2.1 hZ S (own := "java/lang/String") (by rw [← ho]; exact C.2.2.2.2.1) (C.2.2.2.2.2.1 _ (x_i3 (List.mem_of_getElem? (i := 58) rfl) rfl)) (fun _ z => z) hd kk
def x_bn (t : Nat) : Nat := [126, 12].getD t 0
def x_bv (t j : Nat) : Int := (x_by.getD t []).getD j 0
theorem x_by_ok0 : ∀ l ∈ x_by, ∀ x ∈ l, x32 x = x := by decide +kernel
theorem x_bv_ok (t j : Nat) : x32 (x_bv t j) = x_bv t j := by
  unfold x_bv
  rw [List.getD_eq_getElem?_getD, List.getD_eq_getElem?_getD]
  cases h1 : x_by[t]? with
  | none => simp [xn_ok0]
  | some l =>
    simp only [Option.getD_some]
    cases h2 : l[j]? with
    | none => simp [xn_ok0]
    | some x => exact x_by_ok0 l (List.mem_of_getElem? h1) x (List.mem_of_getElem? h2)
theorem x_bv_map (t j : Nat) : ((x_by.map fun l => l.map Int32.ofInt).getD t []).getD j 0 = Int32.ofInt (x_bv t j) := by
  unfold x_bv
  rw [List.getD_eq_getElem?_getD, List.getD_eq_getElem?_getD, List.getD_eq_getElem?_getD, List.getD_eq_getElem?_getD, List.getElem?_map]
  cases h1 : x_by[t]? with
  | none => rfl
  | some l =>
    show ((l.map Int32.ofInt)[j]?).getD 0 = Int32.ofInt ((l[j]?).getD 0)
    rw [List.getElem?_map]
    cases h2 : l[j]? with
    | none => rfl
    | some x => rfl
theorem xj_blen {t : Nat} (hd : decode (x_cd M) pc = .ok (.arraylength, 1)) (ht : t < 2) (kk : xJ g D M k n (pc + 1) ls (xi (x_bn t) :: st) h Q) : xJ g D M k n pc ls (xr (7 + t) :: st) h Q := by
  intro p e s m args below meth c0 H locs la C R S hl ol os hk hn
  have hb : x_bn t < 1000000 := by
    rcases (show t = 0 ∨ t = 1 by omega) with z | z <;> subst z <;> decide
  have kk := kk p e s m args below meth c0 H locs la C R S hl ol (x_okc (xn_okN hb) (x_okt os)) hk hn
  have hU := C.2.2.2.2.2.2.2.2
  have hT := (hU.2.2.2.2.2.2.2.1.1 t ht).2.2.2
  rw [List.map_cons, x_sv (by omega) (by omega)]
  exact va_tlen C.1 C.2.1 hT S (by rcases (show t = 0 ∨ t = 1 by omega) with z | z <;> subst z <;> rfl) hd kk
theorem xj_bald {t : Nat} {i : Int} (hd : decode (x_cd M) pc = .ok (.baload, 1)) (ht : t < 2) (h0 : 0 ≤ i) (h1 : i < x_bn t) (kk : xJ g D M k n (pc + 1) ls (xi (x_bv t i.toNat) :: st) h Q) : xJ g D M k n pc ls (xi i :: xr (7 + t) :: st) h Q := by
  intro p e s m args below meth c0 H locs la C R S hl ol os hk hn
  have hi : x32 i = i := x_okh os
  have kk := kk p e s m args below meth c0 H locs la C R S hl ol (x_okc (x_bv_ok _ _) (x_okt (x_okt os))) hk hn
  have hU := C.2.2.2.2.2.2.2.2
  have hT := (hU.2.2.2.2.2.2.2.1.1 t ht).2.2.2
  rw [List.map_cons, List.map_cons, x_sv (by omega) (by omega)]
  exact va_tb C.1 C.2.1 hT S (xn_in hi h0 h1) (by rw [xn_clamp hi, x_bv_map]; rfl) hd kk
def x_i2b (x : Int) : Int := ((Int32.ofInt x).toInt8.toInt32).toInt
theorem xj_i2b {x : Int} (hd : decode (x_cd M) pc = .ok (.i2b, 1)) (kk : xJ g D M k n (pc + 1) ls (xi (x_i2b x) :: st) h Q) : xJ g D M k n pc ls (xi x :: st) h Q := by
  intro p e s m args below meth c H locs la C R S hl ol os hk hn
  have kk := kk p e s m args below meth c H locs la C R S hl ol (x_okc (xn_okT _) (x_okt os)) hk hn
  exact lv_i2b C.1 C.2.1 hd (xn_back _).symm kk
theorem xj_breturn {x : Int} (hd : decode (x_cd M) pc = .ok (.ireturn, 1)) (hr : x_rt M = some .byte) (hx : narrow .byte (.int (Int32.ofInt x)) = .int (Int32.ofInt x)) (kk : Q (xi x) h) : xJ g D M k n pc ls [xi x] h Q := by
  intro p e s m args below meth c H locs la C R S hl ol os hk hn
  refine W.widen hk hn ?_
  exact W.zret (v := Int32.ofInt x) C.1 C.2.1 (C.2.2.1.trans hr) hx (fun t ht hW => ⟨⟨xi x, h, rfl, kk, fun _ => by rw [ht]; exact R, x_okh os⟩, S.F ht⟩) S.2.2 hd C.2.2.2.2.2.2.1
/-- a call of a text's method -/
theorem xj_invokeS {i M2 t : Nat} {As : List xV} (hd : decode (x_cd M) pc = .ok (.invokevirtual i, 3)) (hm : x_mok M2) (ht : t < 2) (hcn : (x_y M2).cls = "java/lang/String")
    (hl0 : Cond.methodLink (x_y M).cls i (x_y M2) ∈ x_tb ∨ ((x_y M).cls, i, x_y M2) ∈ x_nm) (hi0 : Cond.instanceMethod (x_y M2) ∈ x_tb) (hs0 : Cond.selects (x_y M2).cls (x_y M2) (x_y M2) ∈ x_tb) (hn0 : (parseMethodDescriptor (x_y M2).desc).map (fun d => d.parameters.length) = some As.length)
    (h1 : k + x_bc M2 ≤ x_bc M) (h2 : n + x_bs M2 ≤ x_bs M) (hw : x_wd st ≤ 8) (kk : xS g D M2 (xr (5 + t) :: As) h (fun r h1 => xJ g (D + 1) M (k + x_bc M2) (n + x_bs M2) (pc + 3) ls (x_push r st) h1 Q)) : xJ g (D + 1) M k n pc ls (As.reverse ++ xr (5 + t) :: st) h Q := by
  intro p e s m args below meth c0 H locs la C R S hl ol os hk hn
  have hts := C.2.2.2.2.2.1
  have hU := C.2.2.2.2.2.2.2.2
  have hM := kk (x_args_ok os)
  have e2 : x_v g (xr (5 + t)) = .ref (g.sa (5 + t)) := x_sv (by omega) (by omega)
  rw [List.map_append, List.map_reverse, List.map_cons, e2]
  rw [List.map_cons, e2] at hM
  have hpre : PreV s H (x_y M2).cls (g.sa (5 + t)) (va_Pc (Value.ref (g.sa (5 + t)) :: As.map (x_v g)) (fun U => x_R g h U.heap ∧ x_U g U)) (As.map (x_v g)) := by
    refine ⟨x_blind, ?_, fun U hU hW => ⟨rfl, by rw [hU]; exact R, x_U_moved C.2.2.2.2.2.2.2.2 hW (fun a y1 y2 => by rw [hU]; exact S.2.1 a y1 y2) (by rw [hU]; exact S.1)⟩⟩
    obtain ⟨cell, y1, y2, y3⟩ := vk_recv hU.2.2.2.2.2.2.2.1 ht S
    exact ⟨cell, y1, y2, by rw [hcn]; exact y3⟩
  have hfix : CallFix p m c0 (x_cd M) (x_ml M) s args x_tb (x_y M).cls := ⟨C.1, C.2.1, C.2.2.2.1, C.2.2.2.2.1, hts⟩
  have hwd : 2 * (F0 m pc la ((As.map (x_v g)).reverse ++ Value.ref (g.sa (5 + t)) :: st.map (x_v g))).monitorRoom + ((st.map (x_v g)).map fun v => v.category).sum ≤ 8 := by
    refine lv_room ?_
    rw [x_wd_sum]
    exact hw
  have hfin : ∀ (r : xV) (h1 : xH) (H1 : Heap) (locs1 : List Loc), xJ g (D + 1) M (k + x_bc M2) (n + x_bs M2) (pc + 3) ls (x_push r st) h1 Q → x_R g h1 H1 → x_ok r → va_S (x_A g) s.heap H1 locs1 → W p g.l e (x_rm (D + 1) M) s m args below meth c0 H1 locs1 (k + x_bc M2) (n + x_bs M2) (MQ below (x_Qj g M Q) args s (x_bc M) (x_bs M) (x_A g)) (F0 m (pc + 3) la ((x_push r st).map (x_v g))) :=
    fun r h3 H1 locs1 hJ hR hok hS => hJ p e s m args below meth c0 H1 locs1 la C hR hS hl ol (x_push_ok hok (fun v hv => os v (List.mem_append_right _ (List.mem_cons_of_mem _ hv)))) h1 h2
  rcases hl0 with hl0 | hl0
  · have cb := callB_of (R := x_rm (D + 1) M) (rm := x_rm D M2) (mc := x_bc M2) (ms := x_bs M2) As.length hts (x_good hm) rfl rfl rfl (hts _ hm.2.1) (hts _ hl0) ⟨hm.2.2.1, hm.2.2.2.1, hn0⟩ (x_room hm)
    exact xw_run (va_runV (C := (x_y M2).cls) hfix hM ⟨cb, hts _ hi0, hts _ hs0⟩ hpre rfl (List.length_map _) hl.1 rfl hwd hd ⟨h1, h2⟩) S hfin
  · have cb := va_cnB (R := x_rm (D + 1) M) (rm := x_rm D M2) (mc := x_bc M2) (ms := x_bs M2) (own := (x_y M).cls) (index := i) As.length hts (x_good hm) rfl rfl rfl (C.2.2.2.2.2.2.2.2.2.2.1 _ hl0) (hts _ hm.2.1) ⟨hm.2.2.1, hm.2.2.2.1, hn0⟩ (x_room hm)
    exact xw_run (va_runVN (C := (x_y M2).cls) hfix hM ⟨cb, hts _ hi0, hts _ hs0⟩ hpre rfl (List.length_map _) hl.1 rfl hwd hd ⟨h1, h2⟩) S hfin
end STR
section STM
variable {g : xG} {D : Nat} {h : xH} {Q : xV → xH → Prop}
theorem k_isLatin1 {t : Nat} (ht : t < 2) (hQ : Q (xi 1) h) : xS g D 260 [xr (5 + t)] h Q := by
  refine x_entry (x_mc_ok (by decide +kernel)) (Nat.le_of_ble_eq_true rfl) ?_
  show xJ g D 260 0 0 0 [xr (5 + t)] [] h Q
  refine xj_compact (by decide +kernel) rfl ?_
  refine x_blk (by decide) [(.ifCond .eq 14, 3, (17, 0, 0, 0)), (.aload_n 0, 1, (0, 0, 0, 0))] (by decide +kernel) ?_
  show ((1 : Int) = 0 → xJ g D 260 0 0 17 [xr (5 + t)] [] h Q) ∧ (¬ (1 : Int) = 0 → xJ g D 260 0 0 7 [xr (5 + t)] [xr (5 + t)] h Q)
  refine ⟨fun z => absurd z (by decide), fun _ => ?_⟩
  refine xj_gfc (by decide +kernel) ht rfl ?_
  refine x_blk (by decide) [(.ifCond .ne 7, 3, (17, 0, 0, 0)), (.iconst 1, 1, (0, 0, 0, 0)), (.goto 4, 3, (18, 0, 0, 0)), (.ireturn, 1, (3, 0, 0, 0))] (by decide +kernel) ?_
  show (¬ (0 : Int) = 0 → xJ g D 260 0 0 17 [xr (5 + t)] [] h Q) ∧ ((0 : Int) = 0 → ((1 : Int) = 0 ∨ (1 : Int) = 1) ∧ Q (xi 1) h)
  exact ⟨fun z => absurd rfl z, fun _ => ⟨Or.inr rfl, hQ⟩⟩
theorem k_coder {t : Nat} (ht : t < 2) (hQ : Q (xi 0) h) : xS g D 259 [xr (5 + t)] h Q := by
  refine x_entry (x_mc_ok (by decide +kernel)) (Nat.le_of_ble_eq_true rfl) ?_
  show xJ g D 259 0 0 0 [xr (5 + t)] [] h Q
  refine xj_compact (by decide +kernel) rfl ?_
  refine x_blk (by decide) [(.ifCond .eq 10, 3, (13, 0, 0, 0)), (.aload_n 0, 1, (0, 0, 0, 0))] (by decide +kernel) ?_
  show ((1 : Int) = 0 → xJ g D 259 0 0 13 [xr (5 + t)] [] h Q) ∧ (¬ (1 : Int) = 0 → xJ g D 259 0 0 7 [xr (5 + t)] [xr (5 + t)] h Q)
  refine ⟨fun z => absurd z (by decide), fun _ => ?_⟩
  refine xj_gfc (by decide +kernel) ht rfl ?_
  refine x_blk (by decide) [(.goto 4, 3, (14, 0, 0, 0))] (by decide +kernel) ?_
  show xJ g D 259 0 0 14 [xr (5 + t)] [xi 0] h Q
  exact xj_breturn (by decide +kernel) rfl rfl hQ
theorem k_length {t : Nat} (ht : t < 2) (hQ : Q (xi (x_bn t)) h) : xS g (D + 1) 255 [xr (5 + t)] h Q := by
  refine x_entry (x_mc_ok (by decide +kernel)) (Nat.le_of_ble_eq_true rfl) ?_
  show xJ g (D + 1) 255 0 0 0 [xr (5 + t)] [] h Q
  refine x_blk (by decide) [(.aload_n 0, 1, (0, 0, 0, 0))] (by decide +kernel) ?_
  show xJ g (D + 1) 255 0 0 1 [xr (5 + t)] [xr (5 + t)] h Q
  refine xj_gfv (by decide +kernel) ht rfl ?_
  refine xj_blen (by decide +kernel) ht ?_
  refine x_blk (by decide) [(.aload_n 0, 1, (0, 0, 0, 0))] (by decide +kernel) ?_
  show xJ g (D + 1) 255 0 0 6 [xr (5 + t)] [xr (5 + t), xi (x_bn t)] h Q
  refine xj_invokeS (i := 335) (M2 := 259) (As := []) (by decide +kernel) (x_mc_ok (by decide +kernel)) ht rfl (x_lk_ok (by decide) (by decide +kernel)) (x_ims_ok (by decide +kernel)) (x_sel_ok (by decide +kernel)) (x_np_ok 259 (by decide)) (Nat.le_refl _) (Nat.le_refl _) (Nat.le_of_ble_eq_true rfl) (k_coder ht ?_)
  show xJ g (D + 1) 255 0 0 9 [xr (5 + t)] [xi 0, xi (x_bn t)] h Q
  refine x_blk (by decide) [(.ishr, 1, (0, 0, 0, 0)), (.ireturn, 1, (0, 0, 0, 0))] (by decide +kernel) ?_
  show Q (xi (x_shr (x_bn t) 0)) h
  have e : x_shr (x_bn t) 0 = x_bn t := by
    rcases (show t = 0 ∨ t = 1 by omega) with z | z <;> subst z <;> decide
  rw [e]; exact hQ
theorem k_preCheck {i m : Int} {r : Nat} (h0 : 0 ≤ i) (h1 : i < m) (hQ : Q (xi i) h) : xS g D 277 [xi i, xi m, xr r] h Q := by
  refine x_entry (x_mc_ok (by decide +kernel)) (Nat.le_of_ble_eq_true rfl) ?_
  show xJ g D 277 0 0 0 [xi i, xi m, xr r] [] h Q
  refine x_blk (by decide) [(.iload_n 0, 1, (0, 0, 0, 0)), (.ifCond .lt 8, 3, (9, 0, 0, 0)), (.iload_n 0, 1, (0, 0, 0, 0)), (.iload_n 1, 1, (1, 0, 0, 0)), (.if_icmp .lt 10, 3, (16, 0, 0, 0))] (by decide +kernel) ?_
  show (i < 0 → xJ g D 277 0 0 9 [xi i, xi m, xr r] [] h Q) ∧ (0 ≤ i → (i < m → xJ g D 277 0 0 16 [xi i, xi m, xr r] [] h Q) ∧ (m ≤ i → xJ g D 277 0 0 9 [xi i, xi m, xr r] [] h Q))
  refine ⟨fun z => by omega, fun _ => ⟨fun _ => ?_, fun z => by omega⟩⟩
  refine x_blk (by decide) [(.iload_n 0, 1, (0, 0, 0, 0)), (.ireturn, 1, (0, 0, 0, 0))] (by decide +kernel) ?_
  exact hQ
theorem k_checkIndex {i m : Int} (h0 : 0 ≤ i) (h1 : i < m) (hQ : Q xu h) : xS g (D + 1) 261 [xi i, xi m] h Q := by
  refine x_entry (x_mc_ok (by decide +kernel)) (Nat.le_of_ble_eq_true rfl) ?_
  show xJ g (D + 1) 261 0 0 0 [xi i, xi m] [] h Q
  refine x_blk (by decide) [(.iload_n 0, 1, (0, 0, 0, 0)), (.iload_n 1, 1, (1, 0, 0, 0))] (by decide +kernel) ?_
  show xJ g (D + 1) 261 0 0 2 [xi i, xi m] [xi m, xi i] h Q
  refine xj_sioobe (by decide +kernel) rfl (fun z => ?_)
  refine x_blk (by decide) [(.invokestatic 1059, 3, (277, 0, 0, 0)), (.pop, 1, (0, 0, 0, 0)), (.return_, 1, (0, 0, 0, 0))] (by decide +kernel) ?_
  show xSi g D 277 [xi i, xi m, xr z] h (fun x1 h1 => Q xu h1)
  exact k_preCheck h0 h1 hQ
theorem k_lcharAt {t : Nat} {i : Int} (ht : t < 2) (h0 : 0 ≤ i) (h1 : i < x_bn t) (hQ : Q (xi (x_bv t i.toNat)) h) : xS g (D + 2) 263 [xr (7 + t), xi i] h Q := by
  refine x_entry (x_mc_ok (by decide +kernel)) (Nat.le_of_ble_eq_true rfl) ?_
  show xJ g (D + 2) 263 0 0 0 [xr (7 + t), xi i] [] h Q
  refine x_blk (by decide) [(.iload_n 1, 1, (1, 0, 0, 0)), (.aload_n 0, 1, (0, 0, 0, 0))] (by decide +kernel) ?_
  show xJ g (D + 2) 263 0 0 2 [xr (7 + t), xi i] [xr (7 + t), xi i] h Q
  refine xj_blen (by decide +kernel) ht ?_
  refine x_blk (by decide) [(.invokestatic 9, 3, (261, 0, 3, 0)), (.aload_n 0, 1, (0, 0, 0, 0)), (.iload_n 1, 1, (1, 0, 0, 0))] (by decide +kernel) ?_
  show xSv g (D + 1) 261 [xi i, xi (x_bn t)] h (fun h1 => xJ g (D + 2) 263 0 0 8 [xr (7 + t), xi i] [xi i, xr (7 + t)] h1 Q)
  refine k_checkIndex h0 h1 ?_
  show xJ g (D + 2) 263 0 0 8 [xr (7 + t), xi i] [xi i, xr (7 + t)] h Q
  refine xj_bald (by decide +kernel) ht h0 h1 ?_
  refine x_blk (by decide) [(.sipush 255, 3, (0, 0, 0, 0)), (.iand, 1, (0, 0, 0, 0)), (.i2c, 1, (0, 0, 0, 0))] (by decide +kernel) ?_
  show xJ g (D + 2) 263 0 0 14 [xr (7 + t), xi i] [xi (x_i2c (x_and (x_bv t i.toNat) 255))] h Q
  have e : ∀ t, t < 2 → ∀ j, j < x_bn t → x_i2c (x_and (x_bv t j) 255) = x_bv t j ∧ narrow .char (.int (Int32.ofInt (x_bv t j))) = .int (Int32.ofInt (x_bv t j)) := by decide +kernel
  have e1 := e t ht i.toNat (by omega)
  rw [e1.1]
  exact xj_creturn (by decide +kernel) rfl e1.2 hQ
theorem k_charAt {t : Nat} {i : Int} (ht : t < 2) (h0 : 0 ≤ i) (h1 : i < x_bn t) (hQ : Q (xi (x_bv t i.toNat)) h) : xS g (D + 3) 256 [xr (5 + t), xi i] h Q := by
  refine x_entry (x_mc_ok (by decide +kernel)) (Nat.le_of_ble_eq_true rfl) ?_
  show xJ g (D + 3) 256 0 0 0 [xr (5 + t), xi i] [] h Q
  refine x_blk (by decide) [(.aload_n 0, 1, (0, 0, 0, 0))] (by decide +kernel) ?_
  show xJ g (D + 3) 256 0 0 1 [xr (5 + t), xi i] [xr (5 + t)] h Q
  refine xj_invokeS (i := 492) (M2 := 260) (As := []) (by decide +kernel) (x_mc_ok (by decide +kernel)) ht rfl (x_lk_ok (by decide) (by decide +kernel)) (x_ims_ok (by decide +kernel)) (x_sel_ok (by decide +kernel)) (x_np_ok 260 (by decide)) (Nat.le_refl _) (Nat.le_refl _) (Nat.le_of_ble_eq_true rfl) (k_isLatin1 ht ?_)
  show xJ g (D + 3) 256 0 0 4 [xr (5 + t), xi i] [xi 1] h Q
  refine x_blk (by decide) [(.ifCond .eq 12, 3, (16, 0, 0, 0)), (.aload_n 0, 1, (0, 0, 0, 0))] (by decide +kernel) ?_
  show ((1 : Int) = 0 → xJ g (D + 3) 256 0 0 16 [xr (5 + t), xi i] [] h Q) ∧ (¬ (1 : Int) = 0 → xJ g (D + 3) 256 0 0 8 [xr (5 + t), xi i] [xr (5 + t)] h Q)
  refine ⟨fun z => absurd z (by decide), fun _ => ?_⟩
  refine xj_gfv (by decide +kernel) ht rfl ?_
  refine x_blk (by decide) [(.iload_n 1, 1, (1, 0, 0, 0)), (.invokestatic 495, 3, (263, 0, 0, 0))] (by decide +kernel) ?_
  show xSi g (D + 2) 263 [xr (7 + t), xi i] h (fun x1 h1 => xJ g (D + 3) 256 0 0 15 [xr (5 + t), xi i] [xi x1] h1 Q)
  refine k_lcharAt ht h0 h1 ?_
  show xJ g (D + 3) 256 0 0 15 [xr (5 + t), xi i] [xi (x_bv t i.toNat)] h Q
  have e : ∀ t, t < 2 → ∀ j, j < x_bn t → narrow .char (.int (Int32.ofInt (x_bv t j))) = .int (Int32.ofInt (x_bv t j)) := by decide +kernel
  exact xj_creturn (by decide +kernel) rfl (e t ht i.toNat (by omega)) hQ
theorem k_canEncode {c : Int} (h0 : 0 ≤ c) (h1 : c ≤ 255) (hQ : Q (xi 1) h) : xS g D 264 [xi c] h Q := by
  refine x_entry (x_mc_ok (by decide +kernel)) (Nat.le_of_ble_eq_true rfl) ?_
  show xJ g D 264 0 0 0 [xi c] [] h Q
  refine x_blk (by decide) [(.iload_n 0, 1, (0, 0, 0, 0)), (.ifCond .lt 14, 3, (15, 0, 0, 0)), (.iload_n 0, 1, (0, 0, 0, 0)), (.sipush 255, 3, (0, 0, 0, 0)), (.if_icmp .gt 7, 3, (15, 0, 0, 0)), (.iconst 1, 1, (0, 0, 0, 0)), (.goto 4, 3, (16, 0, 0, 0)), (.ireturn, 1, (3, 0, 0, 0))] (by decide +kernel) ?_
  show (c < 0 → xJ g D 264 0 0 15 [xi c] [] h Q) ∧ (0 ≤ c → (255 < c → xJ g D 264 0 0 15 [xi c] [] h Q) ∧ (c ≤ 255 → ((1 : Int) = 0 ∨ (1 : Int) = 1) ∧ Q (xi 1) h))
  exact ⟨fun z => by omega, fun _ => ⟨fun z => by omega, fun _ => ⟨Or.inr rfl, hQ⟩⟩⟩
/-- the place of a sign, -1 without -/
def ixs (c : Int) (m i : Nat) : Int := ff (fun j => decide (x_bv 1 j = c)) m i
theorem x_i2b_s : ∀ c : Nat, c < 256 → ∀ j, j < 12 → (x_bv 1 j = x_i2b c ↔ x_bv 1 j = c) := by decide +kernel
theorem k_ixLoop {c : Int} {w2 : xV} (h0 : 0 ≤ c) (h1 : c ≤ 255) : ∀ (m i : Nat), i + m = 12 → Q (xi (ixs c m i)) h → xJ g D 266 0 0 7 [xr 8, xi c, w2, xi 12, xi (x_i2b c), xi i] [] h Q
  | 0, i, e, hQ => by
    refine x_blk (by decide) [(.iload 5, 2, (5, 0, 0, 0)), (.iload_n 3, 1, (3, 0, 0, 0)), (.if_icmp .ge 21, 3, (31, 0, 0, 0))] (by decide +kernel) ?_
    show ((12 : Int) ≤ i → xJ g D 266 0 0 31 [xr 8, xi c, w2, xi 12, xi (x_i2b c), xi i] [] h Q) ∧ ((i : Int) < 12 → xJ g D 266 0 0 13 [xr 8, xi c, w2, xi 12, xi (x_i2b c), xi i] [] h Q)
    refine ⟨fun _ => ?_, fun z => by omega⟩
    refine x_blk (by decide) [(.iconst (-1), 1, (0, 0, 0, 0)), (.ireturn, 1, (0, 0, 0, 0))] (by decide +kernel) ?_
    exact hQ
  | m + 1, i, e, hQ => by
    refine x_blk (by decide) [(.iload 5, 2, (5, 0, 0, 0)), (.iload_n 3, 1, (3, 0, 0, 0)), (.if_icmp .ge 21, 3, (31, 0, 0, 0)), (.aload_n 0, 1, (0, 0, 0, 0)), (.iload 5, 2, (5, 0, 0, 0))] (by decide +kernel) ?_
    show ((12 : Int) ≤ i → xJ g D 266 0 0 31 [xr 8, xi c, w2, xi 12, xi (x_i2b c), xi i] [] h Q) ∧ ((i : Int) < 12 → xJ g D 266 0 0 16 [xr 8, xi c, w2, xi 12, xi (x_i2b c), xi i] [xi i, xr 8] h Q)
    refine ⟨fun z => by omega, fun _ => ?_⟩
    refine xj_bald (t := 1) (by decide +kernel) (by decide) (by omega) (show (i : Int) < 12 by omega) ?_
    rw [show ((i : Int)).toNat = i by omega]
    refine x_blk (by decide) [(.iload 4, 2, (4, 0, 0, 0)), (.if_icmp .ne 6, 3, (25, 0, 0, 0)), (.iload 5, 2, (5, 0, 0, 0)), (.ireturn, 1, (0, 0, 0, 0))] (by decide +kernel) ?_
    show (¬ x_bv 1 i = x_i2b c → xJ g D 266 0 0 25 [xr 8, xi c, w2, xi 12, xi (x_i2b c), xi i] [] h Q) ∧ (x_bv 1 i = x_i2b c → Q (xi i) h)
    have q := x_i2b_s c.toNat (by omega) i (by omega)
    rw [show ((c.toNat : Nat) : Int) = c by omega] at q
    unfold ixs ff at hQ
    refine ⟨fun z => ?_, fun z => ?_⟩
    · rw [if_neg (by simp only [decide_eq_true_eq]; exact fun y => z (q.mpr y))] at hQ
      refine x_blk (by decide) [(.iinc 5 1, 3, (5, 0, 0, 0)), (.goto (-21), 3, (7, 0, 0, 0))] (by decide +kernel) ?_
      show xJ g D 266 0 0 7 [xr 8, xi c, w2, xi 12, xi (x_i2b c), xi (x32 ((i : Int) + 1))] [] h Q
      rw [x32_id (by omega) (by omega), show (i : Int) + 1 = ((i + 1 : Nat) : Int) by omega]
      exact k_ixLoop h0 h1 m (i + 1) (by omega) hQ
    · rw [if_pos (by simp only [decide_eq_true_eq]; exact q.mp z)] at hQ
      exact hQ
theorem k_lindexOf {c : Int} (h0 : 0 ≤ c) (h1 : c ≤ 255) (hQ : Q (xi (ixs c 12 0)) h) : xS g (D + 1) 265 [xr 8, xi c, xi 0, xi 12] h Q := by
  refine x_entry (x_mc_ok (by decide +kernel)) (Nat.le_of_ble_eq_true rfl) ?_
  show xJ g (D + 1) 265 0 0 0 [xr 8, xi c, xi 0, xi 12] [] h Q
  refine x_blk (by decide) [(.iload_n 1, 1, (1, 0, 0, 0)), (.invokestatic 88, 3, (264, 0, 0, 0)), (.ifCond .ne 5, 3, (9, 0, 0, 0)), (.iconst (-1), 1, (0, 0, 0, 0)), (.ireturn, 1, (0, 0, 0, 0))] (by decide +kernel) ?_
  show xSi g D 264 [xi c] h (fun x1 h1 => (¬ x1 = 0 → xJ g (D + 1) 265 0 0 9 [xr 8, xi c, xi 0, xi 12] [] h1 Q) ∧ (x1 = 0 → Q (xi (-1)) h1))
  refine k_canEncode h0 h1 ?_
  show (¬ (1 : Int) = 0 → xJ g (D + 1) 265 0 0 9 [xr 8, xi c, xi 0, xi 12] [] h Q) ∧ ((1 : Int) = 0 → Q (xi (-1)) h)
  refine ⟨fun _ => ?_, fun z => absurd z (by decide)⟩
  refine x_blk (by decide) [(.iload_n 2, 1, (2, 0, 0, 0)), (.iconst 0, 1, (0, 0, 0, 0)), (.invokestatic 92, 3, (251, 0, 20, 0)), (.istore_n 2, 1, (2, 0, 0, 0)), (.iload_n 3, 1, (3, 0, 0, 0)), (.aload_n 0, 1, (0, 0, 0, 0))] (by decide +kernel) ?_
  show xJ g (D + 1) 265 0 0 17 [xr 8, xi c, xi (max 0 0), xi 12] [xr 8, xi 12] h Q
  refine xj_blen (t := 1) (by decide +kernel) (by decide) ?_
  refine x_blk (by decide) [(.invokestatic 38, 3, (253, 0, 21, 0)), (.istore_n 3, 1, (3, 0, 0, 0)), (.iload_n 2, 1, (2, 0, 0, 0)), (.iload_n 3, 1, (3, 0, 0, 0)), (.if_icmp .lt 5, 3, (29, 0, 0, 0)), (.iconst (-1), 1, (0, 0, 0, 0)), (.ireturn, 1, (0, 0, 0, 0))] (by decide +kernel) ?_
  show ((max (0 : Int) 0) < (min (12 : Int) 12) → xJ g (D + 1) 265 0 0 29 [xr 8, xi c, xi (max 0 0), xi (min 12 12)] [] h Q) ∧ ((min (12 : Int) 12) ≤ (max (0 : Int) 0) → Q (xi (-1)) h)
  refine ⟨fun _ => ?_, fun z => absurd z (by decide)⟩
  refine x_blk (by decide) [(.aload_n 0, 1, (0, 0, 0, 0)), (.iload_n 1, 1, (1, 0, 0, 0)), (.iload_n 2, 1, (2, 0, 0, 0)), (.iload_n 3, 1, (3, 0, 0, 0)), (.invokestatic 95, 3, (266, 0, 0, 0)), (.ireturn, 1, (0, 0, 0, 0))] (by decide +kernel) ?_
  show xSi g D 266 [xr 8, xi c, xi 0, xi 12] h (fun x1 h1 => Q (xi x1) h1)
  refine x_entry (x_mc_ok (by decide +kernel)) (Nat.le_of_ble_eq_true rfl) ?_
  show xJ g D 266 0 0 0 [xr 8, xi c, xi 0, xi 12, xu, xu] [] h (x_qi (fun x1 h1 => Q (xi x1) h1))
  refine x_blk (by decide) [(.iload_n 1, 1, (1, 0, 0, 0))] (by decide +kernel) ?_
  show xJ g D 266 0 0 1 [xr 8, xi c, xi 0, xi 12, xu, xu] [xi c] h (x_qi (fun x1 h1 => Q (xi x1) h1))
  refine xj_i2b (by decide +kernel) ?_
  refine x_blk (by decide) [(.istore 4, 2, (4, 0, 0, 0)), (.iload_n 2, 1, (2, 0, 0, 0)), (.istore 5, 2, (5, 0, 0, 0))] (by decide +kernel) ?_
  exact k_ixLoop h0 h1 12 0 rfl hQ
theorem k_indexOf2 {c : Int} (h0 : 0 ≤ c) (h1 : c ≤ 255) (hQ : Q (xi (ixs c 12 0)) h) : xS g (D + 2) 258 [xr 6, xi c, xi 0] h Q := by
  refine x_entry (x_mc_ok (by decide +kernel)) (Nat.le_of_ble_eq_true rfl) ?_
  show xJ g (D + 2) 258 0 0 0 [xr 6, xi c, xi 0] [] h Q
  refine x_blk (by decide) [(.aload_n 0, 1, (0, 0, 0, 0))] (by decide +kernel) ?_
  show xJ g (D + 2) 258 0 0 1 [xr 6, xi c, xi 0] [xr (5 + 1)] h Q
  refine xj_invokeS (i := 492) (M2 := 260) (As := []) (by decide +kernel) (x_mc_ok (by decide +kernel)) (by decide) rfl (x_lk_ok (by decide) (by decide +kernel)) (x_ims_ok (by decide +kernel)) (x_sel_ok (by decide +kernel)) (x_np_ok 260 (by decide)) (Nat.le_refl _) (Nat.le_refl _) (Nat.le_of_ble_eq_true rfl) (k_isLatin1 (by decide) ?_)
  show xJ g (D + 2) 258 0 0 4 [xr 6, xi c, xi 0] [xi 1] h Q
  refine x_blk (by decide) [(.ifCond .eq 19, 3, (23, 0, 0, 0)), (.aload_n 0, 1, (0, 0, 0, 0))] (by decide +kernel) ?_
  show ((1 : Int) = 0 → xJ g (D + 2) 258 0 0 23 [xr 6, xi c, xi 0] [] h Q) ∧ (¬ (1 : Int) = 0 → xJ g (D + 2) 258 0 0 8 [xr 6, xi c, xi 0] [xr (5 + 1)] h Q)
  refine ⟨fun z => absurd z (by decide), fun _ => ?_⟩
  refine xj_gfv (by decide +kernel) (by decide) rfl ?_
  refine x_blk (by decide) [(.iload_n 1, 1, (1, 0, 0, 0)), (.iload_n 2, 1, (2, 0, 0, 0)), (.aload_n 0, 1, (0, 0, 0, 0))] (by decide +kernel) ?_
  show xJ g (D + 2) 258 0 0 14 [xr 6, xi c, xi 0] [xr (5 + 1), xi 0, xi c, xr 8] h Q
  refine xj_invokeS (i := 505) (M2 := 255) (As := []) (by decide +kernel) (x_mc_ok (by decide +kernel)) (by decide) rfl (x_lk_ok (by decide) (by decide +kernel)) (x_ims_ok (by decide +kernel)) (x_sel_ok (by decide +kernel)) (x_np_ok 255 (by decide)) (Nat.le_refl _) (Nat.le_refl _) (Nat.le_of_ble_eq_true rfl) (k_length (by decide) ?_)
  show xJ g (D + 2) 258 0 0 17 [xr 6, xi c, xi 0] [xi 12, xi 0, xi c, xr 8] h Q
  refine x_blk (by decide) [(.invokestatic 637, 3, (265, 0, 0, 0)), (.goto 16, 3, (36, 0, 0, 0)), (.ireturn, 1, (0, 0, 0, 0))] (by decide +kernel) ?_
  show xSi g (D + 1) 265 [xr 8, xi c, xi 0, xi 12] h (fun x1 h1 => Q (xi x1) h1)
  exact k_lindexOf h0 h1 hQ
theorem k_indexOf {c : Int} (h0 : 0 ≤ c) (h1 : c ≤ 255) (hQ : Q (xi (ixs c 12 0)) h) : xS g (D + 3) 257 [xr 6, xi c] h Q := by
  refine x_entry (x_mc_ok (by decide +kernel)) (Nat.le_of_ble_eq_true rfl) ?_
  show xJ g (D + 3) 257 0 0 0 [xr 6, xi c] [] h Q
  refine x_blk (by decide) [(.aload_n 0, 1, (0, 0, 0, 0)), (.iload_n 1, 1, (1, 0, 0, 0)), (.iconst 0, 1, (0, 0, 0, 0))] (by decide +kernel) ?_
  show xJ g (D + 3) 257 0 0 3 [xr 6, xi c] ([xi c, xi 0].reverse ++ xr (5 + 1) :: []) h Q
  refine xj_invokeS (i := 633) (M2 := 258) (As := [xi c, xi 0]) (by decide +kernel) (x_mc_ok (by decide +kernel)) (by decide) rfl (x_lk_ok (by decide) (by decide +kernel)) (x_ims_ok (by decide +kernel)) (x_sel_ok (by decide +kernel)) (x_np_ok 258 (by decide)) (Nat.le_refl _) (Nat.le_refl _) (Nat.le_of_ble_eq_true rfl) (k_indexOf2 h0 h1 ?_)
  show xJ g (D + 3) 257 0 0 6 [xr 6, xi c] [xi (ixs c 12 0)] h Q
  refine x_blk (by decide) [(.ireturn, 1, (0, 0, 0, 0))] (by decide +kernel) ?_
  exact hQ
end STM
