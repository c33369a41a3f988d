/-! the walk, instruction by instruction: arrays, new objects, what stands before the law -/
section XR3
variable {g : xG} {D M k n pc : Nat} {ls st : List xV} {h : xH} {Q : xV → xH → Prop}
theorem x_E_i {N : Nat} {f : Nat → Int} : x_E g (10, N) f = .inl (g.ac 0, N, .inl fun j => Int32.ofInt (f j)) := rfl
theorem x_E_l {N : Nat} {f : Nat → Int} : x_E g (11, N) f = .inl (g.ac 1, N, .inr (.inl fun j => Int64.ofInt (f j))) := rfl
theorem x_E_z {N : Nat} {f : Nat → Int} : x_E g (12, N) f = .inl (g.ac 2, N, .inl fun j => Int32.ofInt (f j)) := rfl
theorem x_E_q {N : Nat} {f : Nat → Int} : x_E g (13, N) f = .inl (g.ac 3, N, .inr (.inr (.inr (.inr fun j => x_ro g (f j).toNat)))) := rfl
theorem x_in_ok {i : Int} {st : List xV} {v : xV} (os : ∀ w ∈ xi i :: v :: st, x_ok w) : x32 i = i := x_okh os
theorem xj_iaload {r N : Nat} {i : Int} (hd : decode (x_cd M) pc = .ok (.iaload, 1)) (hr : x_is h r 10 N) (h0 : 0 ≤ i) (h1 : i < N) (kk : xJ g D M k n (pc + 1) ls (xi (h.2 r i.toNat) :: st) h Q) : xJ g D M k n pc ls (xi i :: xr r :: st) h Q := by
  intro p e s m args below meth c0 H locs la C R S hl ol os hk hn
  have hi : x32 i = i := x_okh os
  have hv : x_ok (x_fv g (x_tc 10 i.toNat) (h.2 r i.toNat)) := x_rd_ok R.2.2 hr (by omega)
  have kk := kk p e s m args below meth c0 H locs la C R S hl ol (x_okc hv (x_okt (x_okt os))) hk hn
  have he := x_ws_at (g := g) hr
  rw [x_E_i] at he
  rw [List.map_cons, List.map_cons, x_ne0 hr]
  refine va_iald C.1 C.2.1 C.2.2.2.2.2.2.2.2.1 R.2.1 (r - 16) 0 he rfl (xn_in hi h0 h1) hd ?_
  rw [xn_clamp hi]
  exact kk
theorem xj_laload {r N : Nat} {i : Int} (hd : decode (x_cd M) pc = .ok (.laload, 1)) (hr : x_is h r 11 N) (h0 : 0 ≤ i) (h1 : i < N) (kk : xJ g D M k n (pc + 1) ls (xl (h.2 r i.toNat) :: st) h Q) : xJ g D M k n pc ls (xi i :: xr r :: st) h Q := by
  intro p e s m args below meth c0 H locs la C R S hl ol os hk hn
  have hi : x32 i = i := x_okh os
  have hv : x_ok (x_fv g (x_tc 11 i.toNat) (h.2 r i.toNat)) := x_rd_ok R.2.2 hr (by omega)
  have kk := kk p e s m args below meth c0 H locs la C R S hl ol (x_okc hv (x_okt (x_okt os))) hk hn
  have he := x_ws_at (g := g) hr
  rw [x_E_l] at he
  rw [List.map_cons, List.map_cons, x_ne0 hr]
  refine va_lald C.1 C.2.1 C.2.2.2.2.2.2.2.2.1 R.2.1 (r - 16) 1 he rfl (xn_in hi h0 h1) hd ?_
  rw [xn_clamp hi]
  exact kk
theorem xj_baload {r N : Nat} {i : Int} (hd : decode (x_cd M) pc = .ok (.baload, 1)) (hr : x_is h r 12 N) (h0 : 0 ≤ i) (h1 : i < N) (kk : xJ g D M k n (pc + 1) ls (xi (h.2 r i.toNat) :: st) h Q) : xJ g D M k n pc ls (xi i :: xr r :: st) h Q := by
  intro p e s m args below meth c0 H locs la C R S hl ol os hk hn
  have hi : x32 i = i := x_okh os
  have hv : x_ok (x_fv g (x_tc 12 i.toNat) (h.2 r i.toNat)) := x_rd_ok R.2.2 hr (by omega)
  have kk := kk p e s m args below meth c0 H locs la C R S hl ol (x_okc hv (x_okt (x_okt os))) hk hn
  have he := x_ws_at (g := g) hr
  rw [x_E_z] at he
  rw [List.map_cons, List.map_cons, x_ne0 hr]
  refine va_zald C.1 C.2.1 C.2.2.2.2.2.2.2.2.1 R.2.1 (r - 16) 2 he rfl (xn_in hi h0 h1) hd ?_
  rw [xn_clamp hi]
  exact kk
theorem xj_aaload {r N : Nat} {i : Int} (hd : decode (x_cd M) pc = .ok (.aaload, 1)) (hr : x_is h r 13 N) (h0 : 0 ≤ i) (h1 : i < N) (kk : xJ g D M k n (pc + 1) ls (xr (h.2 r i.toNat).toNat :: st) h Q) : xJ g D M k n pc ls (xi i :: xr r :: st) h Q := by
  intro p e s m args below meth c0 H locs la C R S hl ol os hk hn
  have hi : x32 i = i := x_okh os
  have kk := kk p e s m args below meth c0 H locs la C R S hl ol (x_okc trivial (x_okt (x_okt os))) hk hn
  have he := x_ws_at (g := g) hr
  rw [x_E_q] at he
  rw [List.map_cons, List.map_cons, x_ne0 hr]
  refine va_aldq C.1 C.2.1 C.2.2.2.2.2.2.2.2.1 R.2.1 (r - 16) 3 he rfl (xn_in hi h0 h1) hd ?_
  rw [xn_clamp hi]
  exact kk
theorem xj_arraylength {r c N : Nat} (hd : decode (x_cd M) pc = .ok (.arraylength, 1)) (hr : x_is h r c N) (hc : 10 ≤ c) (kk : xJ g D M k n (pc + 1) ls (xi (N : Int) :: st) h Q) : xJ g D M k n pc ls (xr r :: st) h Q := by
  intro p e s m args below meth c0 H locs la C R S hl ol os hk hn
  obtain ⟨-, hc2, hN, -⟩ := R.2.2 _ _ hr.2
  have hN : N < 1000000 := hN
  have hc2 : c < 14 := hc2
  have kk := kk p e s m args below meth c0 H locs la C R S hl ol (x_okc (xn_okN hN) (x_okt os)) hk hn
  have he := x_ws_at (g := g) hr
  rw [List.map_cons, x_ne0 hr]
  rcases (show c = 10 ∨ c = 11 ∨ c = 12 ∨ c = 13 by omega) with e1 | e1 | e1 | e1 <;> subst e1
  · rw [x_E_i] at he
    exact va_alen C.1 C.2.1 C.2.2.2.2.2.2.2.2.1 R.2.1 (r - 16) 0 he rfl (xn_nat N) hd kk
  · rw [x_E_l] at he
    exact va_alen C.1 C.2.1 C.2.2.2.2.2.2.2.2.1 R.2.1 (r - 16) 1 he rfl (xn_nat N) hd kk
  · rw [x_E_z] at he
    exact va_alen C.1 C.2.1 C.2.2.2.2.2.2.2.2.1 R.2.1 (r - 16) 2 he rfl (xn_nat N) hd kk
  · rw [x_E_q] at he
    exact va_alen C.1 C.2.1 C.2.2.2.2.2.2.2.2.1 R.2.1 (r - 16) 3 he rfl (xn_nat N) hd kk
theorem x_upN {C : Nat → Nat → Int} {r j : Nat} {v : Int} (q : Nat) (hq : q ≠ r) : x_up C r j v q = C q := by
  funext i
  unfold x_up
  rw [if_neg hq]
theorem xj_iastore {r N : Nat} {i x : Int} (hd : decode (x_cd M) pc = .ok (.iastore, 1)) (hr : x_is h r 10 N) (h0 : 0 ≤ i) (h1 : i < N) (kk : xJ g D M k n (pc + 1) ls st (h.1, x_up h.2 r i.toNat x) Q) : xJ g D M k n pc ls (xi x :: xi i :: xr r :: st) h Q := by
  intro p e s m args below meth c0 H locs la C R S hl ol os hk hn
  have hx : x32 x = x := x_okh os
  have hi : x32 i = i := x_okh (x_okt os)
  have he := x_ws_at (g := g) hr
  rw [x_E_i] at he
  rw [List.map_cons, List.map_cons, List.map_cons, x_ne0 hr]
  have hin := xn_in hi h0 h1
  have hat : H[x_ad g r]? = some (vp_cell (g.ac 0) (N, .inl fun j => Int32.ofInt (h.2 r j))) := R.2.1 _ _ he
  refine W.iast C.1 C.2.1 hat ((C.2.2.2.2.2.2.2.2.1.2 0 _ rfl).1 N (fun j => .int (Int32.ofInt (h.2 r j)))) (fun q => by cases q) (by show ¬ (_ ∨ (arrV _ _ _).slots.size ≤ _); rw [arrV_size]; exact hin) rfl rfl hd fun H1 e1 e2 e3 => ?_
  refine kk p e s m args below meth c0 H1 _ la C ⟨by rw [e2]; exact R.1, ?_, ?_⟩ (S.put e2 e3 (x_inA hr)) hl ol (x_okt (x_okt (x_okt os))) hk hn
  · refine x_P_put R.2.1 hr ?_ e3 x_upN
    show H1[x_ad g r]? = some (vp_cell _ _)
    rw [e1, vp_cell_i, vp_cell_i, arrV_store]
    congr 2
    funext q
    rw [xn_clamp hi]
    unfold updV x_up
    by_cases hq : q = i.toNat <;> simp [hq]
  · exact x_ok_up R.2.2 hr (fun _ => hx) (fun z => by cases z) (fun z => by cases z)
theorem xj_lastore {r N : Nat} {i x : Int} (hd : decode (x_cd M) pc = .ok (.lastore, 1)) (hr : x_is h r 11 N) (h0 : 0 ≤ i) (h1 : i < N) (kk : xJ g D M k n (pc + 1) ls st (h.1, x_up h.2 r i.toNat x) Q) : xJ g D M k n pc ls (xl x :: xi i :: xr r :: st) h Q := by
  intro p e s m args below meth c0 H locs la C R S hl ol os hk hn
  have hx : x64 x = x := x_okh os
  have hi : x32 i = i := x_okh (x_okt os)
  have he := x_ws_at (g := g) hr
  rw [x_E_l] at he
  rw [List.map_cons, List.map_cons, List.map_cons, x_ne0 hr]
  have hin := xn_in hi h0 h1
  have hat : H[x_ad g r]? = some (vp_cell (g.ac 1) (N, .inr (.inl fun j => Int64.ofInt (h.2 r j)))) := R.2.1 _ _ he
  refine W.last C.1 C.2.1 hat ((C.2.2.2.2.2.2.2.2.1.2 1 _ rfl).1 N (fun j => .long (Int64.ofInt (h.2 r j)))) (fun q => by cases q) (by show ¬ (_ ∨ (arrV _ _ _).slots.size ≤ _); rw [arrV_size]; exact hin) rfl rfl hd fun H1 e1 e2 e3 => ?_
  refine kk p e s m args below meth c0 H1 _ la C ⟨by rw [e2]; exact R.1, ?_, ?_⟩ (S.put e2 e3 (x_inA hr)) hl ol (x_okt (x_okt (x_okt os))) hk hn
  · refine x_P_put R.2.1 hr ?_ e3 x_upN
    show H1[x_ad g r]? = some (vp_cell _ _)
    rw [e1, vp_cell_l, vp_cell_l, arrV_store]
    congr 2
    funext q
    rw [xn_clamp hi]
    unfold updV x_up
    by_cases hq : q = i.toNat <;> simp [hq]
  · exact x_ok_up R.2.2 hr (fun z => by cases z) (fun z => by cases z) (fun _ => hx)
theorem xj_bastore {r N : Nat} {i x : Int} (hd : decode (x_cd M) pc = .ok (.bastore, 1)) (hr : x_is h r 12 N) (h0 : 0 ≤ i) (h1 : i < N) (hx : x = 0 ∨ x = 1) (kk : xJ g D M k n (pc + 1) ls st (h.1, x_up h.2 r i.toNat x) Q) : xJ g D M k n pc ls (xi x :: xi i :: xr r :: st) h Q := by
  intro p e s m args below meth c0 H locs la C R S hl ol os hk hn
  have hi : x32 i = i := x_okh (x_okt os)
  have he := x_ws_at (g := g) hr
  rw [x_E_z] at he
  rw [List.map_cons, List.map_cons, List.map_cons, x_ne0 hr]
  have hin := xn_in hi h0 h1
  have hnar : narrow .boolean (.int (Int32.ofInt x)) = .int (Int32.ofInt x) := by
    rcases hx with e1 | e1 <;> subst e1 <;> decide +kernel
  have hat : H[x_ad g r]? = some (vp_cell (g.ac 2) (N, .inl fun j => Int32.ofInt (h.2 r j))) := R.2.1 _ _ he
  refine W.zast C.1 C.2.1 hat ((C.2.2.2.2.2.2.2.2.1.2 2 _ rfl).1 N (fun j => .int (Int32.ofInt (h.2 r j)))) (fun q => by cases q) (by show ¬ (_ ∨ (arrV _ _ _).slots.size ≤ _); rw [arrV_size]; exact hin) rfl rfl hd fun H1 e1 e2 e3 => ?_
  refine kk p e s m args below meth c0 H1 _ la C ⟨by rw [e2]; exact R.1, ?_, ?_⟩ (S.put e2 e3 (x_inA hr)) hl ol (x_okt (x_okt (x_okt os))) hk hn
  · refine x_P_put R.2.1 hr ?_ e3 x_upN
    show H1[x_ad g r]? = some (vp_cell _ _)
    rw [e1, hnar, vp_cell_i, vp_cell_i, arrV_store]
    congr 2
    funext q
    rw [xn_clamp hi]
    unfold updV x_up
    by_cases hq : q = i.toNat <;> simp [hq]
  · exact x_ok_up R.2.2 hr (fun z => by cases z) (fun _ => hx) (fun z => by cases z)
theorem xj_aastore {r N v N2 : Nat} {i : Int} (hd : decode (x_cd M) pc = .ok (.aastore, 1)) (hr : x_is h r 13 N) (h0 : 0 ≤ i) (h1 : i < N) (hv : v = 0 ∨ x_is h v 0 N2) (hv0 : v ≠ 0) (kk : xJ g D M k n (pc + 1) ls st (h.1, x_up h.2 r i.toNat v) Q) : xJ g D M k n pc ls (xr v :: xi i :: xr r :: st) h Q := by
  intro p e s m args below meth c0 H locs la C R S hl ol os hk hn
  have hi : x32 i = i := x_okh (x_okt os)
  have hv : x_is h v 0 N2 := hv.resolve_left hv0
  have he := x_ws_at (g := g) hr
  rw [x_E_q] at he
  have hev := x_ws_at (g := g) hv
  rw [x_E_obj (by decide)] at hev
  rw [List.map_cons, List.map_cons, List.map_cons, x_ne0 hr, x_ne0 hv]
  have hin := xn_in hi h0 h1
  have hlt : (Int32.ofInt i).toNatClampNeg < N := Nat.not_le.mp fun q => hin (Or.inr q)
  have hn0 : ¬ Int32.ofInt i < 0 := fun q => hin (Or.inl q)
  have hK := C.2.2.2.2.2.2.2.2.1
  obtain ⟨r', hr', cellV, g1, g2, g3, -⟩ := R.2.1 _ _ hev
  have hcls := (hK.1 0 _ (rfl : x_cl[0]? = some x_c0)).2
  obtain ⟨kA, comp, k1, k2, k3, -⟩ := (hK.2 3 _ rfl).2
  have hcomp : comp = g.D.1 0 := Option.some.inj (k3.symm.trans hcls.1)
  subst hcomp
  obtain ⟨kC, hkC, -⟩ := hcls.2
  have hat : H[x_ad g r]? = some (vp_cell (g.ac 3) (N, .inr (.inr (.inr (.inr fun j => x_ro g (h.2 r j).toNat))))) := R.2.1 _ _ he
  refine W.aast C.1 C.2.1 hat (fun q z => by cases z) (fun z => by cases z) k1 k2 rfl hkC ⟨hn0, by show _ < (arrV _ _ _).slots.size; rw [arrV_size]; exact hlt⟩ g1 (fun q z => by rw [g3] at z; cases z) (by rw [g2]; exact hkC) (by rw [g2]; exact va_assign hcls) rfl rfl hd fun H1 e1 e2 e3 => ?_
  refine kk p e s m args below meth c0 H1 _ la C ⟨by rw [e2]; exact R.1, ?_, ?_⟩ (S.put e2 e3 (x_inA hr)) hl ol (x_okt (x_okt (x_okt os))) hk hn
  · refine x_P_put R.2.1 hr ?_ e3 x_upN
    show H1[x_ad g r]? = some (vp_cell _ _)
    rw [e1, vp_cell_q, vp_cell_q, arrV_store]
    congr 2
    funext q
    rw [xn_clamp hi]
    unfold updV x_up
    have hv2 : x_ro g v = some (x_ad g v) := by unfold x_ro; rw [if_neg hv0]
    by_cases hq : q = i.toNat
    · simp [hq, hv2, va_rf]
    · simp [hq]
  · exact x_ok_up R.2.2 hr (fun z => by cases z) (fun z => by cases z) (fun z => by cases z)
/-! the script, and the static arrays -/
theorem xj_saload {i : Int} (hd : decode (x_cd M) pc = .ok (.iaload, 1)) (h0 : 0 ≤ i) (h1 : i < g.L) (kk : xJ g D M k n (pc + 1) ls (xi (g.xs i.toNat).toInt :: st) h Q) : xJ g D M k n pc ls (xi i :: xr 1 :: st) h Q := by
  intro p e s m args below meth c0 H locs la C R S hl ol os hk hn
  have hi : x32 i = i := x_okh os
  have kk := kk p e s m args below meth c0 H locs la C R S hl ol (x_okc (xn_okT _) (x_okt (x_okt os))) hk hn
  have hU := C.2.2.2.2.2.2.2.2
  have hb : g.sa 1 < s.heap.size := Nat.lt_of_lt_of_le hU.2.2.2.2.1 hU.2.2.2.2.2.2.2.2.2.1
  have hnA : ¬ x_A g (g.sa 1) := fun z => by have z : g.b ≤ g.sa 1 := z; have := hU.2.2.2.2.1; omega
  refine va_sld C.1 C.2.1 hU.2.2.2.1 hb hnA S (xn_in hi h0 h1) hd ?_
  rw [xn_clamp hi]
  have e1 : x_v g (xi (g.xs i.toNat).toInt) = .int (g.xs i.toNat) := congrArg Value.int (xn_back _)
  rw [List.map_cons, e1] at kk
  exact kk
theorem xj_slen (hd : decode (x_cd M) pc = .ok (.arraylength, 1)) (kk : xJ g D M k n (pc + 1) ls (xi (g.L : Int) :: st) h Q) : xJ g D M k n pc ls (xr 1 :: st) h Q := by
  intro p e s m args below meth c0 H locs la C R S hl ol os hk hn
  have hU := C.2.2.2.2.2.2.2.2
  have hL : g.L ≤ 4096 := hU.2.2.2.2.2.2.2.2.2.2
  have kk := kk p e s m args below meth c0 H locs la C R S hl ol (x_okc (xn_okN (by omega)) (x_okt os)) hk hn
  have hb : g.sa 1 < s.heap.size := Nat.lt_of_lt_of_le hU.2.2.2.2.1 hU.2.2.2.2.2.2.2.2.2.1
  have hnA : ¬ x_A g (g.sa 1) := fun z => by have z : g.b ≤ g.sa 1 := z; have := hU.2.2.2.2.1; omega
  refine va_slen C.1 C.2.1 hU.2.2.2.1 hb hnA S hd ?_
  have e1 : x_v g (xi (g.L : Int)) = .int (Int32.ofNat g.L) := congrArg Value.int (xn_nat g.L).symm
  rw [List.map_cons, e1] at kk
  exact kk
def x_ltv (t : Nat) (j : Nat) : Int := (x_lt.getD t []).getD j 0
theorem x_lt_ok0 : ∀ l ∈ x_lt, ∀ x ∈ l, x32 x = x := by decide +kernel
theorem x_ltv_ok (t j : Nat) : x32 (x_ltv t j) = x_ltv t j := by
  unfold x_ltv
  rw [List.getD_eq_getElem?_getD, List.getD_eq_getElem?_getD]
  cases h1 : x_lt[t]? with
  | none => simp [xn_ok0]
  | some l =>
    simp only [Option.getD_some]
    cases h2 : l[j]? with
    | none => simp [xn_ok0]
    | some x => exact x_lt_ok0 l (List.mem_of_getElem? h1) x (List.mem_of_getElem? h2)
theorem xj_taload {t : Nat} {i : Int} (hd : decode (x_cd M) pc = .ok (.iaload, 1)) (ht : t < 3) (h0 : 0 ≤ i) (h1 : i < 10) (kk : xJ g D M k n (pc + 1) ls (xi (x_ltv t i.toNat) :: st) h Q) : xJ g D M k n pc ls (xi i :: xr (2 + t) :: st) h Q := by
  intro p e s m args below meth c0 H locs la C R S hl ol os hk hn
  have hi : x32 i = i := x_okh os
  have kk := kk p e s m args below meth c0 H locs la C R S hl ol (x_okc (x_ltv_ok _ _) (x_okt (x_okt os))) hk hn
  have hU := C.2.2.2.2.2.2.2.2
  obtain ⟨q, hq⟩ : ∃ q, x_sn[t]? = some q := by
    rcases (show t = 0 ∨ t = 1 ∨ t = 2 by omega) with e1 | e1 | e1 <;> subst e1 <;> exact ⟨_, rfl⟩
  obtain ⟨-, -, hT⟩ := hU.2.2.2.2.2.1 t q hq
  have e2 : x_v g (xr (2 + t)) = .ref (g.sa (2 + t)) := by
    rcases x_rn (g := g) (2 + t) with ⟨z, -⟩ | ⟨-, z⟩
    · omega
    · rw [z]; unfold x_ad; rw [if_pos (by omega)]
  rw [List.map_cons, List.map_cons, e2]
  exact va_ti C.1 C.2.1 hT S (xn_in hi h0 h1) (by rw [xn_clamp hi]; rfl) hd kk
theorem xj_tlen {t : Nat} (hd : decode (x_cd M) pc = .ok (.arraylength, 1)) (ht : t < 3) (kk : xJ g D M k n (pc + 1) ls (xi 10 :: st) h Q) : xJ g D M k n pc ls (xr (2 + t) :: st) h Q := by
  intro p e s m args below meth c0 H locs la C R S hl ol os hk hn
  have kk := kk p e s m args below meth c0 H locs la C R S hl ol (x_okc (by decide : x32 10 = 10) (x_okt os)) hk hn
  have hU := C.2.2.2.2.2.2.2.2
  obtain ⟨q, hq⟩ : ∃ q, x_sn[t]? = some q := by
    rcases (show t = 0 ∨ t = 1 ∨ t = 2 by omega) with e1 | e1 | e1 <;> subst e1 <;> exact ⟨_, rfl⟩
  obtain ⟨-, -, hT⟩ := hU.2.2.2.2.2.1 t q hq
  have e2 : x_v g (xr (2 + t)) = .ref (g.sa (2 + t)) := by
    rcases x_rn (g := g) (2 + t) with ⟨z, -⟩ | ⟨-, z⟩
    · omega
    · rw [z]; unfold x_ad; rw [if_pos (by omega)]
  rw [List.map_cons, e2]
  exact va_tlen C.1 C.2.1 hT S rfl hd kk
theorem xj_getstatic {t i : Nat} {q : String × Nat × String} (hd : decode (x_cd M) pc = .ok (.getstatic i, 3)) (hq : x_sn[t]? = some q) (ho : (x_y M).cls = q.1) (hi : i = q.2.1) (kk : xJ g D M k n (pc + 3) ls (xr (2 + t) :: st) h Q) : xJ g D M k n pc ls st h Q := by
  intro p e s m args below meth c0 H locs la C R S hl ol os hk hn
  have kk := kk p e s m args below meth c0 H locs la C R S hl ol (x_okc trivial os) hk hn
  have hU := C.2.2.2.2.2.2.2.2
  obtain ⟨hL, hZ, -⟩ := hU.2.2.2.2.2.1 t q hq
  have ht : t < 3 := (List.getElem?_eq_some_iff.mp hq).1
  have e2 : x_v g (xr (2 + t)) = .ref (g.sa (2 + t)) := by
    rcases x_rn (g := g) (2 + t) with ⟨z, -⟩ | ⟨-, z⟩
    · omega
    · rw [z]; unfold x_ad; rw [if_pos (by omega)]
  rw [List.map_cons, e2] at kk
  subst hi
  exact va_getsN C.1 C.2.1 hZ S C.2.2.2.2.1 (by rw [ho]; exact va_Nw.use rfl hL) (fun _ z => z) hd kk
/-! new cells -/
def x_nw (C : Nat → Nat → Int) (r : Nat) : Nat → Nat → Int := fun q => if q = r then fun _ => 0 else C q
theorem x_nw_lt {C : Nat → Nat → Int} {r q : Nat} (hq : q < r) : x_nw C r q = C q := by
  unfold x_nw
  rw [if_neg (by omega)]
theorem x_nw_at {C : Nat → Nat → Int} {r j : Nat} : x_nw C r r j = 0 := by
  unfold x_nw
  rw [if_pos rfl]
theorem x_dv {t : Nat} {ty : FieldType} (ht : x_tyok t ty = true) : defaultValue ty = x_v g (x_fv g t 0) := by
  unfold x_tyok at ht
  split at ht
  · rfl
  · rfl
  · rfl
  · rfl
  · rfl
  · cases ht
theorem x_adN {H : Heap} (hz : H.size = x_ad g (h.1.length + 16) ∧ (g.sa 0 = 0 ∨ 59 ≤ h.1.length)) : x_v g (xr (h.1.length + 16)) = .ref H.size := by
  rcases x_rn (g := g) (h.1.length + 16) with ⟨z, -⟩ | ⟨-, z⟩
  · omega
  · rw [z, hz.1]
theorem xj_new {i c : Nat} (hd : decode (x_cd M) pc = .ok (.new i, 3)) (hc : c < 10) (hw : Cond.classLink (x_y M).cls i (x_cn.getD c "") ∈ x_tb) (hi : Cond.instantiable (x_cn.getD c "") (x_ft.getD c []).length ∈ x_tb) (hn2 : Cond.initialized (x_cn.getD c "") ∈ x_tb)
    (h1 : k + 1 ≤ x_bc M) (h2 : n + (x_ft.getD c []).length ≤ x_bs M) (kk : xJ g D M (k + 1) (n + (x_ft.getD c []).length) (pc + 3) ls (xr (h.1.length + 16) :: st) (h.1 ++ [(c, (x_ft.getD c []).length)], x_nw h.2 (h.1.length + 16)) Q) : xJ g D M k n pc ls st h Q := by
  intro p e s m args below meth c0 H locs la C R S hl ol os hk hn
  obtain ⟨q, hq, q1, q2, q3⟩ := x_cl_len c hc
  have hts := C.2.2.2.2.2.1
  have hK := C.2.2.2.2.2.2.2.2.1
  have hKn := hK.1 c _ hq
  have hlen : ∀ c, c < 10 → (x_ft.getD c []).length < 1000000 := by decide +kernel
  rw [← q2] at hw hi hn2
  rw [← q3] at hi h2 kk
  refine W.newcK C.1 C.2.1 C.2.2.2.2.1 (hts _ hw) (hts _ hi) (hts _ hn2) rfl hd h1 h2 hKn.2.1 rfl fun H1 kC hkC e1 z1 o1 => ?_
  show W _ _ _ _ _ _ _ _ _ _ _ _ _ _ _ (F0 m (pc + 3) la (.ref H.size :: st.map (x_v g)))
  rw [← x_adN (h := h) R.1]
  refine kk p e s m args below meth c0 H1 locs la C ⟨x_sz1 R.1 z1, ?_, ?_⟩ ⟨Nat.le_trans S.1 (by omega), fun x y1 y2 => (o1 x (Nat.lt_of_lt_of_le y1 S.1)).trans (S.2.1 x y1 y2), S.2.2⟩ hl ol (x_okc trivial os) h1 h2
  · refine x_P_push R.1 R.2.1 ?_ o1 (fun x hx => x_nw_lt hx)
    rw [x_E_obj hc]
    refine ⟨q, hq, ?_⟩
    have hcl : x_cl[c]? = some (q.1, q.2.1, q.2.2) := hq
    refine (u_born (x_ty c) hts (x_cl_lay hcl) hKn hkC e1 (x_cl_ty0 c hc _ hq)).to (fun j hj => ?_)
    unfold vp_V
    rw [List.getD_eq_getElem?_getD, List.getElem?_map, List.getElem?_range hj]
    simp only [Option.map_some, Option.getD_some]
    rw [x_nw_at]
    exact x_dv (x_ty_tc hc (by rw [← q3]; exact hj))
  · refine x_ok_push R.2.2 (fun _ => q3) (by show c < 14; omega) (by show q.2.2 < 1000000; rw [q3]; exact hlen c hc) (fun x hx => x_nw_lt hx) (fun j => x_nw_at)
theorem xj_newarray {t : ArrayType} {c i : Nat} {N : Int} (hd : decode (x_cd M) pc = .ok (.newarray t, 2)) (ht : (t = .int ∧ c = 10 ∧ i = 0) ∨ (t = .long ∧ c = 11 ∧ i = 1) ∨ (t = .boolean ∧ c = 12 ∧ i = 2)) (h0 : 0 ≤ N) (hN : N < 1000000)
    (h1 : k + 1 ≤ x_bc M) (h2 : n + N.toNat ≤ x_bs M) (kk : xJ g D M (k + 1) (n + N.toNat) (pc + 2) ls (xr (h.1.length + 16) :: st) (h.1 ++ [(c, N.toNat)], x_nw h.2 (h.1.length + 16)) Q) : xJ g D M k n pc ls (xi N :: st) h Q := by
  intro p e s m args below meth c0 H locs la C R S hl ol os hk hn
  have hNi : x32 N = N := x_okh os
  have hts := C.2.2.2.2.2.1
  have hK := C.2.2.2.2.2.2.2.2.1
  have hn0 : ¬ Int32.ofInt N < 0 := fun q => by
    rw [xn_0, xn_lt hNi xn_ok0] at q
    omega
  have hw : Cond.arrayClass (newarray.typeOf t) ∈ x_tb := by
    rcases ht with ⟨e1, -⟩ | ⟨e1, -⟩ | ⟨e1, -⟩ <;> subst e1 <;> decide +kernel
  have hbytes : N.toNat * componentBytes (newarray.typeOf t) ≤ 536870912 := by
    have h5 : N.toNat ≤ 1000000 := by omega
    have h6 : componentBytes (newarray.typeOf t) ≤ 8 := by
      rcases ht with ⟨e1, -⟩ | ⟨e1, -⟩ | ⟨e1, -⟩ <;> subst e1 <;> decide
    have h7 := Nat.mul_le_mul h5 h6
    omega
  refine va_newaK C.1 C.2.1 (hts _ hw) rfl hd rfl hn0 (xn_clamp hNi) hbytes h1 h2 rfl fun H1 cA e1 z1 o1 hAr hNm => ?_
  show W _ _ _ _ _ _ _ _ _ _ _ _ _ _ _ (F0 m (pc + 2) la (.ref H.size :: st.map (x_v g)))
  rw [← x_adN (h := h) R.1]
  refine kk p e s m args below meth c0 H1 locs la C ⟨x_sz1 R.1 z1, ?_, ?_⟩ ⟨Nat.le_trans S.1 (by omega), fun x y1 y2 => (o1 x (Nat.lt_of_lt_of_le y1 S.1)).trans (S.2.1 x y1 y2), S.2.2⟩ hl ol (x_okc trivial (x_okt os)) h1 h2
  · refine x_P_push R.1 R.2.1 ?_ o1 (fun x hx => x_nw_lt hx)
    rcases ht with ⟨e2, e3, -⟩ | ⟨e2, e3, -⟩ | ⟨e2, e3, -⟩
    · subst e2; subst e3
      have hcA : cA = g.ac 0 := Option.some.inj (hNm.symm.trans (hK.2 0 _ rfl).2)
      show H1[H.size]? = some (vp_cell (g.ac 0) (N.toNat, .inl fun j => Int32.ofInt (x_nw h.2 (h.1.length + 16) (h.1.length + 16) j)))
      rw [e1, hcA, vp_cell_i]
      congr 2
      funext j
      rw [x_nw_at]
      rfl
    · subst e2; subst e3
      have hcA : cA = g.ac 1 := Option.some.inj (hNm.symm.trans (hK.2 1 _ rfl).2)
      show H1[H.size]? = some (vp_cell (g.ac 1) (N.toNat, .inr (.inl fun j => Int64.ofInt (x_nw h.2 (h.1.length + 16) (h.1.length + 16) j))))
      rw [e1, hcA, vp_cell_l]
      congr 2
      funext j
      rw [x_nw_at]
      rfl
    · subst e2; subst e3
      have hcA : cA = g.ac 2 := Option.some.inj (hNm.symm.trans (hK.2 2 _ rfl).2)
      show H1[H.size]? = some (vp_cell (g.ac 2) (N.toNat, .inl fun j => Int32.ofInt (x_nw h.2 (h.1.length + 16) (h.1.length + 16) j)))
      rw [e1, hcA, vp_cell_i]
      congr 2
      funext j
      rw [x_nw_at]
      rfl
  · have hc : 10 ≤ c ∧ c < 14 := by rcases ht with ⟨-, e1, -⟩ | ⟨-, e1, -⟩ | ⟨-, e1, -⟩ <;> omega
    refine x_ok_push R.2.2 (fun z => by have z : c < 10 := z; omega) hc.2 (by show N.toNat < 1000000; omega) (fun x hx => x_nw_lt hx) (fun j => x_nw_at)
theorem xj_anewarray {i : Nat} {N : Int} (hd : decode (x_cd M) pc = .ok (.anewarray i, 3)) (hw : Cond.classLink (x_y M).cls i "LinenBoard$Act" ∈ x_tb) (h0 : 0 ≤ N) (hN : N < 1000000)
    (h1 : k + 1 ≤ x_bc M) (h2 : n + N.toNat ≤ x_bs M) (kk : xJ g D M (k + 1) (n + N.toNat) (pc + 3) ls (xr (h.1.length + 16) :: st) (h.1 ++ [(13, N.toNat)], x_nw h.2 (h.1.length + 16)) Q) : xJ g D M k n pc ls (xi N :: st) h Q := by
  intro p e s m args below meth c0 H locs la C R S hl ol os hk hn
  have hNi : x32 N = N := x_okh os
  have hts := C.2.2.2.2.2.1
  have hK := C.2.2.2.2.2.2.2.2.1
  have hn0 : ¬ Int32.ofInt N < 0 := fun q => by
    rw [xn_0, xn_lt hNi xn_ok0] at q
    omega
  have hcl := xn_clamp hNi
  refine W.anew C.1 C.2.1 C.2.2.2.2.1 (hts _ hw) (va_AO.use C.2.2.2.2.2.2.2.2.2.1) rfl hd rfl hn0 (by rw [hcl]; omega) h1 (by rw [hcl]; exact h2) fun cA kA comp f1 f2 f3 f4 => ?_
  rw [hcl]
  generalize hH1 : H.push ({ cls := cA, slots := Array.replicate N.toNat .null, vm := .none } : Cell) = H1
  have z1 : H1.size = H.size + 1 := by rw [← hH1, Array.size_push]
  have e1 : H1[H.size]? = some (arrV cA N.toNat (fun _ => .null)) := by rw [← hH1, Array.getElem?_push_size, ← arrV_new]
  have o1 : ∀ q : Nat, q < H.size → H1[q]? = H[q]? := fun q hq => by rw [← hH1, Array.getElem?_push, if_neg (Nat.ne_of_lt hq)]
  obtain ⟨kA2, comp2, y1, y2, y3, y4⟩ := (hK.2 3 _ rfl).2
  have hcA : cA = g.ac 3 := Option.some.inj (f1.symm.trans y4)
  show W _ _ _ _ _ _ _ _ _ _ _ _ _ _ _ (F0 m (pc + 3) la (.ref H.size :: st.map (x_v g)))
  rw [← x_adN (h := h) R.1]
  refine kk p e s m args below meth c0 H1 locs la C ⟨x_sz1 R.1 z1, ?_, ?_⟩ ⟨Nat.le_trans S.1 (by omega), fun x y1 y2 => (o1 x (Nat.lt_of_lt_of_le y1 S.1)).trans (S.2.1 x y1 y2), S.2.2⟩ hl ol (x_okc trivial (x_okt os)) h1 h2
  · refine x_P_push R.1 R.2.1 ?_ o1 (fun x hx => x_nw_lt hx)
    show H1[H.size]? = some (vp_cell (g.ac 3) (N.toNat, .inr (.inr (.inr (.inr fun j => x_ro g (x_nw h.2 (h.1.length + 16) (h.1.length + 16) j).toNat)))))
    rw [e1, hcA, vp_cell_q]
    congr 2
    funext j
    rw [x_nw_at]
    rfl
  · exact x_ok_push R.2.2 (fun z => by have z : 13 < 10 := z; omega) (by show 13 < 14; omega) (by show N.toNat < 1000000; omega) (fun x hx => x_nw_lt hx) (fun j => x_nw_at)
end XR3
