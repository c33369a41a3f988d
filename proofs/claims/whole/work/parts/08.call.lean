/-! the walk: returns, calls, a method's entry -/
theorem x_in {w : Cond} (i : Nat) (h : lw_tbl[i]? = some w) (hg : goodWord w = true) : w ∈ x_tb := List.mem_filter.mpr ⟨List.mem_of_getElem? h, hg⟩
theorem x_tb_good {w : Cond} (hw : w ∈ x_tb) : goodWord w = true := by
  unfold x_tb at hw
  exact (List.mem_filter.mp hw).2
/-- what a method must be to be called -/
def x_mok (M : Nat) : Prop := Cond.code (x_y M) (x_cd M) (x_ml M) (x_rt M) ∈ x_tb ∧ Cond.initialized (x_y M).cls ∈ x_tb ∧ (x_y M).cls ≠ "java/lang/invoke/MethodHandle" ∧ (x_y M).cls ≠ "java/lang/invoke/VarHandle" ∧ plainName (x_y M).cls = true ∧ x_ml M ≤ 41 ∧ M ≠ 247
theorem x_good {M : Nat} (hm : x_mok M) : GoodIn x_tb (.code (x_y M) (x_cd M) (x_ml M) (x_rt M) :: x_tb) := by
  intro w hw
  have h1 : w ∈ x_tb := (List.mem_cons.mp hw).elim (fun z => z ▸ hm.1) id
  exact ⟨h1, good_of_word (x_tb_good h1)⟩
theorem x_U_moved {g : xG} {s U : State} (hs : x_U g s) (hW : s.WarmedH U.vm) (hq : ∀ a : Nat, a < s.heap.size → ¬ x_A g a → U.heap[a]? = s.heap[a]?) (hz : s.heap.size ≤ U.heap.size) : x_U g U := by
  obtain ⟨h1, h2, h3, h4, h5, h6, h7, h8, h9, h10, h11⟩ := hs
  have hnA : ¬ x_A g (g.sa 1) := fun z => by have z : g.b ≤ g.sa 1 := z; omega
  refine ⟨va_K.moved hW.alike h1, va_AO.moved hW.alike h2, fun q hq => va_Nw.warmM hW (h3 q hq), (va_X.moved hW.alike h4).kept (hq _ (by omega) hnA), h5, fun i q hi => ?_, fun i q hi => vk_R.warm hW (h7 i q hi), (vk_S.moved hW.alike h8).kept hq, ⟨(va_Z.moved hW.alike h9.1).kept hq, Exists.elim h9.2 (fun z hz => ⟨z, hz.1, (va_Z.moved hW.alike hz.2).kept hq⟩)⟩, by omega, h11⟩
  obtain ⟨a1, a2, a3⟩ := h6 i q hi
  exact ⟨va_Nw.warmF hW a1, (va_Z.moved hW.alike a2).kept hq, (va_T.moved hW.alike a3).kept hq⟩
theorem x_blind {g : xG} {h : xH} {av : List Value} : FrameBlind (va_Pc av (fun U => x_R g h U.heap ∧ x_U g U)) := by
  intro a U f mk hp
  obtain ⟨h1, h2, h3⟩ := hp
  exact ⟨h1, h2, x_U_moved (U := U.calling f mk a) h3 (State.WarmedH.refl U) (fun _ _ _ => rfl) (Nat.le_refl _)⟩
def x_push (r : xV) (st : List xV) : List xV := match r with
  | .inr (.inr (.inr _)) => st
  | v => v :: st
section XC
variable {g : xG} {D M k n pc : Nat} {ls st : List xV} {h : xH} {Q : xV → xH → Prop}
theorem xj_ireturn {x : Int} (hd : decode (x_cd M) pc = .ok (.ireturn, 1)) (hr : x_rt M = some .int ∨ (x_rt M = some .boolean ∧ (x = 0 ∨ x = 1))) (kk : Q (xi x) h) : xJ g D M k n pc ls [xi x] h Q := by
  intro p e s m args below meth c H locs la C R S hl ol os hk hn
  refine W.widen hk hn ?_
  have hq : ∀ t : State, t.heap = H → s.WarmedH t.vm → x_Qj g M Q args s (.returned (some (.int (Int32.ofInt x)))) t := fun t ht hW => ⟨⟨xi x, h, rfl, kk, fun _ => by rw [ht]; exact R, x_okh os⟩, S.F ht⟩
  rcases hr with hr | ⟨hr, hx⟩
  · exact W.iret (v := Int32.ofInt x) C.1 C.2.1 (C.2.2.1.trans hr) hq S.2.2 hd C.2.2.2.2.2.2.1
  · have hnar : narrow .boolean (.int (Int32.ofInt x)) = .int (Int32.ofInt x) := by
      rcases hx with e1 | e1 <;> subst e1 <;> decide +kernel
    exact W.zret (v := Int32.ofInt x) C.1 C.2.1 (C.2.2.1.trans hr) hnar hq S.2.2 hd C.2.2.2.2.2.2.1
theorem xj_creturn {x : Int} (hd : decode (x_cd M) pc = .ok (.ireturn, 1)) (hr : x_rt M = some .char) (hx : narrow .char (.int (Int32.ofInt x)) = .int (Int32.ofInt x)) (kk : Q (xi x) h) : xJ g D M k n pc ls [xi x] h Q := by
  intro p e s m args below meth c H locs la C R S hl ol os hk hn
  refine W.widen hk hn ?_
  exact W.zret (v := Int32.ofInt x) C.1 C.2.1 (C.2.2.1.trans hr) hx (fun t ht hW => ⟨⟨xi x, h, rfl, kk, fun _ => by rw [ht]; exact R, x_okh os⟩, S.F ht⟩) S.2.2 hd C.2.2.2.2.2.2.1
theorem xj_lreturn {x : Int} (hd : decode (x_cd M) pc = .ok (.lreturn, 1)) (hr : x_rt M = some .long) (kk : Q (xl x) h) : xJ g D M k n pc ls [xl x] h Q := by
  intro p e s m args below meth c H locs la C R S hl ol os hk hn
  refine W.widen hk hn ?_
  exact W.lret (v := Int64.ofInt x) C.1 C.2.1 (C.2.2.1.trans hr) (fun t ht hW => ⟨⟨xl x, h, rfl, kk, fun _ => by rw [ht]; exact R, x_okh os⟩, S.F ht⟩) S.2.2 hd C.2.2.2.2.2.2.1
theorem xj_areturn {r : Nat} {c0 : String} (hd : decode (x_cd M) pc = .ok (.areturn, 1)) (hr : x_rt M = some (.object c0)) (kk : Q (xr r) h) : xJ g D M k n pc ls [xr r] h Q := by
  intro p e s m args below meth c H locs la C R S hl ol os hk hn
  refine W.widen hk hn ?_
  refine W.aret (v := x_v g (xr r)) (rt := .object c0) C.1 C.2.1 (C.2.2.1.trans hr) (Or.inl ⟨_, rfl⟩) ?_ (fun t ht hW => ⟨⟨xr r, h, rfl, kk, fun _ => by rw [ht]; exact R, trivial⟩, S.F ht⟩) S.2.2 hd C.2.2.2.2.2.2.1
  rcases x_rn (g := g) r with ⟨-, z⟩ | ⟨-, z⟩
  · exact Or.inl z
  · exact Or.inr ⟨_, z⟩
theorem xj_return (hd : decode (x_cd M) pc = .ok (.return_, 1)) (hr : x_rt M = none) (kk : Q xu h) : xJ g D M k n pc ls [] h Q := by
  intro p e s m args below meth c H locs la C R S hl ol os hk hn
  refine W.widen hk hn ?_
  exact W.vret C.1 C.2.1 (C.2.2.1.trans hr) (fun t ht hW => ⟨⟨xu, h, rfl, kk, fun _ => by rw [ht]; exact R, trivial⟩, S.F ht⟩) S.2.2 hd C.2.2.2.2.2.2.1
theorem x_out_list {v : Option Value} {r : xV} (hv : Outcome.returned v = x_out g r) : v.toList ++ st.map (x_v g) = (x_push r st).map (x_v g) := by
  rcases r with x | x | r | u
  · have e1 : v = some (x_v g (xi x)) := by have := hv; simp only [x_out] at this; exact (Outcome.returned.inj this)
    subst e1; rfl
  · have e1 : v = some (x_v g (xl x)) := by have := hv; simp only [x_out] at this; exact (Outcome.returned.inj this)
    subst e1; rfl
  · have e1 : v = some (x_v g (xr r)) := by have := hv; simp only [x_out] at this; exact (Outcome.returned.inj this)
    subst e1; rfl
  · have e1 : v = none := by have := hv; simp only [x_out] at this; exact (Outcome.returned.inj this)
    subst e1; rfl
theorem xw_run {p : Program} {e : Env} {R0 : Room} {s : State} {m : MethodId} {args : Array Value} {below : List Frame} {meth : Method} {c : Code} {H : Heap} {locs : List Loc} {la : Array Slot} {st0 : List Value} {mc ms : Nat} {a : Array Value} {Q1 : xV → xH → Prop} {Qf : State → Prop}
    (hr : va_Run p g.l e R0 s m args below meth c H locs k n mc ms (F0 m pc la st0) (st.map (x_v g)) (x_Q g Q1 a) (x_A g)) (S : va_S (x_A g) s.heap H locs)
    (kk : ∀ (r : xV) (h1 : xH) (H1 : Heap) (locs1 : List Loc), Q1 r h1 → x_R g h1 H1 → x_ok r → va_S (x_A g) s.heap H1 locs1 → W p g.l e R0 s m args below meth c H1 locs1 (k + mc) (n + ms) Qf (F0 m (pc + 3) la ((x_push r st).map (x_v g)))) :
    W p g.l e R0 s m args below meth c H locs k n Qf (F0 m pc la st0) := by
  intro T hT X
  obtain ⟨v, st₀, t, T', L, h0, X', hL, e1, e2, ⟨⟨r, h1, hv, hq, hR, hok⟩, hz, hk⟩, stp⟩ := hr T hT X
  rw [h0] at hz hk
  obtain ⟨t2, a1, b1⟩ := kk r h1 T'.heap (locs ++ L) hq (by rw [e1]; exact hR) hok
    ⟨Nat.le_trans S.1 (by rw [e1]; exact hz), fun q h1 h2 => by rw [e1, hk q (Nat.lt_of_lt_of_le h1 S.1) h2]; exact S.2.1 q h1 h2, fun q hq => by
      rcases List.mem_append.mp hq with h | h
      · exact S.2.2 q h
      · exact hL q h⟩ T' rfl X'
  rw [← x_out_list hv] at a1
  exact ⟨t2, stp t2 a1, b1⟩
theorem x_push_ok {r : xV} (hr : x_ok r) (hs : ∀ v ∈ st, x_ok v) : ∀ v ∈ x_push r st, x_ok v := by
  rcases r with x | x | r | u
  · exact x_okc hr hs
  · exact x_okc hr hs
  · exact x_okc hr hs
  · exact hs
/-- how many words a stack takes -/
def x_wd : List xV → Nat
  | [] => 0
  | .inr (.inl _) :: st => x_wd st + 2
  | _ :: st => x_wd st + 1
theorem x_wd_sum : ∀ st : List xV, ((st.map (x_v g)).map fun v => v.category).sum = x_wd st := by
  intro st
  induction st with
  | nil => rfl
  | cons v st ih =>
    simp only [List.map_cons, List.sum_cons] at ih ⊢
    rw [ih]
    rcases v with x | x | r | u
    · show 1 + x_wd st = x_wd st + 1; omega
    · show 2 + x_wd st = x_wd st + 2; omega
    · have e1 := x_cat1 (g := g) (v := xr r) (by intro x z; cases z)
      rw [e1]
      show 1 + x_wd st = x_wd st + 1; omega
    · show 1 + x_wd st = x_wd st + 1; omega
theorem x_room {M2 : Nat} (hm : x_mok M2) : (x_rm D M2).frames + 1 ≤ (x_rm (D + 1) M).frames ∧ 8 + (x_ml M2 + 11) + (x_rm D M2).locals ≤ (x_rm (D + 1) M).locals := by
  have h1 := hm.2.2.2.2.2.1
  refine ⟨Nat.le_refl _, ?_⟩
  show 8 + (x_ml M2 + 11) + 60 * D ≤ 60 * (D + 1)
  omega
theorem x_okapp {a b : List xV} (ha : ∀ v ∈ a, x_ok v) (hb : ∀ v ∈ b, x_ok v) : ∀ v ∈ a ++ b, x_ok v := fun v hv => (List.mem_append.mp hv).elim (ha v) (hb v)
theorem x_args_ok {As : List xV} {v : xV} (os : ∀ w ∈ As.reverse ++ v :: st, x_ok w) : ∀ w ∈ v :: As, x_ok w := by
  intro w hw
  rcases List.mem_cons.mp hw with e1 | h1
  · exact os w (List.mem_append_right _ (by rw [e1]; exact List.mem_cons_self))
  · exact os w (List.mem_append_left _ (List.mem_reverse.mpr h1))
theorem x_args_ok2 {As : List xV} (os : ∀ w ∈ As.reverse ++ st, x_ok w) : ∀ w ∈ As, x_ok w := fun w hw => os w (List.mem_append_left _ (List.mem_reverse.mpr hw))
/-- a call of an object's method -/
theorem xj_invokevirtual {i M2 b c N : Nat} {As : List xV} (hd : decode (x_cd M) pc = .ok (.invokevirtual i, 3)) (hm : x_mok M2) (hr : x_is h b c N) (hc : c < 10) (hcn : x_cn.getD c "" = (x_y M2).cls)
    (hl0 : Cond.methodLink (x_y M).cls i (x_y M2) ∈ x_tb ∨ ((x_y M).cls, i, x_y M2) ∈ x_nm) (hi0 : Cond.instanceMethod (x_y M2) ∈ x_tb) (hs0 : Cond.selects (x_y M2).cls (x_y M2) (x_y M2) ∈ x_tb) (hn0 : (parseMethodDescriptor (x_y M2).desc).map (fun d => d.parameters.length) = some As.length)
    (h1 : k + x_bc M2 ≤ x_bc M) (h2 : n + x_bs M2 ≤ x_bs M) (hw : x_wd st ≤ 8) (kk : xS g D M2 (xr b :: As) h (fun r h1 => xJ g (D + 1) M (k + x_bc M2) (n + x_bs M2) (pc + 3) ls (x_push r st) h1 Q)) : xJ g (D + 1) M k n pc ls (As.reverse ++ xr b :: st) h Q := by
  intro p e s m args below meth c0 H locs la C R S hl ol os hk hn
  have hts := C.2.2.2.2.2.1
  have hK := C.2.2.2.2.2.2.2.2.1
  obtain ⟨q, hq, q1, q2, q3⟩ := x_cl_len c hc
  have he := x_ws_at (g := g) hr
  rw [x_E_obj hc] at he
  have hM := kk (x_args_ok os)
  rw [List.map_append, List.map_reverse, List.map_cons, x_ne0 hr]
  rw [List.map_cons, x_ne0 hr] at hM
  have hpre : PreV s H (x_y M2).cls (x_ad g b) (va_Pc (Value.ref (x_ad g b) :: As.map (x_v g)) (fun U => x_R g h U.heap ∧ x_U g U)) (As.map (x_v g)) := by
    refine ⟨x_blind, ?_, fun U hU hW => ⟨rfl, by rw [hU]; exact R, x_U_moved C.2.2.2.2.2.2.2.2 hW (fun a y1 y2 => by rw [hU]; exact S.2.1 a y1 y2) (by rw [hU]; exact S.1)⟩⟩
    obtain ⟨cell, y1, y2, y3⟩ := va_recv hK R.2.1 hq he
    exact ⟨cell, y1, y2, by rw [← hcn, ← q2]; exact y3⟩
  have hfix : CallFix p m c0 (x_cd M) (x_ml M) s args x_tb (x_y M).cls := ⟨C.1, C.2.1, C.2.2.2.1, C.2.2.2.2.1, hts⟩
  have hwd : 2 * (F0 m pc la ((As.map (x_v g)).reverse ++ Value.ref (x_ad g b) :: st.map (x_v g))).monitorRoom + ((st.map (x_v g)).map fun v => v.category).sum ≤ 8 := by
    refine lv_room ?_
    rw [x_wd_sum]
    exact hw
  have hfin : ∀ (r : xV) (h1 : xH) (H1 : Heap) (locs1 : List Loc), xJ g (D + 1) M (k + x_bc M2) (n + x_bs M2) (pc + 3) ls (x_push r st) h1 Q → x_R g h1 H1 → x_ok r → va_S (x_A g) s.heap H1 locs1 → W p g.l e (x_rm (D + 1) M) s m args below meth c0 H1 locs1 (k + x_bc M2) (n + x_bs M2) (MQ below (x_Qj g M Q) args s (x_bc M) (x_bs M) (x_A g)) (F0 m (pc + 3) la ((x_push r st).map (x_v g))) :=
    fun r h3 H1 locs1 hJ hR hok hS => hJ p e s m args below meth c0 H1 locs1 la C hR hS hl ol (x_push_ok hok (fun v hv => os v (List.mem_append_right _ (List.mem_cons_of_mem _ hv)))) h1 h2
  rcases hl0 with hl0 | hl0
  · have cb := callB_of (R := x_rm (D + 1) M) (rm := x_rm D M2) (mc := x_bc M2) (ms := x_bs M2) As.length hts (x_good hm) rfl rfl rfl (hts _ hm.2.1) (hts _ hl0) ⟨hm.2.2.1, hm.2.2.2.1, hn0⟩ (x_room hm)
    exact xw_run (va_runV (C := (x_y M2).cls) hfix hM ⟨cb, hts _ hi0, hts _ hs0⟩ hpre rfl (List.length_map _) hl.1 rfl hwd hd ⟨h1, h2⟩) S hfin
  · have cb := va_cnB (R := x_rm (D + 1) M) (rm := x_rm D M2) (mc := x_bc M2) (ms := x_bs M2) (own := (x_y M).cls) (index := i) As.length hts (x_good hm) rfl rfl rfl (C.2.2.2.2.2.2.2.2.2.2.1 _ hl0) (hts _ hm.2.1) ⟨hm.2.2.1, hm.2.2.2.1, hn0⟩ (x_room hm)
    exact xw_run (va_runVN (C := (x_y M2).cls) hfix hM ⟨cb, hts _ hi0, hts _ hs0⟩ hpre rfl (List.length_map _) hl.1 rfl hwd hd ⟨h1, h2⟩) S hfin
/-- a call of a static method -/
theorem xj_invokestatic {i M2 : Nat} {As : List xV} (hd : decode (x_cd M) pc = .ok (.invokestatic i, 3)) (hm : x_mok M2)
    (hl0 : Cond.methodLink (x_y M).cls i (x_y M2) ∈ x_tb ∨ ((x_y M).cls, i, x_y M2) ∈ x_nm) (hi0 : Cond.static (x_y M2) ∈ x_tb) (hn0 : (parseMethodDescriptor (x_y M2).desc).map (fun d => d.parameters.length) = some As.length)
    (h1 : k + x_bc M2 ≤ x_bc M) (h2 : n + x_bs M2 ≤ x_bs M) (hw : x_wd st ≤ 8) (kk : xS g D M2 As h (fun r h1 => xJ g (D + 1) M (k + x_bc M2) (n + x_bs M2) (pc + 3) ls (x_push r st) h1 Q)) : xJ g (D + 1) M k n pc ls (As.reverse ++ st) h Q := by
  intro p e s m args below meth c0 H locs la C R S hl ol os hk hn
  have hts := C.2.2.2.2.2.1
  have hM := kk (x_args_ok2 os)
  rw [List.map_append, List.map_reverse]
  have hpre : PreS s H (va_Pc (As.map (x_v g)) (fun U => x_R g h U.heap ∧ x_U g U)) (As.map (x_v g)) :=
    ⟨x_blind, fun U hU hW => ⟨rfl, by rw [hU]; exact R, x_U_moved C.2.2.2.2.2.2.2.2 hW (fun a y1 y2 => by rw [hU]; exact S.2.1 a y1 y2) (by rw [hU]; exact S.1)⟩⟩
  have hfix : CallFix p m c0 (x_cd M) (x_ml M) s args x_tb (x_y M).cls := ⟨C.1, C.2.1, C.2.2.2.1, C.2.2.2.2.1, hts⟩
  have hwd : 2 * (F0 m pc la ((As.map (x_v g)).reverse ++ st.map (x_v g))).monitorRoom + ((st.map (x_v g)).map fun v => v.category).sum ≤ 8 := by
    refine lv_room ?_
    rw [x_wd_sum]
    exact hw
  have hfin : ∀ (r : xV) (h1 : xH) (H1 : Heap) (locs1 : List Loc), xJ g (D + 1) M (k + x_bc M2) (n + x_bs M2) (pc + 3) ls (x_push r st) h1 Q → x_R g h1 H1 → x_ok r → va_S (x_A g) s.heap H1 locs1 → W p g.l e (x_rm (D + 1) M) s m args below meth c0 H1 locs1 (k + x_bc M2) (n + x_bs M2) (MQ below (x_Qj g M Q) args s (x_bc M) (x_bs M) (x_A g)) (F0 m (pc + 3) la ((x_push r st).map (x_v g))) :=
    fun r h3 H1 locs1 hJ hR hok hS => hJ p e s m args below meth c0 H1 locs1 la C hR hS hl ol (x_push_ok hok (fun v hv => os v (List.mem_append_right _ hv))) h1 h2
  rcases hl0 with hl0 | hl0
  · have cb := callB_of (R := x_rm (D + 1) M) (rm := x_rm D M2) (mc := x_bc M2) (ms := x_bs M2) As.length hts (x_good hm) rfl rfl rfl (hts _ hm.2.1) (hts _ hl0) ⟨hm.2.2.1, hm.2.2.2.1, hn0⟩ (x_room hm)
    exact xw_run (va_runS hfix hM ⟨cb, hts _ hi0⟩ hpre rfl (List.length_map _) hl.1 rfl hwd hd ⟨h1, h2⟩) S hfin
  · have cb := va_cnB (R := x_rm (D + 1) M) (rm := x_rm D M2) (mc := x_bc M2) (ms := x_bs M2) (own := (x_y M).cls) (index := i) As.length hts (x_good hm) rfl rfl rfl (C.2.2.2.2.2.2.2.2.2.2.1 _ hl0) (hts _ hm.2.1) ⟨hm.2.2.1, hm.2.2.2.1, hn0⟩ (x_room hm)
    exact xw_run (va_runSN hfix hM ⟨cb, hts _ hi0, trivial⟩ hpre rfl (List.length_map _) hl.1 rfl hwd hd ⟨h1, h2⟩) S hfin
/-- a constructor's call -/
theorem xj_invokespecial {i M2 b c N : Nat} {As : List xV} (hd : decode (x_cd M) pc = .ok (.invokespecial i, 3)) (hm : x_mok M2) (hr : x_is h b c N) (hin : (x_y M2).name = "<init>") (hrt : x_rt M2 = none)
    (hl0 : Cond.methodLink (x_y M).cls i (x_y M2) ∈ x_tb ∨ ((x_y M).cls, i, x_y M2) ∈ x_nm) (hi0 : Cond.instanceMethod (x_y M2) ∈ x_tb) (hn0 : (parseMethodDescriptor (x_y M2).desc).map (fun d => d.parameters.length) = some As.length)
    (h1 : k + x_bc M2 ≤ x_bc M) (h2 : n + x_bs M2 ≤ x_bs M) (hw : x_wd st ≤ 8) (kk : xS g D M2 (xr b :: As) h (fun r h1 => xJ g (D + 1) M (k + x_bc M2) (n + x_bs M2) (pc + 3) ls (x_push r st) h1 Q)) : xJ g (D + 1) M k n pc ls (As.reverse ++ xr b :: st) h Q := by
  intro p e s m args below meth c0 H locs la C R S hl ol os hk hn
  have hts := C.2.2.2.2.2.1
  have hM := kk (x_args_ok os)
  rw [List.map_append, List.map_reverse, List.map_cons, x_ne0 hr]
  rw [List.map_cons, x_ne0 hr] at hM
  rw [hrt] at hM
  have hpre : PreS s H (va_Pc (Value.ref (x_ad g b) :: As.map (x_v g)) (fun U => x_R g h U.heap ∧ x_U g U)) (Value.ref (x_ad g b) :: As.map (x_v g)) :=
    ⟨x_blind, fun U hU hW => ⟨rfl, by rw [hU]; exact R, x_U_moved C.2.2.2.2.2.2.2.2 hW (fun a y1 y2 => by rw [hU]; exact S.2.1 a y1 y2) (by rw [hU]; exact S.1)⟩⟩
  have hfix : CallFix p m c0 (x_cd M) (x_ml M) s args x_tb (x_y M).cls := ⟨C.1, C.2.1, C.2.2.2.1, C.2.2.2.2.1, hts⟩
  have hwd : 2 * (F0 m pc la ((As.map (x_v g)).reverse ++ Value.ref (x_ad g b) :: st.map (x_v g))).monitorRoom + ((st.map (x_v g)).map fun v => v.category).sum ≤ 8 := by
    refine lv_room ?_
    rw [x_wd_sum]
    exact hw
  have hgd := x_good hm
  rw [hrt] at hgd
  have hfin : ∀ (r : xV) (h1 : xH) (H1 : Heap) (locs1 : List Loc), xJ g (D + 1) M (k + x_bc M2) (n + x_bs M2) (pc + 3) ls (x_push r st) h1 Q → x_R g h1 H1 → x_ok r → va_S (x_A g) s.heap H1 locs1 → W p g.l e (x_rm (D + 1) M) s m args below meth c0 H1 locs1 (k + x_bc M2) (n + x_bs M2) (MQ below (x_Qj g M Q) args s (x_bc M) (x_bs M) (x_A g)) (F0 m (pc + 3) la ((x_push r st).map (x_v g))) :=
    fun r h3 H1 locs1 hJ hR hok hS => hJ p e s m args below meth c0 H1 locs1 la C hR hS hl ol (x_push_ok hok (fun v hv => os v (List.mem_append_right _ (List.mem_cons_of_mem _ hv)))) h1 h2
  rcases hl0 with hl0 | hl0
  · have cb := callB_of (R := x_rm (D + 1) M) (rm := x_rm D M2) (mc := x_bc M2) (ms := x_bs M2) As.length hts hgd rfl rfl rfl (hts _ hm.2.1) (hts _ hl0) ⟨hm.2.2.1, hm.2.2.2.1, hn0⟩ (x_room hm)
    exact xw_run (va_runI hfix hM ⟨cb, hin, hts _ hi0⟩ hpre rfl (List.length_map _) hl.1 rfl hwd hd ⟨h1, h2⟩) S hfin
  · have cb := va_cnB (R := x_rm (D + 1) M) (rm := x_rm D M2) (mc := x_bc M2) (ms := x_bs M2) (own := (x_y M).cls) (index := i) As.length hts hgd rfl rfl rfl (C.2.2.2.2.2.2.2.2.2.2.1 _ hl0) (hts _ hm.2.1) ⟨hm.2.2.1, hm.2.2.2.1, hn0⟩ (x_room hm)
    exact xw_run (va_runIN hfix hM ⟨cb, hin, hts _ hi0⟩ hpre rfl (List.length_map _) hl.1 rfl hwd hd ⟨h1, h2⟩) S hfin
theorem xj_objinit {i b c N : Nat} (hd : decode (x_cd M) pc = .ok (.invokespecial i, 3)) (hr : x_is h b c N) (hl0 : Cond.methodLink (x_y M).cls i Lib.objectInit ∈ x_tb) (hw : x_wd st ≤ 8) (kk : xJ g (D + 1) M k n (pc + 3) ls st h Q) : xJ g (D + 1) M k n pc ls (xr b :: st) h Q := by
  intro p e s m args below meth c0 H locs la C R S hl ol os hk hn
  have hts := C.2.2.2.2.2.1
  have kk := kk p e s m args below meth c0 H locs la C R S hl ol (x_okt os) hk hn
  rw [List.map_cons, x_ne0 hr]
  have i1 : Cond.instanceMethod Lib.objectInit ∈ x_tb := x_in 120 rfl rfl
  have i2 : Cond.code Lib.objectInit ⟨#[0xb1]⟩ 1 none ∈ x_tb := x_in 121 rfl rfl
  have hwd : 2 * (F0 m pc la (Value.ref (x_ad g b) :: st.map (x_v g))).monitorRoom + ((st.map (x_v g)).map fun v => v.category).sum ≤ 8 := by
    refine lv_room ?_
    rw [x_wd_sum]
    exact hw
  exact W.objInit C.1 C.2.1 C.2.2.2.2.1 (hts _ hl0) (hts _ i1) (hts _ i2) rfl (by rw [C.2.2.2.1]; exact hl.1) rfl hd (by show 1 ≤ D + 1; omega) (by show _ + 12 ≤ 60 * (D + 1); omega) kk
/-! a method's entry: the arguments are its first locals -/
def x_en : List xV → List xV
  | [] => []
  | .inr (.inl x) :: vs => xl x :: xu :: x_en vs
  | v :: vs => v :: x_en vs
theorem x_en_len : ∀ vs : List xV, (lg_sl (vs.map (x_v g))).length = (x_en vs).length := by
  intro vs
  induction vs with
  | nil => rfl
  | cons v vs ih =>
    unfold lg_sl at ih ⊢
    rw [List.map_cons, List.flatMap_cons, List.length_append, ih]
    rcases v with x | x | r | u
    · show 1 + _ = _ + 1; omega
    · show 2 + _ = _ + 1 + 1; omega
    · have e1 := x_cat1 (g := g) (v := xr r) (by intro x z; cases z)
      rw [if_neg (by rw [e1]; decide)]
      show 1 + _ = _ + 1; omega
    · show 1 + _ = _ + 1; omega
theorem x_en_mem : ∀ (vs : List xV) (i : Nat) (q : Nat × Value), q ∈ x_lv g i (x_en vs) → q ∈ lv_args i (vs.map (x_v g)) := by
  intro vs
  induction vs with
  | nil => intro i q hq; simp [x_en, x_lv] at hq
  | cons v vs ih =>
    intro i q hq
    rcases v with x | x | r | u
    · rcases List.mem_cons.mp hq with z | z
      · rw [z]; exact List.mem_cons_self
      · exact List.mem_cons_of_mem _ (ih (i + 1) q z)
    · rcases List.mem_cons.mp hq with z | z
      · rw [z]; exact List.mem_cons_self
      · exact List.mem_cons_of_mem _ (ih (i + 2) q z)
    · have e1 := x_cat1 (g := g) (v := xr r) (by intro x z; cases z)
      rcases List.mem_cons.mp hq with z | z
      · rw [z]; exact List.mem_cons_self
      · refine List.mem_cons_of_mem _ ?_
        rw [if_neg (by rw [e1]; decide)]
        exact ih (i + 1) q z
    · exact List.mem_cons_of_mem _ (ih (i + 1) q hq)
theorem x_lv_app : ∀ (a b : List xV) (i : Nat), x_lv g i (a ++ b) = x_lv g i a ++ x_lv g (i + a.length) b := by
  intro a
  induction a with
  | nil => intro b i; rfl
  | cons v a ih =>
    intro b i
    rcases v with x | x | r | u
    · show _ :: x_lv g (i + 1) (a ++ b) = _ :: x_lv g (i + 1) a ++ _
      rw [ih, show i + 1 + a.length = i + (xi x :: a).length by simp; omega]; rfl
    · show _ :: x_lv g (i + 1) (a ++ b) = _ :: x_lv g (i + 1) a ++ _
      rw [ih, show i + 1 + a.length = i + (xl x :: a).length by simp; omega]; rfl
    · show _ :: x_lv g (i + 1) (a ++ b) = _ :: x_lv g (i + 1) a ++ _
      rw [ih, show i + 1 + a.length = i + (xr r :: a).length by simp; omega]; rfl
    · show x_lv g (i + 1) (a ++ b) = x_lv g (i + 1) a ++ _
      rw [ih, show i + 1 + a.length = i + (xu :: a).length by simp; omega]
theorem x_lv_un : ∀ (m i : Nat), x_lv g i (List.replicate m xu) = [] := by
  intro m
  induction m with
  | zero => intro i; rfl
  | succ m ih => intro i; exact ih (i + 1)
theorem x_en_ok : ∀ vs : List xV, (∀ v ∈ vs, x_ok v) → ∀ v ∈ x_en vs, x_ok v := by
  intro vs
  induction vs with
  | nil => intro _ v hv; simp [x_en] at hv
  | cons w vs ih =>
    intro hs
    have h1 := ih (x_okt hs)
    have h2 := x_okh hs
    rcases w with x | x | r | u
    · exact x_okc h2 h1
    · exact x_okc h2 (x_okc trivial h1)
    · exact x_okc h2 h1
    · exact x_okc h2 h1
def x_l0 (M : Nat) (args : List xV) : List xV := x_en args ++ List.replicate (x_ml M - (x_en args).length) xu
theorem x_Wj {p : Program} {l : Launch} {e : Env} {R0 : Room} {s : State} {m : MethodId} {args a : Array Value} {below : List Frame} {meth : Method} {c : Code} {H : Heap} {locs : List Loc} {mc ms : Nat} {A : Nat → Prop} {F : JFrame} (hM : M ≠ 247) (hw : W p l e R0 s m args below meth c H locs k n (MQ below (x_Qj g M Q) a s mc ms A) F) : W p l e R0 s m args below meth c H locs k n (MQ below (x_Q g Q) a s mc ms A) F := by
  intro T hT X
  obtain ⟨t, b1, o, b2, b3, ⟨⟨r, h1, c1, c2, c3, c5⟩, c4⟩, c6⟩ := hw T hT X
  exact ⟨t, b1, o, b2, b3, ⟨⟨r, h1, c1, c2, c3 hM, c5⟩, c4⟩, c6⟩
theorem x_entry {args : List xV} (hm : x_mok M) (ha : (x_en args).length ≤ x_ml M) (kk : xJ g D M 0 0 0 (x_l0 M args) [] h Q) : xS g D M args h Q := by
  intro oa
  refine Met.ofW (cc := x_cd M) (maxL := x_ml M) (ret := x_rt M) hm.2.2.2.2.1 rfl ?_
  intro p e s m av below meth c s₁ B hml hv
  obtain ⟨rfl, hR, hU⟩ := hv
  have hts := atoms_spec (ws := .code (x_y M) (x_cd M) (x_ml M) (x_rt M) :: x_tb) B.pre
  have hl := lv_entry (args.map (x_v g)) (n := x_ml M) (by rw [x_en_len]; exact ha)
  rw [lg_entry_eq]
  refine x_Wj hm.2.2.2.2.2.2 (kk p e s m _ below meth c s.heap [] _ ⟨B.exec, B.bytes, B.returns, hml, findClass_of_methodNamed B.named, fun w hw => hts w (List.mem_cons_of_mem _ hw), B.notSynchronized, (name_of_methodNamed B.named B.method).1, hU⟩ hR va_S.rf ⟨hl.1, hl.2.1, fun q hq => hl.2.2 q ?_⟩ ?_ (fun v hv => by cases hv) (Nat.zero_le _) (Nat.zero_le _))
  · unfold x_l0 at hq
    rw [x_lv_app, x_lv_un, List.append_nil] at hq
    exact x_en_mem args 0 q hq
  · unfold x_l0
    refine x_okapp (x_en_ok args oa) (fun v hv => ?_)
    rw [List.eq_of_mem_replicate hv]
    trivial
end XC
