/-! BEHIND THE CLASS'S CONSTRUCTOR: from there on the four cells of the reader's first draft have no codes of their own -/
abbrev x_g2 (g : xG) : xG := (g.1, g.2.1, g.2.2.1, g.2.2.2.1, (fun r => if r = 0 then 4 else g.sa r), g.2.2.2.2.2)
theorem x_g2_sa {g : xG} {i : Nat} (h : 0 < i) : (x_g2 g).sa i = g.sa i := if_neg (by omega)
theorem x_g2_U {g : xG} {U : State} (hU : x_U g U) : x_U (x_g2 g) U := by
  obtain ⟨h1, h2, h3, h4, h5, h6, h7, h8, ⟨h9, z, hz, h10⟩, h11, h12⟩ := hU
  have e5 : (fun i => (x_g2 g).sa (5 + i)) = fun i => g.sa (5 + i) := funext fun i => x_g2_sa (by omega)
  have e7 : (fun i => (x_g2 g).sa (7 + i)) = fun i => g.sa (7 + i) := funext fun i => x_g2_sa (by omega)
  refine ⟨h1, h2, h3, h4, h5, fun i q hi => ?_, fun i q hi => ?_, ?_, ⟨h9, z, hz, ?_⟩, h11, h12⟩
  · obtain ⟨a1, a2, a3⟩ := h6 i q hi
    have e2 : (x_g2 g).sa (2 + i) = g.sa (2 + i) := x_g2_sa (by omega)
    refine ⟨a1, ?_, ?_⟩
    · rw [e2]; exact a2
    · rw [e2]; exact a3
  · have e2 : (x_g2 g).sa (5 + i) = g.sa (5 + i) := x_g2_sa (by omega)
    rw [e2]; exact h7 i q hi
  · show vk_S 2 [126, 12] (x_by.map fun l => l.map Int32.ofInt) (fun i => (x_g2 g).sa (5 + i)) (fun i => (x_g2 g).sa (7 + i)) (x_A g) U U.heap
    rw [e5, e7]; exact h8
  · have e : x_ro (x_g2 g) z = x_ro g z := by
      unfold x_ro
      by_cases h : z = 0
      · rw [if_pos h, if_pos h]
      · rw [if_neg h, if_neg h]
        unfold x_ad
        rw [if_pos hz, if_pos hz]
        exact congrArg some (x_g2_sa (by omega))
    rw [e]; exact h10
/-- the codes behind the class's constructor, out of those ahead of it -/
def lw_s2 (c : Nat) : Nat := if c < 75 then c else if c = 75 then 15 else c - 4
def lw_s1 (k : Nat) : Nat := if k < 59 then k else k + 4
section SW
variable {g : xG}
theorem lw_k0 (h0 : g.sa 0 = 0) (r : Nat) : x_sk g r = 0 := by
  unfold x_sk
  rw [h0]
  split <;> rfl
theorem lw_k4 {r : Nat} (h : 75 ≤ r) : x_sk (x_g2 g) r = 4 := by
  unfold x_sk
  rw [if_neg (by omega)]
  rfl
theorem lw_kl {r : Nat} (h : r < 75) : x_sk (x_g2 g) r = 0 := by
  unfold x_sk
  rw [if_pos h]
theorem lw_ad (h0 : g.sa 0 = 0) (k : Nat) : x_ad (x_g2 g) (k + 16) = x_ad g (lw_s1 k + 16) := by
  unfold x_ad
  rw [if_neg (by omega), if_neg (by omega), lw_k0 h0]
  unfold lw_s1
  by_cases h : k < 59
  · rw [if_pos h, lw_kl (by omega)]
  · rw [if_neg h, lw_k4 (by omega)]
    show g.b + (k + 16 - 16) + 4 = g.b + (k + 4 + 16 - 16) + 0
    omega
theorem lw_ro (h0 : g.sa 0 = 0) (h15 : g.sa 15 = g.b + 59) {c : Nat} (hc : c < 76 ∨ 79 ≤ c) : x_ro (x_g2 g) (lw_s2 c) = x_ro g c := by
  unfold lw_s2
  by_cases a : c < 75
  · rw [if_pos a]
    unfold x_ro
    by_cases z : c = 0
    · rw [if_pos z, if_pos z]
    · rw [if_neg z, if_neg z]
      refine congrArg some ?_
      by_cases y : c < 16
      · unfold x_ad
        rw [if_pos y, if_pos y]
        exact x_g2_sa (by omega)
      · have e := lw_ad h0 (c - 16)
        unfold lw_s1 at e
        rw [if_pos (by omega), show c - 16 + 16 = c by omega] at e
        exact e
  · rw [if_neg a]
    by_cases b : c = 75
    · subst b
      rw [if_pos rfl]
      have e : x_ad g 75 = g.sa 15 := by
        unfold x_ad
        rw [if_neg (by decide), lw_k0 h0, h15]
      show some ((x_g2 g).sa 15) = some (x_ad g 75)
      rw [e]
      exact congrArg some (x_g2_sa (by decide))
    · rw [if_neg b]
      unfold x_ro
      rw [if_neg (by omega), if_neg (by omega)]
      refine congrArg some ?_
      have e := lw_ad h0 (c - 20)
      unfold lw_s1 at e
      rw [if_neg (by omega), show c - 20 + 16 = c - 4 by omega, show c - 20 + 4 + 16 = c by omega] at e
      exact e
def lw_rel (t : Nat) (a b : Int) : Bool := if t = 2 then decide (b.toNat = lw_s2 a.toNat) && (decide (a.toNat < 76) || decide (79 ≤ a.toNat)) else decide (a = b)
theorem lw_v (h0 : g.sa 0 = 0) (h15 : g.sa 15 = g.b + 59) {t : Nat} {a b : Int} (h : lw_rel t a b = true) : x_v (x_g2 g) (x_fv (x_g2 g) t b) = x_v g (x_fv g t a) := by
  unfold lw_rel at h
  by_cases t2 : t = 2
  · subst t2
    rw [if_pos rfl] at h
    simp only [Bool.and_eq_true, Bool.or_eq_true, decide_eq_true_eq] at h
    show va_rf (x_ro (x_g2 g) b.toNat) = va_rf (x_ro g a.toNat)
    rw [h.1, lw_ro h0 h15 h.2]
  · rw [if_neg t2] at h
    have e : a = b := of_decide_eq_true h
    subst e
    have hx : ∀ v : xV, (∀ r, v ≠ xr r) → x_v (x_g2 g) v = x_v g v := by
      intro v hv
      rcases v with x | x | r | u
      · rfl
      · rfl
      · exact absurd rfl (hv r)
      · rfl
    refine hx (x_fv g t a) (fun r z => ?_)
    unfold x_fv at z
    rw [if_neg t2] at z
    split at z <;> cases z
theorem lw_E (h0 : g.sa 0 = 0) (h15 : g.sa 15 = g.b + 59) {e : Nat × Nat} {f1 f2 : Nat → Int} (h14 : e.1 < 14) (hA : 10 ≤ e.1 → (∀ j, f1 j = 0) ∧ ∀ j, f2 j = 0) (hB : e.1 < 10 → ∀ j, j < e.2 → lw_rel (x_tc e.1 j) (f1 j) (f2 j) = true) : x_E (x_g2 g) e f2 = x_E g e f1 := by
  by_cases h : e.1 < 10
  · obtain ⟨c, N⟩ := e
    have h : c < 10 := h
    rw [x_E_obj h, x_E_obj h]
    have e1 : ((List.range N).map fun j => x_v (x_g2 g) (x_fv (x_g2 g) (x_tc c j) (f2 j))) = (List.range N).map fun j => x_v g (x_fv g (x_tc c j) (f1 j)) := List.map_congr_left (fun j hj => lw_v h0 h15 (hB h j (List.mem_range.mp hj)))
    rw [e1]
  · obtain ⟨a, b⟩ := hA (by omega)
    have e12 : f2 = f1 := funext fun j => by rw [a, b]
    subst e12
    rcases (show e.1 = 10 ∨ e.1 = 11 ∨ e.1 = 12 ∨ e.1 = 13 by omega) with z | z | z | z
    · have hE : ∀ g' : xG, x_E g' e f2 = .inl (g'.ac 0, e.2, .inl fun j => Int32.ofInt (f2 j)) := fun g' => by unfold x_E; rw [if_pos z]
      exact (hE (x_g2 g)).trans (hE g).symm
    · have hE : ∀ g' : xG, x_E g' e f2 = .inl (g'.ac 1, e.2, .inr (.inl fun j => Int64.ofInt (f2 j))) := fun g' => by unfold x_E; rw [if_neg (by omega), if_pos z]
      exact (hE (x_g2 g)).trans (hE g).symm
    · have hE : ∀ g' : xG, x_E g' e f2 = .inl (g'.ac 2, e.2, .inl fun j => Int32.ofInt (f2 j)) := fun g' => by unfold x_E; rw [if_neg (by omega), if_neg (by omega), if_pos z]
      exact (hE (x_g2 g)).trans (hE g).symm
    · have hE : ∀ g' : xG, x_E g' e f2 = .inl (g'.ac 3, e.2, .inr (.inr (.inr (.inr fun _ => none)))) := fun g' => by
        unfold x_E
        rw [if_neg (by omega), if_neg (by omega), if_neg (by omega), if_pos z]
        have e3 : (fun j => x_ro g' (f2 j).toNat) = fun _ => none := funext fun j => by rw [b j]; rfl
        rw [e3]
      exact (hE (x_g2 g)).trans (hE g).symm
end SW
theorem lw_C1 : ∀ k, k < 79 → (zK.take 79).getD k (0, 0) = (zK1.take 83).getD (lw_s1 k) (0, 0) := by decide +kernel
theorem lw_C2 : ∀ k, k < 79 → 10 ≤ ((zK.take 79).getD k (0, 0)).1 → kwN (k + 16) kwTh = true ∧ kwN (lw_s1 k + 16) kwT1 = true := by decide +kernel
theorem lw_C3 : ∀ k, k < 79 → ((zK.take 79).getD k (0, 0)).1 < 10 → ∀ j, j < ((zK.take 79).getD k (0, 0)).2 → lw_rel (x_tc ((zK.take 79).getD k (0, 0)).1 j) (kwF kwT1 (lw_s1 k + 16) j) (kwF kwTh (k + 16) j) = true := by decide +kernel
theorem lw_C4 : ∀ k, k < 79 → (((zK.take 79).getD k (0, 0)).1 < 10 → ((zK.take 79).getD k (0, 0)).2 = (x_ft.getD ((zK.take 79).getD k (0, 0)).1 []).length) ∧ ((zK.take 79).getD k (0, 0)).1 < 14 ∧ ((zK.take 79).getD k (0, 0)).2 < 1000000 := by decide +kernel
def lw_okv (t : Nat) (v : Int) : Bool := if t = 0 then decide (x32 v = v) else if t = 3 then decide (v = 0) || decide (v = 1) else if t = 1 then decide (x64 v = v) else true
theorem lw_okv_ok {t : Nat} {v : Int} (h : lw_okv t v = true) : (t = 0 → x32 v = v) ∧ (t = 3 → v = 0 ∨ v = 1) ∧ (t = 1 → x64 v = v) := by
  unfold lw_okv at h
  refine ⟨fun e => ?_, fun e => ?_, fun e => ?_⟩ <;> subst e
  · rw [if_pos rfl] at h
    exact of_decide_eq_true h
  · rw [if_neg (by decide), if_pos rfl] at h
    simpa only [Bool.or_eq_true, decide_eq_true_eq] using h
  · rw [if_neg (by decide), if_neg (by decide), if_pos rfl] at h
    exact of_decide_eq_true h
theorem lw_C5 : ∀ k, k < 79 → ((zK.take 79).getD k (0, 0)).1 < 10 → ∀ j, j < ((zK.take 79).getD k (0, 0)).2 → lw_okv (x_tc ((zK.take 79).getD k (0, 0)).1 j) (kwF kwTh (k + 16) j) = true := by decide +kernel
/-- the same heap, told by the codes from there on -/
theorem lw_R {g : xG} (h0 : g.sa 0 = 0) (h15 : g.sa 15 = g.b + 59) {H : Heap} (R : x_R g (zK1.take 83, kwF kwT1) H) : x_R (x_g2 g) (zK.take 79, kwF kwTh) H := by
  obtain ⟨⟨hz, -⟩, hP, -⟩ := R
  have l1 : (zK1.take 83).length = 83 := zKl1 83 (by decide)
  have l2 : (zK.take 79).length = 79 := zKl 79 (by decide)
  have hz : H.size = x_ad g ((zK1.take 83).length + 16) := hz
  refine ⟨⟨?_, Or.inr ?_⟩, ?_, ?_⟩
  · show H.size = x_ad (x_g2 g) ((zK.take 79).length + 16)
    rw [hz, l1, l2, lw_ad h0]
    rfl
  · show 59 ≤ (zK.take 79).length
    rw [l2]
    decide
  · intro k q hq
    unfold x_ws at hq
    rw [List.getElem?_map] at hq
    have l3 : (List.range (zK.take 79, kwF kwTh).1.length) = List.range 79 := by
      show List.range (zK.take 79).length = List.range 79
      rw [l2]
    rw [l3] at hq
    by_cases hk : k < 79
    · rw [List.getElem?_range hk] at hq
      simp only [Option.map_some, Option.some.injEq] at hq
      have h3 : (x_ws g (zK1.take 83, kwF kwT1))[lw_s1 k]? = some q := by
        unfold x_ws
        have l4 : (List.range (zK1.take 83, kwF kwT1).1.length) = List.range 83 := by
          show List.range (zK1.take 83).length = List.range 83
          rw [l1]
        rw [List.getElem?_map, l4, List.getElem?_range (by unfold lw_s1; split <;> omega)]
        simp only [Option.map_some]
        rw [← hq]
        refine congrArg some (Prod.ext ?_ ?_)
        · exact (lw_ad h0 k).symm
        · show x_E g ((zK1.take 83).getD (lw_s1 k) (0, 0)) (kwF kwT1 (lw_s1 k + 16)) = x_E (x_g2 g) ((zK.take 79).getD k (0, 0)) (kwF kwTh (k + 16))
          rw [← lw_C1 k hk]
          refine (lw_E h0 h15 (lw_C4 k hk).2.1 (fun z => ?_) (lw_C3 k hk)).symm
          obtain ⟨y1, y2⟩ := lw_C2 k hk z
          exact ⟨fun j => kwN_0 y2, fun j => kwN_0 y1⟩
      exact hP _ _ h3
    · rw [List.getElem?_eq_none (by rw [List.length_range]; omega)] at hq
      cases hq
  · intro k e hk
    have hk : (zK.take 79)[k]? = some e := hk
    have k1 : k < 79 := by
      have := (List.getElem?_eq_some_iff.mp hk).1
      rw [l2] at this
      exact this
    have e1 : (zK.take 79).getD k (0, 0) = e := by rw [List.getD_eq_getElem?_getD, hk]; rfl
    have c4 := lw_C4 k k1
    have c5 := lw_C5 k k1
    have c2 := lw_C2 k k1
    rw [e1] at c4 c5 c2
    refine ⟨c4.1, c4.2.1, c4.2.2, fun j hj => ?_⟩
    by_cases h : e.1 < 10
    · exact lw_okv_ok (c5 h j hj)
    · have z : kwF kwTh (k + 16) j = 0 := kwN_0 (c2 (by omega)).1
      show (x_tc e.1 j = 0 → x32 (kwF kwTh (k + 16) j) = kwF kwTh (k + 16) j) ∧ (x_tc e.1 j = 3 → kwF kwTh (k + 16) j = 0 ∨ kwF kwTh (k + 16) j = 1) ∧ (x_tc e.1 j = 1 → x64 (kwF kwTh (k + 16) j) = kwF kwTh (k + 16) j)
      rw [z]
      exact ⟨fun _ => xn_ok0, fun _ => Or.inl rfl, fun _ => xn_ok0L⟩
/-- the law goes over to the codes from there on -/
theorem lw_switch {g : xG} (h0 : g.sa 0 = 0) (h15 : g.sa 15 = g.b + 59) {D k n pc : Nat} {Q : Int → xH → Prop} (kk : xJ (x_g2 g) D 247 k n pc [xr 1, xr 16, xu, xu] [] (zK.take 79, kwF kwTh) (x_qi Q)) : xJ g D 247 k n pc [xr 1, xr 16, xu, xu] [] (zK1.take 83, kwF kwT1) (x_qi Q) := by
  intro p e s m args below meth c H locs la C R S hl ol os hk hn
  have hl2 : lv_has la (x_ml 247) (x_lv (x_g2 g) 0 [xr 1, xr 16, xu, xu]) := hl
  have K := kk p e s m args below meth c H locs la ⟨C.1, C.2.1, C.2.2.1, C.2.2.2.1, C.2.2.2.2.1, C.2.2.2.2.2.1, C.2.2.2.2.2.2.1, C.2.2.2.2.2.2.2.1, x_g2_U C.2.2.2.2.2.2.2.2⟩ (lw_R h0 h15 R) S hl2 ol os hk hn
  intro T hT X
  obtain ⟨t, b1, o, b2, b3, ⟨⟨r, h, c1, c2, c3, c5⟩, c4⟩, c6⟩ := K T hT X
  refine ⟨t, b1, o, b2, b3, ⟨⟨r, h, ?_, c2, fun z => absurd rfl z, c5⟩, c4⟩, c6⟩
  rcases r with x | x | x | x
  · exact c1
  · exact c2.elim
  · exact c2.elim
  · exact c2.elim
