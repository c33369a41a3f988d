/-! image, back -/
section CP
variable {g : xG} {D M k n pc : Nat} {ls st : List xV} {h : xH}
theorem xj_aastoreN {Q : xV → xH → Prop} {r N : Nat} {i : Int} (hd : decode (x_cd M) pc = .ok (.aastore, 1)) (hr : x_is h r 13 N) (h0 : 0 ≤ i) (h1 : i < N) (kk : xJ g D M k n (pc + 1) ls st (h.1, x_up h.2 r i.toNat 0) Q) : xJ g D M k n pc ls (xr 0 :: xi i :: xr r :: st) h Q := by
  intro p e s m args below meth c0 H locs la C R S hl ol os hk hn
  have hi : x32 i = i := x_okh (x_okt os)
  have he := x_ws_at (g := g) hr
  rw [x_E_q] at he
  rw [List.map_cons, List.map_cons, List.map_cons, x_ne0 hr]
  have hin := xn_in hi h0 h1
  have hK := C.2.2.2.2.2.2.2.2.1
  have hat : H[x_ad g r]? = some (vp_cell (g.ac 3) (N, .inr (.inr (.inr (.inr fun j => x_ro g (h.2 r j).toNat))))) := R.2.1 _ _ he
  refine va_WaastN (C := "LinenBoard$Act") C.1 C.2.1 hat ((hK.2 3 _ rfl).1 N (fun j => va_rf (x_ro g (h.2 r j).toNat))) (fun q => by cases q) (by show ¬ (_ ∨ (arrV _ _ _).slots.size ≤ _); rw [arrV_size]; exact hin) rfl rfl hd fun H1 e1 e2 e3 => ?_
  refine kk p e s m args below meth c0 H1 _ la C ⟨by rw [e2]; exact R.1, ?_, ?_⟩ (S.put e2 e3 (x_inA hr)) hl ol (x_okt (x_okt (x_okt os))) hk hn
  · refine x_P_put R.2.1 hr ?_ e3 x_upN
    show H1[x_ad g r]? = some (vp_cell _ _)
    rw [e1, vp_cell_q, vp_cell_q, arrV_store]
    congr 2
    funext q
    rw [xn_clamp hi]
    unfold updV x_up
    by_cases hq : q = i.toNat
    · simp [hq, va_rf, x_ro]
    · simp [hq]
  · exact x_ok_up R.2.2 hr (fun z => by cases z) (fun z => by cases z) (fun z => by cases z)
end CP
def x_bcp1 : List zI := [(0, (.iload_n 2, 1, (2, 0, 0, 0))), (0, (.bipush 10, 2, (0, 0, 0, 0))), (0, (.if_icmp .ge 39, 3, (176, 0, 0, 0))), (0, (.iload_n 2, 1, (2, 0, 0, 0))), (0, (.aload_n 0, 1, (0, 0, 0, 0))), (0, (.getfield 55, 3, (2, 12, 19, 2))), (0, (.arraylength, 1, (0, 13, 0, 0))), (0, (.if_icmp .ge 30, 3, (176, 0, 0, 0))), (0, (.iload_n 2, 1, (2, 0, 0, 0))), (0, (.aload_n 1, 1, (1, 0, 0, 0))), (0, (.getfield 55, 3, (2, 12, 19, 2))), (0, (.arraylength, 1, (0, 13, 0, 0))), (0, (.if_icmp .ge 21, 3, (176, 0, 0, 0))), (0, (.aload_n 0, 1, (0, 0, 0, 0))), (0, (.getfield 55, 3, (2, 12, 19, 2))), (0, (.iload_n 2, 1, (2, 0, 0, 0))), (0, (.aload_n 1, 1, (1, 0, 0, 0))), (0, (.getfield 55, 3, (2, 12, 19, 2))), (0, (.iload_n 2, 1, (2, 0, 0, 0))), (0, (.aaload, 1, (0, 0, 0, 0)))]
def x_bcp2 : List zI := [(0, (.iinc 2 1, 3, (2, 0, 0, 0))), (0, (.goto (-39), 3, (134, 0, 0, 0)))]
theorem x_kcp : ([(134, x_bcp1), (170, x_bcp2)] : List (Nat × List zI)).all (fun q => x_okb 27 q.1 (q.2.map fun q => q.2)) = true := by decide +kernel
theorem x_dcp : decode (x_cd 27) 169 = .ok (.aastore, 1) := by decide +kernel
section CP2
variable {g : xG} {D : Nat} {h : xH} {Q : xH → Prop}
theorem zcp_134 {r0 r1 : Nat} {a2 : Int} (H : ((10 : Int) ≤ a2 → zJ g (D + 1) 27 0 0 176 [xr r0, xr r1, xi a2] [] h (x_qv Q)) ∧ (a2 < (10 : Int) → x_is h r0 2 19 ∧ (∃ N1 : Nat, x_is h ((h.2 r0 12).toNat) 13 N1 ∧ (((N1 : Int)) ≤ a2 → zJ g (D + 1) 27 0 0 176 [xr r0, xr r1, xi a2] [] h (x_qv Q)) ∧ (a2 < ((N1 : Int)) → x_is h r1 2 19 ∧ (∃ N2 : Nat, x_is h ((h.2 r1 12).toNat) 13 N2 ∧ (((N2 : Int)) ≤ a2 → zJ g (D + 1) 27 0 0 176 [xr r0, xr r1, xi a2] [] h (x_qv Q)) ∧ (a2 < ((N2 : Int)) → x_is h r0 2 19 ∧ x_is h r1 2 19 ∧ (∃ N : Nat, x_is h ((h.2 r1 12).toNat) 13 N ∧ 0 ≤ a2 ∧ a2 < N) ∧ zJ g (D + 1) 27 0 0 169 [xr r0, xr r1, xi a2] [xr ((h.2 ((h.2 r1 12).toNat) a2.toNat).toNat), xi a2, xr ((h.2 r0 12).toNat)] h (x_qv Q))))))) : zJ g (D + 1) 27 0 0 134 [xr r0, xr r1, xi a2] [] h (x_qv Q) :=
  zj_mask [true, true, true] (z_blk (M := 27) (by decide) x_nX2_copy x_bcp1 (List.all_eq_true.mp x_kcp (134, x_bcp1) (List.mem_of_getElem? (i := 0) rfl)) H)
theorem zcp_170 {r0 r1 : Nat} {a2 : Int} (H : zJ g (D + 1) 27 0 0 134 [xr r0, xr r1, xi (x32 (a2 + 1))] [] h (x_qv Q)) : zJ g (D + 1) 27 0 0 170 [xr r0, xr r1, xi a2] [] h (x_qv Q) :=
  zj_mask [true, true, true] (z_blk (M := 27) (by decide) x_nX2_copy x_bcp2 (List.all_eq_true.mp x_kcp (170, x_bcp2) (List.mem_of_getElem? (i := 1) rfl)) H)
theorem zcp_169 {r0 r1 r v N : Nat} {a2 : Int} (hr : x_is h r 13 N) (h0 : 0 ≤ a2) (h1 : a2 < N) (hv : v = 0 ∨ ∃ N2, x_is h v 0 N2) (kk : zJ g (D + 1) 27 0 0 170 [xr r0, xr r1, xi a2] [] (h.1, x_up h.2 r a2.toNat (v : Int)) (x_qv Q)) : zJ g (D + 1) 27 0 0 169 [xr r0, xr r1, xi a2] [xr v, xi a2, xr r] h (x_qv Q) := by
  intro hs
  have hz : zSh (h.1, x_up h.2 r a2.toNat (v : Int)) := z_up hs hr (Or.inl (by decide))
  rcases hv with e | ⟨N2, e⟩
  · subst e
    exact xj_aastoreN x_dcp hr h0 h1 (kk hz)
  · exact xj_aastore x_dcp hr h0 h1 (Or.inr e) (by have := e.1; omega) (kk hz)
/-- one table is copied -/
theorem l_rcopy {r0 q0 r1 q1 mo wi u : Nat} (h01 : q0 ≠ q1) (hrr : r0 ≠ r1) (hu : u ≤ mo * wi) (e1 : r0 ≠ q0) (e2 : r0 ≠ q1) (e3 : r1 ≠ q0) : ∀ (m j : Nat) {h : xH}, j + m = u → pR h r0 q0 mo wi → pR h r1 q1 mo wi → (∀ h', h'.1 = h.1 → (∀ r i, ¬ (r = q0 ∧ j ≤ i ∧ i < u) → h'.2 r i = h.2 r i) → (∀ i, j ≤ i → i < u → h'.2 q0 i = h.2 q1 i) → Q h') → zJ g (D + 1) 59 0 0 36 [xr r0, xr r1, xi u, xi j] [] h (x_qv Q)
  | 0, j, h, e, R0, R1, hQ => zX5_copy_36 ⟨fun _ => zX5_copy_59 (hQ h rfl (fun _ _ _ => rfl) (fun i a b => by omega)), fun z => by omega⟩
  | m + 1, j, h, e, R0, R1, hQ => by
    have b0 := R0.2.2.2.2.2
    have s0 : (h.2 r0 2).toNat = q0 := by rw [R0.2.2.2.2.1]; omega
    have s1 : (h.2 r1 2).toNat = q1 := by rw [R1.2.2.2.2.1]; omega
    refine zX5_copy_36 ⟨fun z => by omega, fun z => ⟨R0.1, R1.1, ?_⟩⟩
    rw [s0, s1]
    refine ⟨⟨mo * wi, R1.2.1, by omega, by omega⟩, ⟨mo * wi, R0.2.1, by omega, by omega⟩, ?_⟩
    rw [x32_id (by omega) (by omega), show ((j : Int)).toNat = j by omega, show (j : Int) + 1 = ((j + 1 : Nat) : Int) by omega]
    refine l_rcopy h01 hrr hu e1 e2 e3 m (j + 1) (by omega) (pR_up (r' := 0) (j := 0) R0 (fun i hi => by rw [x_up_r e1])) (pR_up (r' := 0) (j := 0) R1 (fun i hi => by rw [x_up_r e3])) (fun h' k1 k2 k3 => hQ h' k1 (fun r i hri => ?_) (fun i i1 i2 => ?_))
    · rw [k2 r i (by omega)]
      (try dsimp only)
      by_cases er : r = q0
      · subst er; exact x_up_j (by omega)
      · rw [x_up_r er]
    · by_cases ei : i = j
      · subst ei
        rw [k2 q0 i (by omega)]
        (try dsimp only)
        exact x_up_eq
      · rw [k3 i (by omega) i2]
        (try dsimp only)
        rw [x_up_r (fun z => h01 z.symm)]
theorem s_rcopy {r0 q0 r1 q1 mo wi n : Nat} (h01 : q0 ≠ q1) (hrr : r0 ≠ r1) (e1 : r0 ≠ q0) (e2 : r0 ≠ q1) (e3 : r1 ≠ q0) (e4 : r1 ≠ q1) (R0 : pR h r0 q0 mo wi) (R1 : pR h r1 q1 mo wi) (hn : h.2 r1 3 = (n : Int)) (hle : n ≤ mo) (hQ : ∀ h', h'.1 = h.1 → (∀ r, r ≠ r0 → r ≠ q0 → h'.2 r = h.2 r) → (∀ i, i ≠ 3 → h'.2 r0 i = h.2 r0 i) → h'.2 r0 3 = (n : Int) → (∀ i, i < n * wi → h'.2 q0 i = h.2 q1 i) → Q h') : zSv g (D + 1) mX5_copy [xr r0, xr r1] h Q := by
  have b0 := R0.2.2.2.2.2
  have hle2 : n * wi ≤ mo * wi := Nat.mul_le_mul_right wi hle
  have u2 : x_up h.2 r0 3 (h.2 r1 3) r0 2 = (q0 : Int) := by rw [x_up_j (by decide)]; exact R0.2.2.2.2.1
  have v2 : x_up h.2 r0 3 (h.2 r1 3) r1 2 = (q1 : Int) := by rw [x_up_r (fun z => hrr z.symm)]; exact R1.2.2.2.2.1
  have u1 : x_up h.2 r0 3 (h.2 r1 3) r0 1 = (wi : Int) := by rw [x_up_j (by decide)]; exact R0.2.2.2.1
  have w3 : ((n * wi : Nat) : Int) = (n : Int) * wi := by simp
  refine eX5_copy (zX5_copy_0 ⟨R1.1, R0.1, R0.1, R0.1, R0.1, ?_⟩)
  rw [u2, v2, u1, x_up_eq, hn, show ((q0 : Nat) : Int).toNat = q0 by omega, show ((q1 : Nat) : Int).toNat = q1 by omega]
  refine ⟨mo * wi, R0.2.1, R1.1, mo * wi, R1.2.1, ?_⟩
  rw [x32_id (by omega) (by omega), show min ((n : Int) * wi) (min ((mo * wi : Nat) : Int) ((mo * wi : Nat) : Int)) = ((n * wi : Nat) : Int) by omega]
  refine l_rcopy h01 hrr hle2 e1 e2 e3 (n * wi) 0 (by omega) (pR_up (r' := 0) (j := 0) R0 (fun i hi => by rw [x_up_j (by omega)])) (pR_up (r' := 0) (j := 0) R1 (fun i hi => by rw [x_up_r (fun z => hrr z.symm)])) (fun h' k1 k2 k3 => hQ h' k1 (fun r ra rb => ?_) (fun i hi => ?_) ?_ (fun i hi => ?_))
  · funext i
    rw [k2 r i (fun z => rb z.1)]
    (try dsimp only)
    rw [x_up_r ra]
  · rw [k2 r0 i (fun z => e1 z.1)]
    (try dsimp only)
    rw [x_up_j hi]
  · rw [k2 r0 3 (fun z => e1 z.1)]
    (try dsimp only)
    rw [x_up_eq]
  · rw [k3 i (by omega) hi]
    (try dsimp only)
    rw [x_up_r (fun z => e2 z.symm)]
end CP2
/-- what a ledger holds -/
def lE (h' : xH) (L0 : Nat) (h : xH) (L1 : Nat) : Prop := (∀ t, t < 12 → h'.2 (L0 + 1 + 2 * t) 3 = h.2 (L1 + 1 + 2 * t) 3 ∧ ∀ i : Nat, (i : Int) < h.2 (L1 + 1 + 2 * t) 3 * t_w t → h'.2 (L0 + 2 + 2 * t) i = h.2 (L1 + 2 + 2 * t) i) ∧ (∀ i, i < 10 → h'.2 (L0 + 25) i = h.2 (L1 + 25) i) ∧ ∀ j, 13 ≤ j → j ≤ 18 → h'.2 L0 j = h.2 L1 j
theorem pC_lE {h h' : xH} {L0 L1 : Nat} {A E : Nat → Int} (m : pM A) (h1 : h'.1 = h.1) (hC : ∀ r, 111 ≤ r → h'.2 r = h.2 r) (e : lE h' L0 h L1) (p : pC h L1 A E) : pC h' L0 A E := by
  obtain ⟨e1, e2, e3⟩ := e
  obtain ⟨p1, p2, p3, p4, p5, p6⟩ := p
  have z := pM_z m
  have sz := m.1.2.2.2.2.2.2
  refine ⟨fun t ht h9 => ?_, ?_, ?_, ?_, ?_, ?_⟩
  · obtain ⟨c1, c2⟩ := p1 t ht h9
    refine ⟨by rw [(e1 t ht).1]; exact c1, fun i hi q hq => ?_⟩
    have hpc := t_pc t ht q hq
    rw [(e1 t ht).2 _ ?_]
    · exact c2 i hi q hq
    · rw [c1]
      have m1 : ((i : Int) + 1) * (t_w t : Int) ≤ A (t_z t) * (t_w t : Int) := Int.mul_le_mul_of_nonneg_right (by omega) (by omega)
      have m2 : ((i : Int) + 1) * (t_w t : Int) = (i : Int) * t_w t + t_w t := by rw [Int.add_mul, Int.one_mul]
      have m3 : ((i * t_w t + q.1 : Nat) : Int) = (i : Int) * t_w t + q.1 := by simp
      have := hpc.1
      omega
  · obtain ⟨q1, q2, q3, q4, q5, q6⟩ := p2
    exact ⟨by rw [e3 13 (by decide) (by decide)]; exact q1, by rw [e3 14 (by decide) (by decide)]; exact q2, by rw [e3 15 (by decide) (by decide)]; exact q3, by rw [e3 16 (by decide) (by decide)]; exact q4, by rw [e3 17 (by decide) (by decide)]; exact q5, by rw [e3 18 (by decide) (by decide)]; exact q6⟩
  · intro i hi
    have c1 : h.2 (L1 + 15) 3 = A 9 := (p1 7 (by decide) (by decide)).1
    have b : ∀ i : Nat, (i : Int) < h.2 (L1 + 15) 3 * 2 → h'.2 (L0 + 16) i = h.2 (L1 + 16) i := (e1 7 (by decide)).2
    rw [b (i * 2) (by rw [c1]; omega)]
    exact p3 i hi
  · intro i hi k hk
    have c1 : h.2 (L1 + 23) 3 = A 12 := (p1 11 (by decide) (by decide)).1
    have b : ∀ i : Nat, (i : Int) < h.2 (L1 + 23) 3 * 83 → h'.2 (L0 + 24) i = h.2 (L1 + 24) i := (e1 11 (by decide)).2
    obtain ⟨r1, r2, -⟩ := m.2.2 11 (by decide) (by decide) i hi
    rw [b (i * 83 + 3 + k) (by rw [c1]; omega), b (i * 83 + 43 + k) (by rw [c1]; omega)]
    exact p4 i hi k hk
  · obtain ⟨q, q1, q2, q3, q4, q5⟩ := p5
    have b0 : h'.2 (L0 + 19) 3 = h.2 (L1 + 19) 3 := (e1 9 (by decide)).1
    have b : ∀ i : Nat, (i : Int) < h.2 (L1 + 19) 3 * 6 → h'.2 (L0 + 20) i = h.2 (L1 + 20) i := (e1 9 (by decide)).2
    have bb : ∀ j c : Nat, j < q → c < 6 → h'.2 (L0 + 20) (j * 6 + c) = h.2 (L1 + 20) (j * 6 + c) := fun j c hj hc => b _ (by rw [q1]; omega)
    refine ⟨q, by rw [b0]; exact q1, q2, fun j hj c hc => ?_, ?_, fun p hp => ?_⟩
    · rw [show j * 6 + 3 + c = j * 6 + (3 + c) by omega, bb j (3 + c) hj (by omega), show j * 6 + (3 + c) = j * 6 + 3 + c by omega]; exact q3 j hj c hc
    · rw [q4]
      refine sg_congr (fun j hj => ?_)
      (try dsimp only)
      rw [bb j 3 hj (by decide), bb j 4 hj (by decide), bb j 5 hj (by decide)]
    · rw [q5 p hp]
      refine sg_congr (fun j hj => ?_)
      (try dsimp only)
      have b00 : h'.2 (L0 + 20) (j * 6) = h.2 (L1 + 20) (j * 6) := bb j 0 hj (by decide)
      rw [b00, bb j 1 hj (by decide), bb j 2 hj (by decide), bb j 3 hj (by decide), bb j 4 hj (by decide), bb j 5 hj (by decide)]
  · refine ⟨fun i hi => ?_, fun i hi => by rw [e2 i hi, h1]; exact p6.2 i hi⟩
    obtain ⟨r, a1, a2, a3⟩ := p6.1 i hi
    have := m.1.2.1
    refine ⟨r, by rw [e2 i (by omega)]; exact a1, a2, ?_⟩
    rw [h1, hC r a2, hC (r + 1) (by omega), hC (r + 2) (by omega), hC (r + 3) (by omega)]
    exact a3
/-- the reference's arrays count as far as they reach -/
theorem pM_13700 {A A' : Nat → Int} (m : pM A) (E : ∀ k, k < 13700 → A' k = A k) : pM A' := by
  obtain ⟨⟨s0, s6, s14, s15, s16, s17, sz⟩, ⟨b1, b2, b3⟩, rk⟩ := m
  have zt : ∀ t, t < 12 → t_z t < 20 ∧ t_b t + t_s t * t_m t ≤ 13700 := by
    intro t ht
    rcases (show t = 0 ∨ t = 1 ∨ t = 2 ∨ t = 3 ∨ t = 4 ∨ t = 5 ∨ t = 6 ∨ t = 7 ∨ t = 8 ∨ t = 9 ∨ t = 10 ∨ t = 11 by omega) with e | e | e | e | e | e | e | e | e | e | e | e <;> subst e <;> decide
  refine ⟨⟨by rw [E 0 (by decide)]; exact s0, by rw [E 6 (by decide)]; exact s6, by rw [E 14 (by decide)]; exact s14, by rw [E 15 (by decide)]; exact s15, by rw [E 16 (by decide)]; exact s16, by rw [E 17 (by decide)]; exact s17, fun t ht h9 => by rw [E _ (by have := zt t ht; omega)]; exact sz t ht h9⟩, ⟨fun j a b => ?_, fun j a b => ?_, fun j a b => ?_⟩, fun t ht h9 j hj => ?_⟩
  · rw [E 2 (by decide)] at a; rw [E _ (by omega)]; exact b1 j a b
  · rw [E 8 (by decide)] at a; rw [E _ (by omega)]; exact b2 j a b
  · rw [E 12 (by decide)] at a; rw [E _ (by omega), E _ (by omega)]; exact b3 j a b
  · rw [E _ (by have := zt t ht; omega)] at hj
    have him : j < t_m t := by have := sz t ht h9; omega
    have hm2 : t_s t * j + t_s t ≤ t_s t * t_m t := by
      have := Nat.mul_le_mul_left (t_s t) (show j + 1 ≤ t_m t by omega)
      rw [Nat.mul_add, Nat.mul_one] at this
      exact this
    exact rok_mono ht (fun k k1 k2 => E k (by have := zt t ht; omega)) (by rw [E 0 (by decide)]; exact Int.le_refl _) (by rw [E 1 (by decide)]; exact Int.le_refl _) (by rw [E 2 (by decide)]; exact Int.le_refl _) (by rw [E 3 (by decide)]; exact Int.le_refl _) (by rw [E 4 (by decide)]; exact Int.le_refl _) (by rw [E 6 (by decide)]; exact Int.le_refl _) (by rw [E 8 (by decide)]; exact Int.le_refl _) (rk t ht h9 j hj)
theorem pC_13700 {h : xH} {L : Nat} {A A' E E' : Nat → Int} (m : pM A) (Ea : ∀ k, k < 13700 → A' k = A k) (Ee : ∀ k, k < 31 → E' k = E k) (p : pC h L A E) : pC h L A' E' := by
  obtain ⟨p1, p2, p3, p4, p5, p6⟩ := p
  have z := pM_z m
  have sz := m.1.2.2.2.2.2.2
  have s6 := m.1.2.1
  have zt : ∀ t, t < 12 → t_z t < 20 ∧ t_b t + t_s t * t_m t ≤ 13700 := by
    intro t ht
    rcases (show t = 0 ∨ t = 1 ∨ t = 2 ∨ t = 3 ∨ t = 4 ∨ t = 5 ∨ t = 6 ∨ t = 7 ∨ t = 8 ∨ t = 9 ∨ t = 10 ∨ t = 11 by omega) with e | e | e | e | e | e | e | e | e | e | e | e <;> subst e <;> decide
  refine ⟨fun t ht h9 => ?_, ?_, ?_, ?_, ?_, pActs_frame rfl (fun _ => rfl) (fun _ _ => rfl) (fun k k1 k2 => Ea k (by omega)) (Ea 6 (by decide)) s6.2 p6⟩
  · exact cT_frame (p1 t ht) ht rfl (fun _ => rfl) (fun k k1 k2 => Ea k (by have := zt t ht; omega)) (Ea _ (by have := zt t ht; omega)) (sz t ht h9).2 h9
  · unfold pSc
    rw [Ea 6 (by decide), Ea 0 (by decide), Ea 14 (by decide), Ea 15 (by decide), Ea 16 (by decide), Ea 17 (by decide)]
    exact p2
  · intro i hi
    rw [Ea 9 (by decide)] at hi
    have r7 := look_r m hi
    have r6 := seal_r m (s := (A (11610 + 3 * i)).toNat) (by omega)
    rw [Ea (11610 + 3 * i) (by omega), Ea (11130 + 6 * (A (11610 + 3 * i)).toNat) (by omega), Ea (150 + 20 * (A (11130 + 6 * (A (11610 + 3 * i)).toNat)).toNat) (by omega)]
    exact p3 i hi
  · intro i hi k hk
    rw [Ea 12 (by decide)] at hi
    rw [Ea (12651 + 100 * i) (by omega)] at hk
    obtain ⟨r1, r2, r3, r4, -⟩ := m.2.2 11 (by decide) (by decide) i hi
    have r6 := r4 k hk
    rw [Ea (12653 + 100 * i + k) (by omega), Ea (12693 + 100 * i + (A (12653 + 100 * i + k)).toNat) (by omega)]
    exact p4 i hi k hk
  · obtain ⟨q, q1, q2, q3, q4, q5⟩ := p5
    refine ⟨q, q1, ?_, q3, by rw [Ee 0 (by decide)]; exact q4, fun p hp => by rw [Ee (1 + p) (by omega)]; exact q5 p hp⟩
    have ef : (fun i => if i < 80 then A' (11134 + 6 * i) else 0) = (fun i => if i < 80 then A (11134 + 6 * i) else 0) := by
      funext k
      by_cases hk : k < 80
      · rw [if_pos hk, if_pos hk, Ea _ (by omega)]
      · rw [if_neg hk, if_neg hk]
    rw [ef, Ea 8 (by decide)]
    exact q2
theorem zSh_of {h h' : xH} (hs : zSh h) (h1 : h'.1 = h.1) (hC : ∀ r j v, z_pt r j = some v → h'.2 r j = h.2 r j) : zSh h' := ⟨by rw [h1]; exact hs.1, fun r j v hv => by rw [hC r j v hv]; exact hs.2 r j v hv⟩
section CP3
variable {g : xG} {D : Nat} {h : xH} {Q : xH → Prop}
/-- a ledger is copied: L0 from L1 -/
theorem s_lcopy {L0 L1 : Nat} (hL : (L0 = 17 ∧ L1 = 48) ∨ (L0 = 48 ∧ L1 = 17)) (hsz : ∀ t, t < 12 → ∃ n : Nat, h.2 (L1 + 1 + 2 * t) 3 = (n : Int) ∧ n ≤ t_m t) (ha : ∀ i : Nat, i < 10 → h.2 (L1 + 25) i = 0 ∨ ∃ r : Nat, h.2 (L1 + 25) i = (r : Int) ∧ ∃ N, x_is h r 0 N) (hQ : ∀ h', h'.1 = h.1 → (∀ r, ¬ (L0 ≤ r ∧ r ≤ L0 + 25) → h'.2 r = h.2 r) → lE h' L0 h L1 → Q h') : zSv g (D + 2) mX2_copy [xr L0, xr L1] h Q := by
  -- the tables
  have T : ∀ (t : Nat), t < 12 → ∀ {h' : xH} {Q2 : xH → Prop}, h'.1 = h.1 → (∀ r, ¬ (L0 ≤ r ∧ r ≤ L0 + 25) → h'.2 r = h.2 r) → (∀ h2, h2.1 = h.1 → (∀ r, r ≠ L0 + 1 + 2 * t → r ≠ L0 + 2 + 2 * t → h2.2 r = h'.2 r) → (h2.2 (L0 + 1 + 2 * t) 3 = h.2 (L1 + 1 + 2 * t) 3 ∧ ∀ i : Nat, (i : Int) < h.2 (L1 + 1 + 2 * t) 3 * t_w t → h2.2 (L0 + 2 + 2 * t) i = h.2 (L1 + 2 + 2 * t) i) → zSh h2 → Q2 h2) → zSv g (D + 1) mX5_copy [xr (L0 + 1 + 2 * t), xr (L1 + 1 + 2 * t)] h' Q2 := by
    intro t ht h' Q2 g1 g2 kk
    refine zS_sh (fun hs' => ?_)
    obtain ⟨n, n1, n2⟩ := hsz t ht
    have RR : pR h' (L0 + 1 + 2 * t) (L0 + 2 + 2 * t) (t_m t) (t_w t) ∧ pR h' (L1 + 1 + 2 * t) (L1 + 2 + 2 * t) (t_m t) (t_w t) := by
      rcases hL with ⟨e1, e2⟩ | ⟨e1, e2⟩ <;> subst e1 <;> subst e2 <;>
      rcases (show t = 0 ∨ t = 1 ∨ t = 2 ∨ t = 3 ∨ t = 4 ∨ t = 5 ∨ t = 6 ∨ t = 7 ∨ t = 8 ∨ t = 9 ∨ t = 10 ∨ t = 11 by omega) with e | e | e | e | e | e | e | e | e | e | e | e <;> subst e <;>
      exact ⟨z_R hs' rfl rfl rfl rfl rfl (by decide), z_R hs' rfl rfl rfl rfl rfl (by decide)⟩
    refine s_rcopy (n := n) (by omega) (by omega) (by omega) (by omega) (by omega) (by omega) RR.1 RR.2 (by rw [g2 _ (by omega)]; exact n1) n2 (fun h2 k1 k2 k3 k4 k5 => kk h2 (k1.trans g1) k2 ⟨by rw [k4, n1], fun i hi => ?_⟩ (zSh_of hs' k1 (fun r j v hv => ?_)))
    rotate_left
    · have zp : z_pt (L0 + 1 + 2 * t) 3 = none ∧ zPr.getD (L0 + 2 + 2 * t - 16) [] = [] := by
        rcases hL with ⟨e1, e2⟩ | ⟨e1, e2⟩ <;> subst e1 <;> subst e2 <;>
        rcases (show t = 0 ∨ t = 1 ∨ t = 2 ∨ t = 3 ∨ t = 4 ∨ t = 5 ∨ t = 6 ∨ t = 7 ∨ t = 8 ∨ t = 9 ∨ t = 10 ∨ t = 11 by omega) with e | e | e | e | e | e | e | e | e | e | e | e <;> subst e <;> exact ⟨rfl, rfl⟩
      by_cases e0 : r = L0 + 1 + 2 * t
      · subst e0
        by_cases e3 : j = 3
        · subst e3; rw [zp.1] at hv; cases hv
        · exact k3 j e3
      · by_cases e1 : r = L0 + 2 + 2 * t
        · subst e1
          unfold z_pt at hv
          rw [zp.2] at hv; cases hv
        · rw [k2 r e0 e1]
    rw [n1] at hi
    have hi2 : i < n * t_w t := by
      have : ((n * t_w t : Nat) : Int) = (n : Int) * t_w t := by simp
      omega
    rw [k5 i hi2, g2 _ (by omega)]
  -- acts and scalars
  have isL : ∀ {h' : xH}, zSh h' → x_is h' L0 2 19 ∧ x_is h' L1 2 19 := fun hs' => by
    rcases hL with ⟨e1, e2⟩ | ⟨e1, e2⟩ <;> subst e1 <;> subst e2 <;> exact ⟨z_is hs' rfl, z_is hs' rfl⟩
  have isA : ∀ {h' : xH}, zSh h' → x_is h' (L0 + 25) 13 10 ∧ x_is h' (L1 + 25) 13 10 := fun hs' => by
    rcases hL with ⟨e1, e2⟩ | ⟨e1, e2⟩ <;> subst e1 <;> subst e2 <;> exact ⟨z_is hs' rfl, z_is hs' rfl⟩
  have pt : ∀ {h' : xH}, zSh h' → ∀ t, t < 13 → (h'.2 L0 t).toNat = (if t = 12 then L0 + 25 else L0 + 1 + 2 * t) ∧ (h'.2 L1 t).toNat = (if t = 12 then L1 + 25 else L1 + 1 + 2 * t) := by
    intro h' hs' t ht
    rcases hL with ⟨e1, e2⟩ | ⟨e1, e2⟩ <;> subst e1 <;> subst e2 <;>
    rcases (show t = 0 ∨ t = 1 ∨ t = 2 ∨ t = 3 ∨ t = 4 ∨ t = 5 ∨ t = 6 ∨ t = 7 ∨ t = 8 ∨ t = 9 ∨ t = 10 ∨ t = 11 ∨ t = 12 by omega) with e | e | e | e | e | e | e | e | e | e | e | e | e <;> subst e <;>
    exact ⟨by rw [hs'.2 _ _ _ rfl]; rfl, by rw [hs'.2 _ _ _ rfl]; rfl⟩
  have isR : ∀ {h' : xH}, zSh h' → ∀ t, t < 12 → x_is h' (L0 + 1 + 2 * t) 5 4 := by
    intro h' hs' t ht
    rcases hL with ⟨e1, e2⟩ | ⟨e1, e2⟩ <;> subst e1 <;> subst e2 <;>
    rcases (show t = 0 ∨ t = 1 ∨ t = 2 ∨ t = 3 ∨ t = 4 ∨ t = 5 ∨ t = 6 ∨ t = 7 ∨ t = 8 ∨ t = 9 ∨ t = 10 ∨ t = 11 by omega) with e | e | e | e | e | e | e | e | e | e | e | e <;> subst e <;>
    exact z_is hs' rfl
  -- the end
  have fin : ∀ {h' : xH} {w2 : xV}, h'.1 = h.1 → (∀ r, ¬ (L0 ≤ r ∧ r ≤ L0 + 25) → h'.2 r = h.2 r) → (∀ t, t < 12 → h'.2 (L0 + 1 + 2 * t) 3 = h.2 (L1 + 1 + 2 * t) 3 ∧ ∀ i : Nat, (i : Int) < h.2 (L1 + 1 + 2 * t) 3 * t_w t → h'.2 (L0 + 2 + 2 * t) i = h.2 (L1 + 2 + 2 * t) i) → (∀ i, i < 10 → h'.2 (L0 + 25) i = h.2 (L1 + 25) i) → zJ g (D + 2) 27 0 0 176 [xr L0, xr L1, w2] [] h' (x_qv Q) := by
    intro h' w2 f1 f2 f3 f4
    refine zJ_sh (fun hs' => zX2_copy_176 ?_)
    obtain ⟨i0, i1⟩ := isL hs'
    have ne : L1 ≠ L0 := by omega
    have e1 : ∀ j, h'.2 L1 j = h.2 L1 j := fun j => by rw [f2 L1 (by omega)]
    simp only [x_up_r ne]
    refine ⟨i1, i0, i1, i0, i1, i0, i1, i0, i1, i0, i1, i0, hQ _ f1 (fun r hr => ?_) ⟨fun t ht => ?_, fun i hi => ?_, fun j j1 j2 => ?_⟩⟩
    · (try dsimp only)
      have nr : r ≠ L0 := by omega
      rw [x_up_r nr, x_up_r nr, x_up_r nr, x_up_r nr, x_up_r nr, x_up_r nr]
      exact f2 r hr
    · (try dsimp only)
      have n1 : L0 + 1 + 2 * t ≠ L0 := by omega
      have n2 : L0 + 2 + 2 * t ≠ L0 := by omega
      simp only [x_up_r n1, x_up_r n2]
      exact f3 t ht
    · (try dsimp only)
      have n1 : L0 + 25 ≠ L0 := by omega
      simp only [x_up_r n1]
      exact f4 i hi
    · (try dsimp only)
      rw [x_up_k, x_up_k, x_up_k, x_up_k, x_up_k, x_up_k]
      rcases (show j = 13 ∨ j = 14 ∨ j = 15 ∨ j = 16 ∨ j = 17 ∨ j = 18 by omega) with e | e | e | e | e | e <;> subst e
      · exact e1 13
      · exact e1 14
      · exact e1 15
      · exact e1 16
      · exact e1 17
      · exact e1 18
  -- the loop over acts
  have LA : ∀ (m i : Nat) {h' : xH}, i + m = 10 → h'.1 = h.1 → (∀ r, ¬ (L0 ≤ r ∧ r ≤ L0 + 25) → h'.2 r = h.2 r) → (∀ t, t < 12 → h'.2 (L0 + 1 + 2 * t) 3 = h.2 (L1 + 1 + 2 * t) 3 ∧ ∀ i : Nat, (i : Int) < h.2 (L1 + 1 + 2 * t) 3 * t_w t → h'.2 (L0 + 2 + 2 * t) i = h.2 (L1 + 2 + 2 * t) i) → (∀ q, q < i → h'.2 (L0 + 25) q = h.2 (L1 + 25) q) → zJ g (D + 2) 27 0 0 134 [xr L0, xr L1, xi i] [] h' (x_qv Q) := by
    intro m
    induction m with
    | zero =>
      intro i h' e f1 f2 f3 f4
      have : i = 10 := by omega
      subst this
      exact zcp_134 ⟨fun _ => fin f1 f2 f3 f4, fun z => by omega⟩
    | succ m ih =>
      intro i h' e f1 f2 f3 f4
      refine zJ_sh (fun hs' => zcp_134 ⟨fun z => by omega, fun z => ?_⟩)
      obtain ⟨i0, i1⟩ := isL hs'
      obtain ⟨a0, a1⟩ := isA hs'
      have p12 := pt hs' 12 (by decide)
      rw [if_pos rfl, if_pos rfl] at p12
      rw [p12.1, p12.2]
      refine ⟨i0, 10, a0, fun q => by omega, fun q => ⟨i1, 10, a1, fun q2 => by omega, fun q2 => ⟨i0, i1, ⟨10, a1, by omega, by omega⟩, ?_⟩⟩⟩
      rw [show ((i : Int)).toNat = i by omega, f2 (L1 + 25) (by omega)]
      have e25 : (((h.2 (L1 + 25) i).toNat : Nat) : Int) = h.2 (L1 + 25) i := by
        rcases ha i (by omega) with q3 | ⟨r, q3, _⟩ <;> rw [q3] <;> omega
      refine zcp_169 a0 (by omega) (by omega) ?_ (zcp_170 ?_)
      · rcases ha i (by omega) with q3 | ⟨r, q3, N, q4⟩
        · left; rw [q3]; rfl
        · right; rw [q3]; exact ⟨N, by rw [show (((r : Nat) : Int)).toNat = r by omega]; exact ⟨q4.1, by rw [f1]; exact q4.2⟩⟩
      · rw [x32_id (by omega) (by omega), show ((i : Int)).toNat = i by omega, show (i : Int) + 1 = ((i + 1 : Nat) : Int) by omega, e25]
        refine ih (i + 1) (by omega) f1 (fun r hr => ?_) (fun t ht => ?_) (fun q hq => ?_)
        · (try dsimp only); rw [x_up_r (by omega)]; exact f2 r hr
        · (try dsimp only)
          have n1 : L0 + 1 + 2 * t ≠ L0 + 25 := by omega
          have n2 : L0 + 2 + 2 * t ≠ L0 + 25 := by omega
          simp only [x_up_r n1, x_up_r n2]
          exact f3 t ht
        · (try dsimp only)
          rw [x_up_k]
          by_cases eq : q = i
          · rw [if_pos eq, eq]
          · rw [if_neg eq]; exact f4 q (by omega)
  -- the twelve tables, one behind the other
  have step : ∀ (t : Nat), t < 12 → ∀ {h' : xH} {Q2 : xH → Prop}, h'.1 = h.1 → (∀ r, ¬ (L0 ≤ r ∧ r ≤ L0 + 25) → h'.2 r = h.2 r) → (∀ u, u < t → h'.2 (L0 + 1 + 2 * u) 3 = h.2 (L1 + 1 + 2 * u) 3 ∧ ∀ i : Nat, (i : Int) < h.2 (L1 + 1 + 2 * u) 3 * t_w u → h'.2 (L0 + 2 + 2 * u) i = h.2 (L1 + 2 + 2 * u) i) → (∀ h2, h2.1 = h.1 → (∀ r, ¬ (L0 ≤ r ∧ r ≤ L0 + 25) → h2.2 r = h.2 r) → (∀ u, u < t + 1 → h2.2 (L0 + 1 + 2 * u) 3 = h.2 (L1 + 1 + 2 * u) 3 ∧ ∀ i : Nat, (i : Int) < h.2 (L1 + 1 + 2 * u) 3 * t_w u → h2.2 (L0 + 2 + 2 * u) i = h.2 (L1 + 2 + 2 * u) i) → zSh h2 → Q2 h2) → zSh h' → x_is h' L0 2 19 ∧ x_is h' L1 2 19 ∧ x_is h' ((h'.2 L0 t).toNat) 5 4 ∧ zSv g (D + 1) mX5_copy [xr ((h'.2 L0 t).toNat), xr ((h'.2 L1 t).toNat)] h' Q2 := by
    intro t ht h' Q2 f1 f2 f3 kk hs'
    obtain ⟨i0, i1⟩ := isL hs'
    have p := pt hs' t (by omega)
    rw [if_neg (by omega), if_neg (by omega)] at p
    rw [p.1, p.2]
    refine ⟨i0, i1, isR hs' t ht, T t ht f1 f2 (fun h2 k1 k2 k3 k4 => kk h2 k1 (fun r hr => by rw [k2 r (by omega) (by omega)]; exact f2 r hr) (fun u hu => ?_) k4)⟩
    by_cases e : u = t
    · subst e; exact k3
    · rw [k2 _ (by omega) (by omega), k2 _ (by omega) (by omega)]; exact f3 u (by omega)
  refine zS_sh (fun hs0 => eX2_copy (zX2_copy_0 ?_))
  have z0 : ∀ u, u < 0 → h.2 (L0 + 1 + 2 * u) 3 = h.2 (L1 + 1 + 2 * u) 3 ∧ ∀ i : Nat, (i : Int) < h.2 (L1 + 1 + 2 * u) 3 * t_w u → h.2 (L0 + 2 + 2 * u) i = h.2 (L1 + 2 + 2 * u) i := fun u hu => by omega
  exact step 0 (by decide) rfl (fun _ _ => rfl) z0 (fun h1 a1 b1 c1 s1 => step 1 (by decide) a1 b1 c1 (fun h2 a2 b2 c2 s2 => step 2 (by decide) a2 b2 c2 (fun h3 a3 b3 c3 s3 => step 3 (by decide) a3 b3 c3 (fun h4 a4 b4 c4 s4 => step 4 (by decide) a4 b4 c4 (fun h5 a5 b5 c5 s5 => step 5 (by decide) a5 b5 c5 (fun h6 a6 b6 c6 s6 => step 6 (by decide) a6 b6 c6 (fun h7 a7 b7 c7 s7 => step 7 (by decide) a7 b7 c7 (fun h8 a8 b8 c8 s8 => step 8 (by decide) a8 b8 c8 (fun h9 a9 b9 c9 s9 => step 9 (by decide) a9 b9 c9 (fun h10 a10 b10 c10 s10 => step 10 (by decide) a10 b10 c10 (fun h11 a11 b11 c11 s11 => step 11 (by decide) a11 b11 c11 (fun h12 a12 b12 c12 s12 => LA 10 0 (by omega) a12 b12 c12 (fun q hq => by omega)) s11) s10) s9) s8) s7) s6) s5) s4) s3) s2) s1) hs0
end CP3

section IM
variable {g : xG} {D : Nat} {h : xH} {Q : xH → Prop}
theorem l_acopy {r0 r1 : Nat} (h01 : r0 ≠ r1) : ∀ (m j : Nat) {h : xH}, j + m = 13700 → x_is h r0 10 13700 → x_is h r1 10 13700 → (∀ h', h'.1 = h.1 → (∀ r, r ≠ r1 → h'.2 r = h.2 r) → (∀ i, i < j → h'.2 r1 i = h.2 r1 i) → (∀ i, j ≤ i → i < 13700 → h'.2 r1 i = h.2 r0 i) → Q h') → zJ g D 137 0 0 2 [xr r0, xr r1, xi j] [] h (x_qv Q)
  | 0, j, h, e, R0, R1, hQ => zX9_copy_2 ⟨fun _ => zX9_copy_21 (hQ h rfl (fun _ _ => rfl) (fun _ _ => rfl) (fun i a b => by omega)), fun z => by omega⟩
  | m + 1, j, h, e, R0, R1, hQ => by
    refine zX9_copy_2 ⟨fun z => by omega, fun z => ⟨⟨13700, R0, by omega, by omega⟩, ⟨13700, R1, by omega, by omega⟩, ?_⟩⟩
    rw [x32_id (by omega) (by omega), show ((j : Int)).toNat = j by omega, show (j : Int) + 1 = ((j + 1 : Nat) : Int) by omega]
    refine l_acopy h01 m (j + 1) (by omega) R0 R1 (fun h' k1 k2 k3 k4 => hQ h' k1 (fun r hr => ?_) (fun i hi => ?_) (fun i i1 i2 => ?_))
    · rw [k2 r hr]; (try dsimp only); rw [x_up_r hr]
    · rw [k3 i (by omega)]; (try dsimp only); rw [x_up_j (by omega)]
    · by_cases ei : i = j
      · subst ei; rw [k3 i (by omega)]; (try dsimp only); exact x_up_eq
      · rw [k4 i (by omega) i2]; (try dsimp only); rw [x_up_r h01]
theorem s_acopy {r0 r1 : Nat} (h01 : r0 ≠ r1) (R0 : x_is h r0 10 13700) (R1 : x_is h r1 10 13700) (hQ : ∀ h', h'.1 = h.1 → (∀ r, r ≠ r1 → h'.2 r = h.2 r) → (∀ i, i < 13700 → h'.2 r1 i = h.2 r0 i) → Q h') : zSv g D mX9_copy [xr r0, xr r1] h Q :=
  eX9_copy (zX9_copy_0 (l_acopy h01 13700 0 (by omega) R0 R1 (fun h' k1 k2 _ k4 => hQ h' k1 k2 (fun i hi => k4 i (by omega) hi))))
theorem l_ccopy {r0 r1 : Nat} (h01 : r0 ≠ r1) : ∀ (m j : Nat) {h : xH}, j + m = 31 → x_is h r0 11 31 → x_is h r1 11 31 → (∀ h', h'.1 = h.1 → (∀ r, r ≠ r1 → h'.2 r = h.2 r) → (∀ i, i < j → h'.2 r1 i = h.2 r1 i) → (∀ i, j ≤ i → i < 31 → h'.2 r1 i = h.2 r0 i) → Q h') → zJ g D 138 0 0 2 [xr r0, xr r1, xi j] [] h (x_qv Q)
  | 0, j, h, e, R0, R1, hQ => zX9_copyCoins_2 ⟨fun _ => zX9_copyCoins_20 (hQ h rfl (fun _ _ => rfl) (fun _ _ => rfl) (fun i a b => by omega)), fun z => by omega⟩
  | m + 1, j, h, e, R0, R1, hQ => by
    refine zX9_copyCoins_2 ⟨fun z => by omega, fun z => ⟨⟨31, R0, by omega, by omega⟩, ⟨31, R1, by omega, by omega⟩, ?_⟩⟩
    rw [x32_id (by omega) (by omega), show ((j : Int)).toNat = j by omega, show (j : Int) + 1 = ((j + 1 : Nat) : Int) by omega]
    refine l_ccopy h01 m (j + 1) (by omega) R0 R1 (fun h' k1 k2 k3 k4 => hQ h' k1 (fun r hr => ?_) (fun i hi => ?_) (fun i i1 i2 => ?_))
    · rw [k2 r hr]; (try dsimp only); rw [x_up_r hr]
    · rw [k3 i (by omega)]; (try dsimp only); rw [x_up_j (by omega)]
    · by_cases ei : i = j
      · subst ei; rw [k3 i (by omega)]; (try dsimp only); exact x_up_eq
      · rw [k4 i (by omega) i2]; (try dsimp only); rw [x_up_r h01]
theorem s_ccopy {r0 r1 : Nat} (h01 : r0 ≠ r1) (R0 : x_is h r0 11 31) (R1 : x_is h r1 11 31) (hQ : ∀ h', h'.1 = h.1 → (∀ r, r ≠ r1 → h'.2 r = h.2 r) → (∀ i, i < 31 → h'.2 r1 i = h.2 r0 i) → Q h') : zSv g D mX9_copyCoins [xr r0, xr r1] h Q :=
  eX9_copyCoins (zX9_copyCoins_0 (l_ccopy h01 31 0 (by omega) R0 R1 (fun h' k1 k2 _ k4 => hQ h' k1 k2 (fun i hi => k4 i (by omega) hi))))
end IM
theorem pC_sz {h : xH} {L : Nat} {A E : Nat → Int} (m : pM A) (q : pC h L A E) : ∀ t, t < 12 → ∃ n : Nat, h.2 (L + 1 + 2 * t) 3 = (n : Int) ∧ n ≤ t_m t := by
  intro t ht
  by_cases e : t = 9
  · subst e
    obtain ⟨n, n1, n2, -⟩ := fin_b m q.2.2.2.2.1
    exact ⟨n, n1, n2⟩
  · have c := (q.1 t ht e).1
    have b := m.1.2.2.2.2.2.2 t ht e
    exact ⟨(A (t_z t)).toNat, by rw [c]; omega, by omega⟩

theorem pA1_is {h : xH} {L : Nat} (q : pA1 h L) : ∀ i : Nat, i < 10 → h.2 (L + 25) i = 0 ∨ ∃ r : Nat, h.2 (L + 25) i = (r : Int) ∧ ∃ N, x_is h r 0 N := by
  intro i hi
  rcases q i hi with e | ⟨r, e1, e2, e3⟩
  · exact Or.inl e
  · exact Or.inr ⟨r, e1, 4, by omega, e3⟩
theorem op_image {g : xG} {D : Nat} {h : xH} (I : zInv h) : zSi g (D + 3) mX8_image [xr 16] h (fun x h1 => zSi g (D + 3) mX9_image [xr 95] h1 (fun y h2 => x = y ∧ zInv h2)) := by
  obtain ⟨i1, i2, i3, i4, i5⟩ := I
  have hday : h.2 17 14 = h.2 96 0 := i3.2.1.2.1
  refine eX8_image (zX8_image_0 (s_lcopy (L0 := 48) (L1 := 17) (Or.inr ⟨rfl, rfl⟩) (pC_sz i1 i3) (pA1_is i3.2.2.2.2.2.2) (fun h1 g1 o1 e1 => ?_)))
  refine zS_sh (fun hs1 => eX9_image (zX9_image_0 ?_))
  refine s_acopy (by decide) (z_is hs1 rfl) (z_is hs1 rfl) (fun h2 g2 o2 e2 => zS_sh (fun hs2 => s_ccopy (by decide) (z_is hs2 rfl) (z_is hs2 rfl) (fun h3 g3 o3 e3 => ?_)))
  have G : h3.1 = h.1 := by rw [g3, g2, g1]
  have O : ∀ r, ¬ (48 ≤ r ∧ r ≤ 73) → r ≠ 97 → r ≠ 99 → h3.2 r = h.2 r := fun r a b c => by rw [o3 r c, o2 r b, o1 r (by omega)]
  have O1 : ∀ r, r ≠ 97 → r ≠ 99 → h3.2 r = h1.2 r := fun r b c => by rw [o3 r c, o2 r b]
  have e96 := O 96 (by omega) (by decide) (by decide)
  have e98 := O 98 (by omega) (by decide) (by decide)
  have e97 : ∀ k, k < 13700 → h3.2 97 k = h.2 96 k := fun k hk => by rw [o3 97 (by decide), e2 k hk, o1 96 (by omega)]
  have e99 : ∀ k, k < 31 → h3.2 99 k = h.2 98 k := fun k hk => by rw [e3 k hk, o2 98 (by decide), o1 98 (by omega)]
  have d : h1.2 17 14 = h3.2 96 0 := by rw [o1 17 (by omega), e96]; exact hday
  refine ⟨d, ?_⟩
  have c17 : pC h3 17 (h.2 96) (h.2 98) := pC_congr G (fun r hr => O r (by omega) (by omega) (by omega)) i1.1.2.1.2 i3
  refine ⟨by rw [e96]; exact i1, pM_13700 i1 e97, by rw [e96, e98]; exact c17, ?_, pTp_congr (fun r hr => O r (by omega) (by omega) (by omega)) i5⟩
  have c48 : pC h1 48 (h.2 96) (h.2 98) := pC_lE i1 g1 (fun r hr => o1 r (by omega)) e1 i3
  exact pC_13700 i1 e97 e99 (pC_congr (G.trans g1.symm) (fun r hr => O1 r (by omega) (by omega)) i1.1.2.1.2 c48)
theorem op_back {g : xG} {D : Nat} {h : xH} (I : zInv h) : zSi g (D + 3) mX8_back [xr 16] h (fun x h1 => zSi g (D + 3) mX9_back [xr 95] h1 (fun y h2 => x = y ∧ zInv h2)) := by
  obtain ⟨i1, i2, i3, i4, i5⟩ := I
  have hday : h.2 48 14 = h.2 97 0 := i4.2.1.2.1
  refine eX8_back (zX8_back_0 (s_lcopy (L0 := 17) (L1 := 48) (Or.inl ⟨rfl, rfl⟩) (pC_sz i2 i4) (pA1_is i4.2.2.2.2.2.2) (fun h1 g1 o1 e1 => ?_)))
  refine zS_sh (fun hs1 => eX9_back (zX9_back_0 ?_))
  refine s_acopy (by decide) (z_is hs1 rfl) (z_is hs1 rfl) (fun h2 g2 o2 e2 => zS_sh (fun hs2 => s_ccopy (by decide) (z_is hs2 rfl) (z_is hs2 rfl) (fun h3 g3 o3 e3 => ?_)))
  have G : h3.1 = h.1 := by rw [g3, g2, g1]
  have O : ∀ r, ¬ (17 ≤ r ∧ r ≤ 42) → r ≠ 96 → r ≠ 98 → h3.2 r = h.2 r := fun r a b c => by rw [o3 r c, o2 r b, o1 r (by omega)]
  have O1 : ∀ r, r ≠ 96 → r ≠ 98 → h3.2 r = h1.2 r := fun r b c => by rw [o3 r c, o2 r b]
  have e97 := O 97 (by omega) (by decide) (by decide)
  have e99 := O 99 (by omega) (by decide) (by decide)
  have e96 : ∀ k, k < 13700 → h3.2 96 k = h.2 97 k := fun k hk => by rw [o3 96 (by decide), e2 k hk, o1 97 (by omega)]
  have e98 : ∀ k, k < 31 → h3.2 98 k = h.2 99 k := fun k hk => by rw [e3 k hk, o2 99 (by decide), o1 99 (by omega)]
  have d : h1.2 17 14 = h3.2 96 0 := by rw [e96 0 (by decide), e1.2.2 14 (by decide) (by decide)]; exact hday
  refine ⟨d, ?_⟩
  have c48 : pC h3 48 (h.2 97) (h.2 99) := pC_congr G (fun r hr => O r (by omega) (by omega) (by omega)) i2.1.2.1.2 i4
  refine ⟨pM_13700 i2 e96, by rw [e97]; exact i2, ?_, by rw [e97, e99]; exact c48, pTp_congr (fun r hr => O r (by omega) (by omega) (by omega)) i5⟩
  have c17 : pC h1 17 (h.2 97) (h.2 99) := pC_lE i2 g1 (fun r hr => o1 r (by omega)) e1 i4
  exact pC_13700 i2 e96 e98 (pC_congr (G.trans g1.symm) (fun r hr => O1 r (by omega) (by omega)) i2.1.2.1.2 c17)
