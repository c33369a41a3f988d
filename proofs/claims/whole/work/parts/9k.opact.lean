/-! act, on both sides -/
theorem gl_mem {w : List (Int × Int)} {j : Nat} (hj : j < w.length) : gl w j ∈ w := by
  unfold gl
  rw [List.getD_eq_getElem?_getD, List.getElem?_eq_getElem hj]
  exact List.getElem_mem hj
theorem gc_mem {cl : List Cl} {x : Int} : (∃ c ∈ cl, c.1 = x) ↔ ∃ i, i < cl.length ∧ (gc cl i).1 = x := by
  constructor
  · rintro ⟨c, hc, e⟩
    obtain ⟨i, hi, e2⟩ := List.getElem_of_mem hc
    refine ⟨i, hi, ?_⟩
    unfold gc
    rw [List.getD_eq_getElem?_getD, List.getElem?_eq_getElem hi, e2]
    exact e
  · rintro ⟨i, hi, e⟩
    refine ⟨gc cl i, ?_, e⟩
    unfold gc
    rw [List.getD_eq_getElem?_getD, List.getElem?_eq_getElem hi]
    exact List.getElem_mem hi
theorem pActB_of {h4 h7 : xH} {b : Nat → Int} {n E r k0 i : Nat} {cl : List Cl} {w : List (Int × Int)} (C4 : rdC b n E r h4) (W4 : rdW E r h4 i w) (K4 : rdK r h4 cl) (ok : tOK cl w) (lw : w.length ≤ E) (e1 : h7.1 = h4.1) (eo : ∀ q, r ≤ q → h7.2 q = h4.2 q) (tz : h7.2 96 (2000 + 900 * k0) = (cl.length : Int))
    (rows : ∀ c, c < cl.length → h7.2 96 (2000 + 900 * k0 + 1 + 12 * c) = (gc cl c).1 + 1 ∧ ((gc cl c).1 = 0 ∨ 6 ≤ (gc cl c).1 → h7.2 96 (2000 + 900 * k0 + 2 + 12 * c) = (gc cl c).2.1) ∧ h7.2 96 (2000 + 900 * k0 + 3 + 12 * c) = ((gc cl c).2.2.1 : Int) ∧ h7.2 96 (2000 + 900 * k0 + 4 + 12 * c) = ((gc cl c).2.2.2 : Int))
    (codes : ∀ j, j < w.length → h7.2 96 (2000 + 900 * k0 + 250 + 2 * j) = (gl w j).1 ∧ h7.2 96 (2000 + 900 * k0 + 250 + 2 * j + 1) = (gl w j).2) : pActB h7.1 (h7.2 r) (h7.2 (r + 1)) (h7.2 (r + 2)) (h7.2 (r + 3)) r (tx (h7.2 96) k0) := by
  obtain ⟨c1, c2, c3, c4, c5, c6, c7, c8, c9, c10, c11, c12, c13, c14⟩ := C4
  have hE := c1.2.1
  obtain ⟨o1, o2, o3⟩ := ok
  have T0 : tx (h7.2 96) k0 0 = (cl.length : Int) := by rw [tx_at (by decide)]; exact tz
  have T1 : ∀ c, c < cl.length → tx (h7.2 96) k0 (1 + 12 * c) = (gc cl c).1 + 1 := fun c hc => by rw [tx_at (by omega), ← Nat.add_assoc]; exact (rows c hc).1
  have T2 : ∀ c, c < cl.length → ((gc cl c).1 = 0 ∨ 6 ≤ (gc cl c).1) → tx (h7.2 96) k0 (2 + 12 * c) = (gc cl c).2.1 := fun c hc y => by rw [tx_at (by omega), ← Nat.add_assoc]; exact (rows c hc).2.1 y
  have T3 : ∀ c, c < cl.length → tx (h7.2 96) k0 (3 + 12 * c) = ((gc cl c).2.2.1 : Int) := fun c hc => by rw [tx_at (by omega), ← Nat.add_assoc]; exact (rows c hc).2.2.1
  have T4 : ∀ c, c < cl.length → tx (h7.2 96) k0 (4 + 12 * c) = ((gc cl c).2.2.2 : Int) := fun c hc => by rw [tx_at (by omega), ← Nat.add_assoc]; exact (rows c hc).2.2.2
  have U1 : ∀ j, j < w.length → tx (h7.2 96) k0 (250 + 2 * j) = (gl w j).1 := fun j hj => by rw [tx_at (by omega), ← Nat.add_assoc]; exact (codes j hj).1
  have U2 : ∀ j, j < w.length → tx (h7.2 96) k0 (251 + 2 * j) = (gl w j).2 := fun j hj => by rw [tx_at (by omega), show 2000 + 900 * k0 + (251 + 2 * j) = 2000 + 900 * k0 + 250 + 2 * j + 1 by omega]; exact (codes j hj).2
  have er := eo r (Nat.le_refl _)
  have er1 := eo (r + 1) (by omega)
  have er2 := eo (r + 2) (by omega)
  have er3 := eo (r + 3) (by omega)
  obtain ⟨k1, k2, k3, k4⟩ := K4
  refine ⟨E + 1, by omega, by rw [e1]; exact c5, by rw [e1]; exact c6, by rw [e1]; exact c7, by rw [e1]; exact c8, by rw [er]; exact c10, by rw [er]; exact c11, by rw [er1]; exact c12, by rw [er1]; exact c13, by rw [er1]; exact c14, by rw [er1, T0]; exact k1, ⟨by rw [T0]; omega, fun c hc => ?_⟩, fun c hc => ?_, fun c hc j j1 j2 => ?_, fun k hk => ?_⟩
  · rw [T0] at hc
    have hc : c < cl.length := by omega
    obtain ⟨p1, p2, p3, p4, p5, p6⟩ := o3 c hc
    rw [T1 c hc, T3 c hc, T4 c hc]
    have dr : dRun (fun j => tx (h7.2 96) k0 (250 + 2 * j)) (gc cl c).2.2.1 ((gc cl c).2.2.2 - (gc cl c).2.2.1) = dRun (fun j => (gl w j).1) (gc cl c).2.2.1 ((gc cl c).2.2.2 - (gc cl c).2.2.1) := dRun_cong _ (fun j hj => by rw [U1 _ (by omega)])
    have en : ((((gc cl c).2.2.2 : Nat) : Int) - (((gc cl c).2.2.1 : Nat) : Int)).toNat = (gc cl c).2.2.2 - (gc cl c).2.2.1 := by omega
    have es : ((((gc cl c).2.2.1 : Nat) : Int)).toNat = (gc cl c).2.2.1 := by omega
    rw [en, es, dr]
    obtain ⟨t0, t6, t7, t8, t9⟩ := p2
    refine ⟨by omega, ⟨fun y => ?_, fun y => ?_, fun y => ?_, fun y => ?_, fun y => ?_⟩, by omega, fun j j1 j2 => ?_, fun y => p5 (by omega), fun y1 y2 => p6 (by omega) (by omega)⟩
    · rw [T2 c hc (by omega)]; exact t0 (by omega)
    · rw [T2 c hc (by omega)]; exact t6 (by omega)
    · rw [T2 c hc (by omega)]; exact t7 (by omega)
    · rw [T2 c hc (by omega)]; exact t8 (by omega)
    · rw [T2 c hc (by omega)]; exact t9 (by omega)
    · rw [U1 j (by omega), U2 j (by omega)]
      exact o2 _ (gl_mem (by omega))
  · rw [T0] at hc
    have hc : c < cl.length := by omega
    obtain ⟨a1, a2, a3, a4⟩ := k3 c hc
    rw [er2, T1 c hc, T3 c hc, T4 c hc]
    refine ⟨by rw [a1]; omega, fun y => ?_, a3, a4⟩
    rw [T2 c hc (by omega)]; exact a2 (by omega)
  · rw [T0] at hc
    have hc : c < cl.length := by omega
    obtain ⟨p1, p2, p3, p4, p5, p6⟩ := o3 c hc
    rw [T3 c hc] at j1
    rw [T4 c hc] at j2
    rw [er3, U1 j (by omega), U2 j (by omega)]
    exact ⟨by omega, W4.2.2.2.2.2.2 j (by omega)⟩
  · rw [er, (tb_shr (by omega)).1, k4 k hk, gc_mem]
    constructor
    · rintro ⟨c, hc, y⟩
      exact ⟨c, by rw [T0]; omega, by rw [T1 c hc]; omega⟩
    · rintro ⟨c, hc, y⟩
      rw [T0] at hc
      have hc : c < cl.length := by omega
      rw [T1 c hc] at y
      exact ⟨c, hc, by omega⟩
theorem op_act {g : xG} {D : Nat} {h : xH} (I : zInv h) : zSi g (D + 36) mX8_act [xr 16] h (fun x h1 => zSi g (D + 36) mX9_act [xr 95] h1 (fun y h2 => x = y ∧ zInv h2)) := by
  refine zS_sh (fun hs => ?_)
  have l95 : 95 ≤ h.1.length := by
    obtain ⟨⟨Ka, e⟩, -⟩ := hs
    rw [e, List.length_append]
    show 95 ≤ 95 + Ka.length
    omega
  have s6 : 0 ≤ h.2 96 6 ∧ h.2 96 6 ≤ 10 := I.1.1.2.1
  have e13 : h.2 17 13 = h.2 96 6 := I.2.2.1.2.1.1
  refine eX8_act (zX8_act_0 ⟨fun z => zX8_act_14 ?_, fun z => eX9_act (zX9_act_0 ⟨fun y => by omega, fun y => ⟨rfl, I⟩⟩)⟩)
  obtain ⟨k0, h6⟩ : ∃ k : Nat, h.2 96 6 = (k : Int) := ⟨(h.2 96 6).toNat, by omega⟩
  have hk : k0 < 10 := by omega
  obtain ⟨t1, t2, t3, t4, t5, t6, t7, t8⟩ := I.2.2.2.2
  obtain ⟨n, hn⟩ : ∃ n : Nat, h.2 43 4 = (n : Int) := ⟨(h.2 43 4).toNat, by omega⟩
  obtain ⟨b, hb⟩ : ∃ b : Nat → Int, b = bt (h.2 44) n := ⟨_, rfl⟩
  have b8 : bok8 b n := ⟨fun p hp => by rw [hb, bt_y hp]; exact (t3 p (by omega)).2, fun p hp => by rw [hb, bt_n hp]⟩
  have hN : ∀ i, 0 ≤ nmt b n i := fun i => (nb_r b8 (ps_b b8 i).1).2.1
  have Zc : cB h b n := ⟨hn, by omega, b8, fun p hp => by rw [hb, bt_y hp]⟩
  refine ⟨by decide, s_rstart (D := D + 28) Zc hs (fun h3 E k3 o3 o43 C3 W3 K3 => ?_)⟩
  have hK := (rd_E C3).1
  have hE3 := (rd_E C3).2.1
  refine c_text (D := D + 33) (A := uE b n E) (B := uS b n E 0) (h0 := h3) (by omega) (uE_p hK hN) (uS_p hK hN 0) (uE_j hK hN) (fun i hi => uS_j hK hN 0 i (by decide) hi) 22 [] [] 0 (by decide) (rdg_refl h3) C3 W3 K3 (fun h4 w1 f4 C4 T4 => ?_)
  change rdT b n E (h.1.length + 16) h4 (uT b n E) at T4
  have px := p_Tx (K := kt b n) (N := nmt b n) hK (uE_p hK hN) (uS_p hK hN 0) 22 [] [] 0 (by decide) tOK_0 (Nat.le_refl _) (Nat.zero_le _)
  change ((uT b n E).1 ≠ 0 → (uT b n E).2.1 ≤ E ∧ 1 ≤ (uT b n E).1 ∧ (uT b n E).1 ≤ 5) ∧ ((uT b n E).1 = 0 → tOK (uT b n E).2.2.1 (uT b n E).2.2.2 ∧ (uT b n E).2.2.2.length ≤ E) at px
  have k4 : h4.1 = h.1 ++ [(0, 4), (5, 4), (10, 80), (10, E + 1)] := by rw [f4.1, k3]
  have o4 : ∀ q, q < h.1.length + 16 → q ≠ 43 → q ≠ 45 → q ≠ 46 → q ≠ 47 → q ≠ 74 → h4.2 q = h.2 q := fun q a1 a2 a3 a4 a5 a6 => by rw [f4.2.1 q a6 (by omega) (by omega) (by omega) (by omega)]; exact o3 q a1 a2 a3 a4 a5 a6
  have psn : ∀ i, ps b n i ≤ 300 := fun i => by have := (ps_b b8 i).1; omega
  -- the reference, behind the class
  have ref : ∀ {h5 : xH} {x : Int}, h5.1 = h4.1 → (∀ q, q < h.1.length + 16 → q ≠ 17 → q ≠ 42 → q ≠ 43 → q ≠ 45 → q ≠ 46 → q ≠ 47 → q ≠ 74 → h5.2 q = h.2 q) → (∀ q, h.1.length + 16 ≤ q → h5.2 q = h4.2 q) → (∀ j, j ≠ 13 → h5.2 17 j = h.2 17 j) → (∀ j, j ≠ k0 → h5.2 42 j = h.2 42 j) → h5.2 43 4 = 0 → h5.2 74 = h4.2 74 → ((uT b n E).1 ≠ 0 → x = -1 ∧ h5.2 17 13 = (k0 : Int) ∧ h5.2 42 k0 = h.2 42 k0) → ((uT b n E).1 = 0 → x = (k0 : Int) ∧ h5.2 17 13 = (k0 : Int) + 1 ∧ h5.2 42 k0 = ((h.1.length + 16 : Nat) : Int)) → zSi g (D + 36) mX9_act [xr 95] h5 (fun y h2 => x = y ∧ zInv h2) := by
    intro h5 x a1 a2 a3 a4 a5 a6 a7 af a0
    have e95 : h5.2 95 = h.2 95 := a2 95 (by omega) (by decide) (by decide) (by decide) (by decide) (by decide) (by decide) (by decide)
    have e96 : h5.2 96 = h.2 96 := a2 96 (by omega) (by decide) (by decide) (by decide) (by decide) (by decide) (by decide) (by decide)
    have e100 : h5.2 100 = h.2 100 := a2 100 (by omega) (by decide) (by decide) (by decide) (by decide) (by decide) (by decide) (by decide)
    have Zr : rB8 h5 b n := ⟨by rw [e95, ← t1]; exact hn, by omega, b8, fun p hp => by rw [e100, ← (t3 p (by omega)).1, hb, bt_y hp]⟩
    refine r_act Zr (by rw [e96]; exact h6) hk hK hE3 hN (fun z1 h7 f7 d6 d5 d95 d97 => ?_) (fun z1 h7 f7 d6 d5 d95 d97 dz dr dc => ?_)
    · obtain ⟨x1, x2, x3⟩ := af z1
      obtain ⟨p1, p2, p3⟩ := px.1 z1
      rcases T4 with T4 | ⟨-, F4⟩
      · exact absurd T4.1 z1
      have e74 : h7.2 74 = h4.2 74 := by rw [f7.2.1 74 (by decide) (by decide) (by decide)]; exact a7
      have pp3 := psn (uT b n E).2.1
      refine ⟨x1, inv_act (K4 := [(0, 4), (5, 4), (10, 80), (10, E + 1)]) I h6 hk l95 (by rw [f7.1, a1, k4]) (fun q q1 q2 q3 q4 q5 q6 q7 q8 q9 q10 q11 => by rw [f7.2.1 q q9 q10 q11]; exact a2 q q1 q2 q3 q4 q5 q6 q7 q8) (fun j hj => by rw [f7.2.1 17 (by decide) (by decide) (by decide)]; exact a4 j hj) (fun j hj => by rw [f7.2.1 42 (by decide) (by decide) (by decide)]; exact a5 j hj) (fun k y1 y2 => by rw [f7.2.2 k (by omega) y2, e96]) ⟨?_, d5, ?_, ?_, ?_, ?_, ?_⟩ (Or.inl ⟨d6, ?_, ?_⟩)⟩
      · rw [f7.2.1 43 (by decide) (by decide) (by decide)]; exact a6
      · rw [e74, d95]; exact F4.2.1
      · rw [e74, d97]; exact F4.2.2.2.1
      · rw [e74, F4.2.1]; omega
      · rw [e74, F4.2.2.2.1]; omega
      · rw [e74, F4.2.2.2.1]; omega
      · rw [f7.2.1 17 (by decide) (by decide) (by decide)]; exact x2
      · rw [f7.2.1 42 (by decide) (by decide) (by decide)]; exact x3
    · obtain ⟨x1, x2, x3⟩ := a0 z1
      obtain ⟨p1, p2⟩ := px.2 z1
      rcases T4 with ⟨-, W4, L4⟩ | T4
      rotate_left
      · exact absurd z1 T4.1
      have e74 : h7.2 74 = h4.2 74 := by rw [f7.2.1 74 (by decide) (by decide) (by decide)]; exact a7
      have e71 : h7.1 = h4.1 := by rw [f7.1, a1]
      refine ⟨x1, inv_act (K4 := [(0, 4), (5, 4), (10, 80), (10, E + 1)]) I h6 hk l95 (by rw [e71, k4]) (fun q q1 q2 q3 q4 q5 q6 q7 q8 q9 q10 q11 => by rw [f7.2.1 q q9 q10 q11]; exact a2 q q1 q2 q3 q4 q5 q6 q7 q8) (fun j hj => by rw [f7.2.1 17 (by decide) (by decide) (by decide)]; exact a4 j hj) (fun j hj => by rw [f7.2.1 42 (by decide) (by decide) (by decide)]; exact a5 j hj) (fun k y1 y2 => by rw [f7.2.2 k (by omega) y2, e96]) ⟨?_, d5, ?_, ?_, ?_, ?_, ?_⟩ (Or.inr ⟨d6, ?_, h.1.length + 16, ?_, by omega, ?_, ?_⟩)⟩
      · rw [f7.2.1 43 (by decide) (by decide) (by decide)]; exact a6
      · rw [e74, d95]; exact W4.2.1
      · rw [e74, d97]; exact W4.2.2.1
      · rw [e74, W4.2.1]; decide
      · rw [e74, W4.2.2.1]; decide
      · rw [e74, W4.2.2.1]; decide
      · rw [f7.2.1 17 (by decide) (by decide) (by decide)]; exact x2
      · rw [f7.2.1 42 (by decide) (by decide) (by decide)]; exact x3
      · rw [e71]; exact C4.2.2.2.2.1
      · refine pActB_of C4 W4 L4 p1 p2 e71 (fun q hq => ?_) dz dr dc
        rw [f7.2.1 q (by omega) (by omega) (by omega)]; exact a3 q hq
  have u43 : ∀ q, q ≠ 43 → x_up h4.2 43 4 0 q = h4.2 q := fun q hq => x_up_r hq
  refine zX8_act_52 ?_
  rw [u43 74 (by decide)]
  rcases T4 with ⟨z1, W4, L4⟩ | ⟨z1, F4⟩
  · refine ⟨fun y => absurd W4.2.1 y, fun _ => ?_⟩
    have e2 : (h4.2 74 2).toNat = h.1.length + 16 := by rw [C4.2.2.2.2.2.2.2.2.1]; omega
    have e17 : x_up h4.2 43 4 0 17 13 = (k0 : Int) := by rw [u43 17 (by decide), o4 17 (by omega) (by decide) (by decide) (by decide) (by decide) (by decide), e13]; exact h6
    rw [e2]
    refine eX2_enact (zX2_enact_0 ?_)
    dsimp only
    rw [e17]
    refine ⟨fun y => by omega, fun _ => ⟨fun _ => zX2_enact_20 ?_, fun y => by omega⟩⟩
    dsimp only
    have v17 : x_up (x_up h4.2 43 4 0) 42 k0 ((h.1.length + 16 : Nat) : Int) 17 13 = (k0 : Int) := by rw [x_up_r (by decide)]; exact e17
    rw [show ((k0 : Int)).toNat = k0 by omega, v17, x32_id (by omega) (by omega)]
    refine ⟨by omega, ⟨4, (rd_is C4).1⟩, ref rfl (fun q q1 q2 q3 q4 q5 q6 q7 q8 => ?_) (fun q hq => ?_) (fun j hj => ?_) (fun j hj => ?_) ?_ ?_ (fun y => absurd z1 y) (fun _ => ⟨rfl, ?_, ?_⟩)⟩ <;> dsimp only
    · rw [x_up_r q2, x_up_r q3, u43 q q4]; exact o4 q q1 q4 q5 q6 q7 q8
    · rw [x_up_r (by omega), x_up_r (by omega), u43 q (by omega)]
    · rw [x_up_j hj, x_up_r (by decide), u43 17 (by decide), o4 17 (by omega) (by decide) (by decide) (by decide) (by decide) (by decide)]
    · rw [x_up_r (by decide), x_up_j hj, u43 42 (by decide), o4 42 (by omega) (by decide) (by decide) (by decide) (by decide) (by decide)]
    · rw [x_up_r (by decide), x_up_r (by decide), x_up_eq]
    · rw [x_up_r (by decide), x_up_r (by decide), u43 74 (by decide)]
    · rw [x_up_eq]
    · rw [x_up_r (by decide), x_up_eq]
  · refine ⟨fun _ => zX8_act_87 (ref rfl (fun q q1 q2 q3 q4 q5 q6 q7 q8 => ?_) (fun q hq => ?_) (fun j hj => ?_) (fun j hj => ?_) ?_ ?_ (fun _ => ⟨rfl, ?_, ?_⟩) (fun y => absurd y z1)), fun y => absurd y (rdF_n F4)⟩ <;> dsimp only
    · rw [u43 q q4]; exact o4 q q1 q4 q5 q6 q7 q8
    · rw [u43 q (by omega)]
    · rw [u43 17 (by decide), o4 17 (by omega) (by decide) (by decide) (by decide) (by decide) (by decide)]
    · rw [u43 42 (by decide), o4 42 (by omega) (by decide) (by decide) (by decide) (by decide) (by decide)]
    · rw [x_up_eq]
    · rw [u43 74 (by decide)]
    · rw [u43 17 (by decide), o4 17 (by omega) (by decide) (by decide) (by decide) (by decide) (by decide), e13]; exact h6
    · rw [u43 42 (by decide), o4 42 (by omega) (by decide) (by decide) (by decide) (by decide) (by decide)]
