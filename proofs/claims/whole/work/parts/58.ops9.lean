/-! seal, sealOf, look -/
theorem p_set2 {C : Nat → Nat → Int} {q n wi c : Nat} {v : Int} (hc : c < wi) (j : Nat) : x_up C q (n * wi + c) v q j = if j = n * wi + c then v else C q j := x_up_k
theorem op_seal {g : xG} {D : Nat} {h : xH} {a b c : Int} (I : zInv h) : zSi g (D + 3) mX8_seal [xr 16, xi a, xi b, xi c] h (fun x h1 => zSi g (D + 3) mX9_seal [xr 95, xi a, xi b, xi c] h1 (fun y h2 => x = y ∧ zInv h2)) := by
  refine zS_sh (fun hs => ?_)
  have Z := zB_of hs I
  have B := rB_inv I
  have z := pM_z I.1
  have hday : h.2 17 14 = h.2 96 0 := I.2.2.1.2.1.2.1
  obtain ⟨n, hn⟩ : ∃ n : Nat, h.2 96 8 = (n : Int) := ⟨(h.2 96 8).toNat, by omega⟩
  have hsz : h.2 30 3 = (n : Int) := by rw [← hn]; exact ((I.2.2.1.1 6 (by decide)) (by decide)).1
  have hsz2 : h.2 22 3 = h.2 96 3 := ((I.2.2.1.1 2 (by decide)) (by decide)).1
  have hsz4 : h.2 24 3 = h.2 96 4 := ((I.2.2.1.1 3 (by decide)) (by decide)).1
  have R : pR h 30 31 80 5 := z_R hs rfl rfl rfl rfl rfl (by decide)
  have R2 : pR h 22 23 10 17 := z_R hs rfl rfl rfl rfl rfl (by decide)
  have R4 : pR h 24 25 50 1 := z_R hs rfl rfl rfl rfl rfl (by decide)
  have no : ¬ ((0 ≤ a ∧ a < h.2 96 3) ∧ (0 ≤ b ∧ b < h.2 96 4) ∧ (0 ≤ c ∧ c ≤ 65535) ∧ ¬ mO (h.2 96) b (h.2 96 0) (h.2 96 0) = -1 ∧ n < 80) → zSi g (D + 3) mX9_seal [xr 95, xi a, xi b, xi c] h (fun y h2 => -1 = y ∧ zInv h2) := by
    intro hno
    refine eX9_seal (zX9_seal_0 ?_)
    rw [x32_id (by omega) (by omega)]
    refine s_in (fun y hy => ⟨fun w => zX9_seal_67 ⟨rfl, I⟩, fun w => s_isWeb (by omega) (fun y2 hy2 => ⟨fun w2 => zX9_seal_67 ⟨rfl, I⟩, fun w2 => s_in (fun y3 hy3 => ⟨fun w3 => zX9_seal_67 ⟨rfl, I⟩, fun w3 => r_meas B (fun e => ⟨fun _ => zX9_seal_67 ⟨rfl, I⟩, fun q => absurd q (by decide)⟩) (fun x e hx => ⟨fun q => by omega, fun _ => ⟨fun v => by omega, fun v => ⟨rfl, I⟩⟩⟩)⟩)⟩)⟩)
  refine eX8_seal (zX8_seal_0 (s_has R2.1 (fun x hx => ⟨fun q => zX8_seal_38 (no (by omega)), fun q => s_has R4.1 (fun x2 hx2 => ⟨fun q2 => zX8_seal_38 (no (by omega)), fun q2 => s_win (fun x3 hx3 => ⟨fun q3 => zX8_seal_40 (s_isFull R.1 (fun x4 hx4 => ⟨fun q4 => zX8_seal_79 (no ?_), fun q4 => ?_⟩)), fun q3 => no (by omega)⟩)⟩)⟩)))
  · have := R.2.2.1; omega
  rw [hday]
  refine s_latest Z ⟨fun q5 => zX8_seal_81 ?_, fun q5 => no (by omega)⟩
  have hfull : n < 80 := by have := R.2.2.1; omega
  refine s_add R hsz hfull (by decide) (by decide) (fun h1 hs1 e1 e2 => ?_)
  have R1 : pR h1 30 31 80 5 := z_R hs1 rfl rfl rfl rfl rfl (by decide)
  refine s_set R1 (by omega) (by omega) (by omega) (by omega) (fun h2 hs2 e3 => ?_)
  rw [show ((n : Int) * ((5 : Nat) : Int) + 3).toNat = n * 5 + 3 by omega] at e3
  have f1 : h2.1 = h.1 := by rw [e3]; exact e1
  have f2 : h2.2 = x_up h1.2 31 (n * 5 + 3) c := by rw [e3]
  have e96 : h2.2 96 = h.2 96 := by rw [f2, x_up_r (by decide), e2]; exact p_add_o (by decide) (by decide)
  rw [hday] at e2
  clear e3
  refine eX9_seal (zX9_seal_0 ?_)
  rw [e96, x32_id (by omega) (by omega)]
  refine s_in (fun y hy => ⟨fun w => by omega, fun w => s_isWeb (by rw [e96]; omega) (fun y2 hy2 => ⟨fun w2 => by rw [e96] at hy2; omega, fun w2 => s_in (fun y3 hy3 => ⟨fun w3 => by omega, fun w3 => ?_⟩)⟩)⟩)
  rw [e96]
  refine r_meas (by rw [e96]; exact B) (fun e => by rw [e96] at e; exact absurd e q5) (fun x e hx => ⟨fun q => by omega, fun _ => ?_⟩)
  rw [e96]
  refine ⟨fun v => zX9_seal_69 ?_, fun v => by omega⟩
  simp (disch := omega) only [e96, hn, x32_id, x_up_eq, x_up_j]
  rw [show (11130 + 6 * (n : Int)).toNat = 11130 + 6 * n by omega, show (11130 + 6 * (n : Int) + 1).toNat = 11131 + 6 * n by omega, show (11130 + 6 * (n : Int) + 2).toNat = 11132 + 6 * n by omega, show (11130 + 6 * (n : Int) + 3).toNat = 11133 + 6 * n by omega]
  refine ⟨by omega, by omega, by omega, by omega, by omega, ?_⟩
  generalize hC : x_up (x_up (x_up (x_up (x_up h2.2 96 (11130 + 6 * n) a) 96 (11131 + 6 * n) b) 96 (11132 + 6 * n) (h.2 96 0)) 96 (11133 + 6 * n) c) 96 8 ((n : Int) + 1) = C
  have ho : ∀ r, r ≠ 96 → C r = h2.2 r := fun r hr => by rw [← hC, x_up_r hr, x_up_r hr, x_up_r hr, x_up_r hr, x_up_r hr]
  have hu : ∀ k, C 96 k = if k = 8 then (n : Int) + 1 else if k = 11133 + 6 * n then c else if k = 11132 + 6 * n then h.2 96 0 else if k = 11131 + 6 * n then b else if k = 11130 + 6 * n then a else h.2 96 k := by
    intro k
    rw [← hC, x_up_k, x_up_k, x_up_k, x_up_k, x_up_k, e96]
  have b8 : h.2 96 (11134 + 6 * n) = 0 := I.1.2.1.2.1 n (by omega) hfull
  have v0 : C 96 (11130 + 6 * n) = a := by rw [hu, if_neg (by omega), if_neg (by omega), if_neg (by omega), if_neg (by omega), if_pos rfl]
  have v1 : C 96 (11131 + 6 * n) = b := by rw [hu, if_neg (by omega), if_neg (by omega), if_neg (by omega), if_pos rfl]
  have v2 : C 96 (11132 + 6 * n) = h.2 96 0 := by rw [hu, if_neg (by omega), if_neg (by omega), if_pos rfl]
  have v3 : C 96 (11133 + 6 * n) = c := by rw [hu, if_neg (by omega), if_pos rfl]
  have v4 : C 96 (11134 + 6 * n) = 0 := by rw [hu, if_neg (by omega), if_neg (by omega), if_neg (by omega), if_neg (by omega), if_neg (by omega)]; exact b8
  have vo : ∀ k, k ≠ 8 → ¬ (11130 + 6 * n ≤ k ∧ k < 11136 + 6 * n) → C 96 k = h.2 96 k := fun k k1 k2 => by rw [hu, if_neg k1, if_neg (by omega), if_neg (by omega), if_neg (by omega), if_neg (by omega)]
  have v9 : C 96 (11135 + 6 * n) = h.2 96 (11135 + 6 * n) := by rw [hu, if_neg (by omega), if_neg (by omega), if_neg (by omega), if_neg (by omega), if_neg (by omega)]
  refine inv_addg (t0 := 6) (n := n) I (by decide) f1 (fun r r1 r2 r3 => ?_) hn hfull ?_ (fun j hj => ?_) ?_ (fun k k1 k2 => ?_) (fun p hp => ?_) ?_ (fun _ => v4) (by omega) (by omega)
  · show C r = _
    rw [ho r r3, f2, x_up_r r2, e2]; exact p_add_o r1 r2
  · show C 30 3 = _
    rw [ho 30 (by decide), f2, x_up_r (by decide), e2]; exact p_add_z
  · show C 31 j = _
    have hj : j < n * 5 := hj
    rw [ho 31 (by decide), f2, x_up_j (by omega), e2]; exact p_add_lt (by decide) hj
  · show C 96 8 = _
    rw [hu, if_pos rfl]
  · show C 96 k = _
    have k2 : ¬ (11130 + 6 * n ≤ k ∧ k < 11130 + 6 * n + 6) := k2
    exact vo k k1 (by omega)
  · show C 31 (n * 5 + p.1) = C 96 (11130 + 6 * n + p.2)
    have hp : p = (0, 0) ∨ p = (1, 1) ∨ p = (2, 2) ∨ p = (3, 3) ∨ p = (4, 4) := by simpa [t_p] using hp
    rw [ho 31 (by decide), f2]
    rcases hp with e | e | e | e | e <;> subst e
    · rw [x_up_j (by omega), e2, p_add_at (by decide) (by decide)]; show a = C 96 (11130 + 6 * n); exact v0.symm
    · rw [x_up_j (by omega), e2, p_add_at (by decide) (by decide)]; show b = C 96 (11130 + 6 * n + 1); rw [show 11130 + 6 * n + 1 = 11131 + 6 * n by omega]; exact v1.symm
    · rw [x_up_j (by omega), e2, p_add_at (by decide) (by decide)]; show h.2 96 0 = C 96 (11130 + 6 * n + 2); rw [show 11130 + 6 * n + 2 = 11132 + 6 * n by omega]; exact v2.symm
    · rw [x_up_eq]; show c = C 96 (11130 + 6 * n + 3); rw [show 11130 + 6 * n + 3 = 11133 + 6 * n by omega]; exact v3.symm
    · rw [x_up_j (by omega), e2, p_add_at (by decide) (by decide)]; show 0 = C 96 (11130 + 6 * n + 4); rw [show 11130 + 6 * n + 4 = 11134 + 6 * n by omega]; exact v4.symm
  · show (0 ≤ C 96 (11130 + 6 * n) ∧ C 96 (11130 + 6 * n) < C 96 3) ∧ (0 ≤ C 96 (11131 + 6 * n) ∧ C 96 (11131 + 6 * n) < C 96 4) ∧ (0 ≤ C 96 (11132 + 6 * n) ∧ C 96 (11132 + 6 * n) ≤ C 96 0) ∧ (0 ≤ C 96 (11133 + 6 * n) ∧ C 96 (11133 + 6 * n) ≤ 65535) ∧ 0 ≤ C 96 (11134 + 6 * n) ∧ C 96 (11134 + 6 * n) ≤ 1
    rw [v0, v1, v2, v3, v4, vo 3 (by omega) (by omega), vo 4 (by omega) (by omega), vo 0 (by omega) (by omega)]
    omega
theorem op_sealOf {g : xG} {D : Nat} {h : xH} {a b : Int} (I : zInv h) : zSi g (D + 7) mX8_sealOf [xr 16, xi a, xi b] h (fun x h1 => zSi g (D + 7) mX9_sealOf [xr 95, xi a, xi b] h1 (fun y h2 => x = y ∧ zInv h2)) := by
  refine zS_sh (fun hs => ?_)
  have Z := zB_of hs I
  have B := rB_inv I
  have z := pM_z I.1
  have hsz : h.2 30 3 = h.2 96 8 := ((I.2.2.1.1 6 (by decide)) (by decide)).1
  have R : pR h 30 31 80 5 := z_R hs rfl rfl rfl rfl rfl (by decide)
  refine eX8_sealOf (zX8_sealOf_0 (s_has R.1 (fun x hx => ⟨fun q => zX8_sealOf_16 ?_, fun q => eX9_sealOf (zX9_sealOf_0 (s_isSeal (by omega) (fun y hy => ⟨fun w => by omega, fun w => ⟨rfl, I⟩⟩)))⟩)))
  obtain ⟨s, rfl⟩ : ∃ s : Nat, a = (s : Int) := ⟨a.toNat, by omega⟩
  have hsl : (s : Int) < h.2 96 8 := by omega
  obtain ⟨c0, c1, c2, c3, c4⟩ := zB_seal Z hsl
  have go : ∀ {h1 : xH} {Q : Int → xH → Prop}, h1.2 96 = h.2 96 → zJ g (D + 7) 207 0 0 10 [xr 95, xi s, xi b] [] h1 (x_qi Q) → zSi g (D + 7) mX9_sealOf [xr 95, xi s, xi b] h1 Q := by
    intro h1 Q e96 k
    exact eX9_sealOf (zX9_sealOf_0 (s_isSeal (by rw [e96]; omega) (fun y hy => ⟨fun w => k, fun w => by rw [e96] at hy; omega⟩)))
  refine ⟨fun q1 => zX8_sealOf_136 (go rfl (zX9_sealOf_10 ⟨fun _ => zX9_sealOf_90 ⟨rfl, I⟩, fun w => by omega, fun w => by omega, fun w => by omega, fun w => by omega, fun w => by omega, fun w => by omega, trivial⟩)), fun q1 => zX8_sealOf_56 (s_get R (by omega) (by omega) (by omega) (by omega) ?_), fun q1 => zX8_sealOf_69 (s_get R (by omega) (by omega) (by omega) (by omega) ?_), fun q1 => zX8_sealOf_82 (s_get R (by omega) (by omega) (by omega) (by omega) ?_), fun q1 => zX8_sealOf_95 (s_isForged Z hsl (fun v hv => ?_)), fun q1 => zX8_sealOf_109 (s_isGood Z hsl (fun v h1 f hv => ?_)), fun q1 => zX8_sealOf_123 (s_get R (by omega) (by omega) (by omega) (by omega) ?_), trivial⟩ <;> subst q1
  · rw [show ((s : Int) * ((5 : Nat) : Int) + 0).toNat = s * 5 by omega, c0]
    exact go rfl (zX9_sealOf_10 ⟨fun w => by omega, fun w => zX9_sealOf_48 (r_sealAt (c := 0) (by omega) (by decide) ⟨by rw [Nat.add_zero], I⟩), fun w => by omega, fun w => by omega, fun w => by omega, fun w => by omega, fun w => by omega, trivial⟩)
  · rw [show ((s : Int) * ((5 : Nat) : Int) + 1).toNat = s * 5 + 1 by omega, c1]
    exact go rfl (zX9_sealOf_10 ⟨fun w => by omega, fun w => by omega, fun w => zX9_sealOf_48 (r_sealAt (c := 1) (by omega) (by decide) ⟨rfl, I⟩), fun w => by omega, fun w => by omega, fun w => by omega, fun w => by omega, trivial⟩)
  · rw [show ((s : Int) * ((5 : Nat) : Int) + 2).toNat = s * 5 + 2 by omega, c2]
    exact go rfl (zX9_sealOf_10 ⟨fun w => by omega, fun w => by omega, fun w => by omega, fun w => zX9_sealOf_48 (r_sealAt (c := 2) (by omega) (by decide) ⟨rfl, I⟩), fun w => by omega, fun w => by omega, fun w => by omega, trivial⟩)
  · have M : ∀ u : Int, (u = 1 ∧ fgd (h.2 96) s) ∨ (u = 0 ∧ ¬ fgd (h.2 96) s) → zSi g (D + 7) mX9_sealOf [xr 95, xi s, xi 3] h (fun y h2 => u = y ∧ zInv h2) := by
      intro u hu
      refine go rfl (zX9_sealOf_10 ⟨fun w => by omega, fun w => by omega, fun w => by omega, fun w => by omega, fun w => zX9_sealOf_55 (r_isForged I.1 hsl (fun v2 hv2 => ⟨fun t => zX9_sealOf_67 ⟨?_, I⟩, fun t => ⟨?_, I⟩⟩)), fun w => by omega, fun w => by omega, trivial⟩)
      · rcases hu with u1 | u1
        · rcases hv2 with u2 | u2
          · omega
          · exact absurd u1.2 u2.2
        · omega
      · rcases hu with u1 | u1
        · omega
        · rcases hv2 with u2 | u2
          · exact absurd u2.2 u1.2
          · omega
    refine ⟨fun t => zX8_sealOf_107 (M 0 ?_), fun t => M 1 ?_⟩
    · rcases hv with u | u
      · omega
      · exact Or.inr ⟨rfl, u.2⟩
    · rcases hv with u | u
      · exact Or.inl ⟨rfl, u.2⟩
      · omega
  · have e96 := fB_96 f
    have I1 := fB_inv f I
    have M : ∀ u : Int, (u = 1 ∧ good (h.2 96) s) ∨ (u = 0 ∧ ¬ good (h.2 96) s) → zSi g (D + 7) mX9_sealOf [xr 95, xi s, xi 4] h1 (fun y h2 => u = y ∧ zInv h2) := by
      intro u hu
      refine go e96 (zX9_sealOf_10 ⟨fun w => by omega, fun w => by omega, fun w => by omega, fun w => by omega, fun w => by omega, fun w => zX9_sealOf_69 (r_isGood I1.1 (rB_inv I1) (by rw [e96]; exact hsl) (fun v2 h2 f2 hv2 => ?_)), fun w => by omega, trivial⟩)
      rw [e96] at hv2
      refine ⟨fun t => zX9_sealOf_81 ⟨?_, fR_inv f2 I1⟩, fun t => ⟨?_, fR_inv f2 I1⟩⟩
      · rcases hu with u1 | u1
        · rcases hv2 with u2 | u2
          · omega
          · exact absurd u1.2 u2.2
        · omega
      · rcases hu with u1 | u1
        · omega
        · rcases hv2 with u2 | u2
          · exact absurd u2.2 u1.2
          · omega
    refine ⟨fun t => zX8_sealOf_121 (M 0 ?_), fun t => M 1 ?_⟩
    · rcases hv with u | u
      · omega
      · exact Or.inr ⟨rfl, u.2⟩
    · rcases hv with u | u
      · exact Or.inl ⟨rfl, u.2⟩
      · omega
  · rw [show ((s : Int) * ((5 : Nat) : Int) + 4).toNat = s * 5 + 4 by omega, c4]
    exact go rfl (zX9_sealOf_10 ⟨fun w => by omega, fun w => by omega, fun w => by omega, fun w => by omega, fun w => by omega, fun w => by omega, fun w => zX9_sealOf_83 (r_sealAt (c := 4) (by omega) (by decide) ⟨rfl, I⟩), trivial⟩)
theorem op_look {g : xG} {D : Nat} {h : xH} {a : Int} (I : zInv h) : zSi g (D + 7) mX8_look [xr 16, xi a] h (fun x h1 => zSi g (D + 7) mX9_look [xr 95, xi a] h1 (fun y h2 => x = y ∧ zInv h2)) := by
  refine zS_sh (fun hs => ?_)
  have Z := zB_of hs I
  have B := rB_inv I
  have z := pM_z I.1
  obtain ⟨n, hn⟩ : ∃ n : Nat, h.2 96 9 = (n : Int) := ⟨(h.2 96 9).toNat, by omega⟩
  have hsz : h.2 30 3 = h.2 96 8 := ((I.2.2.1.1 6 (by decide)) (by decide)).1
  have hsz7 : h.2 32 3 = (n : Int) := by rw [← hn]; exact ((I.2.2.1.1 7 (by decide)) (by decide)).1
  have R : pR h 30 31 80 5 := z_R hs rfl rfl rfl rfl rfl (by decide)
  have R7 : pR h 32 33 200 2 := z_R hs rfl rfl rfl rfl rfl (by decide)
  have no : ¬ ((0 ≤ a ∧ a < h.2 96 8) ∧ n < 200) → zSi g (D + 7) mX9_look [xr 95, xi a] h (fun y h2 => -1 = y ∧ zInv h2) := by
    intro hno
    exact eX9_look (zX9_look_0 (s_isSeal (by omega) (fun y hy => ⟨fun w => zX9_look_21 ⟨rfl, I⟩, fun w => ⟨fun v => by omega, fun v => ⟨rfl, I⟩⟩⟩)))
  refine eX8_look (zX8_look_0 (s_has R.1 (fun x hx => ⟨fun q => zX8_look_27 (no (by omega)), fun q => s_isFull R7.1 (fun x2 hx2 => ⟨fun q2 => zX8_look_29 ?_, fun q2 => no (by have := R7.2.2.1; omega)⟩)⟩)))
  have hfull : n < 200 := by have := R7.2.2.1; omega
  obtain ⟨s, rfl⟩ : ∃ s : Nat, a = (s : Int) := ⟨a.toNat, by omega⟩
  have hsl : (s : Int) < h.2 96 8 := by omega
  have rks := seal_r I.1 hsl
  obtain ⟨d, hd⟩ : ∃ d : Nat, h.2 96 (11130 + 6 * s) = (d : Int) := ⟨(h.2 96 (11130 + 6 * s)).toNat, by omega⟩
  have ed : (h.2 96 (11130 + 6 * s)).toNat = d := by omega
  have rkd := die_r I.1 (d := d) (by omega)
  -- what is told, behind isGood
  have main : ∀ {h1 : xH} (v : Int), fB h h1 → (v = 0 ∧ good (h.2 96) s) ∨ (v = 1 ∧ ¬ good (h.2 96) s) → ∀ {w2 w3 : xV}, zJ g (D + 7) 94 0 0 42 [xr 16, xi s, w2, w3] [xi v] h1 (x_qi (fun x h1 => zSi g (D + 7) mX9_look [xr 95, xi s] h1 (fun y h2 => x = y ∧ zInv h2))) := by
    intro h1 v f hv w2 w3
    have e96 := fB_96 f
    have I1 := fB_inv f I
    have Z1 := fB_zB f Z
    have hs1 := Z1.1
    have R1 : pR h1 30 31 80 5 := z_R hs1 rfl rfl rfl rfl rfl (by decide)
    have R2 : pR h1 22 23 10 17 := z_R hs1 rfl rfl rfl rfl rfl (by decide)
    have R3 : pR h1 32 33 200 2 := z_R hs1 rfl rfl rfl rfl rfl (by decide)
    have sz1 : h1.2 32 3 = (n : Int) := by rw [f.2.1 32 (by decide) (by decide) (by decide)]; exact hsz7
    refine zX8_look_42 (s_get R1 (by omega) (by omega) (by omega) (by omega) ?_)
    rw [show ((s : Int) * ((5 : Nat) : Int) + 0).toNat = s * 5 by omega, (zB_seal Z1 (by rw [e96]; exact hsl)).1, e96, hd]
    refine s_get R2 (by omega) (by omega) (by omega) (by omega) ?_
    have cd : h1.2 23 (d * 17) = h.2 96 (150 + 20 * d) := by
      have := ((Z1.2.2.1.1 2 (by decide)) (by decide)).2 d (by show (d : Int) < h1.2 96 3; rw [e96]; omega) (0, 0) (by decide)
      have e : h1.2 23 (d * 17 + 0) = h1.2 96 (150 + 20 * d + 0) := this
      rw [e96] at e; exact e
    rw [show ((d : Int) * ((17 : Nat) : Int) + 0).toNat = d * 17 by omega, cd]
    refine s_add R3 sz1 hfull (by decide) (by decide) (fun h2 hs2 e1 e2 => ?_)
    have e296 : h2.2 96 = h.2 96 := by rw [e2, p_add_o (by decide) (by decide)]; exact e96
    -- the second heap keeps what is good
    have B2 : rB (h2.2 96) := by rw [e296]; exact B
    have M2 : pM (h2.2 96) := by rw [e296]; exact I.1
    refine eX9_look (zX9_look_0 (s_isSeal (by rw [e296]; omega) (fun y hy => ⟨fun w => by rw [e296] at hy; omega, fun w => ⟨fun v1 => zX9_look_23 (r_isGood M2 B2 (by rw [e296]; exact hsl) (fun u h3 f3 hu => ?_)), fun v1 => by rw [e296] at v1; omega⟩⟩)))
    rw [e296] at hu
    have e396 : h3.2 96 = h.2 96 := (fR_96 f3).trans e296
    have fin : ∀ {w1 w2 : xV}, zJ g (D + 7) 208 0 0 36 [xr 95, xi s, w2] [xi v] h3 (x_qi (fun y h2 => v = y ∧ zInv h2)) := by
      intro w1 w2
      refine zX9_look_36 ?_
      simp (disch := omega) only [e396, hn, x32_id, x_up_eq, x_up_j]
      rw [show (11610 + 3 * (n : Int)).toNat = 11610 + 3 * n by omega, show (11610 + 3 * (n : Int) + 1).toNat = 11611 + 3 * n by omega]
      refine ⟨by omega, by omega, trivial, ?_⟩
      generalize hC : x_up (x_up (x_up h3.2 96 (11610 + 3 * n) s) 96 (11611 + 3 * n) v) 96 9 ((n : Int) + 1) = C
      have ho : ∀ r, r ≠ 96 → r ≠ 102 → r ≠ 103 → r ≠ 104 → C r = h2.2 r := fun r hr a1 a2 a3 => by rw [← hC, x_up_r hr, x_up_r hr, x_up_r hr]; exact f3.2 r a1 a2 a3
      have hu : ∀ k, C 96 k = if k = 9 then (n : Int) + 1 else if k = 11611 + 3 * n then v else if k = 11610 + 3 * n then (s : Int) else h.2 96 k := by
        intro k
        rw [← hC, x_up_k, x_up_k, x_up_k, e396]
      have v0 : C 96 (11610 + 3 * n) = (s : Int) := by rw [hu, if_neg (by omega), if_neg (by omega), if_pos rfl]
      have v1 : C 96 (11611 + 3 * n) = v := by rw [hu, if_neg (by omega), if_pos rfl]
      have vo : ∀ k, k ≠ 9 → ¬ (11610 + 3 * n ≤ k ∧ k < 11612 + 3 * n) → C 96 k = h.2 96 k := fun k k1 k2 => by rw [hu, if_neg k1, if_neg (by omega), if_neg (by omega)]
      have I3 : zInv (h3.1, C) := by
        have g75 : C 75 3 = h.2 75 3 := by rw [ho 75 (by decide) (by decide) (by decide) (by decide), e2, p_add_o (by decide) (by decide)]; exact f.2.2 3 (by decide)
        refine inv_addgS (t0 := 7) (n := n) I (by decide) ?_ g75 (fun r r0 r1 r2 r3 => ?_) hn hfull ?_ (fun j hj => ?_) ?_ (fun k k1 k2 => ?_) (fun p hp => ?_) ?_ (by omega) (fun _ => ?_) (by omega)
        · show h3.1 = h.1
          rw [f3.1, e1, f.1]
        · show C r = h.2 r
          rw [ho r r3 (by omega) (by omega) (by omega), e2, p_add_o r1 r2]
          exact f.2.1 r (by omega) (by omega) (by omega)
        · show C 32 3 = _
          rw [ho 32 (by decide) (by decide) (by decide) (by decide), e2]; exact p_add_z
        · show C 33 j = h.2 33 j
          have hj : j < n * 2 := hj
          rw [ho 33 (by decide) (by decide) (by decide) (by decide), e2, p_add_lt (by decide) hj, f.2.1 33 (by decide) (by decide) (by decide)]
        · show C 96 9 = _
          rw [hu, if_pos rfl]
        · show C 96 k = h.2 96 k
          have k2 : ¬ (11610 + 3 * n ≤ k ∧ k < 11610 + 3 * n + 3) := k2
          exact vo k k1 (by omega)
        · have hp : p = (1, 1) := by simpa [t_p] using hp
          subst hp
          show C 33 (n * 2 + 1) = C 96 (11610 + 3 * n + 1)
          rw [ho 33 (by decide) (by decide) (by decide) (by decide), e2, p_add_at (by decide) (by decide), show 11610 + 3 * n + 1 = 11611 + 3 * n by omega, v1]
          rfl
        · show (0 ≤ C 96 (11610 + 3 * n) ∧ C 96 (11610 + 3 * n) < C 96 8) ∧ 0 ≤ C 96 (11611 + 3 * n) ∧ C 96 (11611 + 3 * n) ≤ 1
          rw [v0, v1, vo 8 (by omega) (by omega)]
          omega
        · show C 33 (n * 2) = C 96 (150 + 20 * (C 96 (11130 + 6 * (C 96 (11610 + 3 * n)).toNat)).toNat)
          rw [v0, show ((s : Int)).toNat = s by omega, vo (11130 + 6 * s) (by omega) (by omega), ed, vo (150 + 20 * d) (by omega) (by omega), ho 33 (by decide) (by decide) (by decide) (by decide), e2]
          have := p_add_at (C := h1.2) (r := 32) (q := 33) (wi := 2) (n := n) (c := 0) (f := h.2 96 (150 + 20 * d)) (s := v) (t := 0) (by decide) (by decide)
          rw [Nat.add_zero] at this
          rw [this]; rfl
      exact I3
    refine ⟨fun t => zX9_look_35 ?_, fun t => ?_⟩
    · have : v = 1 := by
        rcases hv with q | q
        · rcases hu with p | p
          · omega
          · exact absurd q.2 p.2
        · exact q.1
      subst this; exact fin (w1 := xu)
    · have : v = 0 := by
        rcases hv with q | q
        · exact q.1
        · rcases hu with p | p
          · exact absurd p.2 q.2
          · omega
      subst this; exact fin (w1 := xu)
  refine s_isGood Z hsl (fun v h1 f hv => ⟨fun q3 => zX8_look_41 (main 1 f (Or.inr ⟨rfl, ?_⟩)), fun q3 => main 0 f (Or.inl ⟨rfl, ?_⟩)⟩)
  · rcases hv with u | u
    · omega
    · exact u.2
  · rcases hv with u | u
    · exact u.2
    · omega
