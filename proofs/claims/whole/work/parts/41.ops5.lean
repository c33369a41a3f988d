/-! seed, undo, flaw -/
theorem op_seed {g : xG} {D : Nat} {h : xH} {a b : Int} (I : zInv h) : zSi g (D + 3) mX8_seed [xr 16, xi a, xi b] h (fun x h1 => zSi g (D + 3) mX9_seed [xr 95, xi a, xi b] h1 (fun y h2 => x = y ∧ zInv h2)) := by
  refine zS_sh (fun hs => ?_)
  have hz1 : 0 ≤ h.2 96 2 ∧ h.2 96 2 ≤ 30 := I.1.1.2.2.2.2.2.2 1 (by decide) (by decide)
  have hsz1 : h.2 20 3 = h.2 96 2 := ((I.2.2.1.1 1 (by decide)) (by decide)).1
  have R1 : pR h 20 21 30 3 := z_R hs rfl rfl rfl rfl rfl (by decide)
  have no : ¬ ((0 ≤ a ∧ a < h.2 96 2) ∧ (0 ≤ b ∧ b ≤ 99)) → zSi g (D + 3) mX9_seed [xr 95, xi a, xi b] h (fun y h2 => 0 = y ∧ zInv h2) := by
    intro hno
    refine eX9_seed (zX9_seed_0 (s_isPerson hz1 (fun y hy => ⟨fun w => zX9_seed_18 ⟨Or.inl rfl, rfl, I⟩, fun w => s_in (fun y2 hy2 => ⟨fun w2 => ?_, fun w2 => ⟨Or.inl rfl, rfl, I⟩⟩)⟩)))
    omega
  refine eX8_seed (zX8_seed_0 (s_has R1.1 (fun x hx => ⟨fun z => zX8_seed_24 ⟨Or.inl rfl, no (by omega)⟩, fun z => s_win (fun x2 hx2 => ⟨fun z2 => zX8_seed_26 (s_set R1 (by omega) (by omega) (by omega) (by omega) (fun h1 hs1 e1 => ⟨Or.inr rfl, ?_⟩)), fun z2 => ⟨Or.inl rfl, no (by omega)⟩⟩)⟩)))
  obtain ⟨i, hi⟩ : ∃ i : Nat, a = (i : Int) := ⟨a.toNat, by omega⟩
  subst hi
  have e2 : h1.2 = x_up h.2 21 (i * 3 + 2) b := by rw [e1]; show x_up h.2 21 ((i : Int) * (3 : Nat) + (2 : Nat)).toNat b = _; rw [p_nat]
  have e3 : h1.1 = h.1 := by rw [e1]
  have e96 : h1.2 96 = h.2 96 := by rw [e2]; exact x_up_r (by decide)
  refine eX9_seed (zX9_seed_0 (s_isPerson (by rw [e96]; exact hz1) (fun y hy => ⟨fun w => ?_, fun w => s_in (fun y2 hy2 => ⟨fun w2 => zX9_seed_20 ?_, fun w2 => ?_⟩)⟩)))
  · rw [e96] at hy; omega
  · clear hy hy2 e1
    simp (disch := omega) only [x32_id]
    refine ⟨by omega, Or.inr trivial, trivial, ?_⟩
    rw [show (30 + 4 * (i : Int) + 2).toNat = 30 + 4 * i + 2 by omega]
    have hA : ∀ k, x_up h1.2 96 (30 + 4 * i + 2) b 96 k = if k = 30 + 4 * i + 2 then b else h.2 96 k := by
      intro k; unfold x_up; rw [e96]; repeat' split
      all_goals first | rfl | omega
    refine inv_set (t0 := 1) (i := i) (c := 2) (v := b) I (by decide) e3 (show (i : Int) < h.2 96 2 by omega) (fun r hr => by rw [show (h1.1, x_up h1.2 96 (30 + 4 * i + 2) b).2 = x_up h1.2 96 (30 + 4 * i + 2) b from rfl, x_up_r hr, e2]; rfl) hA ?_
    obtain ⟨r1, r2, r3⟩ : (0 ≤ h.2 96 (30 + 4 * i) ∧ h.2 96 (30 + 4 * i) < h.2 96 1) ∧ (0 ≤ h.2 96 (31 + 4 * i) ∧ h.2 96 (31 + 4 * i) ≤ 9) ∧ _ := I.1.2.2 1 (by decide) (by decide) i (show (i : Int) < h.2 96 2 by omega)
    have v0 := hA (30 + 4 * i)
    have v1 := hA (31 + 4 * i)
    have v2 := hA (32 + 4 * i)
    have v3 := hA 1
    rw [if_neg (by omega)] at v0 v1 v3
    rw [if_pos (by omega)] at v2
    unfold rok
    show (0 ≤ x_up h1.2 96 (30 + 4 * i + 2) b 96 (30 + 4 * i) ∧ x_up h1.2 96 (30 + 4 * i + 2) b 96 (30 + 4 * i) < x_up h1.2 96 (30 + 4 * i + 2) b 96 1) ∧ (0 ≤ x_up h1.2 96 (30 + 4 * i + 2) b 96 (31 + 4 * i) ∧ x_up h1.2 96 (30 + 4 * i + 2) b 96 (31 + 4 * i) ≤ 9) ∧ 0 ≤ x_up h1.2 96 (30 + 4 * i + 2) b 96 (32 + 4 * i) ∧ x_up h1.2 96 (30 + 4 * i + 2) b 96 (32 + 4 * i) ≤ 99
    rw [v0, v1, v2, v3]
    omega
  · omega
theorem s_standing {g : xG} {D : Nat} {h : xH} {i : Nat} {Q : Int → xH → Prop} (hs : zSh h) (I : zInv h) (hi : (i : Int) < h.2 96 10) (hQ : ∀ v : Int, (v = 1 ∧ h.2 96 (12212 + 4 * i) ≠ -1 ∧ h.2 96 (12213 + 4 * i) = -1) ∨ (v = 0 ∧ ¬ (h.2 96 (12212 + 4 * i) ≠ -1 ∧ h.2 96 (12213 + 4 * i) = -1)) → Q v h) : zSi g (D + 1) mX8_isStanding [xr 16, xi i] h Q := by
  have R : pR h 34 35 80 4 := z_R hs rfl rfl rfl rfl rfl (by decide)
  have hz : 0 ≤ h.2 96 10 ∧ h.2 96 10 ≤ 80 := I.1.1.2.2.2.2.2.2 8 (by decide) (by decide)
  have c8 := ((I.2.2.1.1 8 (by decide)) (by decide)).2 i hi
  have k2 : h.2 35 (i * 4 + 2) = h.2 96 (12212 + 4 * i) := by rw [show 12212 + 4 * i = 12210 + 4 * i + 2 by omega]; exact c8 (2, 2) (by decide)
  have k3 : h.2 35 (i * 4 + 3) = h.2 96 (12213 + 4 * i) := by rw [show 12213 + 4 * i = 12210 + 4 * i + 3 by omega]; exact c8 (3, 3) (by decide)
  have p2 : ((i : Int) * ((4 : Nat) : Int) + 2).toNat = i * 4 + 2 := by omega
  have p3 : ((i : Int) * ((4 : Nat) : Int) + 3).toNat = i * 4 + 3 := by omega
  refine eX8_isStanding (zX8_isStanding_0 (s_get R (by omega) (by omega) (by omega) (by omega) ?_))
  rw [p2, k2]
  refine ⟨fun z => zX8_isStanding_36 ⟨Or.inl rfl, hQ 0 (Or.inr ⟨rfl, fun y => y.1 z⟩)⟩, fun z => s_get R (by omega) (by omega) (by omega) (by omega) ?_⟩
  rw [p3, k3]
  exact ⟨fun z2 => zX8_isStanding_36 ⟨Or.inl rfl, hQ 0 (Or.inr ⟨rfl, fun y => z2 y.2⟩)⟩, fun z2 => ⟨Or.inr rfl, hQ 1 (Or.inl ⟨rfl, z, z2⟩)⟩⟩
theorem op_undo {g : xG} {D : Nat} {h : xH} {a : Int} (I : zInv h) : zSi g (D + 3) mX8_undo [xr 16, xi a] h (fun x h1 => zSi g (D + 3) mX9_undo [xr 95, xi a] h1 (fun y h2 => x = y ∧ zInv h2)) := by
  refine zS_sh (fun hs => ?_)
  have hz : 0 ≤ h.2 96 10 ∧ h.2 96 10 ≤ 80 := I.1.1.2.2.2.2.2.2 8 (by decide) (by decide)
  have hsz : h.2 34 3 = h.2 96 10 := ((I.2.2.1.1 8 (by decide)) (by decide)).1
  have hday : h.2 17 14 = h.2 96 0 := I.2.2.1.2.1.2.1
  have R : pR h 34 35 80 4 := z_R hs rfl rfl rfl rfl rfl (by decide)
  have rk : ∀ i : Nat, (i : Int) < h.2 96 10 → (0 ≤ h.2 96 (12210 + 4 * i) ∧ h.2 96 (12210 + 4 * i) < h.2 96 4) ∧ (0 ≤ h.2 96 (12211 + 4 * i) ∧ h.2 96 (12211 + 4 * i) ≤ h.2 96 0) ∧ (-1 ≤ h.2 96 (12212 + 4 * i) ∧ h.2 96 (12212 + 4 * i) ≤ 1000000000) ∧ -1 ≤ h.2 96 (12213 + 4 * i) ∧ h.2 96 (12213 + 4 * i) ≤ h.2 96 0 := fun i hi => I.1.2.2 8 (by decide) (by decide) i hi
  have s0 := I.1.1.1
  have no : (∀ i : Nat, a = (i : Int) → (i : Int) < h.2 96 10 → ¬ (h.2 96 (12212 + 4 * i) ≠ -1 ∧ h.2 96 (12213 + 4 * i) = -1)) → zSi g (D + 3) mX9_undo [xr 95, xi a] h (fun y h2 => 0 = y ∧ zInv h2) := by
    intro hno
    refine eX9_undo (zX9_undo_0 ?_)
    rw [x32_id (by omega) (by omega)]
    refine s_in (fun y hy => ⟨fun w => zX9_undo_51 ⟨Or.inl rfl, rfl, I⟩, fun w => ?_⟩)
    obtain ⟨i, hi⟩ : ∃ i : Nat, a = (i : Int) := ⟨a.toNat, by omega⟩
    subst hi
    have := hno i rfl (by omega)
    have := rk i (by omega)
    clear hno
    simp (disch := omega) only [x32_id]
    rw [show (12210 + 4 * (i : Int) + 2).toNat = 12212 + 4 * i by omega, show (12210 + 4 * (i : Int) + 3).toNat = 12213 + 4 * i by omega]
    exact ⟨by omega, fun _ => zX9_undo_51 ⟨Or.inl rfl, rfl, I⟩, fun w2 => ⟨by omega, fun w3 => by omega, fun w3 => ⟨Or.inl trivial, trivial, I⟩⟩⟩
  refine eX8_undo (zX8_undo_0 (s_has R.1 (fun x hx => ⟨fun z => zX8_undo_22 ⟨Or.inl rfl, no (fun i hi hl => by omega)⟩, fun z => ?_⟩)))
  obtain ⟨i, hi⟩ : ∃ i : Nat, a = (i : Int) := ⟨a.toNat, by omega⟩
  subst hi
  have hi : (i : Int) < h.2 96 10 := by omega
  refine s_standing hs I hi (fun x2 hx2 => ⟨fun z2 => zX8_undo_24 (s_set R (by omega) (by omega) (by omega) (by omega) (fun h1 hs1 e1 => ⟨Or.inr rfl, ?_⟩)), fun z2 => ⟨Or.inl rfl, no (fun j hj hl => ?_)⟩⟩)
  · have e2 : h1.2 = x_up h.2 35 (i * 4 + 3) (h.2 96 0) := by rw [e1, hday]; show x_up h.2 35 ((i : Int) * (4 : Nat) + (3 : Nat)).toNat _ = _; rw [p_nat]
    have e3 : h1.1 = h.1 := by rw [e1]
    have e96 : h1.2 96 = h.2 96 := by rw [e2]; exact x_up_r (by decide)
    have r8 := rk i hi
    clear no rk e1
    refine eX9_undo (zX9_undo_0 ?_)
    rw [e96, x32_id (by omega) (by omega)]
    refine s_in (fun y hy => ⟨fun w => by omega, fun w => ?_⟩)
    rw [e96]
    simp (disch := omega) only [x32_id]
    rw [show (12210 + 4 * (i : Int) + 2).toNat = 12212 + 4 * i by omega, show (12210 + 4 * (i : Int) + 3).toNat = 12213 + 4 * i by omega]
    refine ⟨by omega, fun w2 => by omega, fun w2 => ⟨by omega, fun w3 => zX9_undo_53 ?_, fun w3 => by omega⟩⟩
    simp (disch := omega) only [x32_id]
    refine ⟨by omega, Or.inr trivial, trivial, ?_⟩
    rw [show (12210 + 4 * (i : Int) + 3).toNat = 12210 + 4 * i + 3 by omega, e96]
    have hA : ∀ k, x_up h1.2 96 (12210 + 4 * i + 3) (h.2 96 0) 96 k = if k = 12210 + 4 * i + 3 then h.2 96 0 else h.2 96 k := by
      intro k; unfold x_up; rw [e96]; repeat' split
      all_goals first | rfl | omega
    refine inv_set (t0 := 8) (i := i) (c := 3) (v := h.2 96 0) I (by decide) e3 hi (fun r hr => by rw [show (h1.1, x_up h1.2 96 (12210 + 4 * i + 3) (h.2 96 0)).2 = x_up h1.2 96 (12210 + 4 * i + 3) (h.2 96 0) from rfl, x_up_r hr, e2]; rfl) hA ?_
    have v0 := hA (12210 + 4 * i)
    have v1 := hA (12211 + 4 * i)
    have v2 := hA (12212 + 4 * i)
    have v3 := hA (12213 + 4 * i)
    have v4 := hA 4
    have v5 := hA 0
    rw [if_neg (by omega)] at v0 v1 v2 v4 v5
    rw [if_pos (by omega)] at v3
    generalize x_up h1.2 96 (12210 + 4 * i + 3) (h.2 96 0) = C at v0 v1 v2 v3 v4 v5
    show (0 ≤ C 96 (12210 + 4 * i) ∧ C 96 (12210 + 4 * i) < C 96 4) ∧ (0 ≤ C 96 (12211 + 4 * i) ∧ C 96 (12211 + 4 * i) ≤ C 96 0) ∧ (-1 ≤ C 96 (12212 + 4 * i) ∧ C 96 (12212 + 4 * i) ≤ 1000000000) ∧ -1 ≤ C 96 (12213 + 4 * i) ∧ C 96 (12213 + 4 * i) ≤ C 96 0
    omega
  · have : j = i := by omega
    subst this
    omega
theorem op_flaw {g : xG} {D : Nat} {h : xH} {a b c : Int} (I : zInv h) : zSi g (D + 3) mX8_flaw [xr 16, xi a, xi b, xi c] h (fun x h1 => zSi g (D + 3) mX9_flaw [xr 95, xi a, xi b, xi c] h1 (fun y h2 => x = y ∧ zInv h2)) := by
  refine zS_sh (fun hs => ?_)
  have hz : 0 ≤ h.2 96 3 ∧ h.2 96 3 ≤ 10 := I.1.1.2.2.2.2.2.2 2 (by decide) (by decide)
  have hsz : h.2 22 3 = h.2 96 3 := ((I.2.2.1.1 2 (by decide)) (by decide)).1
  have hday : h.2 17 14 = h.2 96 0 := I.2.2.1.2.1.2.1
  have R : pR h 22 23 10 17 := z_R hs rfl rfl rfl rfl rfl (by decide)
  have rk : ∀ i : Nat, (i : Int) < h.2 96 3 → (0 ≤ h.2 96 (150 + 20 * i) ∧ h.2 96 (150 + 20 * i) < h.2 96 2) ∧ ∀ k, k < 16 → -1 ≤ h.2 96 (151 + 20 * i + k) ∧ h.2 96 (151 + 20 * i + k) ≤ h.2 96 0 := fun i hi => I.1.2.2 2 (by decide) (by decide) i hi
  have no : (∀ i j : Nat, a = (i : Int) → (i : Int) < h.2 96 3 → b = (j : Int) → j < 16 → 0 ≤ c → c ≤ h.2 96 0 → h.2 96 (151 + 20 * i + j) = -1 → False) → zSi g (D + 3) mX9_flaw [xr 95, xi a, xi b, xi c] h (fun y h2 => 0 = y ∧ zInv h2) := by
    intro hno
    refine eX9_flaw (zX9_flaw_0 ?_)
    rw [x32_id (by omega) (by omega)]
    refine s_in (fun y hy => ⟨fun w => zX9_flaw_60 ⟨Or.inl rfl, rfl, I⟩, fun w => s_in (fun y2 hy2 => ⟨fun w2 => zX9_flaw_60 ⟨Or.inl rfl, rfl, I⟩, fun w2 => s_in (fun y3 hy3 => ⟨fun w3 => zX9_flaw_60 ⟨Or.inl rfl, rfl, I⟩, fun w3 => ?_⟩)⟩)⟩)
    obtain ⟨i, hi⟩ : ∃ i : Nat, a = (i : Int) := ⟨a.toNat, by omega⟩
    obtain ⟨j, hj⟩ : ∃ j : Nat, b = (j : Int) := ⟨b.toNat, by omega⟩
    subst hi; subst hj
    have q1 := hno i j rfl (by omega) rfl (by omega) (by omega) (by omega)
    have q2 := (rk i (by omega)).2 j (by omega)
    clear hno
    simp (disch := omega) only [x32_id]
    rw [show (150 + 20 * (i : Int) + 1 + (j : Int)).toNat = 151 + 20 * i + j by omega]
    exact ⟨by omega, fun w4 => (q1 (by omega)).elim, fun w4 => ⟨Or.inl trivial, trivial, I⟩⟩
  refine eX8_flaw (zX8_flaw_0 (s_has R.1 (fun x hx => ⟨fun z => zX8_flaw_39 ⟨Or.inl rfl, no (fun i j hi hl _ _ _ _ _ => by omega)⟩, fun z => s_win (fun x2 hx2 => ⟨fun z2 => zX8_flaw_39 ⟨Or.inl rfl, no (fun i j _ _ hj hl _ _ _ => by omega)⟩, fun z2 => s_win (fun x3 hx3 => ⟨fun z3 => zX8_flaw_41 ?_, fun z3 => ⟨Or.inl rfl, no (fun i j _ _ _ _ c1 c2 _ => by omega)⟩⟩)⟩)⟩)))
  obtain ⟨i, hi⟩ : ∃ i : Nat, a = (i : Int) := ⟨a.toNat, by omega⟩
  obtain ⟨j, hj⟩ : ∃ j : Nat, b = (j : Int) := ⟨b.toNat, by omega⟩
  subst hi; subst hj
  have hi : (i : Int) < h.2 96 3 := by omega
  have hj : j < 16 := by omega
  rw [x32_id (by omega) (by omega)]
  have k2 : h.2 23 (i * 17 + (1 + j)) = h.2 96 (151 + 20 * i + j) := by
    have := ((I.2.2.1.1 2 (by decide)) (by decide)).2 i hi (1 + j, 1 + j) (by
      have : j = 0 ∨ j = 1 ∨ j = 2 ∨ j = 3 ∨ j = 4 ∨ j = 5 ∨ j = 6 ∨ j = 7 ∨ j = 8 ∨ j = 9 ∨ j = 10 ∨ j = 11 ∨ j = 12 ∨ j = 13 ∨ j = 14 ∨ j = 15 := by omega
      rcases this with e | e | e | e | e | e | e | e | e | e | e | e | e | e | e | e <;> subst e <;> decide)
    rw [show 151 + 20 * i + j = 150 + 20 * i + (1 + j) by omega]
    exact this
  refine s_get R (by omega) (by omega) (by omega) (by omega) ?_
  rw [show ((i : Int) * ((17 : Nat) : Int) + (1 + (j : Int))).toNat = i * 17 + (1 + j) by omega, k2]
  refine ⟨fun z4 => zX8_flaw_61 ?_, fun z4 => ⟨Or.inl rfl, no (fun i' j' hi' _ hj' _ _ _ y => ?_)⟩⟩
  · rw [x32_id (by omega) (by omega)]
    refine s_set R (by omega) (by omega) (by omega) (by omega) (fun h1 hs1 e1 => ⟨Or.inr rfl, ?_⟩)
    have e2 : h1.2 = x_up h.2 23 (i * 17 + (1 + j)) c := by rw [e1]; show x_up h.2 23 ((i : Int) * (17 : Nat) + (1 + (j : Int))).toNat _ = _; rw [show ((i : Int) * ((17 : Nat) : Int) + (1 + (j : Int))).toNat = i * 17 + (1 + j) by omega]
    have e3 : h1.1 = h.1 := by rw [e1]
    have e96 : h1.2 96 = h.2 96 := by rw [e2]; exact x_up_r (by decide)
    have rki := rk i hi
    clear no rk e1
    refine eX9_flaw (zX9_flaw_0 ?_)
    rw [e96, x32_id (by omega) (by omega)]
    refine s_in (fun y hy => ⟨fun w => by omega, fun w => s_in (fun y2 hy2 => ⟨fun w2 => by omega, fun w2 => ?_⟩)⟩)
    rw [e96]
    refine s_in (fun y3 hy3 => ⟨fun w3 => by omega, fun w3 => ?_⟩)
    rw [e96]
    simp (disch := omega) only [x32_id]
    rw [show (150 + 20 * (i : Int) + 1 + (j : Int)).toNat = 151 + 20 * i + j by omega]
    refine ⟨by omega, fun w4 => zX9_flaw_62 ?_, fun w4 => by omega⟩
    simp (disch := omega) only [x32_id]
    rw [show (150 + 20 * (i : Int) + 1 + (j : Int)).toNat = 150 + 20 * i + (1 + j) by omega]
    refine ⟨by omega, Or.inr trivial, trivial, ?_⟩
    have hA : ∀ k, x_up h1.2 96 (150 + 20 * i + (1 + j)) c 96 k = if k = 150 + 20 * i + (1 + j) then c else h.2 96 k := by
      intro k; unfold x_up; rw [e96]; repeat' split
      all_goals first | rfl | omega
    refine inv_set (t0 := 2) (i := i) (c := 1 + j) (v := c) I (by omega) e3 hi (fun r hr => by rw [show (h1.1, x_up h1.2 96 (150 + 20 * i + (1 + j)) c).2 = x_up h1.2 96 (150 + 20 * i + (1 + j)) c from rfl, x_up_r hr, e2]; rfl) hA ?_
    refine (show (0 ≤ x_up h1.2 96 (150 + 20 * i + (1 + j)) c 96 (150 + 20 * i) ∧ x_up h1.2 96 (150 + 20 * i + (1 + j)) c 96 (150 + 20 * i) < x_up h1.2 96 (150 + 20 * i + (1 + j)) c 96 2) ∧ ∀ k, k < 16 → -1 ≤ x_up h1.2 96 (150 + 20 * i + (1 + j)) c 96 (151 + 20 * i + k) ∧ x_up h1.2 96 (150 + 20 * i + (1 + j)) c 96 (151 + 20 * i + k) ≤ x_up h1.2 96 (150 + 20 * i + (1 + j)) c 96 0 from ⟨?_, fun k hk => ?_⟩)
    · rw [hA, hA, if_neg (by omega), if_neg (by omega)]; exact rki.1
    · rw [hA, hA, if_neg (show 0 ≠ 150 + 20 * i + (1 + j) by omega)]
      by_cases e : k = j
      · rw [if_pos (by omega)]; omega
      · rw [if_neg (by omega)]; exact rki.2 k hk
  · have q1 : i' = i := by omega
    have q2 : j' = j := by omega
    subst q1; subst q2
    exact z4 y
