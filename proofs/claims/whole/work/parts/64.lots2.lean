/-! draw, count -/
theorem inv_lot0 {h h2 : xH} {i : Nat} (I : zInv h) (h1 : h2.1 = h.1) (hi : (i : Int) < h.2 96 12) (hC : ∀ r, r ≠ 41 → r ≠ 96 → h2.2 r = h.2 r) (c41 : ∀ j, ¬ (i * 83 ≤ j ∧ j < i * 83 + 83) → h2.2 41 j = h.2 41 j) (a96 : ∀ k, ¬ (12650 + 100 * i ≤ k ∧ k < 12750 + 100 * i) → h2.2 96 k = h.2 96 k)
    (p0 : h2.2 41 (i * 83) = h2.2 96 (12650 + 100 * i)) (p1 : h2.2 41 (i * 83 + 1) = h2.2 96 (12651 + 100 * i)) (p2 : h2.2 41 (i * 83 + 2) = h2.2 96 (12652 + 100 * i)) (hr : rok (h2.2 96) 11 i)
    (hl : ∀ k : Nat, (k : Int) < h2.2 96 (12651 + 100 * i) → h2.2 41 (i * 83 + 3 + k) = h2.2 96 (12653 + 100 * i + k) ∧ h2.2 41 (i * 83 + 43 + k) = h2.2 96 (12693 + 100 * i + (h2.2 96 (12653 + 100 * i + k)).toNat)) : zInv h2 := by
  obtain ⟨i1, i2, i3, i4, i5⟩ := I
  have zz := pM_z i1
  have e97 := hC 97 (by decide) (by decide)
  have e98 := hC 98 (by decide) (by decide)
  have e99 := hC 99 (by decide) (by decide)
  obtain ⟨⟨s0, s6, s14, s15, s16, s17, sz⟩, ⟨b1, b2, b3⟩, rk⟩ := i1
  have lo : ∀ k, k < 12650 → h2.2 96 k = h.2 96 k := fun k hk => a96 k (by omega)
  have zt : ∀ t, t < 12 → t_z t < 20 := by
    intro t ht
    rcases (show t = 0 ∨ t = 1 ∨ t = 2 ∨ t = 3 ∨ t = 4 ∨ t = 5 ∨ t = 6 ∨ t = 7 ∨ t = 8 ∨ t = 9 ∨ t = 10 ∨ t = 11 by omega) with e | e | e | e | e | e | e | e | e | e | e | e <;> subst e <;> decide
  have hm : pM (h2.2 96) := by
    refine ⟨⟨by rw [lo 0 (by decide)]; exact s0, by rw [lo 6 (by decide)]; exact s6, by rw [lo 14 (by decide)]; exact s14, by rw [lo 15 (by decide)]; exact s15, by rw [lo 16 (by decide)]; exact s16, by rw [lo 17 (by decide)]; exact s17, fun t ht h9 => by rw [lo _ (by have := zt t ht; omega)]; exact sz t ht h9⟩, ⟨fun j a b => ?_, fun j a b => ?_, fun j a b => ?_⟩, fun t ht h9 j hj => ?_⟩
    · rw [lo 2 (by decide)] at a; rw [lo _ (by omega)]; exact b1 j a b
    · rw [lo 8 (by decide)] at a; rw [lo _ (by omega)]; exact b2 j a b
    · rw [lo 12 (by decide)] at a; rw [a96 _ (by omega), a96 _ (by omega)]; exact b3 j a b
    · rw [lo _ (by have := zt t ht; omega)] at hj
      have him : j < t_m t := by have := sz t ht h9; omega
      by_cases e : t = 11 ∧ j = i
      · obtain ⟨e1, e2⟩ := e
        subst e1; subst e2
        exact hr
      · refine rok_mono ht (fun k k1 k2 => a96 k ?_) (by rw [lo 0 (by decide)]; exact Int.le_refl _) (by rw [lo 1 (by decide)]; exact Int.le_refl _) (by rw [lo 2 (by decide)]; exact Int.le_refl _) (by rw [lo 3 (by decide)]; exact Int.le_refl _) (by rw [lo 4 (by decide)]; exact Int.le_refl _) (by rw [lo 6 (by decide)]; exact Int.le_refl _) (by rw [lo 8 (by decide)]; exact Int.le_refl _) (rk t ht h9 j hj)
        by_cases e11 : t = 11
        · subst e11
          have k1 : 12650 + 100 * j ≤ k := k1
          have k2 : k < 12650 + 100 * j + 100 := k2
          omega
        · have d := t_dj t ht 11 (by decide) e11
          have hm2 : t_s t * j + t_s t ≤ t_s t * t_m t := by
            have := Nat.mul_le_mul_left (t_s t) (show j + 1 ≤ t_m t by omega)
            rw [Nat.mul_add, Nat.mul_one] at this
            exact this
          have d1 : t_b t + t_s t * t_m t ≤ 12650 ∨ 13650 ≤ t_b t ∨ t = 9 ∨ (11 : Nat) = 9 := d.1
          omega
  refine ⟨hm, by rw [e97]; exact i2, ?_, ?_, pTp_congr (fun r hr => hC r (by omega) (by omega)) i5⟩
  · rw [e98]
    obtain ⟨q1, q2, q3, q4, q5, q6⟩ := i3
    refine ⟨fun t ht => ?_, ?_, ?_, ?_, ?_, pActs_frame h1 (fun j => by rw [hC 42 (by decide) (by decide)]) (fun r hr => hC r (by omega) (by omega)) (fun k k1 k2 => lo k (by omega)) (lo 6 (by decide)) s6.2 q6⟩
    · by_cases e11 : t = 11
      · subst e11
        intro _
        obtain ⟨c1, c2⟩ := q1 11 ht (by decide)
        refine ⟨?_, fun j hj p hp => ?_⟩
        · show h2.2 40 3 = h2.2 96 12
          rw [hC 40 (by decide) (by decide), lo 12 (by decide)]; exact c1
        · have hj : (j : Int) < h2.2 96 12 := hj
          rw [lo 12 (by decide)] at hj
          have c2j : h.2 41 (j * 83 + p.1) = h.2 96 (12650 + 100 * j + p.2) := c2 j hj p hp
          show h2.2 41 (j * 83 + p.1) = h2.2 96 (12650 + 100 * j + p.2)
          have hp : p = (0, 0) ∨ p = (1, 1) ∨ p = (2, 2) := by simpa [t_p] using hp
          by_cases e : j = i
          · subst e
            rcases hp with e | e | e <;> subst e
            · exact p0
            · show h2.2 41 (j * 83 + 1) = h2.2 96 (12650 + 100 * j + 1); rw [show 12650 + 100 * j + 1 = 12651 + 100 * j by omega]; exact p1
            · show h2.2 41 (j * 83 + 2) = h2.2 96 (12650 + 100 * j + 2); rw [show 12650 + 100 * j + 2 = 12652 + 100 * j by omega]; exact p2
          · have hp3 : p.1 < 3 ∧ p.2 < 3 := by rcases hp with e | e | e <;> subst e <;> decide
            rw [c41 _ (by omega), a96 _ (by omega)]; exact c2j
      · intro h9
        have d := t_dj t ht 11 (by decide) e11
        have d1 : t_b t + t_s t * t_m t ≤ 12650 ∨ 13650 ≤ t_b t ∨ t = 9 ∨ (11 : Nat) = 9 := d.1
        exact cT_frame (q1 t ht) ht (by rw [hC (17 + 1 + 2 * t) (by omega) (by omega)]) (fun j => by rw [hC (17 + 2 + 2 * t) (by omega) (by omega)]) (fun k k1 k2 => a96 k (by omega)) (lo _ (by have := zt t ht; omega)) (sz t ht h9).2 h9
    · unfold pSc
      rw [hC 17 (by decide) (by decide), lo 6 (by decide), lo 0 (by decide), lo 14 (by decide), lo 15 (by decide), lo 16 (by decide), lo 17 (by decide)]
      exact q2
    · intro j hj
      rw [lo 9 (by decide)] at hj
      have r7 : (0 ≤ h.2 96 (11610 + 3 * j) ∧ h.2 96 (11610 + 3 * j) < h.2 96 8) ∧ 0 ≤ h.2 96 (11611 + 3 * j) ∧ h.2 96 (11611 + 3 * j) ≤ 1 := rk 7 (by decide) (by decide) j hj
      have r6 : (0 ≤ h.2 96 (11130 + 6 * (h.2 96 (11610 + 3 * j)).toNat) ∧ h.2 96 (11130 + 6 * (h.2 96 (11610 + 3 * j)).toNat) < h.2 96 3) ∧ _ := rk 6 (by decide) (by decide) (h.2 96 (11610 + 3 * j)).toNat (show (((h.2 96 (11610 + 3 * j)).toNat : Nat) : Int) < h.2 96 8 by omega)
      rw [hC (17 + 16) (by decide) (by decide), lo (11610 + 3 * j) (by omega), lo (11130 + 6 * (h.2 96 (11610 + 3 * j)).toNat) (by omega), lo (150 + 20 * (h.2 96 (11130 + 6 * (h.2 96 (11610 + 3 * j)).toNat)).toNat) (by omega)]
      exact q3 j hj
    · intro j hj k hk
      rw [lo 12 (by decide)] at hj
      by_cases e : j = i
      · subst e; exact hl k hk
      · rw [a96 (12651 + 100 * j) (by omega)] at hk
        obtain ⟨r1, r2, r3, r4, r5, -⟩ := rk 11 (by decide) (by decide) j hj
        have r6 := r4 k hk
        show h2.2 41 (j * 83 + 3 + k) = h2.2 96 (12653 + 100 * j + k) ∧ h2.2 41 (j * 83 + 43 + k) = h2.2 96 (12693 + 100 * j + (h2.2 96 (12653 + 100 * j + k)).toNat)
        rw [c41 _ (by omega), c41 _ (by omega), a96 (12653 + 100 * j + k) (by omega), a96 (12693 + 100 * j + (h.2 96 (12653 + 100 * j + k)).toNat) (by omega)]
        exact q4 j hj k hk
    · unfold pFin
      rw [hC (17 + 19) (by decide) (by decide), hC (17 + 20) (by decide) (by decide), lo 8 (by decide)]
      have ef : (fun i => if i < 80 then h2.2 96 (11134 + 6 * i) else 0) = (fun i => if i < 80 then h.2 96 (11134 + 6 * i) else 0) := by
        funext k
        by_cases hk : k < 80
        · rw [if_pos hk, if_pos hk, lo _ (by omega)]
        · rw [if_neg hk, if_neg hk]
      rw [ef]
      exact q5
  · rw [e97, e99]
    exact pC_congr h1 (fun r hr => hC r (by omega) (by omega)) i2.1.2.1.2 i4
theorem op_count {g : xG} {D : Nat} {h : xH} {a b c : Int} (hb : -2147483648 ≤ b ∧ b < 2147483648) (I : zInv h) : zSi g (D + 3) mX8_count [xr 16, xi a, xi b, xi c] h (fun x h1 => zSi g (D + 3) mX9_count [xr 95, xi a, xi b, xi c] h1 (fun y h2 => x = y ∧ zInv h2)) := by
  refine zS_sh (fun hs => ?_)
  have z := pM_z I.1
  have hsz : h.2 40 3 = h.2 96 12 := ((I.2.2.1.1 11 (by decide)) (by decide)).1
  have R : pR h 40 41 10 83 := z_R hs rfl rfl rfl rfl rfl (by decide)
  refine eX8_count (zX8_count_0 (s_has R.1 (fun x hx => ⟨fun q => zX8_count_34 ⟨Or.inl rfl, eX9_count (zX9_count_0 (s_isLot (by omega) (fun y hy => ⟨fun w => by omega, fun w => ⟨Or.inl rfl, rfl, I⟩⟩)))⟩, fun q => ?_⟩)))
  obtain ⟨i, rfl⟩ : ∃ i : Nat, a = (i : Int) := ⟨a.toNat, by omega⟩
  have hi : (i : Int) < h.2 96 12 := by omega
  obtain ⟨r1, r2, r3, r4, r5, r6⟩ := lot_ok I hi
  obtain ⟨c0, c1, c2⟩ := lot_c I hi
  have hlt : ∀ k : Nat, (k : Int) < h.2 96 (12651 + 100 * i) → h.2 41 (i * 83 + 3 + k) = h.2 96 (12653 + 100 * i + k) ∧ h.2 41 (i * 83 + 43 + k) = h.2 96 (12693 + 100 * i + (h.2 96 (12653 + 100 * i + k)).toNat) := fun k hk => I.2.2.1.2.2.2.1 i hi k hk
  obtain ⟨m, hm⟩ : ∃ m : Nat, h.2 96 (12651 + 100 * i) = (m : Int) := ⟨(h.2 96 (12651 + 100 * i)).toNat, by omega⟩
  -- the reference: whether it is drawn
  have RL : ∀ {h1 : xH} {Q : Int → xH → Prop}, h1.2 96 = h.2 96 → (∀ v : Int, (v = 1 ∧ ∃ k : Nat, k < m ∧ h.2 96 (12653 + 100 * i + k) = b) ∨ (v = 0 ∧ ¬ ∃ k : Nat, k < m ∧ h.2 96 (12653 + 100 * i + k) = b) → ∀ {w1 w6 : xV}, zJ g (D + 3) mX9_count 0 0 74 [xr 95, w1, xi b, xi c, xi ((12650 + 100 * i : Nat) : Int), xi v, w6] [] h1 (x_qi Q)) → zSi g (D + 3) mX9_count [xr 95, xi i, xi b, xi c] h1 Q := by
    intro h1 Q e96 kk
    refine eX9_count (zX9_count_0 (s_isLot (by rw [e96]; omega) (fun y hy => ⟨fun w => zX9_count_10 ?_, fun w => by rw [e96] at hy; omega⟩)))
    rw [x32_id (show -2147483648 ≤ 100 * (i : Int) by omega) (by omega), x32_id (by omega) (by omega), show 12650 + 100 * (i : Int) = ((12650 + 100 * i : Nat) : Int) by omega]
    have L : ∀ (d j : Nat) (v : Int), j + d = m → (v = 1 ∧ ∃ k : Nat, k < j ∧ h.2 96 (12653 + 100 * i + k) = b) ∨ (v = 0 ∧ ¬ ∃ k : Nat, k < j ∧ h.2 96 (12653 + 100 * i + k) = b) → ∀ {w1 : xV}, zJ g (D + 3) mX9_count 0 0 26 [xr 95, w1, xi b, xi c, xi ((12650 + 100 * i : Nat) : Int), xi v, xi j] [] h1 (x_qi Q) := by
      intro d
      induction d with
      | zero =>
        intro j v e hv w1
        have : j = m := by omega
        subst this
        refine zX9_count_26 ?_
        rw [x32_id (by omega) (by omega), show (((12650 + 100 * i : Nat) : Int) + 1).toNat = 12651 + 100 * i by omega, e96, hm]
        exact ⟨by omega, fun _ => kk v hv, fun q => by omega⟩
      | succ d ih =>
        intro j v e hv w1
        refine zX9_count_26 ?_
        rw [x32_id (show -2147483648 ≤ ((12650 + 100 * i : Nat) : Int) + 1 by omega) (by omega), x32_id (show -2147483648 ≤ ((12650 + 100 * i : Nat) : Int) + 3 by omega) (by omega), x32_id (show -2147483648 ≤ ((12650 + 100 * i : Nat) : Int) + 3 + (j : Int) by omega) (by omega), x32_id (show -2147483648 ≤ (j : Int) + 1 by omega) (by omega), show (((12650 + 100 * i : Nat) : Int) + 1).toNat = 12651 + 100 * i by omega, show (((12650 + 100 * i : Nat) : Int) + 3 + (j : Int)).toNat = 12653 + 100 * i + j by omega, e96, hm, show (j : Int) + 1 = ((j + 1 : Nat) : Int) by omega]
        refine ⟨by omega, fun q => by omega, fun q => ⟨fun q2 => zX9_count_61 ?_, fun q2 => ⟨by omega, fun q3 => zX9_count_65 ?_, fun q3 => ?_⟩⟩⟩
        · rw [x32_id (by omega) (by omega), show (j : Int) + 1 = ((j + 1 : Nat) : Int) by omega]
          refine ih (j + 1) 1 (by omega) (Or.inl ⟨rfl, ?_⟩)
          rcases hv with ⟨_, k, k1, k2⟩ | p
          · exact ⟨k, by omega, k2⟩
          · omega
        · rw [x32_id (by omega) (by omega), show (j : Int) + 1 = ((j + 1 : Nat) : Int) by omega]
          refine ih (j + 1) 0 (by omega) (Or.inr ⟨rfl, fun ⟨k, k1, k2⟩ => ?_⟩)
          rcases hv with p | ⟨_, p⟩
          · omega
          · by_cases ek : k = j
            · subst ek; exact q3 k2
            · exact p ⟨k, by omega, k2⟩
        · exact ih (j + 1) 1 (by omega) (Or.inl ⟨rfl, j, by omega, q3⟩)
    exact L m 0 0 (by omega) (Or.inr ⟨rfl, fun ⟨k, k1, _⟩ => by omega⟩)
  have no : ¬ ((∃ k : Nat, k < m ∧ h.2 96 (12653 + 100 * i + k) = b) ∧ 0 ≤ c ∧ c ≤ h.2 96 (12652 + 100 * i)) → zSi g (D + 3) mX9_count [xr 95, xi i, xi b, xi c] h (fun y h2 => 0 = y ∧ zInv h2) := by
    intro hno
    refine RL rfl (fun v hv {w1 w6} => zX9_count_74 ?_)
    rw [x32_id (by omega) (by omega), show (((12650 + 100 * i : Nat) : Int) + 2).toNat = 12652 + 100 * i by omega]
    refine ⟨fun q => zX9_count_96 ⟨Or.inl rfl, rfl, I⟩, fun q => ⟨by omega, s_in (fun y hy => ⟨fun w => absurd ⟨?_, by omega⟩ hno, fun w => ⟨Or.inl rfl, rfl, I⟩⟩)⟩⟩
    rcases hv with p | p
    · exact p.2
    · omega
  refine s_get R (by omega) (by omega) (by omega) (by omega) ?_
  rw [show ((i : Int) * ((83 : Nat) : Int) + 2).toNat = i * 83 + 2 by omega, c2]
  refine s_win (fun y hy => ⟨fun w => zX8_count_36 (s_get R (by omega) (by omega) (by omega) (by omega) ?_), fun w => ⟨Or.inl rfl, no (by omega)⟩⟩)
  rw [show ((i : Int) * ((83 : Nat) : Int) + 1).toNat = i * 83 + 1 by omega, c1, hm]
  have hc : 0 ≤ c ∧ c ≤ h.2 96 (12652 + 100 * i) := by omega
  have L : ∀ (d j : Nat), j + d = m → (¬ ∃ k : Nat, k < j ∧ h.2 96 (12653 + 100 * i + k) = b) → zJ g (D + 3) mX8_count 0 0 53 [xr 16, xi i, xi b, xi c, xi m, xi j] [] h (x_qi (fun x h1 => zSi g (D + 3) mX9_count [xr 95, xi i, xi b, xi c] h1 (fun y h2 => x = y ∧ zInv h2))) := by
    intro d
    induction d with
    | zero =>
      intro j e hv
      have : j = m := by omega
      subst this
      exact zX8_count_53 ⟨fun _ => zX8_count_104 ⟨Or.inl rfl, no (fun p => hv p.1)⟩, fun q => by omega⟩
    | succ d ih =>
      intro j e hv
      have cj := hlt j (by omega)
      have rj := r4 j (by omega)
      refine zX8_count_53 ⟨fun q => by omega, fun q => ?_⟩
      rw [x32_id (show -2147483648 ≤ 3 + (j : Int) by omega) (by omega), x32_id (show -2147483648 ≤ 43 + (j : Int) by omega) (by omega)]
      refine s_get R (by omega) (by omega) (by omega) (by omega) ?_
      rw [show ((i : Int) * ((83 : Nat) : Int) + (3 + (j : Int))).toNat = i * 83 + 3 + j by omega, cj.1]
      refine ⟨fun q2 => zX8_count_98 ?_, fun q2 => s_set R (by omega) (by omega) (by omega) (by omega) (fun h1 hs1 e1 => ⟨Or.inr rfl, ?_⟩)⟩
      · rw [x32_id (by omega) (by omega), show (j : Int) + 1 = ((j + 1 : Nat) : Int) by omega]
        refine ih (j + 1) (by omega) (fun ⟨k, k1, k2⟩ => ?_)
        by_cases ek : k = j
        · subst ek; exact q2 k2
        · exact hv ⟨k, by omega, k2⟩
      · rw [show ((i : Int) * ((83 : Nat) : Int) + (43 + (j : Int))).toNat = i * 83 + 43 + j by omega] at e1
        have f1 : h1.1 = h.1 := by rw [e1]
        have f2 : h1.2 = x_up h.2 41 (i * 83 + 43 + j) c := by rw [e1]
        have e96 : h1.2 96 = h.2 96 := by rw [f2]; exact x_up_r (by decide)
        clear e1
        refine RL e96 (fun v hv2 {w1 w6} => zX9_count_74 ?_)
        rw [x32_id (by omega) (by omega), show (((12650 + 100 * i : Nat) : Int) + 2).toNat = 12652 + 100 * i by omega, e96]
        refine ⟨fun p => ?_, fun p => ⟨by omega, s_in (fun y2 hy2 => ⟨fun w2 => zX9_count_98 ?_, fun w2 => by omega⟩)⟩⟩
        · rcases hv2 with p2 | p2
          · omega
          · exact absurd ⟨j, by omega, q2⟩ p2.2
        · obtain ⟨t, ht⟩ : ∃ t : Nat, b = (t : Int) := ⟨b.toNat, by omega⟩
          rw [x32_id (show -2147483648 ≤ ((12650 + 100 * i : Nat) : Int) + 43 by omega) (by omega), x32_id (show -2147483648 ≤ ((12650 + 100 * i : Nat) : Int) + 43 + b by omega) (by omega), show (((12650 + 100 * i : Nat) : Int) + 43 + b).toNat = 12693 + 100 * i + t by omega]
          refine ⟨by omega, by decide, rfl, ?_⟩
          have u96 : ∀ k, x_up h1.2 96 (12693 + 100 * i + t) c 96 k = if k = 12693 + 100 * i + t then c else h.2 96 k := fun k => by rw [x_up_k, e96]
          have u41 : ∀ k, x_up h1.2 96 (12693 + 100 * i + t) c 41 k = if k = i * 83 + 43 + j then c else h.2 41 k := fun k => by rw [x_up_r (by decide), f2, x_up_k]
          have uo : ∀ r, r ≠ 41 → r ≠ 96 → x_up h1.2 96 (12693 + 100 * i + t) c r = h.2 r := fun r ra rb => by rw [x_up_r rb, f2, x_up_r ra]
          generalize x_up h1.2 96 (12693 + 100 * i + t) c = C at u96 u41 uo
          have n0 : C 96 (12650 + 100 * i) = h.2 96 (12650 + 100 * i) := by rw [u96, if_neg (by omega)]
          have n1 : C 96 (12651 + 100 * i) = h.2 96 (12651 + 100 * i) := by rw [u96, if_neg (by omega)]
          have n2 : C 96 (12652 + 100 * i) = h.2 96 (12652 + 100 * i) := by rw [u96, if_neg (by omega)]
          have n3 : ∀ k, k < 40 → C 96 (12653 + 100 * i + k) = h.2 96 (12653 + 100 * i + k) := fun k hk => by rw [u96, if_neg (by omega)]
          refine inv_lot0 (i := i) I f1 hi uo (fun k hk => by (try dsimp only); rw [u41, if_neg (by omega)]) (fun k hk => by (try dsimp only); rw [u96, if_neg (by omega)]) ?_ ?_ ?_ ?_ (fun k hk => ?_)
          · show C 41 (i * 83) = C 96 (12650 + 100 * i); rw [u41, if_neg (by omega), n0]; exact c0
          · show C 41 (i * 83 + 1) = C 96 (12651 + 100 * i); rw [u41, if_neg (by omega), n1]; exact c1
          · show C 41 (i * 83 + 2) = C 96 (12652 + 100 * i); rw [u41, if_neg (by omega), n2]; exact c2
          · refine (show (1 ≤ C 96 (12650 + 100 * i) ∧ C 96 (12650 + 100 * i) ≤ 40) ∧ (0 ≤ C 96 (12651 + 100 * i) ∧ C 96 (12651 + 100 * i) ≤ C 96 (12650 + 100 * i)) ∧ (0 ≤ C 96 (12652 + 100 * i) ∧ C 96 (12652 + 100 * i) ≤ 500) ∧
              (∀ k : Nat, (k : Int) < C 96 (12651 + 100 * i) → 0 ≤ C 96 (12653 + 100 * i + k) ∧ C 96 (12653 + 100 * i + k) < C 96 (12650 + 100 * i)) ∧ (∀ j k : Nat, (j : Int) < C 96 (12651 + 100 * i) → (k : Int) < C 96 (12651 + 100 * i) → C 96 (12653 + 100 * i + j) = C 96 (12653 + 100 * i + k) → j = k) ∧
              ∀ k : Nat, k < 40 → -1 ≤ C 96 (12693 + 100 * i + k) ∧ C 96 (12693 + 100 * i + k) ≤ C 96 (12652 + 100 * i) ∧ (0 ≤ C 96 (12693 + 100 * i + k) → ∃ j : Nat, (j : Int) < C 96 (12651 + 100 * i) ∧ C 96 (12653 + 100 * i + j) = (k : Int)) from ⟨by rw [n0]; exact r1, by rw [n0, n1]; exact r2, by rw [n2]; exact r3, fun k hk => ?_, fun u v hu hv3 he => ?_, fun k hk => ?_⟩)
            · rw [n1] at hk; rw [n0, n3 k (by omega)]; exact r4 k hk
            · rw [n1] at hu hv3; rw [n3 u (by omega), n3 v (by omega)] at he; exact r5 u v hu hv3 he
            · rw [n1, n2, u96]
              by_cases ek : k = t
              · rw [if_pos (by omega)]
                refine ⟨by omega, by omega, fun _ => ⟨j, by omega, ?_⟩⟩
                rw [n3 j (by omega), q2]; omega
              · rw [if_neg (by omega)]
                obtain ⟨a1, a2, a3⟩ := r6 k hk
                refine ⟨a1, a2, fun a4 => ?_⟩
                obtain ⟨u, u1, u2⟩ := a3 a4
                exact ⟨u, u1, by rw [n3 u (by omega)]; exact u2⟩
          · have hk : (k : Int) < C 96 (12651 + 100 * i) := hk
            rw [n1] at hk
            show C 41 (i * 83 + 3 + k) = C 96 (12653 + 100 * i + k) ∧ C 41 (i * 83 + 43 + k) = C 96 (12693 + 100 * i + (C 96 (12653 + 100 * i + k)).toNat)
            have ck := hlt k hk
            have rk := r4 k hk
            rw [n3 k (by omega), u41, if_neg (by omega), u41, u96]
            refine ⟨ck.1, ?_⟩
            by_cases ek : k = j
            · subst ek
              rw [if_pos rfl, if_pos (by omega)]
            · have ne : h.2 96 (12653 + 100 * i + k) ≠ b := fun he => ek (r5 k j hk (by omega) (by rw [he, q2]))
              rw [if_neg (by omega), if_neg (by omega)]
              exact ck.2
  exact L m 0 (by omega) (fun ⟨k, k1, _⟩ => by omega)
theorem op_draw {g : xG} {D : Nat} {h : xH} {a b c : Int} (ha : -2147483648 ≤ a ∧ a < 2147483648) (I : zInv h) : zSi g (D + 5) mX8_draw [xr 16, xi a, xi b, xi c] h (fun x h1 => zSi g (D + 5) mX9_draw [xr 95, xi a, xi b, xi c] h1 (fun y h2 => x = y ∧ zInv h2)) := by
  refine zS_sh (fun hs => ?_)
  have z := pM_z I.1
  have Z := zB_of hs I
  have B := rB_inv I
  have hday : h.2 17 14 = h.2 96 0 := I.2.2.1.2.1.2.1
  have hsz : h.2 40 3 = h.2 96 12 := ((I.2.2.1.1 11 (by decide)) (by decide)).1
  have R : pR h 40 41 10 83 := z_R hs rfl rfl rfl rfl rfl (by decide)
  refine eX8_draw (zX8_draw_0 (s_has R.1 (fun x hx => ⟨fun q => zX8_draw_49 ⟨Or.inl rfl, eX9_draw (zX9_draw_0 (s_isLot (by omega) (fun y hy => ⟨fun w => zX9_draw_45 ⟨Or.inl rfl, rfl, I⟩, fun w => by omega⟩)))⟩, fun q => ?_⟩)))
  obtain ⟨i, rfl⟩ : ∃ i : Nat, a = (i : Int) := ⟨a.toNat, by omega⟩
  have hi : (i : Int) < h.2 96 12 := by omega
  obtain ⟨r1, r2, r3, r4, r5, r6⟩ := lot_ok I hi
  obtain ⟨c0, c1, c2⟩ := lot_c I hi
  obtain ⟨n, hn⟩ : ∃ n : Nat, h.2 96 (12650 + 100 * i) = (n : Int) := ⟨(h.2 96 (12650 + 100 * i)).toNat, by omega⟩
  have RL : ∀ {h1 : xH} {Q : Int → xH → Prop}, h1.2 96 = h.2 96 → (¬ (h.2 96 (12651 + 100 * i) ≤ 0 ∧ 1 ≤ b ∧ b ≤ n) → Q 0 h1) → ((h.2 96 (12651 + 100 * i) ≤ 0 ∧ 1 ≤ b ∧ b ≤ n) → ∀ {w1 w5 : xV}, zJ g (D + 5) mX9_draw 0 0 47 [xr 95, w1, xi b, xi c, xi ((12650 + 100 * i : Nat) : Int), w5] [] h1 (x_qi Q)) → zSi g (D + 5) mX9_draw [xr 95, xi i, xi b, xi c] h1 Q := by
    intro h1 Q e96 k0 k1
    refine eX9_draw (zX9_draw_0 (s_isLot (by rw [e96]; omega) (fun y hy => ?_)))
    rw [x32_id (show -2147483648 ≤ 100 * (i : Int) by omega) (by omega), x32_id (show -2147483648 ≤ 12650 + 100 * (i : Int) by omega) (by omega), show 12650 + 100 * (i : Int) = ((12650 + 100 * i : Nat) : Int) by omega, x32_id (show -2147483648 ≤ ((12650 + 100 * i : Nat) : Int) + 1 by omega) (by omega), show (((12650 + 100 * i : Nat) : Int) + 1).toNat = 12651 + 100 * i by omega, show (((12650 + 100 * i : Nat) : Int)).toNat = 12650 + 100 * i by omega, e96, hn]
    refine ⟨fun w => by rw [e96] at hy; omega, fun w => ⟨by omega, fun u => zX9_draw_45 ⟨Or.inl rfl, k0 (by omega)⟩, fun u => ⟨by omega, s_in (fun v hv => ⟨fun t => k1 (by omega), fun t => ⟨Or.inl rfl, k0 (by omega)⟩⟩)⟩⟩⟩
  have no : ¬ (h.2 96 (12651 + 100 * i) ≤ 0 ∧ 1 ≤ b ∧ b ≤ n) → zSi g (D + 5) mX9_draw [xr 95, xi i, xi b, xi c] h (fun y h2 => 0 = y ∧ zInv h2) := fun hno => RL rfl (fun _ => ⟨rfl, I⟩) (fun hy => absurd hy hno)
  refine s_get R (by omega) (by omega) (by omega) (by omega) ?_
  rw [show ((i : Int) * ((83 : Nat) : Int) + 1).toNat = i * 83 + 1 by omega, c1]
  refine ⟨fun u => zX8_draw_49 ⟨Or.inl rfl, no (by omega)⟩, fun u => s_get R (by omega) (by omega) (by omega) (by omega) ?_⟩
  have p0 : ((i : Int) * ((83 : Nat) : Int) + 0).toNat = i * 83 := by omega
  rw [p0, c0, hn]
  refine s_win (fun y hy => ⟨fun w => zX8_draw_51 (s_get R (by omega) (by omega) (by omega) (by omega) ?_), fun w => ⟨Or.inl rfl, no (by omega)⟩⟩)
  rw [p0, c0, hn]
  obtain ⟨m, rfl⟩ : ∃ m : Nat, b = (m : Int) := ⟨b.toNat, by omega⟩
  have ok : h.2 96 (12651 + 100 * i) ≤ 0 ∧ 1 ≤ (m : Int) ∧ (m : Int) ≤ n := by omega
  have all1 : ∀ k, k < 40 → h.2 96 (12693 + 100 * i + k) = -1 := by
    intro k hk
    obtain ⟨a1, a2, a3⟩ := r6 k hk
    by_cases e : 0 ≤ h.2 96 (12693 + 100 * i + k)
    · obtain ⟨u, u1, _⟩ := a3 e; omega
    · omega
  refine s_fill (by omega) (fun h1 k1 k2 k3 k4 => s_mix (n := n) (by omega) k3 (fun h2 l1 l2 l3 => ?_))
  have s2 : h2.2 93 1 = (n : Int) := by rw [l2 93 (by decide)]; exact k3
  have o2 : ∀ r, r ≠ 93 → r ≠ 94 → h2.2 r = h.2 r := fun r ra rb => by rw [l2 r rb, k2 r ra rb]
  have g2 : h2.1 = h.1 := l1.trans k1
  have I2 : zInv h2 := inv_urn I g2 o2
  refine zS_sh (fun hs2 => ?_)
  have R2 : pR h2 40 41 10 83 := z_R hs2 rfl rfl rfl rfl rfl (by decide)
  refine s_set R2 (by omega) (by omega) (by omega) (by omega) (fun h3 hs3 e3 => ?_)
  rw [show ((i : Int) * ((83 : Nat) : Int) + 1).toNat = i * 83 + 1 by omega] at e3
  have f3 : h3.2 = x_up h2.2 41 (i * 83 + 1) m := by rw [e3]
  have g3 : h3.1 = h.1 := by rw [e3]; exact g2
  have e396 : h3.2 96 = h.2 96 := by rw [f3, x_up_r (by decide), o2 96 (by decide) (by decide)]
  -- told over the changed heap: only lots differ
  have Z3 : ∀ {Q : Int → xH → Prop}, Q (nO (h.2 96) (-1) 8 (h.2 96 0) 100) h3 → zSi g (D + 4) mX1_told [xr 75, xi 8, xi (h3.2 17 14)] h3 Q := by
    intro Q hQ
    have d3 : h3.2 17 14 = h.2 96 0 := by rw [f3, x_up_r (by decide), o2 17 (by decide) (by decide)]; exact hday
    rw [d3]
    have b3 : zB h3 (-1) := by
      refine ⟨hs3, by rw [e396]; exact I.1, ?_, Or.inl ⟨rfl, by rw [f3, x_up_r (by decide), o2 75 (by decide) (by decide)]; exact I.2.2.2.2.2.2.2.2.2.2.2⟩⟩
      rw [e396]
      exact pCw_congr g3 (fun r hr => by rw [f3, x_up_r (by omega), o2 r (by omega) (by omega)]) I.1.1.2.1.2 (pCw_of I.2.2.1)
    refine s_told (k := 8) b3 (by decide) ?_
    rw [e396]
    exact hQ
  have fb : 1 ≤ nO (h.2 96) (-1) 8 (h.2 96 0) 100 ∧ nO (h.2 96) (-1) 8 (h.2 96 0) 100 ≤ 500 := nO_b B.1 (Or.inl rfl) 8 (h.2 96 0) 100 1 500 (by omega) (by omega)
  refine Z3 ?_
  generalize hfl : nO (h.2 96) (-1) 8 (h.2 96 0) 100 = full at fb
  have R3 : pR h3 40 41 10 83 := z_R hs3 rfl rfl rfl rfl rfl (by decide)
  refine s_set R3 (by omega) (by omega) (by omega) (by omega) (fun h4 hs4 e4 => ?_)
  rw [show ((i : Int) * ((83 : Nat) : Int) + 2).toNat = i * 83 + 2 by omega] at e4
  have f4 : h4.2 = x_up (x_up h2.2 41 (i * 83 + 1) m) 41 (i * 83 + 2) full := by rw [e4, f3]
  have g4 : h4.1 = h.1 := by rw [e4]; exact g3
  clear e4 e3 Z3 f3
  -- what was mixed
  have mxf : ∀ j, j < n → h2.2 94 j = mx (fun q => (q : Int)) n c n j := fun j hj => by rw [l3]; exact mx_cong (fun q hq => k4 q hq) n (Nat.le_refl n) j hj
  -- the class's loop
  have L : ∀ (d k : Nat) {hk : xH} {w3 : xV}, k + d = m → zSh hk → hk.1 = h.1 → (∀ r, r ≠ 41 → hk.2 r = h4.2 r) → (∀ j, ¬ (i * 83 + 3 ≤ j ∧ j < i * 83 + 3 + k) → ¬ (i * 83 + 43 ≤ j ∧ j < i * 83 + 43 + k) → hk.2 41 j = h4.2 41 j) → (∀ q, q < k → hk.2 41 (i * 83 + 3 + q) = mx (fun q => (q : Int)) n c n q ∧ hk.2 41 (i * 83 + 43 + q) = -1) →
      (∀ hk : xH, hk.1 = h.1 → (∀ r, r ≠ 41 → hk.2 r = h4.2 r) → (∀ j, ¬ (i * 83 + 3 ≤ j ∧ j < i * 83 + 3 + m) → ¬ (i * 83 + 43 ≤ j ∧ j < i * 83 + 43 + m) → hk.2 41 j = h4.2 41 j) → (∀ q, q < m → hk.2 41 (i * 83 + 3 + q) = mx (fun q => (q : Int)) n c n q ∧ hk.2 41 (i * 83 + 43 + q) = -1) → zSi g (D + 5) mX9_draw [xr 95, xi i, xi m, xi c] hk (fun y h2 => 1 = y ∧ zInv h2)) →
      zJ g (D + 5) mX8_draw 0 0 122 [xr 16, xi i, xi m, w3, xi k] [] hk (x_qi (fun x h1 => zSi g (D + 5) mX9_draw [xr 95, xi i, xi m, xi c] h1 (fun y h2 => x = y ∧ zInv h2))) := by
    intro d
    induction d with
    | zero =>
      intro k hk w3 e e0 e1 e2 e3 e4 fin
      have : k = m := by omega
      subst this
      exact zX8_draw_122 ⟨fun _ => zX8_draw_175 ⟨Or.inr rfl, fin hk e1 e2 e3 e4⟩, fun q => by omega⟩
    | succ d ih =>
      intro k hk w3 e e0 e1 e2 e3 e4 fin
      have sk : hk.2 93 1 = (n : Int) := by rw [e2 93 (by decide), f4, x_up_r (by decide), x_up_r (by decide)]; exact s2
      have tk : hk.2 94 k = mx (fun q => (q : Int)) n c n k := by rw [e2 94 (by decide), f4, x_up_r (by decide), x_up_r (by decide)]; exact mxf k (by omega)
      have Rk : pR hk 40 41 10 83 := z_R e0 rfl rfl rfl rfl rfl (by decide)
      refine zX8_draw_122 ⟨fun q => by omega, fun q => s_thing (by omega) sk (fun q2 => by omega) (fun k' ek' hk' => ?_)⟩
      have : k' = k := by omega
      subst this
      rw [tk, x32_id (show -2147483648 ≤ 3 + (k' : Int) by omega) (by omega)]
      refine s_set Rk (by omega) (by omega) (by omega) (by omega) (fun h5 hs5 e5 => ?_)
      have R5 : pR h5 40 41 10 83 := z_R hs5 rfl rfl rfl rfl rfl (by decide)
      rw [x32_id (show -2147483648 ≤ 43 + (k' : Int) by omega) (by omega)]
      refine s_set R5 (by omega) (by omega) (by omega) (by omega) (fun h6 hs6 e6 => ?_)
      rw [show ((i : Int) * ((83 : Nat) : Int) + (3 + (k' : Int))).toNat = i * 83 + 3 + k' by omega] at e5
      rw [show ((i : Int) * ((83 : Nat) : Int) + (43 + (k' : Int))).toNat = i * 83 + 43 + k' by omega] at e6
      have f6 : h6.2 = x_up (x_up hk.2 41 (i * 83 + 3 + k') (mx (fun q => (q : Int)) n c n k')) 41 (i * 83 + 43 + k') (-1) := by rw [e6, e5]
      have g6 : h6.1 = h.1 := by rw [e6, e5]; exact e1
      clear e5 e6
      rw [x32_id (by omega) (by omega), show (k' : Int) + 1 = ((k' + 1 : Nat) : Int) by omega]
      refine ih (k' + 1) (by omega) hs6 g6 (fun r hr => by rw [f6, x_up_r hr, x_up_r hr]; exact e2 r hr) (fun j ja jb => by rw [f6, x_up_k, if_neg (by omega), x_up_k, if_neg (by omega)]; exact e3 j (by omega) (by omega)) (fun u hu => ?_) fin
      rw [f6, x_up_k, x_up_k, x_up_k, x_up_k, if_neg (by omega)]
      by_cases eu : u = k'
      · subst eu
        rw [if_pos rfl, if_pos rfl]
        exact ⟨rfl, rfl⟩
      · rw [if_neg (by omega), if_neg (by omega), if_neg (by omega)]
        exact e4 u (by omega)
  refine L m 0 (by omega) hs4 g4 (fun _ _ => rfl) (fun _ _ _ => rfl) (fun q hq => by omega) (fun h5 g5 o5 n5 t5 => ?_)
  clear L
  have o5' : ∀ r, r ≠ 41 → r ≠ 93 → r ≠ 94 → h5.2 r = h.2 r := fun r ra rb rc => by rw [o5 r ra, f4, x_up_r ra, x_up_r ra, o2 r rb rc]
  have e596 : h5.2 96 = h.2 96 := o5' 96 (by decide) (by decide) (by decide)
  have m41 : ∀ j, ¬ (i * 83 ≤ j ∧ j < i * 83 + 83) → h5.2 41 j = h.2 41 j := fun j hj => by rw [n5 j (by omega) (by omega), f4, x_up_j (by omega), x_up_j (by omega), o2 41 (by decide) (by decide)]
  have v0 : h5.2 41 (i * 83) = (n : Int) := by rw [n5 _ (by omega) (by omega), f4, x_up_j (by omega), x_up_j (by omega), o2 41 (by decide) (by decide), c0, hn]
  have v1 : h5.2 41 (i * 83 + 1) = (m : Int) := by rw [n5 _ (by omega) (by omega), f4, x_up_j (by omega), x_up_eq]
  have v2 : h5.2 41 (i * 83 + 2) = full := by rw [n5 _ (by omega) (by omega), f4, x_up_eq]
  have b75 : h5.2 75 3 = h.2 75 3 := by rw [o5' 75 (by decide) (by decide) (by decide)]
  refine RL e596 (fun hno => absurd ok hno) (fun _ {w1 w5} => zX9_draw_47 ?_)
  -- the reference: the row
  have F : ∀ (d k : Nat) {hk : xH} {w1 : xV}, k + d = n → hk.1 = h.1 → (∀ r, r ≠ 109 → hk.2 r = h5.2 r) → (∀ q, q < k → hk.2 109 q = (q : Int)) → (∀ {hk : xH} {w1 w5 : xV}, hk.1 = h.1 → (∀ r, r ≠ 109 → hk.2 r = h5.2 r) → (∀ q, q < n → hk.2 109 q = (q : Int)) → zJ g (D + 5) mX9_draw 0 0 77 [xr 95, w1, xi m, xi c, xi ((12650 + 100 * i : Nat) : Int), w5] [] hk (x_qi (fun y h2 => 1 = y ∧ zInv h2))) → zJ g (D + 5) mX9_draw 0 0 50 [xr 95, w1, xi m, xi c, xi ((12650 + 100 * i : Nat) : Int), xi k] [] hk (x_qi (fun y h2 => 1 = y ∧ zInv h2)) := by
    intro d
    induction d with
    | zero =>
      intro k hk w1 e e1 e2 e3 fin
      have : k = n := by omega
      subst this
      refine zX9_draw_50 ?_
      rw [show (((12650 + 100 * i : Nat) : Int)).toNat = 12650 + 100 * i by omega, e2 96 (by decide), e596, hn]
      exact ⟨by omega, fun _ => fin e1 e2 e3, fun q => by omega⟩
    | succ d ih =>
      intro k hk w1 e e1 e2 e3 fin
      refine zX9_draw_50 ?_
      rw [show (((12650 + 100 * i : Nat) : Int)).toNat = 12650 + 100 * i by omega, e2 96 (by decide), e596, hn]
      refine ⟨by omega, fun q => by omega, fun q => ⟨by omega, ?_⟩⟩
      rw [x32_id (by omega) (by omega), show ((k : Int)).toNat = k by omega, show (k : Int) + 1 = ((k + 1 : Nat) : Int) by omega]
      refine ih (k + 1) (by omega) e1 (fun r hr => ?_) (fun u hu => ?_) fin
      · (try dsimp only); rw [x_up_r hr]; exact e2 r hr
      · (try dsimp only)
        rw [x_up_k]
        by_cases eu : u = k
        · rw [if_pos eu, eu]
        · rw [if_neg eu]; exact e3 u (by omega)
  refine F n 0 (by omega) g5 (fun _ _ => rfl) (fun q hq => by omega) (fun {h6 w1' w5'} g6 o6 t6 => zX9_draw_77 ?_)
  clear F
  rw [show (((12650 + 100 * i : Nat) : Int)).toNat = 12650 + 100 * i by omega, o6 96 (by decide), e596, hn]
  refine ⟨by omega, r_draw (by omega) (by omega) (fun h7 g7 o7 t7 => ?_)⟩
  have mxr : ∀ j, j < m → h7.2 109 j = mx (fun q => (q : Int)) n c n j := fun j hj => by
    rw [t7, mx_cong (fun q hq => t6 q hq) m (by omega) j (by omega)]
    have := mx_stay (f := fun q => (q : Int)) (n := n) (seed := c) (m := m) (n - m) (by omega) j hj
    rw [show m + (n - m) = n by omega] at this
    exact this.symm
  have o7' : ∀ r, r ≠ 109 → h7.2 r = h5.2 r := fun r hr => by rw [o7 r hr, o6 r hr]
  -- the reference writes the row
  have G : ∀ (d k : Nat) {hk : xH} {w1 w3 : xV}, k + d = m → hk.1 = h.1 → (∀ r, r ≠ 96 → hk.2 r = h7.2 r) → (∀ j, hk.2 96 j = if 12653 + 100 * i ≤ j ∧ j < 12653 + 100 * i + k then mx (fun q => (q : Int)) n c n (j - (12653 + 100 * i)) else h.2 96 j) → (∀ {hk : xH} {w1 w3 w5 : xV}, hk.1 = h.1 → (∀ r, r ≠ 96 → hk.2 r = h7.2 r) → (∀ j, hk.2 96 j = if 12653 + 100 * i ≤ j ∧ j < 12653 + 100 * i + m then mx (fun q => (q : Int)) n c n (j - (12653 + 100 * i)) else h.2 96 j) → zJ g (D + 5) mX9_draw 0 0 124 [xr 95, w1, xi m, w3, xi ((12650 + 100 * i : Nat) : Int), w5] [] hk (x_qi (fun y h2 => 1 = y ∧ zInv h2))) → zJ g (D + 5) mX9_draw 0 0 93 [xr 95, w1, xi m, w3, xi ((12650 + 100 * i : Nat) : Int), xi k] [] hk (x_qi (fun y h2 => 1 = y ∧ zInv h2)) := by
    intro d
    induction d with
    | zero =>
      intro k hk w1 w3 e e1 e2 e3 fin
      have : k = m := by omega
      subst this
      exact zX9_draw_93 ⟨fun _ => fin e1 e2 e3, fun q => by omega⟩
    | succ d ih =>
      intro k hk w1 w3 e e1 e2 e3 fin
      refine zX9_draw_93 ⟨fun q => by omega, fun q => ?_⟩
      rw [x32_id (show -2147483648 ≤ ((12650 + 100 * i : Nat) : Int) + 3 by omega) (by omega), x32_id (show -2147483648 ≤ ((12650 + 100 * i : Nat) : Int) + 3 + (k : Int) by omega) (by omega), x32_id (by omega) (by omega), show ((k : Int)).toNat = k by omega, show (k : Int) + 1 = ((k + 1 : Nat) : Int) by omega, show (((12650 + 100 * i : Nat) : Int) + 3 + (k : Int)).toNat = 12653 + 100 * i + k by omega, e2 109 (by decide), mxr k (by omega)]
      refine ⟨by omega, by omega, ih (k + 1) (by omega) e1 (fun r hr => ?_) (fun j => ?_) fin⟩
      · (try dsimp only); rw [x_up_r hr]; exact e2 r hr
      · (try dsimp only)
        rw [x_up_k, e3]
        by_cases ej : j = 12653 + 100 * i + k
        · rw [if_pos ej, if_pos (by omega), show j - (12653 + 100 * i) = k by omega]
        · rw [if_neg ej]
          by_cases el : 12653 + 100 * i ≤ j ∧ j < 12653 + 100 * i + k
          · rw [if_pos el, if_pos (by omega)]
          · rw [if_neg el, if_neg (by omega)]
  refine G m 0 (by omega) (by rw [g7]; exact g6) (fun _ _ => rfl) (fun j => by rw [if_neg (by omega), o7' 96 (by decide), e596]) (fun {h8 u1 u3 u5} g8 o8 t8 => zX9_draw_124 ?_)
  clear G
  have w0 : x_up h8.2 96 (12651 + 100 * i) m 96 0 = h.2 96 0 := by rw [x_up_j (by omega), t8, if_neg (by omega)]
  rw [x32_id (show -2147483648 ≤ ((12650 + 100 * i : Nat) : Int) + 1 by omega) (by omega), show (((12650 + 100 * i : Nat) : Int) + 1).toNat = 12651 + 100 * i by omega, w0]
  refine ⟨by omega, ?_⟩
  have E9 : ∀ k, ¬ (12650 + 100 * i ≤ k ∧ k < 12750 + 100 * i) → x_up h8.2 96 (12651 + 100 * i) m 96 k = h.2 96 k := fun k hk => by rw [x_up_j (by omega), t8, if_neg (by omega)]
  have rA9 : rA (((h8.1, x_up h8.2 96 (12651 + 100 * i) m) : xH).2 96) := by
    show rA (x_up h8.2 96 (12651 + 100 * i) m 96)
    have b1 := B.1.1
    have b2 := B.1.2.1
    refine ⟨by rw [E9 6 (by omega)]; exact b1, by rw [E9 7 (by omega)]; exact b2, fun f hf => ?_, fun t ht => ?_⟩
    · rw [E9 7 (by omega)] at hf
      rw [E9 (11000 + 4 * f) (by omega), E9 6 (by omega)]; exact B.1.2.2.1 f hf
    · rw [E9 6 (by omega)] at ht
      rw [tx_cong (fun k ka kb => E9 k (by omega)) (by omega)]; exact B.1.2.2.2 t ht
  refine r_numberOf (k := 8) rA9 ?_
  have en : nO (((h8.1, x_up h8.2 96 (12651 + 100 * i) m) : xH).2 96) (-1) ((8 : Nat) : Int) (h.2 96 0) 100 = full := by
    rw [← hfl]
    exact nO_cong (k := 8) B.1 (Or.inl rfl) (fun k ka kb => E9 k (by omega)) (sA_refl B.1 (fun k ka kb => E9 k (by omega)) (E9 7 (by omega))) (by decide)
  rw [en, x32_id (show -2147483648 ≤ ((12650 + 100 * i : Nat) : Int) + 2 by omega) (by omega), show (((12650 + 100 * i : Nat) : Int) + 2).toNat = 12652 + 100 * i by omega]
  refine ⟨by omega, by decide, rfl, ?_⟩
  clear en rA9 E9
  have u96 : ∀ k, x_up (x_up h8.2 96 (12651 + 100 * i) m) 96 (12652 + 100 * i) full 96 k = if k = 12652 + 100 * i then full else if k = 12651 + 100 * i then (m : Int) else if 12653 + 100 * i ≤ k ∧ k < 12653 + 100 * i + m then mx (fun q => (q : Int)) n c n (k - (12653 + 100 * i)) else h.2 96 k := fun k => by rw [x_up_k, x_up_k, t8]
  have uo : ∀ r, r ≠ 96 → x_up (x_up h8.2 96 (12651 + 100 * i) m) 96 (12652 + 100 * i) full r = h7.2 r := fun r hr => by rw [x_up_r hr, x_up_r hr, o8 r hr]
  generalize x_up (x_up h8.2 96 (12651 + 100 * i) m) 96 (12652 + 100 * i) full = C at u96 uo
  have uo5 : ∀ r, r ≠ 96 → r ≠ 109 → C r = h5.2 r := fun r ra rb => by rw [uo r ra, o7' r rb]
  have x0 : C 96 (12650 + 100 * i) = (n : Int) := by rw [u96, if_neg (by omega), if_neg (by omega), if_neg (by omega), hn]
  have x1 : C 96 (12651 + 100 * i) = (m : Int) := by rw [u96, if_neg (by omega), if_pos rfl]
  have x2 : C 96 (12652 + 100 * i) = full := by rw [u96, if_pos rfl]
  have x3 : ∀ k, k < m → C 96 (12653 + 100 * i + k) = mx (fun q => (q : Int)) n c n k := fun k hk => by rw [u96, if_neg (by omega), if_neg (by omega), if_pos (by omega), show 12653 + 100 * i + k - (12653 + 100 * i) = k by omega]
  have x4 : ∀ k, k < 40 → C 96 (12693 + 100 * i + k) = -1 := fun k hk => by rw [u96, if_neg (by omega), if_neg (by omega), if_neg (by omega)]; exact all1 k hk
  obtain ⟨pr, pi⟩ := mx_perm (f := fun q => (q : Int)) (n := n) (seed := c) (P := fun v => 0 ≤ v ∧ v < n) (fun j hj => by (try dsimp only); omega) (fun j k hj hk e => by (try dsimp only at e); omega) n (Nat.le_refl n)
  have I' := inv_mix (hf := (h8.1, C)) I (show C 75 3 = h.2 75 3 by rw [uo5 75 (by decide) (by decide)]; exact b75)
  have m96 : (mix h (h8.1, C)).2 96 = h.2 96 := mix_n (by omega)
  have m41' : (mix h (h8.1, C)).2 41 = h.2 41 := mix_n (by omega)
  refine inv_lot0 (h := mix h (h8.1, C)) (i := i) I' g8 (by rw [m96]; exact hi) (fun r ra rb => ?_) (fun j hj => ?_) (fun k hk => ?_) ?_ ?_ ?_ ?_ (fun k hk => ?_)
  · show C r = _
    by_cases sc : (75 ≤ r ∧ r ≤ 94) ∨ (101 ≤ r ∧ r ≤ 110)
    · rw [mix_y sc]
    · rw [mix_n sc, uo5 r rb (by omega)]
      exact o5' r ra (by omega) (by omega)
  · show C 41 j = _
    rw [m41', uo5 41 (by decide) (by decide)]; exact m41 j hj
  · show C 96 k = _
    rw [m96, u96, if_neg (by omega), if_neg (by omega), if_neg (by omega)]
  · show C 41 (i * 83) = C 96 (12650 + 100 * i)
    rw [uo5 41 (by decide) (by decide), v0, x0]
  · show C 41 (i * 83 + 1) = C 96 (12651 + 100 * i)
    rw [uo5 41 (by decide) (by decide), v1, x1]
  · show C 41 (i * 83 + 2) = C 96 (12652 + 100 * i)
    rw [uo5 41 (by decide) (by decide), v2, x2]
  · refine (show (1 ≤ C 96 (12650 + 100 * i) ∧ C 96 (12650 + 100 * i) ≤ 40) ∧ (0 ≤ C 96 (12651 + 100 * i) ∧ C 96 (12651 + 100 * i) ≤ C 96 (12650 + 100 * i)) ∧ (0 ≤ C 96 (12652 + 100 * i) ∧ C 96 (12652 + 100 * i) ≤ 500) ∧
      (∀ k : Nat, (k : Int) < C 96 (12651 + 100 * i) → 0 ≤ C 96 (12653 + 100 * i + k) ∧ C 96 (12653 + 100 * i + k) < C 96 (12650 + 100 * i)) ∧ (∀ j k : Nat, (j : Int) < C 96 (12651 + 100 * i) → (k : Int) < C 96 (12651 + 100 * i) → C 96 (12653 + 100 * i + j) = C 96 (12653 + 100 * i + k) → j = k) ∧
      ∀ k : Nat, k < 40 → -1 ≤ C 96 (12693 + 100 * i + k) ∧ C 96 (12693 + 100 * i + k) ≤ C 96 (12652 + 100 * i) ∧ (0 ≤ C 96 (12693 + 100 * i + k) → ∃ j : Nat, (j : Int) < C 96 (12651 + 100 * i) ∧ C 96 (12653 + 100 * i + j) = (k : Int)) from ⟨by rw [x0]; omega, by rw [x0, x1]; omega, by rw [x2]; omega, fun k hk => ?_, fun u v hu hv3 he => ?_, fun k hk => ?_⟩)
    · rw [x1] at hk
      rw [x0, x3 k (by omega)]
      exact pr k (by omega)
    · rw [x1] at hu hv3
      rw [x3 u (by omega), x3 v (by omega)] at he
      exact pi u v (by omega) (by omega) he
    · rw [x4 k hk, x2]
      exact ⟨by omega, by omega, fun q => by omega⟩
  · have hk : (k : Int) < C 96 (12651 + 100 * i) := hk
    rw [x1] at hk
    show C 41 (i * 83 + 3 + k) = C 96 (12653 + 100 * i + k) ∧ C 41 (i * 83 + 43 + k) = C 96 (12693 + 100 * i + (C 96 (12653 + 100 * i + k)).toNat)
    have pk := pr k (by omega)
    (try dsimp only at pk)
    rw [x3 k (by omega), uo5 41 (by decide) (by decide), (t5 k (by omega)).1, (t5 k (by omega)).2, x4 _ (by omega)]
    exact ⟨rfl, rfl⟩
