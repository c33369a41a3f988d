/-! allow, market, end -/
theorem op_allow {g : xG} {D : Nat} {h : xH} {a : Int} (I : zInv h) : zSi g (D + 3) mX8_allow [xr 16, xi a] h (fun x h1 => zSi g (D + 3) mX9_allow [xr 95, xi a] h1 (fun y h2 => x = y ∧ zInv h2)) := by
  have q := I.2.2.1.2.1
  have hr := I.1.1
  refine eX8_allow (zX8_allow_0 (s_win (fun x hx => ⟨fun z => zX8_allow_12 ⟨Or.inr rfl, ?_⟩, fun z => ⟨Or.inl rfl, ?_⟩⟩)))
  · refine eX9_allow (zX9_allow_0 (s_in (fun y hy => ⟨fun w => zX9_allow_12 ⟨Or.inr rfl, rfl, ?_⟩, fun w => by omega⟩)))
    have u17 : ∀ j, x_up (x_up h.2 17 15 a) 96 14 a 17 j = if j = 15 then a else h.2 17 j := by
      intro j
      rw [x_up_r (by decide)]
      unfold x_up
      rw [if_pos rfl]
    have u96 : ∀ k, x_up (x_up h.2 17 15 a) 96 14 a 96 k = if k = 14 then a else h.2 96 k := by
      intro k
      unfold x_up
      rw [if_pos rfl, if_neg (by decide : ¬ (96 : Nat) = 17)]
    refine inv_sc I rfl (fun r r1 r2 => ?_) ?_ (fun k k0 k1 _ _ _ => ?_) ?_ ?_ ?_ <;> dsimp only
    · rw [x_up_r r2, x_up_r r1]
    · rw [u17]; rfl
    · rw [u96, if_neg k1]
    · rw [u96]; exact Int.le_refl _
    · simp only [u17, u96]
      exact ⟨q.2.1, rfl, q.2.2.2.1, q.2.2.2.2.1, q.2.2.2.2.2⟩
    · simp only [u96]
      exact ⟨hr.1, ⟨by show 0 ≤ a; omega, by show a ≤ 9; omega⟩, hr.2.2.2.1, hr.2.2.2.2.1, hr.2.2.2.2.2.1⟩
  · refine eX9_allow (zX9_allow_0 (s_in (fun y hy => ⟨fun w => by omega, fun w => ⟨Or.inl rfl, rfl, I⟩⟩)))
theorem op_market {g : xG} {D : Nat} {h : xH} {a b c : Int} (I : zInv h) : zSi g (D + 3) mX8_market [xr 16, xi a, xi b, xi c] h (fun x h1 => zSi g (D + 3) mX9_market [xr 95, xi a, xi b, xi c] h1 (fun y h2 => x = y ∧ zInv h2)) := by
  have q := I.2.2.1.2.1
  have hr := I.1.1
  have no : ¬ ((0 ≤ a ∧ a ≤ 99) ∧ (0 ≤ b ∧ b ≤ 99) ∧ (0 ≤ c ∧ c ≤ 9999)) → zSi g (D + 3) mX9_market [xr 95, xi a, xi b, xi c] h (fun y h2 => 0 = y ∧ zInv h2) := by
    intro hno
    exact eX9_market (zX9_market_0 (s_in (fun y hy => ⟨fun w => zX9_market_31 ⟨Or.inl rfl, rfl, I⟩, fun w => s_in (fun y2 hy2 => ⟨fun w2 => zX9_market_31 ⟨Or.inl rfl, rfl, I⟩, fun w2 => s_in (fun y3 hy3 => ⟨fun w3 => by omega, fun w3 => ⟨Or.inl rfl, rfl, I⟩⟩)⟩)⟩)))
  refine eX8_market (zX8_market_0 (s_win (fun x hx => ⟨fun z => zX8_market_31 ⟨Or.inl rfl, no (by omega)⟩, fun z => s_win (fun x2 hx2 => ⟨fun z2 => zX8_market_31 ⟨Or.inl rfl, no (by omega)⟩, fun z2 => s_win (fun x3 hx3 => ⟨fun z3 => zX8_market_33 ⟨Or.inr rfl, ?_⟩, fun z3 => ⟨Or.inl rfl, no (by omega)⟩⟩)⟩)⟩)))
  refine eX9_market (zX9_market_0 (s_in (fun y hy => ⟨fun w => by omega, fun w => s_in (fun y2 hy2 => ⟨fun w2 => by omega, fun w2 => s_in (fun y3 hy3 => ⟨fun w3 => zX9_market_33 ⟨Or.inr rfl, rfl, ?_⟩, fun w3 => by omega⟩)⟩)⟩)))
  have u17 : ∀ j, x_up (x_up (x_up (x_up (x_up (x_up h.2 17 16 a) 17 17 b) 17 18 c) 96 15 a) 96 16 b) 96 17 c 17 j = if j = 18 then c else if j = 17 then b else if j = 16 then a else h.2 17 j := by
    intro j
    rw [x_up_r (by decide), x_up_r (by decide), x_up_r (by decide)]
    unfold x_up
    rw [if_pos rfl, if_pos rfl, if_pos rfl]
  have u96 : ∀ k, x_up (x_up (x_up (x_up (x_up (x_up h.2 17 16 a) 17 17 b) 17 18 c) 96 15 a) 96 16 b) 96 17 c 96 k = if k = 17 then c else if k = 16 then b else if k = 15 then a else h.2 96 k := by
    intro k
    unfold x_up
    simp only [if_pos, if_neg (by decide : ¬ (96 : Nat) = 17)]
  refine inv_sc I rfl (fun r r1 r2 => ?_) ?_ (fun k k0 k1 k2 k3 k4 => ?_) ?_ ?_ ?_ <;> dsimp only
  · rw [x_up_r r2, x_up_r r2, x_up_r r2, x_up_r r1, x_up_r r1, x_up_r r1]
  · rw [u17]; rfl
  · rw [u96, if_neg k4, if_neg k3, if_neg k2]
  · rw [u96]; exact Int.le_refl _
  · simp only [u17, u96]
    exact ⟨q.2.1, q.2.2.1, rfl, rfl, rfl⟩
  · simp only [u96]
    exact ⟨hr.1, hr.2.2.1, ⟨by show 0 ≤ a; omega, by show a ≤ 99; omega⟩, ⟨by show 0 ≤ b; omega, by show b ≤ 99; omega⟩, ⟨by show 0 ≤ c; omega, by show c ≤ 9999; omega⟩⟩
/-- tape, reader and the reference's own fields change, no table does -/
theorem inv_tp {h h2 : xH} (I : zInv h) (h1 : h2.1 = h.1) (hC : ∀ r, (17 ≤ r ∧ r ≤ 42) ∨ (48 ≤ r ∧ r ≤ 73) ∨ (96 ≤ r ∧ r ≤ 99) ∨ 111 ≤ r → h2.2 r = h.2 r) (ht : pTp h2) : zInv h2 := by
  obtain ⟨i1, i2, i3, i4, i5⟩ := I
  refine ⟨by rw [hC 96 (by omega)]; exact i1, by rw [hC 97 (by omega)]; exact i2, ?_, ?_, ht⟩
  · rw [hC 96 (by omega), hC 98 (by omega)]
    exact pC_congr h1 (fun r hr => hC r (by omega)) i1.1.2.1.2 i3
  · rw [hC 97 (by omega), hC 99 (by omega)]
    exact pC_congr h1 (fun r hr => hC r (by omega)) i2.1.2.1.2 i4
theorem op_end {g : xG} {D : Nat} {h : xH} {a : Int} (I : zInv h) : zSi g (D + 3) mX8_end [xr 16, xi a] h (fun x h1 => zSi g (D + 3) mX9_end [xr 95, xi a] h1 (fun y h2 => x = y ∧ zInv h2)) := by
  obtain ⟨q1, q2, q3, q4, q5, q6, q7, q8⟩ := I.2.2.2.2
  refine eX8_end (zX8_end_0 (s_win (fun x hx => ⟨fun z => zX8_end_17 ?_, fun z => ?_⟩)))
  · refine eX9_end (zX9_end_0 ?_)
    have e95 : x_up h.2 43 4 a 95 = h.2 95 := x_up_r (by decide)
    show zSi g (D + 2) mX9_isIn [xi a, xi 0, xi (x_up h.2 43 4 a 95 5)] (h.1, x_up h.2 43 4 a) _
    rw [e95]
    refine s_in (fun y hy => ⟨fun w => zX9_end_14 ⟨rfl, ?_⟩, fun w => by omega⟩)
    refine inv_tp I rfl (fun r hr => ?_) ?_
    · dsimp only
      rw [x_up_r (by omega), x_up_r (by omega)]
    · have u43 : x_up (x_up h.2 43 4 a) 95 5 a 43 4 = a := by rw [x_up_r (by decide), x_up_eq]
      have o : ∀ r, r ≠ 43 → r ≠ 95 → x_up (x_up h.2 43 4 a) 95 5 a r = h.2 r := fun r r1 r2 => by rw [x_up_r r2, x_up_r r1]
      have u95 : ∀ j, j ≠ 5 → x_up (x_up h.2 43 4 a) 95 5 a 95 j = h.2 95 j := fun j hj => by rw [x_up_j hj, x_up_r (by decide)]
      unfold pTp
      dsimp only
      rw [u43, o 44 (by decide) (by decide), o 100 (by decide) (by decide), o 74 (by decide) (by decide), o 75 (by decide) (by decide), u95 6 (by decide), u95 7 (by decide), x_up_eq]
      exact ⟨rfl, by omega, fun i hi => q3 i (by omega), q4, q5, q6, q7, q8⟩
  · refine eX9_end (zX9_end_0 (s_in (fun y hy => ⟨fun w => ?_, fun w => ⟨rfl, I⟩⟩)))
    omega
