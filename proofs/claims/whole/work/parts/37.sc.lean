/-! scalars: days, allow, market; end, fault -/
theorem inv_sc {h h2 : xH} (I : zInv h) (h1 : h2.1 = h.1) (hC : ∀ r, r ≠ 17 → r ≠ 96 → h2.2 r = h.2 r) (h13 : h2.2 17 13 = h.2 17 13) (hA : ∀ k, k ≠ 0 → k ≠ 14 → k ≠ 15 → k ≠ 16 → k ≠ 17 → h2.2 96 k = h.2 96 k) (h0 : h.2 96 0 ≤ h2.2 96 0)
    (hs : h2.2 17 14 = h2.2 96 0 ∧ h2.2 17 15 = h2.2 96 14 ∧ h2.2 17 16 = h2.2 96 15 ∧ h2.2 17 17 = h2.2 96 16 ∧ h2.2 17 18 = h2.2 96 17)
    (hr : (0 ≤ h2.2 96 0 ∧ h2.2 96 0 ≤ 999) ∧ (0 ≤ h2.2 96 14 ∧ h2.2 96 14 ≤ 9) ∧ (0 ≤ h2.2 96 15 ∧ h2.2 96 15 ≤ 99) ∧ (0 ≤ h2.2 96 16 ∧ h2.2 96 16 ≤ 99) ∧ (0 ≤ h2.2 96 17 ∧ h2.2 96 17 ≤ 9999)) : zInv h2 := by
  obtain ⟨i1, i2, i3, i4, i5⟩ := I
  obtain ⟨⟨s0, s6, s14, s15, s16, s17, sz⟩, ⟨b1, b2, b3⟩, rk⟩ := i1
  obtain ⟨p1, p2, p3, p4, p5, p6⟩ := i3
  have zz : ∀ t, t < 12 → t_z t ≠ 0 ∧ t_z t ≠ 14 ∧ t_z t ≠ 15 ∧ t_z t ≠ 16 ∧ t_z t ≠ 17 ∧ (t = 9 ∨ 20 ≤ t_b t) := by
    intro t ht
    rcases (show t = 0 ∨ t = 1 ∨ t = 2 ∨ t = 3 ∨ t = 4 ∨ t = 5 ∨ t = 6 ∨ t = 7 ∨ t = 8 ∨ t = 9 ∨ t = 10 ∨ t = 11 by omega) with e | e | e | e | e | e | e | e | e | e | e | e <;> subst e <;> decide
  have hz : ∀ t, t < 12 → h2.2 96 (t_z t) = h.2 96 (t_z t) := fun t ht => hA _ (zz t ht).1 (zz t ht).2.1 (zz t ht).2.2.1 (zz t ht).2.2.2.1 (zz t ht).2.2.2.2.1
  have hk : ∀ k, 20 ≤ k → h2.2 96 k = h.2 96 k := fun k hk => hA k (by omega) (by omega) (by omega) (by omega) (by omega)
  have e1 : h2.2 96 1 = h.2 96 1 := hA 1 (by decide) (by decide) (by decide) (by decide) (by decide)
  have e2 : h2.2 96 2 = h.2 96 2 := hA 2 (by decide) (by decide) (by decide) (by decide) (by decide)
  have e3 : h2.2 96 3 = h.2 96 3 := hA 3 (by decide) (by decide) (by decide) (by decide) (by decide)
  have e4 : h2.2 96 4 = h.2 96 4 := hA 4 (by decide) (by decide) (by decide) (by decide) (by decide)
  have e6 : h2.2 96 6 = h.2 96 6 := hA 6 (by decide) (by decide) (by decide) (by decide) (by decide)
  have e8 : h2.2 96 8 = h.2 96 8 := hA 8 (by decide) (by decide) (by decide) (by decide) (by decide)
  have e9 : h2.2 96 9 = h.2 96 9 := hA 9 (by decide) (by decide) (by decide) (by decide) (by decide)
  have e12 : h2.2 96 12 = h.2 96 12 := hA 12 (by decide) (by decide) (by decide) (by decide) (by decide)
  have e97 := hC 97 (by decide) (by decide)
  have e98 := hC 98 (by decide) (by decide)
  have e99 := hC 99 (by decide) (by decide)
  have hm : pM (h2.2 96) := by
    refine ⟨⟨hr.1, by rw [e6]; exact s6, hr.2.1, hr.2.2.1, hr.2.2.2.1, hr.2.2.2.2, fun t ht h9 => by rw [hz t ht]; exact sz t ht h9⟩, ⟨fun i a b => ?_, fun i a b => ?_, fun i a b => ?_⟩, fun t ht h9 i hi => ?_⟩
    · rw [e2] at a; rw [hk _ (by omega)]; exact b1 i a b
    · rw [e8] at a; rw [hk _ (by omega)]; exact b2 i a b
    · rw [e12] at a; rw [hk _ (by omega), hk _ (by omega)]; exact b3 i a b
    · rw [hz t ht] at hi
      have hb := (zz t ht).2.2.2.2.2
      exact rok_mono ht (fun k k1 k2 => hk k (by omega)) h0 (by omega) (by omega) (by omega) (by omega) (by omega) (by omega) (rk t ht h9 i hi)
  refine ⟨hm, by rw [e97]; exact i2, ?_, ?_, pTp_congr (fun r hr => hC r (by omega) (by omega)) i5⟩
  · rw [e98]
    refine ⟨fun t ht h9 => ?_, ⟨by rw [h13, e6]; exact p2.1, hs⟩, ?_, ?_, ?_, pActs_frame h1 (fun j => by rw [hC 42 (by decide) (by decide)]) (fun r hr => hC r (by omega) (by omega)) (fun k k1 k2 => hk k (by omega)) e6 s6.2 p6⟩
    · have hb := (zz t ht).2.2.2.2.2
      exact cT_frame (p1 t ht) ht (by rw [hC _ (by omega) (by omega)]) (fun j => by rw [hC _ (by omega) (by omega)]) (fun k k1 k2 => hk k (by omega)) (hz t ht) (sz t ht h9).2 h9
    · intro i hi
      rw [e9] at hi
      rw [hC (17 + 16) (by decide) (by decide), hk (11610 + 3 * i) (by omega), hk (11130 + 6 * (h.2 96 (11610 + 3 * i)).toNat) (by omega), hk (150 + 20 * (h.2 96 (11130 + 6 * (h.2 96 (11610 + 3 * i)).toNat)).toNat) (by omega)]
      exact p3 i hi
    · intro i hi k hk2
      rw [e12] at hi
      rw [hk (12651 + 100 * i) (by omega)] at hk2
      rw [hC (17 + 24) (by decide) (by decide), hk (12653 + 100 * i + k) (by omega), hk (12693 + 100 * i + (h.2 96 (12653 + 100 * i + k)).toNat) (by omega)]
      exact p4 i hi k hk2
    · unfold pFin
      rw [hC (17 + 19) (by decide) (by decide), hC (17 + 20) (by decide) (by decide), e8]
      have ef : (fun i => if i < 80 then h2.2 96 (11134 + 6 * i) else 0) = (fun i => if i < 80 then h.2 96 (11134 + 6 * i) else 0) := by
        funext k
        rw [hk (11134 + 6 * k) (by omega)]
      rw [ef]
      exact p5
  · rw [e97, e99]
    exact pC_congr h1 (fun r hr => hC r (by omega) (by omega)) i2.1.2.1.2 i4
theorem op_days {g : xG} {D : Nat} {h : xH} {a : Int} (I : zInv h) : zSi g (D + 3) mX8_days [xr 16, xi a] h (fun x h1 => zSi g (D + 3) mX9_days [xr 95, xi a] h1 (fun y h2 => x = y ∧ zInv h2)) := by
  have h0 : 0 ≤ h.2 96 0 ∧ h.2 96 0 ≤ 999 := I.1.1.1
  have q := I.2.2.1.2.1
  have hr := I.1.1
  have no : ¬ ((1 ≤ a ∧ a ≤ 200) ∧ h.2 96 0 + a ≤ 999) → zSi g (D + 3) mX9_days [xr 95, xi a] h (fun y h2 => -1 = y ∧ zInv h2) := by
    intro hno
    refine eX9_days (zX9_days_0 (s_in (fun y hy => ⟨fun w => zX9_days_25 ⟨rfl, I⟩, fun w => ?_⟩)))
    rw [x32_id (by omega) (by omega)]
    exact ⟨fun v => by omega, fun v => ⟨rfl, I⟩⟩
  refine eX8_days (zX8_days_0 (s_win (fun x hx => ⟨fun z => zX8_days_26 (no (by omega)), fun z => ?_⟩)))
  rw [q.2.1, x32_id (by omega) (by omega)]
  refine ⟨fun z2 => zX8_days_28 ?_, fun z2 => no (by omega)⟩
  rw [q.2.1, x32_id (by omega) (by omega), x_up_eq]
  refine eX9_days (zX9_days_0 (s_in (fun y hy => ⟨fun w => by omega, fun w => ?_⟩)))
  have e96 : x_up h.2 17 14 (h.2 96 0 + a) 96 = h.2 96 := x_up_r (by decide)
  show (x32 (x_up h.2 17 14 (h.2 96 0 + a) 96 0 + a) ≤ 999 → _) ∧ (999 < x32 (x_up h.2 17 14 (h.2 96 0 + a) 96 0 + a) → _)
  rw [e96, x32_id (by omega) (by omega)]
  refine ⟨fun v => zX9_days_27 ?_, fun v => by omega⟩
  show (_ = x_up (x_up h.2 17 14 (h.2 96 0 + a)) 96 0 (x32 (x_up h.2 17 14 (h.2 96 0 + a) 96 0 + a)) 96 0) ∧ zInv (h.1, x_up (x_up h.2 17 14 (h.2 96 0 + a)) 96 0 (x32 (x_up h.2 17 14 (h.2 96 0 + a) 96 0 + a)))
  rw [e96, x32_id (by omega) (by omega), x_up_eq]
  refine ⟨rfl, ?_⟩
  have u17 : ∀ j, x_up (x_up h.2 17 14 (h.2 96 0 + a)) 96 0 (h.2 96 0 + a) 17 j = if j = 14 then h.2 96 0 + a else h.2 17 j := by
    intro j
    rw [x_up_r (by decide)]
    unfold x_up
    rw [if_pos rfl]
  have u96 : ∀ k, x_up (x_up h.2 17 14 (h.2 96 0 + a)) 96 0 (h.2 96 0 + a) 96 k = if k = 0 then h.2 96 0 + a else h.2 96 k := by
    intro k
    unfold x_up
    rw [if_pos rfl, if_neg (by decide : ¬ (96 : Nat) = 17)]
  refine inv_sc I rfl (fun r r1 r2 => ?_) ?_ (fun k k1 _ _ _ _ => ?_) ?_ ?_ ?_
  · show x_up (x_up h.2 17 14 (h.2 96 0 + a)) 96 0 (h.2 96 0 + a) r = h.2 r
    rw [x_up_r r2, x_up_r r1]
  · show x_up (x_up h.2 17 14 (h.2 96 0 + a)) 96 0 (h.2 96 0 + a) 17 13 = _
    rw [u17]; rfl
  · show x_up (x_up h.2 17 14 (h.2 96 0 + a)) 96 0 (h.2 96 0 + a) 96 k = _
    rw [u96, if_neg k1]
  · show _ ≤ x_up (x_up h.2 17 14 (h.2 96 0 + a)) 96 0 (h.2 96 0 + a) 96 0
    rw [u96, if_pos rfl]; omega
  · show x_up (x_up h.2 17 14 (h.2 96 0 + a)) 96 0 (h.2 96 0 + a) 17 14 = x_up (x_up h.2 17 14 (h.2 96 0 + a)) 96 0 (h.2 96 0 + a) 96 0 ∧ x_up (x_up h.2 17 14 (h.2 96 0 + a)) 96 0 (h.2 96 0 + a) 17 15 = x_up (x_up h.2 17 14 (h.2 96 0 + a)) 96 0 (h.2 96 0 + a) 96 14 ∧ x_up (x_up h.2 17 14 (h.2 96 0 + a)) 96 0 (h.2 96 0 + a) 17 16 = x_up (x_up h.2 17 14 (h.2 96 0 + a)) 96 0 (h.2 96 0 + a) 96 15 ∧ x_up (x_up h.2 17 14 (h.2 96 0 + a)) 96 0 (h.2 96 0 + a) 17 17 = x_up (x_up h.2 17 14 (h.2 96 0 + a)) 96 0 (h.2 96 0 + a) 96 16 ∧ x_up (x_up h.2 17 14 (h.2 96 0 + a)) 96 0 (h.2 96 0 + a) 17 18 = x_up (x_up h.2 17 14 (h.2 96 0 + a)) 96 0 (h.2 96 0 + a) 96 17
    simp only [u17, u96]
    exact ⟨rfl, q.2.2.1, q.2.2.2.1, q.2.2.2.2.1, q.2.2.2.2.2⟩
  · show (0 ≤ x_up (x_up h.2 17 14 (h.2 96 0 + a)) 96 0 (h.2 96 0 + a) 96 0 ∧ x_up (x_up h.2 17 14 (h.2 96 0 + a)) 96 0 (h.2 96 0 + a) 96 0 ≤ 999) ∧ (0 ≤ x_up (x_up h.2 17 14 (h.2 96 0 + a)) 96 0 (h.2 96 0 + a) 96 14 ∧ x_up (x_up h.2 17 14 (h.2 96 0 + a)) 96 0 (h.2 96 0 + a) 96 14 ≤ 9) ∧ (0 ≤ x_up (x_up h.2 17 14 (h.2 96 0 + a)) 96 0 (h.2 96 0 + a) 96 15 ∧ x_up (x_up h.2 17 14 (h.2 96 0 + a)) 96 0 (h.2 96 0 + a) 96 15 ≤ 99) ∧ (0 ≤ x_up (x_up h.2 17 14 (h.2 96 0 + a)) 96 0 (h.2 96 0 + a) 96 16 ∧ x_up (x_up h.2 17 14 (h.2 96 0 + a)) 96 0 (h.2 96 0 + a) 96 16 ≤ 99) ∧ (0 ≤ x_up (x_up h.2 17 14 (h.2 96 0 + a)) 96 0 (h.2 96 0 + a) 96 17 ∧ x_up (x_up h.2 17 14 (h.2 96 0 + a)) 96 0 (h.2 96 0 + a) 96 17 ≤ 9999)
    simp only [u96]
    exact ⟨⟨by show 0 ≤ h.2 96 0 + a; omega, by show h.2 96 0 + a ≤ 999; omega⟩, hr.2.2.1, hr.2.2.2.1, hr.2.2.2.2.1, hr.2.2.2.2.2.1⟩
theorem op_fault {g : xG} {D : Nat} {h : xH} {a : Int} (I : zInv h) : zSi g (D + 3) mX8_fault [xr 16, xi a] h (fun x h1 => zSi g (D + 3) mX9_fault [xr 95, xi a] h1 (fun y h2 => x = y ∧ zInv h2)) := by
  have q := I.2.2.2.2
  refine eX8_fault (zX8_fault_0 ⟨fun z => zX8_fault_12 ⟨fun z2 => zX8_fault_27 ?_, fun z2 => ?_⟩, fun z => ?_⟩)
  · exact eX9_fault (zX9_fault_0 ⟨fun w => zX9_fault_11 ⟨fun w2 => zX9_fault_23 ⟨rfl, I⟩, fun w2 => absurd w2 z2⟩, fun w => absurd w z⟩)
  · exact eX9_fault (zX9_fault_0 ⟨fun w => zX9_fault_11 ⟨fun w2 => absurd z2 w2, fun w2 => ⟨q.2.2.2.2.1, I⟩⟩, fun w => absurd w z⟩)
  · exact eX9_fault (zX9_fault_0 ⟨fun w => absurd z w, fun w => ⟨q.2.2.2.1, I⟩⟩)
