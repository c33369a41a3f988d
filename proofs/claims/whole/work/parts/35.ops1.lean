/-! person, web, trade -/
theorem s_isPerson {g : xG} {D : Nat} {h : xH} {x : Int} {Q : Int → xH → Prop} (hz : 0 ≤ h.2 96 2 ∧ h.2 96 2 ≤ 30) (hQ : ∀ v : Int, (v = 1 ∧ 0 ≤ x ∧ x < h.2 96 2) ∨ (v = 0 ∧ ¬ (0 ≤ x ∧ x < h.2 96 2)) → Q v h) : zSi g (D + 1) mX9_isPerson [xr 95, xi x] h Q := by
  refine eX9_isPerson (zX9_isPerson_0 ?_)
  rw [x32_id (by omega) (by omega)]
  exact s_in (fun v hv => ⟨by omega, hQ v (by omega)⟩)
theorem op_person {g : xG} {D : Nat} {h : xH} {a b : Int} (I : zInv h) : zSi g (D + 3) mX8_person [xr 16, xi a, xi b] h (fun x h1 => zSi g (D + 3) mX9_person [xr 95, xi a, xi b] h1 (fun y h2 => x = y ∧ zInv h2)) := by
  refine zS_sh (fun hs => ?_)
  have hz : 0 ≤ h.2 96 2 ∧ h.2 96 2 ≤ 30 := I.1.1.2.2.2.2.2.2 1 (by decide) (by decide)
  have hz1 : 0 ≤ h.2 96 1 ∧ h.2 96 1 ≤ 6 := I.1.1.2.2.2.2.2.2 0 (by decide) (by decide)
  obtain ⟨n, hn⟩ : ∃ n : Nat, h.2 96 2 = (n : Int) := ⟨(h.2 96 2).toNat, by omega⟩
  have hsz : h.2 20 3 = (n : Int) := by rw [← hn]; exact ((I.2.2.1.1 1 (by decide)) (by decide)).1
  have hsz1 : h.2 18 3 = h.2 96 1 := ((I.2.2.1.1 0 (by decide)) (by decide)).1
  have R : pR h 20 21 30 3 := z_R hs rfl rfl rfl rfl rfl (by decide)
  have R1 : pR h 18 19 6 1 := z_R hs rfl rfl rfl rfl rfl (by decide)
  -- the reference refuses
  have no : ¬ ((0 ≤ a ∧ a < h.2 96 1) ∧ (0 ≤ b ∧ b ≤ 9) ∧ n < 30) → zSi g (D + 3) mX9_person [xr 95, xi a, xi b] h (fun y h2 => -1 = y ∧ zInv h2) := by
    intro hno
    refine eX9_person (zX9_person_0 ?_)
    rw [x32_id (by omega) (by omega)]
    refine s_in (fun y hy => ⟨fun w => zX9_person_37 ⟨rfl, I⟩, fun w => s_in (fun y2 hy2 => ⟨fun w2 => zX9_person_37 ⟨rfl, I⟩, fun w2 => ⟨fun v => ?_, fun v => ⟨rfl, I⟩⟩⟩)⟩)
    omega
  refine eX8_person (zX8_person_0 (s_has R1.1 (fun x hx => ⟨fun z => zX8_person_24 (no (by omega)), fun z => s_win (fun x2 hx2 => ⟨fun z2 => zX8_person_26 ?_, fun z2 => no (by omega)⟩)⟩)))
  by_cases hfull : n < 30
  · refine s_add R hsz hfull (by decide) (by decide) (fun h1 hs1 e1 e2 => ?_)
    have e96 : h1.2 96 = h.2 96 := by rw [e2]; exact p_add_o (by decide) (by decide)
    refine eX9_person (zX9_person_0 ?_)
    rw [e96, x32_id (by omega) (by omega)]
    refine s_in (fun y hy => ⟨fun w => ?_, fun w => s_in (fun y2 hy2 => ⟨fun w2 => ?_, fun w2 => ⟨fun v => zX9_person_39 ?_, fun v => ?_⟩⟩)⟩)
    · omega
    · omega
    · simp (disch := omega) only [e96, hn, x32_id, x_up_eq, x_up_j]
      rw [show (30 + 4 * (n : Int)).toNat = 30 + 4 * n by omega, show (30 + 4 * (n : Int) + 1).toNat = 31 + 4 * n by omega]
      refine ⟨by omega, by omega, by omega, ?_⟩
      refine inv_add (t0 := 1) (n := n) I (by decide) e1 (fun r r1 r2 r3 => ?_) hn hfull ?_ (fun j hj => ?_) ?_ (fun k k1 k2 => ?_) (fun p hp => ?_) ?_
      · show x_up (x_up (x_up h1.2 96 (30 + 4 * n) a) 96 (31 + 4 * n) b) 96 2 ((n : Int) + 1) r = h.2 r
        rw [x_up_r r3, x_up_r r3, x_up_r r3, e2]
        exact p_add_o (by omega) (by omega)
      · show x_up (x_up (x_up h1.2 96 (30 + 4 * n) a) 96 (31 + 4 * n) b) 96 2 ((n : Int) + 1) 20 3 = (n : Int) + 1
        rw [x_up_r (by decide), x_up_r (by decide), x_up_r (by decide), e2]
        exact p_add_z
      · show x_up (x_up (x_up h1.2 96 (30 + 4 * n) a) 96 (31 + 4 * n) b) 96 2 ((n : Int) + 1) 21 j = h.2 21 j
        rw [x_up_r (by decide), x_up_r (by decide), x_up_r (by decide), e2]
        exact p_add_lt (by decide) hj
      · show x_up (x_up (x_up h1.2 96 (30 + 4 * n) a) 96 (31 + 4 * n) b) 96 2 ((n : Int) + 1) 96 2 = (n : Int) + 1
        exact x_up_eq
      · have k1 : k ≠ 2 := k1
        have k2 : ¬ (30 + 4 * n ≤ k ∧ k < 30 + 4 * n + 4) := k2
        show x_up (x_up (x_up h1.2 96 (30 + 4 * n) a) 96 (31 + 4 * n) b) 96 2 ((n : Int) + 1) 96 k = h.2 96 k
        rw [x_up_j k1, x_up_j (by omega), x_up_j (by omega), e96]
      · have hp : p = (0, 0) ∨ p = (1, 1) ∨ p = (2, 2) := by simpa [t_p] using hp
        have hb0 : h.2 96 (32 + 4 * n) = 0 := I.1.2.1.1 n (by omega) hfull
        rcases hp with e | e | e <;> subst e
        · show x_up (x_up (x_up h1.2 96 (30 + 4 * n) a) 96 (31 + 4 * n) b) 96 2 ((n : Int) + 1) 21 (n * 3 + 0) = x_up (x_up (x_up h1.2 96 (30 + 4 * n) a) 96 (31 + 4 * n) b) 96 2 ((n : Int) + 1) 96 (30 + 4 * n + 0)
          rw [x_up_r (by decide), x_up_r (by decide), x_up_r (by decide), e2, p_add_at (by decide) (by decide), x_up_j (by omega), x_up_j (by omega), show 30 + 4 * n + 0 = 30 + 4 * n by omega, x_up_eq]
          rfl
        · show x_up (x_up (x_up h1.2 96 (30 + 4 * n) a) 96 (31 + 4 * n) b) 96 2 ((n : Int) + 1) 21 (n * 3 + 1) = x_up (x_up (x_up h1.2 96 (30 + 4 * n) a) 96 (31 + 4 * n) b) 96 2 ((n : Int) + 1) 96 (30 + 4 * n + 1)
          rw [x_up_r (by decide), x_up_r (by decide), x_up_r (by decide), e2, p_add_at (by decide) (by decide), x_up_j (by omega), show 30 + 4 * n + 1 = 31 + 4 * n by omega, x_up_eq]
          rfl
        · show x_up (x_up (x_up h1.2 96 (30 + 4 * n) a) 96 (31 + 4 * n) b) 96 2 ((n : Int) + 1) 21 (n * 3 + 2) = x_up (x_up (x_up h1.2 96 (30 + 4 * n) a) 96 (31 + 4 * n) b) 96 2 ((n : Int) + 1) 96 (30 + 4 * n + 2)
          rw [x_up_r (by decide), x_up_r (by decide), x_up_r (by decide), e2, p_add_at (by decide) (by decide), x_up_j (by omega), x_up_j (by omega), x_up_j (by omega), show 30 + 4 * n + 2 = 32 + 4 * n by omega, ← e2, e96, hb0]
          rfl
      · have hb0 : h.2 96 (32 + 4 * n) = 0 := I.1.2.1.1 n (by omega) hfull
        have u : ∀ k, x_up (x_up (x_up h1.2 96 (30 + 4 * n) a) 96 (31 + 4 * n) b) 96 2 ((n : Int) + 1) 96 k = if k = 2 then (n : Int) + 1 else if k = 31 + 4 * n then b else if k = 30 + 4 * n then a else h.2 96 k := by
          intro k
          by_cases q1 : k = 2
          · rw [if_pos q1, q1, x_up_eq]
          · rw [if_neg q1, x_up_j q1]
            by_cases q2 : k = 31 + 4 * n
            · rw [if_pos q2, q2, x_up_eq]
            · rw [if_neg q2, x_up_j q2]
              by_cases q3 : k = 30 + 4 * n
              · rw [if_pos q3, q3, x_up_eq]
              · rw [if_neg q3, x_up_j q3, e96]
        show (0 ≤ x_up (x_up (x_up h1.2 96 (30 + 4 * n) a) 96 (31 + 4 * n) b) 96 2 ((n : Int) + 1) 96 (30 + 4 * n) ∧ x_up (x_up (x_up h1.2 96 (30 + 4 * n) a) 96 (31 + 4 * n) b) 96 2 ((n : Int) + 1) 96 (30 + 4 * n) < x_up (x_up (x_up h1.2 96 (30 + 4 * n) a) 96 (31 + 4 * n) b) 96 2 ((n : Int) + 1) 96 1) ∧ (0 ≤ x_up (x_up (x_up h1.2 96 (30 + 4 * n) a) 96 (31 + 4 * n) b) 96 2 ((n : Int) + 1) 96 (31 + 4 * n) ∧ x_up (x_up (x_up h1.2 96 (30 + 4 * n) a) 96 (31 + 4 * n) b) 96 2 ((n : Int) + 1) 96 (31 + 4 * n) ≤ 9) ∧ 0 ≤ x_up (x_up (x_up h1.2 96 (30 + 4 * n) a) 96 (31 + 4 * n) b) 96 2 ((n : Int) + 1) 96 (32 + 4 * n) ∧ x_up (x_up (x_up h1.2 96 (30 + 4 * n) a) 96 (31 + 4 * n) b) 96 2 ((n : Int) + 1) 96 (32 + 4 * n) ≤ 99
        rw [u, u, u, u, if_neg (by omega), if_neg (by omega), if_pos rfl, if_neg (by omega), if_neg (by omega), if_neg (by omega), if_neg (by omega), if_pos rfl, if_neg (by omega), if_neg (by omega), if_neg (by omega), hb0]
        omega
    · rw [e96] at v
      omega
  · refine s_add_full R (by rw [hsz]; omega) (no (by omega))
