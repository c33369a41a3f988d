/-! rows of the reference stay what they must be, when others come -/
theorem rok_mono {A A' : Nat → Int} {t i : Nat} (ht : t < 12) (hr : ∀ k, t_b t + t_s t * i ≤ k → k < t_b t + t_s t * i + t_s t → A' k = A k) (h0 : A 0 ≤ A' 0) (h1 : A 1 ≤ A' 1) (h2 : A 2 ≤ A' 2) (h3 : A 3 ≤ A' 3) (h4 : A 4 ≤ A' 4) (h6 : A 6 ≤ A' 6) (h8 : A 8 ≤ A' 8) (h : rok A t i) : rok A' t i := by
  match t, ht, hr, h with
  | 0, _, hr, h =>
    have hr : ∀ k, 20 + 1 * i ≤ k → k < 20 + 1 * i + 1 → A' k = A k := hr
    have h : 80 ≤ A (20 + i) ∧ A (20 + i) ≤ 120 := h
    show 80 ≤ A' (20 + i) ∧ A' (20 + i) ≤ 120
    rw [hr (20 + i) (by omega) (by omega)]
    exact h
  | 1, _, hr, h =>
    have hr : ∀ k, 30 + 4 * i ≤ k → k < 30 + 4 * i + 4 → A' k = A k := hr
    have h : (0 ≤ A (30 + 4 * i) ∧ A (30 + 4 * i) < A 1) ∧ (0 ≤ A (31 + 4 * i) ∧ A (31 + 4 * i) ≤ 9) ∧ 0 ≤ A (32 + 4 * i) ∧ A (32 + 4 * i) ≤ 99 := h
    show (0 ≤ A' (30 + 4 * i) ∧ A' (30 + 4 * i) < A' 1) ∧ (0 ≤ A' (31 + 4 * i) ∧ A' (31 + 4 * i) ≤ 9) ∧ 0 ≤ A' (32 + 4 * i) ∧ A' (32 + 4 * i) ≤ 99
    rw [hr (30 + 4 * i) (by omega) (by omega), hr (31 + 4 * i) (by omega) (by omega), hr (32 + 4 * i) (by omega) (by omega)]
    omega
  | 2, _, hr, h =>
    have hr : ∀ k, 150 + 20 * i ≤ k → k < 150 + 20 * i + 20 → A' k = A k := hr
    have h : (0 ≤ A (150 + 20 * i) ∧ A (150 + 20 * i) < A 2) ∧ ∀ k, k < 16 → -1 ≤ A (151 + 20 * i + k) ∧ A (151 + 20 * i + k) ≤ A 0 := h
    show (0 ≤ A' (150 + 20 * i) ∧ A' (150 + 20 * i) < A' 2) ∧ ∀ k, k < 16 → -1 ≤ A' (151 + 20 * i + k) ∧ A' (151 + 20 * i + k) ≤ A' 0
    refine ⟨?_, fun k hk => ?_⟩
    · rw [hr (150 + 20 * i) (by omega) (by omega)]
      omega
    · rw [hr (151 + 20 * i + k) (by omega) (by omega)]
      have := h.2 k hk
      omega
  | 3, _, hr, h =>
    have hr : ∀ k, 350 + 1 * i ≤ k → k < 350 + 1 * i + 1 → A' k = A k := hr
    have h : 0 ≤ A (350 + i) ∧ A (350 + i) < A 2 := h
    show 0 ≤ A' (350 + i) ∧ A' (350 + i) < A' 2
    rw [hr (350 + i) (by omega) (by omega)]
    omega
  | 4, _, hr, h =>
    have hr : ∀ k, 400 + 8 * i ≤ k → k < 400 + 8 * i + 8 → A' k = A k := hr
    have h : (0 ≤ A (400 + 8 * i) ∧ A (400 + 8 * i) < A 4) ∧ (0 ≤ A (401 + 8 * i) ∧ A (401 + 8 * i) ≤ 999) ∧ (1 ≤ A (402 + 8 * i) ∧ A (402 + 8 * i) ≤ 200) ∧ (1 ≤ A (403 + 8 * i) ∧ A (403 + 8 * i) ≤ 99) ∧ (1 ≤ A (404 + 8 * i) ∧ A (404 + 8 * i) ≤ 60) ∧ (0 ≤ A (405 + 8 * i) ∧ A (405 + 8 * i) ≤ 20) ∧ 0 ≤ A (406 + 8 * i) ∧ A (406 + 8 * i) ≤ A 0 := h
    show (0 ≤ A' (400 + 8 * i) ∧ A' (400 + 8 * i) < A' 4) ∧ (0 ≤ A' (401 + 8 * i) ∧ A' (401 + 8 * i) ≤ 999) ∧ (1 ≤ A' (402 + 8 * i) ∧ A' (402 + 8 * i) ≤ 200) ∧ (1 ≤ A' (403 + 8 * i) ∧ A' (403 + 8 * i) ≤ 99) ∧ (1 ≤ A' (404 + 8 * i) ∧ A' (404 + 8 * i) ≤ 60) ∧ (0 ≤ A' (405 + 8 * i) ∧ A' (405 + 8 * i) ≤ 20) ∧ 0 ≤ A' (406 + 8 * i) ∧ A' (406 + 8 * i) ≤ A' 0
    rw [hr (400 + 8 * i) (by omega) (by omega), hr (401 + 8 * i) (by omega) (by omega), hr (402 + 8 * i) (by omega) (by omega), hr (403 + 8 * i) (by omega) (by omega), hr (404 + 8 * i) (by omega) (by omega), hr (405 + 8 * i) (by omega) (by omega), hr (406 + 8 * i) (by omega) (by omega)]
    omega
  | 5, _, hr, h =>
    have hr : ∀ k, 11000 + 4 * i ≤ k → k < 11000 + 4 * i + 4 → A' k = A k := hr
    have h : (0 ≤ A (11000 + 4 * i) ∧ A (11000 + 4 * i) < A 6) ∧ (0 ≤ A (11001 + 4 * i) ∧ A (11001 + 4 * i) ≤ 999) ∧ 0 ≤ A (11002 + 4 * i) ∧ A (11002 + 4 * i) ≤ 999 := h
    show (0 ≤ A' (11000 + 4 * i) ∧ A' (11000 + 4 * i) < A' 6) ∧ (0 ≤ A' (11001 + 4 * i) ∧ A' (11001 + 4 * i) ≤ 999) ∧ 0 ≤ A' (11002 + 4 * i) ∧ A' (11002 + 4 * i) ≤ 999
    rw [hr (11000 + 4 * i) (by omega) (by omega), hr (11001 + 4 * i) (by omega) (by omega), hr (11002 + 4 * i) (by omega) (by omega)]
    omega
  | 6, _, hr, h =>
    have hr : ∀ k, 11130 + 6 * i ≤ k → k < 11130 + 6 * i + 6 → A' k = A k := hr
    have h : (0 ≤ A (11130 + 6 * i) ∧ A (11130 + 6 * i) < A 3) ∧ (0 ≤ A (11131 + 6 * i) ∧ A (11131 + 6 * i) < A 4) ∧ (0 ≤ A (11132 + 6 * i) ∧ A (11132 + 6 * i) ≤ A 0) ∧ (0 ≤ A (11133 + 6 * i) ∧ A (11133 + 6 * i) ≤ 65535) ∧ 0 ≤ A (11134 + 6 * i) ∧ A (11134 + 6 * i) ≤ 1 := h
    show (0 ≤ A' (11130 + 6 * i) ∧ A' (11130 + 6 * i) < A' 3) ∧ (0 ≤ A' (11131 + 6 * i) ∧ A' (11131 + 6 * i) < A' 4) ∧ (0 ≤ A' (11132 + 6 * i) ∧ A' (11132 + 6 * i) ≤ A' 0) ∧ (0 ≤ A' (11133 + 6 * i) ∧ A' (11133 + 6 * i) ≤ 65535) ∧ 0 ≤ A' (11134 + 6 * i) ∧ A' (11134 + 6 * i) ≤ 1
    rw [hr (11130 + 6 * i) (by omega) (by omega), hr (11131 + 6 * i) (by omega) (by omega), hr (11132 + 6 * i) (by omega) (by omega), hr (11133 + 6 * i) (by omega) (by omega), hr (11134 + 6 * i) (by omega) (by omega)]
    omega
  | 7, _, hr, h =>
    have hr : ∀ k, 11610 + 3 * i ≤ k → k < 11610 + 3 * i + 3 → A' k = A k := hr
    have h : (0 ≤ A (11610 + 3 * i) ∧ A (11610 + 3 * i) < A 8) ∧ 0 ≤ A (11611 + 3 * i) ∧ A (11611 + 3 * i) ≤ 1 := h
    show (0 ≤ A' (11610 + 3 * i) ∧ A' (11610 + 3 * i) < A' 8) ∧ 0 ≤ A' (11611 + 3 * i) ∧ A' (11611 + 3 * i) ≤ 1
    rw [hr (11610 + 3 * i) (by omega) (by omega), hr (11611 + 3 * i) (by omega) (by omega)]
    omega
  | 8, _, hr, h =>
    have hr : ∀ k, 12210 + 4 * i ≤ k → k < 12210 + 4 * i + 4 → A' k = A k := hr
    have h : (0 ≤ A (12210 + 4 * i) ∧ A (12210 + 4 * i) < A 4) ∧ (0 ≤ A (12211 + 4 * i) ∧ A (12211 + 4 * i) ≤ A 0) ∧ (-1 ≤ A (12212 + 4 * i) ∧ A (12212 + 4 * i) ≤ 1000000000) ∧ -1 ≤ A (12213 + 4 * i) ∧ A (12213 + 4 * i) ≤ A 0 := h
    show (0 ≤ A' (12210 + 4 * i) ∧ A' (12210 + 4 * i) < A' 4) ∧ (0 ≤ A' (12211 + 4 * i) ∧ A' (12211 + 4 * i) ≤ A' 0) ∧ (-1 ≤ A' (12212 + 4 * i) ∧ A' (12212 + 4 * i) ≤ 1000000000) ∧ -1 ≤ A' (12213 + 4 * i) ∧ A' (12213 + 4 * i) ≤ A' 0
    rw [hr (12210 + 4 * i) (by omega) (by omega), hr (12211 + 4 * i) (by omega) (by omega), hr (12212 + 4 * i) (by omega) (by omega), hr (12213 + 4 * i) (by omega) (by omega)]
    omega
  | 9, _, _, _ => trivial
  | 10, _, hr, h =>
    have hr : ∀ k, 12530 + 3 * i ≤ k → k < 12530 + 3 * i + 3 → A' k = A k := hr
    have h : (0 ≤ A (12530 + 3 * i) ∧ A (12530 + 3 * i) < A 2) ∧ (0 ≤ A (12531 + 3 * i) ∧ A (12531 + 3 * i) < A 2) ∧ A (12530 + 3 * i) ≠ A (12531 + 3 * i) ∧ 0 ≤ A (12532 + 3 * i) ∧ A (12532 + 3 * i) ≤ 9999 := h
    show (0 ≤ A' (12530 + 3 * i) ∧ A' (12530 + 3 * i) < A' 2) ∧ (0 ≤ A' (12531 + 3 * i) ∧ A' (12531 + 3 * i) < A' 2) ∧ A' (12530 + 3 * i) ≠ A' (12531 + 3 * i) ∧ 0 ≤ A' (12532 + 3 * i) ∧ A' (12532 + 3 * i) ≤ 9999
    rw [hr (12530 + 3 * i) (by omega) (by omega), hr (12531 + 3 * i) (by omega) (by omega), hr (12532 + 3 * i) (by omega) (by omega)]
    omega
  | 11, _, hr, h =>
    have hr : ∀ k, 12650 + 100 * i ≤ k → k < 12650 + 100 * i + 100 → A' k = A k := hr
    obtain ⟨q1, q2, q3, q4, q5, q6⟩ := h
    have e0 := hr (12650 + 100 * i) (by omega) (by omega)
    have e1 := hr (12651 + 100 * i) (by omega) (by omega)
    have e2 := hr (12652 + 100 * i) (by omega) (by omega)
    have e3 : ∀ k : Nat, (k : Int) < A (12651 + 100 * i) → A' (12653 + 100 * i + k) = A (12653 + 100 * i + k) := fun k hk => hr _ (by omega) (by omega)
    refine ⟨by rw [e0]; exact q1, by rw [e1, e0]; exact q2, by rw [e2]; exact q3, fun k hk => ?_, fun j k hj hk he => ?_, fun k hk => ?_⟩
    · rw [e1] at hk
      rw [e3 k hk, e0]
      exact q4 k hk
    · rw [e1] at hj hk
      rw [e3 j hj, e3 k hk] at he
      exact q5 j k hj hk he
    · rw [hr (12693 + 100 * i + k) (by omega) (by omega), e2, e1]
      refine ⟨(q6 k hk).1, (q6 k hk).2.1, fun z => ?_⟩
      obtain ⟨j, j1, j2⟩ := (q6 k hk).2.2 z
      exact ⟨j, j1, by rw [e3 j j1]; exact j2⟩
/-- a row more in one table -/
theorem pM_add {A A' : Nat → Int} {t0 n : Nat} (hm : pM A) (ht0 : t0 < 12) (h9 : t0 ≠ 9) (hn : A (t_z t0) = (n : Int)) (hlt : n < t_m t0) (hz : A' (t_z t0) = (n : Int) + 1) (hA : ∀ k, k ≠ t_z t0 → ¬ (t_b t0 ≤ k ∧ k < t_b t0 + t_s t0 * t_m t0) → A' k = A k)
    (hB : ∀ k, t_b t0 ≤ k → k < t_b t0 + t_s t0 * n → A' k = A k) (hr : rok A' t0 n) (hb : bok A') : pM A' := by
  obtain ⟨⟨s0, s6, s14, s15, s16, s17, sz⟩, -, rk⟩ := hm
  have hbz : 20 ≤ t_b t0 := by
    have := (t_dj (if t0 = 0 then 1 else 0) (by split <;> decide) t0 ht0 (by split <;> omega)).2.2.2
    omega
  have hzl : t_z t0 < 20 := (t_dj t0 ht0 (if t0 = 0 then 1 else 0) (by split <;> decide) (by split <;> omega)).2.2.1
  have hz1 : ∀ k, k < 20 → k ≠ t_z t0 → A' k = A k := fun k hk hne => hA k hne (by omega)
  have hz6 : t_z t0 ≠ 6 ∧ t_z t0 ≠ 0 ∧ t_z t0 ≠ 14 ∧ t_z t0 ≠ 15 ∧ t_z t0 ≠ 16 ∧ t_z t0 ≠ 17 := by
    have : ∀ t, t < 12 → t_z t ≠ 6 ∧ t_z t ≠ 0 ∧ t_z t ≠ 14 ∧ t_z t ≠ 15 ∧ t_z t ≠ 16 ∧ t_z t ≠ 17 := by decide +kernel
    exact this t0 ht0
  have hge : ∀ k, k < 20 → A k ≤ A' k := by
    intro k hk
    by_cases e : k = t_z t0
    · subst e; omega
    · rw [hz1 k hk e]; exact Int.le_refl _
  refine ⟨⟨?_, ?_, ?_, ?_, ?_, ?_, fun t ht h9t => ?_⟩, hb, fun t ht h9t i hi => ?_⟩
  · rw [hz1 0 (by decide) (by omega)]; exact s0
  · rw [hz1 6 (by decide) (by omega)]; exact s6
  · rw [hz1 14 (by decide) (by omega)]; exact s14
  · rw [hz1 15 (by decide) (by omega)]; exact s15
  · rw [hz1 16 (by decide) (by omega)]; exact s16
  · rw [hz1 17 (by decide) (by omega)]; exact s17
  · by_cases e : t = t0
    · subst e; rw [hz]; omega
    · have d := t_dj t ht t0 ht0 e
      rw [hz1 _ d.2.2.1 d.2.1]
      exact sz t ht h9t
  · by_cases e : t = t0
    · subst e
      rw [hz] at hi
      by_cases e2 : i = n
      · subst e2; exact hr
      · have hin : i < n := by omega
        have hm2 : t_s t * i + t_s t ≤ t_s t * n := by
          have := Nat.mul_le_mul_left (t_s t) (show i + 1 ≤ n by omega)
          rw [Nat.mul_add, Nat.mul_one] at this
          exact this
        exact rok_mono ht (fun k k1 k2 => hB k (by omega) (by omega)) (hge 0 (by decide)) (hge 1 (by decide)) (hge 2 (by decide)) (hge 3 (by decide)) (hge 4 (by decide)) (hge 6 (by decide)) (hge 8 (by decide)) (rk t ht h9t i (by omega))
    · have d := t_dj t ht t0 ht0 e
      rw [hz1 _ d.2.2.1 d.2.1] at hi
      have hi2 : i < t_m t := by have := sz t ht h9t; omega
      have hm2 : t_s t * i + t_s t ≤ t_s t * t_m t := by
        have := Nat.mul_le_mul_left (t_s t) (show i + 1 ≤ t_m t by omega)
        rw [Nat.mul_add, Nat.mul_one] at this
        exact this
      have hbt : 20 ≤ t_b t ∨ t = 9 := (t_dj t0 ht0 t ht (fun z => e z.symm)).2.2.2
      refine rok_mono ht (fun k k1 k2 => hA k ?_ ?_) (hge 0 (by decide)) (hge 1 (by decide)) (hge 2 (by decide)) (hge 3 (by decide)) (hge 4 (by decide)) (hge 6 (by decide)) (hge 8 (by decide)) (rk t ht h9t i hi)
      · omega
      · rcases d.1 with z | z | z | z
        · omega
        · omega
        · exact absurd z h9t
        · exact absurd z h9
