/-! one number of a row changes on both sides: persons, dies (not the master), claims -/
theorem inv_set {h h2 : xH} {t0 i c : Nat} {v : Int} (I : zInv h) (ht0 : (t0 = 1 ∧ c < 3) ∨ (t0 = 2 ∧ 1 ≤ c ∧ c < 17) ∨ (t0 = 8 ∧ c < 4)) (h1 : h2.1 = h.1) (hi : (i : Int) < h.2 96 (t_z t0)) (hC : ∀ r, r ≠ 96 → h2.2 r = x_up h.2 (19 + 2 * t0) (i * t_w t0 + c) v r) (hA : ∀ k, h2.2 96 k = if k = t_b t0 + t_s t0 * i + c then v else h.2 96 k) (hr : rok (h2.2 96) t0 i) : zInv h2 := by
  obtain ⟨i1, i2, i3, i4, i5⟩ := I
  obtain ⟨⟨s0, s6, s14, s15, s16, s17, sz⟩, ⟨b1, b2, b3⟩, rk⟩ := i1
  obtain ⟨p1, p2, p3, p4, p5, p6⟩ := i3
  have hlt0 : t0 < 12 := by omega
  have h9 : t0 ≠ 9 := by omega
  have nums : 20 ≤ t_b t0 ∧ c < t_w t0 ∧ c < t_s t0 ∧ ∀ p ∈ t_p t0, p.1 = p.2 := by
    rcases ht0 with ⟨e, hc⟩ | ⟨e, hc⟩ | ⟨e, hc⟩ <;> subst e
    · exact ⟨by decide, hc, by show c < 4; omega, by decide⟩
    · exact ⟨by decide, hc.2, by show c < 20; omega, by decide⟩
    · exact ⟨by decide, hc, hc, by decide⟩
  obtain ⟨n1, n2, n3, n4⟩ := nums
  have him : i < t_m t0 := by have := sz t0 hlt0 h9; omega
  have hrow : t_s t0 * i + t_s t0 ≤ t_s t0 * t_m t0 := by
    have := Nat.mul_le_mul_left (t_s t0) (show i + 1 ≤ t_m t0 by omega)
    rw [Nat.mul_add, Nat.mul_one] at this
    exact this
  have hk : ∀ k, k ≠ t_b t0 + t_s t0 * i + c → h2.2 96 k = h.2 96 k := fun k hk => by rw [hA, if_neg hk]
  have hlow : ∀ k, k < 20 → h2.2 96 k = h.2 96 k := fun k hl => hk k (by omega)
  have hCo : ∀ r, r ≠ 96 → r ≠ 19 + 2 * t0 → h2.2 r = h.2 r := fun r r1 r2 => by rw [hC r r1, x_up_r r2]
  -- where the place lies
  have hreg : t_b t0 ≤ t_b t0 + t_s t0 * i + c ∧ t_b t0 + t_s t0 * i + c < t_b t0 + t_s t0 * t_m t0 := by omega
  have hplace : ∀ k, ((150 ≤ k ∧ k < 350 ∧ (k - 150) % 20 = 0) ∨ (2000 ≤ k ∧ k < 12210) ∨ (12650 ≤ k ∧ k < 13650)) → k ≠ t_b t0 + t_s t0 * i + c := by
    intro k hk2
    rcases ht0 with ⟨e, hc⟩ | ⟨e, hc⟩ | ⟨e, hc⟩ <;> subst e
    · have him : i < 30 := him
      show k ≠ 30 + 4 * i + c
      omega
    · have him : i < 10 := him
      show k ≠ 150 + 20 * i + c
      omega
    · have him : i < 80 := him
      show k ≠ 12210 + 4 * i + c
      omega
  have hm : pM (h2.2 96) := by
    refine ⟨⟨by rw [hlow 0 (by decide)]; exact s0, by rw [hlow 6 (by decide)]; exact s6, by rw [hlow 14 (by decide)]; exact s14, by rw [hlow 15 (by decide)]; exact s15, by rw [hlow 16 (by decide)]; exact s16, by rw [hlow 17 (by decide)]; exact s17, fun t ht h9t => ?_⟩, ⟨fun j a b => ?_, fun j a b => ?_, fun j a b => ?_⟩, fun t ht h9t j hj => ?_⟩
    · have hz := (t_dj t ht (if t = 0 then 1 else 0) (by split <;> decide) (by split <;> omega)).2.2.1
      rw [hlow _ hz]; exact sz t ht h9t
    · rw [hlow 2 (by decide)] at a
      rw [hk _ ?_]
      · exact b1 j a b
      · rcases ht0 with ⟨e, hc⟩ | ⟨e, hc⟩ | ⟨e, hc⟩ <;> subst e
        · have hi : (i : Int) < h.2 96 2 := hi
          show 32 + 4 * j ≠ 30 + 4 * i + c
          omega
        · show 32 + 4 * j ≠ 150 + 20 * i + c
          omega
        · show 32 + 4 * j ≠ 12210 + 4 * i + c
          omega
    · rw [hlow 8 (by decide)] at a
      rw [hk _ (hplace _ (by omega))]
      exact b2 j a b
    · rw [hlow 12 (by decide)] at a
      rw [hk _ (hplace _ (by omega)), hk _ (hplace _ (by omega))]
      exact b3 j a b
    · have hz := (t_dj t ht (if t = 0 then 1 else 0) (by split <;> decide) (by split <;> omega)).2.2.1
      rw [hlow _ hz] at hj
      by_cases e : t = t0
      · subst e
        by_cases e2 : j = i
        · subst e2; exact hr
        · refine rok_mono ht (fun k k1 k2 => hk k ?_) ?_ ?_ ?_ ?_ ?_ ?_ ?_ (rk t ht h9t j hj)
          · intro z
            rcases Nat.lt_or_ge j i with y | y
            · have hm2 : t_s t * j + t_s t ≤ t_s t * i := by
                have := Nat.mul_le_mul_left (t_s t) (show j + 1 ≤ i by omega)
                rw [Nat.mul_add, Nat.mul_one] at this
                exact this
              omega
            · have hm2 : t_s t * i + t_s t ≤ t_s t * j := by
                have := Nat.mul_le_mul_left (t_s t) (show i + 1 ≤ j by omega)
                rw [Nat.mul_add, Nat.mul_one] at this
                exact this
              omega
          all_goals (rw [hlow _ (by decide)]; exact Int.le_refl _)
      · have d := t_dj t ht t0 hlt0 e
        have hj2 : j < t_m t := by have := sz t ht h9t; omega
        have hm2 : t_s t * j + t_s t ≤ t_s t * t_m t := by
          have := Nat.mul_le_mul_left (t_s t) (show j + 1 ≤ t_m t by omega)
          rw [Nat.mul_add, Nat.mul_one] at this
          exact this
        refine rok_mono ht (fun k k1 k2 => hk k ?_) ?_ ?_ ?_ ?_ ?_ ?_ ?_ (rk t ht h9t j hj)
        · rcases d.1 with z | z | z | z
          · omega
          · omega
          · exact absurd z h9t
          · exact absurd z h9
        all_goals (rw [hlow _ (by decide)]; exact Int.le_refl _)
  have e97 := hCo 97 (by decide) (by omega)
  have e98 := hCo 98 (by decide) (by omega)
  have e99 := hCo 99 (by decide) (by omega)
  refine ⟨hm, by rw [e97]; exact i2, ?_, ?_, pTp_congr (fun r hr => hCo r (by omega) (by omega)) i5⟩
  · rw [e98]
    refine ⟨fun t ht => ?_, ?_, ?_, ?_, ?_, pActs_frame h1 (fun j => by rw [hCo 42 (by decide) (by omega)]) (fun r hr => hCo r (by omega) (by omega)) (fun k k1 k2 => hk k (hplace k (by omega))) (hlow 6 (by decide)) s6.2 p6⟩
    · have hz : t_z t < 20 := (t_dj t ht (if t = 0 then 1 else 0) (by split <;> decide) (by split <;> omega)).2.2.1
      by_cases e : t = t0
      · subst e
        intro _
        obtain ⟨c1, c2⟩ := p1 t ht h9
        refine ⟨by rw [hCo (17 + 1 + 2 * t) (by omega) (by omega), hlow _ hz]; exact c1, fun j hj p hp => ?_⟩
        rw [hlow _ hz] at hj
        have hpc := t_pc t ht p hp
        have hpe := n4 p hp
        rw [hC (17 + 2 + 2 * t) (by omega), show 17 + 2 + 2 * t = 19 + 2 * t by omega]
        by_cases e2 : j = i ∧ p.1 = c
        · obtain ⟨e3, e4⟩ := e2
          subst e3
          rw [e4, x_up_eq, ← hpe, e4, hA, if_pos rfl]
        · have k1 : j * t_w t + p.1 ≠ i * t_w t + c := by
            intro z
            rcases Nat.lt_trichotomy j i with y | y | y
            · have hm2 : j * t_w t + t_w t ≤ i * t_w t := by
                have := Nat.mul_le_mul_right (t_w t) (show j + 1 ≤ i by omega)
                rw [Nat.add_mul, Nat.one_mul] at this
                exact this
              omega
            · subst y; exact e2 ⟨rfl, by omega⟩
            · have hm2 : i * t_w t + t_w t ≤ j * t_w t := by
                have := Nat.mul_le_mul_right (t_w t) (show i + 1 ≤ j by omega)
                rw [Nat.add_mul, Nat.one_mul] at this
                exact this
              omega
          have k2 : t_b t + t_s t * j + p.2 ≠ t_b t + t_s t * i + c := by
            intro z
            rcases Nat.lt_trichotomy j i with y | y | y
            · have hm2 : t_s t * j + t_s t ≤ t_s t * i := by
                have := Nat.mul_le_mul_left (t_s t) (show j + 1 ≤ i by omega)
                rw [Nat.mul_add, Nat.mul_one] at this
                exact this
              omega
            · subst y; exact e2 ⟨rfl, by omega⟩
            · have hm2 : t_s t * i + t_s t ≤ t_s t * j := by
                have := Nat.mul_le_mul_left (t_s t) (show i + 1 ≤ j by omega)
                rw [Nat.mul_add, Nat.mul_one] at this
                exact this
              omega
          rw [x_up_j k1, hk _ k2]
          have := c2 j hj p hp
          rw [show 17 + 2 + 2 * t = 19 + 2 * t by omega] at this
          exact this
      · intro h9t
        have d := t_dj t ht t0 hlt0 e
        refine cT_frame (p1 t ht) ht (by rw [hCo (17 + 1 + 2 * t) (by omega) (by omega)]) (fun j => by rw [hCo (17 + 2 + 2 * t) (by omega) (by omega)]) (fun k k1 k2 => hk k ?_) (hlow _ hz) (sz t ht h9t).2 h9t
        rcases d.1 with z | z | z | z
        · omega
        · omega
        · exact absurd z h9t
        · exact absurd z h9
    · unfold pSc
      rw [hCo 17 (by decide) (by omega), hlow 6 (by decide), hlow 0 (by decide), hlow 14 (by decide), hlow 15 (by decide), hlow 16 (by decide), hlow 17 (by decide)]
      exact p2
    · intro j hj
      rw [hlow 9 (by decide)] at hj
      have z8 : 0 ≤ h.2 96 8 ∧ h.2 96 8 ≤ 80 := sz 6 (by decide) (by decide)
      have z9 : 0 ≤ h.2 96 9 ∧ h.2 96 9 ≤ 200 := sz 7 (by decide) (by decide)
      have z3 : 0 ≤ h.2 96 3 ∧ h.2 96 3 ≤ 10 := sz 2 (by decide) (by decide)
      have r7 : (0 ≤ h.2 96 (11610 + 3 * j) ∧ h.2 96 (11610 + 3 * j) < h.2 96 8) ∧ 0 ≤ h.2 96 (11611 + 3 * j) ∧ h.2 96 (11611 + 3 * j) ≤ 1 := rk 7 (by decide) (by decide) j hj
      have r6 : (0 ≤ h.2 96 (11130 + 6 * (h.2 96 (11610 + 3 * j)).toNat) ∧ h.2 96 (11130 + 6 * (h.2 96 (11610 + 3 * j)).toNat) < h.2 96 3) ∧ _ := rk 6 (by decide) (by decide) (h.2 96 (11610 + 3 * j)).toNat (show (((h.2 96 (11610 + 3 * j)).toNat : Nat) : Int) < h.2 96 8 by omega)
      rw [hCo (17 + 16) (by decide) (by omega), hk _ (hplace (11610 + 3 * j) (by omega)), hk _ (hplace (11130 + 6 * (h.2 96 (11610 + 3 * j)).toNat) (by omega)), hk _ (hplace (150 + 20 * (h.2 96 (11130 + 6 * (h.2 96 (11610 + 3 * j)).toNat)).toNat) (by omega))]
      exact p3 j hj
    · intro j hj k hk2
      rw [hlow 12 (by decide)] at hj
      have z12 : 0 ≤ h.2 96 12 ∧ h.2 96 12 ≤ 10 := sz 11 (by decide) (by decide)
      rw [hk _ (hplace (12651 + 100 * j) (by omega))] at hk2
      obtain ⟨r1, r2, r3, r4, r5, -⟩ := rk 11 (by decide) (by decide) j hj
      have r6 := r4 k hk2
      rw [hCo (17 + 24) (by decide) (by omega), hk _ (hplace (12653 + 100 * j + k) (by omega)), hk _ (hplace (12693 + 100 * j + (h.2 96 (12653 + 100 * j + k)).toNat) (by omega))]
      exact p4 j hj k hk2
    · unfold pFin
      rw [hCo (17 + 19) (by decide) (by omega), hCo (17 + 20) (by decide) (by omega), hlow 8 (by decide)]
      have ef : (fun i => if i < 80 then h2.2 96 (11134 + 6 * i) else 0) = (fun i => if i < 80 then h.2 96 (11134 + 6 * i) else 0) := by
        funext k
        by_cases hk3 : k < 80
        · rw [if_pos hk3, if_pos hk3, hk _ (hplace _ (by omega))]
        · rw [if_neg hk3, if_neg hk3]
      rw [ef]
      exact p5
  · rw [e97, e99]
    exact pC_congr h1 (fun r hr => hCo r (by omega) (by omega)) i2.1.2.1.2 i4
