/-! fined -/
theorem pM_fined {A A' : Nat → Int} {s : Nat} (m : pM A) (hs : (s : Int) < A 8) (E : ∀ k, A' k = if k = 11134 + 6 * s then 1 else A k) : pM A' := by
  have z := pM_z m
  have rs := seal_r m hs
  obtain ⟨⟨s0, s6, s14, s15, s16, s17, sz⟩, ⟨b1, b2, b3⟩, rk⟩ := m
  have zz : ∀ t, t < 12 → t_z t < 20 := by
    intro t ht
    rcases (show t = 0 ∨ t = 1 ∨ t = 2 ∨ t = 3 ∨ t = 4 ∨ t = 5 ∨ t = 6 ∨ t = 7 ∨ t = 8 ∨ t = 9 ∨ t = 10 ∨ t = 11 by omega) with e | e | e | e | e | e | e | e | e | e | e | e <;> subst e <;> decide
  have eq : ∀ k, k ≠ 11134 + 6 * s → A' k = A k := fun k hk => by rw [E, if_neg hk]
  have lo : ∀ k, k < 20 → A' k = A k := fun k hk => eq k (by omega)
  refine ⟨⟨by rw [lo 0 (by decide)]; exact s0, by rw [lo 6 (by decide)]; exact s6, by rw [lo 14 (by decide)]; exact s14, by rw [lo 15 (by decide)]; exact s15, by rw [lo 16 (by decide)]; exact s16, by rw [lo 17 (by decide)]; exact s17, fun t ht h9 => by rw [lo _ (zz t ht)]; exact sz t ht h9⟩, ⟨fun i a b => ?_, fun i a b => ?_, fun i a b => ?_⟩, fun t ht h9 i hi => ?_⟩
  · rw [lo 2 (by decide)] at a; rw [eq _ (by omega)]; exact b1 i a b
  · rw [lo 8 (by decide)] at a; rw [eq _ (by omega)]; exact b2 i a b
  · rw [lo 12 (by decide)] at a; rw [eq _ (by omega), eq _ (by omega)]; exact b3 i a b
  · rw [lo _ (zz t ht)] at hi
    have him : i < t_m t := by have := sz t ht h9; omega
    by_cases e6 : t = 6 ∧ i = s
    · obtain ⟨e1, e2⟩ := e6
      subst e1; subst e2
      show (0 ≤ A' (11130 + 6 * i) ∧ A' (11130 + 6 * i) < A' 3) ∧ (0 ≤ A' (11131 + 6 * i) ∧ A' (11131 + 6 * i) < A' 4) ∧ (0 ≤ A' (11132 + 6 * i) ∧ A' (11132 + 6 * i) ≤ A' 0) ∧ (0 ≤ A' (11133 + 6 * i) ∧ A' (11133 + 6 * i) ≤ 65535) ∧ 0 ≤ A' (11134 + 6 * i) ∧ A' (11134 + 6 * i) ≤ 1
      rw [eq (11130 + 6 * i) (by omega), eq (11131 + 6 * i) (by omega), eq (11132 + 6 * i) (by omega), eq (11133 + 6 * i) (by omega), lo 0 (by decide), lo 3 (by decide), lo 4 (by decide), E (11134 + 6 * i), if_pos rfl]
      omega
    · refine rok_mono ht (fun k k1 k2 => eq k ?_) (by rw [lo 0 (by decide)]; exact Int.le_refl _) (by rw [lo 1 (by decide)]; exact Int.le_refl _) (by rw [lo 2 (by decide)]; exact Int.le_refl _) (by rw [lo 3 (by decide)]; exact Int.le_refl _) (by rw [lo 4 (by decide)]; exact Int.le_refl _) (by rw [lo 6 (by decide)]; exact Int.le_refl _) (by rw [lo 8 (by decide)]; exact Int.le_refl _) (rk t ht h9 i hi)
      by_cases e : t = 6
      · subst e
        have k1 : 11130 + 6 * i ≤ k := k1
        have k2 : k < 11130 + 6 * i + 6 := k2
        omega
      · have d := t_dj t ht 6 (by decide) e
        have hm2 : t_s t * i + t_s t ≤ t_s t * t_m t := by
          have := Nat.mul_le_mul_left (t_s t) (show i + 1 ≤ t_m t by omega)
          rw [Nat.mul_add, Nat.mul_one] at this
          exact this
        have d1 : t_b t + t_s t * t_m t ≤ 11130 ∨ 11610 ≤ t_b t ∨ t = 9 ∨ (6 : Nat) = 9 := d.1
        omega
theorem inv_fined0 {h h2 : xH} {s n : Nat} {x y z f1 f2 f3 : Int} (I : zInv h) (h1 : h2.1 = h.1) (hs : (s : Int) < h.2 96 8) (h0 : h.2 96 (11134 + 6 * s) = 0) (hn : h.2 36 3 = (n : Int))
    (hC : ∀ r, r ≠ 31 → r ≠ 36 → r ≠ 37 → r ≠ 96 → r ≠ 98 → h2.2 r = h.2 r) (c31 : ∀ j, h2.2 31 j = if j = s * 5 + 4 then 1 else h.2 31 j) (c36 : h2.2 36 3 = (n : Int) + 1) (c37 : ∀ j, j < n * 6 → h2.2 37 j = h.2 37 j)
    (r0 : h2.2 37 (n * 6) = x) (r1 : h2.2 37 (n * 6 + 1) = y) (r2 : h2.2 37 (n * 6 + 2) = z) (r3 : h2.2 37 (n * 6 + 3) = f1) (r4 : h2.2 37 (n * 6 + 4) = f2) (r5 : h2.2 37 (n * 6 + 5) = f3) (a96 : ∀ k, h2.2 96 k = if k = 11134 + 6 * s then 1 else h.2 96 k)
    (e0 : h2.2 98 0 = h.2 98 0 + (f1 + f2 + f3)) (ep : ∀ p : Nat, p < 30 → h2.2 98 (1 + p) = h.2 98 (1 + p) + ((if x = (p : Int) then f1 else 0) + (if y = (p : Int) then f2 else 0) + (if z = (p : Int) then f3 else 0))) (b1 : 0 ≤ f1 ∧ f1 ≤ 1000000000) (b2 : 0 ≤ f2 ∧ f2 ≤ 1000000000) (b3 : 0 ≤ f3 ∧ f3 ≤ 1000000000) : zInv h2 := by
  obtain ⟨i1, i2, i3, i4, i5⟩ := I
  have zz := pM_z i1
  have eq : ∀ k, k ≠ 11134 + 6 * s → h2.2 96 k = h.2 96 k := fun k hk => by rw [a96, if_neg hk]
  have e97 := hC 97 (by decide) (by decide) (by decide) (by decide) (by decide)
  have e99 := hC 99 (by decide) (by decide) (by decide) (by decide) (by decide)
  refine ⟨pM_fined i1 hs a96, by rw [e97]; exact i2, ?_, ?_, pTp_congr (fun r hr => hC r (by omega) (by omega) (by omega) (by omega) (by omega)) i5⟩
  · obtain ⟨p1, p2, p3, p4, p5, p6⟩ := i3
    obtain ⟨⟨s0, s6, s14, s15, s16, s17, sz⟩, -, rk⟩ := i1
    refine ⟨fun t ht => ?_, ?_, ?_, ?_, ?_, pActs_frame h1 (fun j => by rw [hC 42 (by decide) (by decide) (by decide) (by decide) (by decide)]) (fun r hr => hC r (by omega) (by omega) (by omega) (by omega) (by omega)) (fun k k1 k2 => eq k (by omega)) (eq 6 (by omega)) s6.2 p6⟩
    · by_cases e6 : t = 6
      · subst e6
        intro _
        obtain ⟨c1, c2⟩ := p1 6 ht (by decide)
        refine ⟨?_, fun i hi p hp => ?_⟩
        · show h2.2 30 3 = h2.2 96 8
          rw [hC 30 (by decide) (by decide) (by decide) (by decide) (by decide), eq 8 (by omega)]; exact c1
        · have hi : (i : Int) < h2.2 96 8 := hi
          rw [eq 8 (by omega)] at hi
          have c2i : h.2 31 (i * 5 + p.1) = h.2 96 (11130 + 6 * i + p.2) := c2 i hi p hp
          show h2.2 31 (i * 5 + p.1) = h2.2 96 (11130 + 6 * i + p.2)
          have hp : p = (0, 0) ∨ p = (1, 1) ∨ p = (2, 2) ∨ p = (3, 3) ∨ p = (4, 4) := by simpa [t_p] using hp
          rw [c31, a96]
          rcases hp with e | e | e | e | e <;> subst e <;> dsimp only at c2i ⊢
          · rw [if_neg (by omega), if_neg (by omega)]; exact c2i
          · rw [if_neg (by omega), if_neg (by omega)]; exact c2i
          · rw [if_neg (by omega), if_neg (by omega)]; exact c2i
          · rw [if_neg (by omega), if_neg (by omega)]; exact c2i
          · by_cases e : i = s
            · rw [if_pos (by omega), if_pos (by omega)]
            · rw [if_neg (by omega), if_neg (by omega)]; exact c2i
      · intro h9
        have zt : t_z t < 20 := (t_dj t ht (if t = 0 then 1 else 0) (by split <;> decide) (by split <;> omega)).2.2.1
        have d := t_dj t ht 6 (by decide) e6
        have d1 : t_b t + t_s t * t_m t ≤ 11130 ∨ 11610 ≤ t_b t ∨ t = 9 ∨ (6 : Nat) = 9 := d.1
        refine cT_frame (p1 t ht) ht (by rw [hC (17 + 1 + 2 * t) (by omega) (by omega) (by omega) (by omega) (by omega)]) (fun j => by rw [hC (17 + 2 + 2 * t) (by omega) (by omega) (by omega) (by omega) (by omega)]) (fun k k1 k2 => eq k (by omega)) (eq _ (by omega)) (sz t ht h9).2 h9
    · unfold pSc
      rw [hC 17 (by decide) (by decide) (by decide) (by decide) (by decide), eq 6 (by omega), eq 0 (by omega), eq 14 (by omega), eq 15 (by omega), eq 16 (by omega), eq 17 (by omega)]
      exact p2
    · intro i hi
      rw [eq 9 (by omega)] at hi
      have r7 : (0 ≤ h.2 96 (11610 + 3 * i) ∧ h.2 96 (11610 + 3 * i) < h.2 96 8) ∧ 0 ≤ h.2 96 (11611 + 3 * i) ∧ h.2 96 (11611 + 3 * i) ≤ 1 := rk 7 (by decide) (by decide) i hi
      have r6 : (0 ≤ h.2 96 (11130 + 6 * (h.2 96 (11610 + 3 * i)).toNat) ∧ h.2 96 (11130 + 6 * (h.2 96 (11610 + 3 * i)).toNat) < h.2 96 3) ∧ _ := rk 6 (by decide) (by decide) (h.2 96 (11610 + 3 * i)).toNat (show (((h.2 96 (11610 + 3 * i)).toNat : Nat) : Int) < h.2 96 8 by omega)
      rw [hC (17 + 16) (by decide) (by decide) (by decide) (by decide) (by decide), eq (11610 + 3 * i) (by omega), eq (11130 + 6 * (h.2 96 (11610 + 3 * i)).toNat) (by omega), eq (150 + 20 * (h.2 96 (11130 + 6 * (h.2 96 (11610 + 3 * i)).toNat)).toNat) (by omega)]
      exact p3 i hi
    · intro i hi k hk
      rw [eq 12 (by omega)] at hi
      rw [eq (12651 + 100 * i) (by omega)] at hk
      rw [hC (17 + 24) (by decide) (by decide) (by decide) (by decide) (by decide), eq (12653 + 100 * i + k) (by omega), eq (12693 + 100 * i + (h.2 96 (12653 + 100 * i + k)).toNat) (by omega)]
      exact p4 i hi k hk
    · obtain ⟨m, m1, m2, m3, m4, m5⟩ := p5
      have m1 : h.2 36 3 = (m : Int) := m1
      have : m = n := by omega
      subst this
      have m3 : ∀ j, j < m → ∀ c, c < 3 → 0 ≤ h.2 37 (j * 6 + 3 + c) ∧ h.2 37 (j * 6 + 3 + c) ≤ 1000000000 := m3
      have m4 : h.2 98 0 = sg (fun j => h.2 37 (j * 6 + 3) + h.2 37 (j * 6 + 4) + h.2 37 (j * 6 + 5)) m := m4
      have m5 : ∀ p : Nat, p < 30 → h.2 98 (1 + p) = sg (fun j => (if h.2 37 (j * 6) = (p : Int) then h.2 37 (j * 6 + 3) else 0) + (if h.2 37 (j * 6 + 1) = (p : Int) then h.2 37 (j * 6 + 4) else 0) + (if h.2 37 (j * 6 + 2) = (p : Int) then h.2 37 (j * 6 + 5) else 0)) m := m5
      refine ⟨m + 1, ?_, ?_, fun j hj c hc => ?_, ?_, fun p hp => ?_⟩
      · show h2.2 36 3 = _
        rw [c36]; omega
      · rw [eq 8 (by omega)]
        have sp := sg_point (F := fun i => if i < 80 then h2.2 96 (11134 + 6 * i) else 0) (x := s) (N := (h.2 96 8).toNat) (by omega)
        have sp0 := sg_point (F := fun i => if i < 80 then h.2 96 (11134 + 6 * i) else 0) (x := s) (N := (h.2 96 8).toNat) (by omega)
        rw [sp]
        rw [sp0] at m2
        have ec : sg (fun w => if w = s then 0 else (fun i => if i < 80 then h2.2 96 (11134 + 6 * i) else 0) w) (h.2 96 8).toNat = sg (fun w => if w = s then 0 else (fun i => if i < 80 then h.2 96 (11134 + 6 * i) else 0) w) (h.2 96 8).toNat := by
          refine sg_congr (fun i hi => ?_)
          (try dsimp only)
          by_cases e : i = s
          · rw [if_pos e, if_pos e]
          · rw [if_neg e, if_neg e, eq (11134 + 6 * i) (by omega)]
        rw [ec]
        (try dsimp only at m2 ⊢)
        rw [if_pos (by omega), h0] at m2
        rw [if_pos (by omega), a96, if_pos rfl]
        omega
      · show 0 ≤ h2.2 37 (j * 6 + 3 + c) ∧ h2.2 37 (j * 6 + 3 + c) ≤ 1000000000
        by_cases e : j < m
        · rw [c37 _ (by omega)]; exact m3 j e c hc
        · have : j = m := by omega
          subst this
          rcases (show c = 0 ∨ c = 1 ∨ c = 2 by omega) with e | e | e <;> subst e
          · rw [Nat.add_zero, r3]; exact b1
          · rw [show j * 6 + 3 + 1 = j * 6 + 4 by omega, r4]; exact b2
          · rw [show j * 6 + 3 + 2 = j * 6 + 5 by omega, r5]; exact b3
      · show h2.2 98 0 = sg (fun j => h2.2 37 (j * 6 + 3) + h2.2 37 (j * 6 + 4) + h2.2 37 (j * 6 + 5)) (m + 1)
        rw [sg_s, r3, r4, r5, e0, m4, sg_congr (f := fun j => h2.2 37 (j * 6 + 3) + h2.2 37 (j * 6 + 4) + h2.2 37 (j * 6 + 5)) (f' := fun j => h.2 37 (j * 6 + 3) + h.2 37 (j * 6 + 4) + h.2 37 (j * 6 + 5)) (fun j hj => by (try dsimp only); rw [c37 _ (by omega), c37 _ (by omega), c37 _ (by omega)])]
      · show h2.2 98 (1 + p) = sg (fun j => (if h2.2 37 (j * 6) = (p : Int) then h2.2 37 (j * 6 + 3) else 0) + (if h2.2 37 (j * 6 + 1) = (p : Int) then h2.2 37 (j * 6 + 4) else 0) + (if h2.2 37 (j * 6 + 2) = (p : Int) then h2.2 37 (j * 6 + 5) else 0)) (m + 1)
        rw [sg_s, r0, r1, r2, r3, r4, r5, ep p hp, m5 p hp, sg_congr (f := fun j => (if h2.2 37 (j * 6) = (p : Int) then h2.2 37 (j * 6 + 3) else 0) + (if h2.2 37 (j * 6 + 1) = (p : Int) then h2.2 37 (j * 6 + 4) else 0) + (if h2.2 37 (j * 6 + 2) = (p : Int) then h2.2 37 (j * 6 + 5) else 0)) (f' := fun j => (if h.2 37 (j * 6) = (p : Int) then h.2 37 (j * 6 + 3) else 0) + (if h.2 37 (j * 6 + 1) = (p : Int) then h.2 37 (j * 6 + 4) else 0) + (if h.2 37 (j * 6 + 2) = (p : Int) then h.2 37 (j * 6 + 5) else 0)) (fun j hj => by (try dsimp only); rw [c37 _ (by omega), c37 _ (by omega), c37 _ (by omega), c37 _ (by omega), c37 _ (by omega), c37 _ (by omega)])]
  · rw [e97, e99]
    exact pC_congr h1 (fun r hr => hC r (by omega) (by omega) (by omega) (by omega) (by omega)) i2.1.2.1.2 i4
theorem part_b {fine b c al : Int} (hf : 0 ≤ fine ∧ fine ≤ 1000000000) (hb : 0 ≤ b ∧ b ≤ 9) (hc : 0 ≤ c ∧ c ≤ 9) (ha : 0 < al) (hs : b + c ≤ al) : (0 ≤ fine * b ∧ fine * b ≤ 9000000000) ∧ (0 ≤ (fine * b).tdiv al ∧ (fine * b).tdiv al ≤ 1000000000) ∧ (0 ≤ (fine * c).tdiv al ∧ (fine * c).tdiv al ≤ 1000000000) ∧ (fine * b).tdiv al + (fine * c).tdiv al ≤ fine := by
  have m1 : 0 ≤ fine * b := Int.mul_nonneg hf.1 hb.1
  have m2 : 0 ≤ fine * c := Int.mul_nonneg hf.1 hc.1
  have m3 : fine * b ≤ 1000000000 * 9 := Int.mul_le_mul hf.2 hb.2 hb.1 (by omega)
  rw [Int.tdiv_eq_ediv_of_nonneg m1, Int.tdiv_eq_ediv_of_nonneg m2]
  have d1 : 0 ≤ fine * b / al := Int.ediv_nonneg m1 (by omega)
  have d2 : 0 ≤ fine * c / al := Int.ediv_nonneg m2 (by omega)
  have q1 : fine * b / al * al ≤ fine * b := Int.ediv_mul_le _ (by omega)
  have q2 : fine * c / al * al ≤ fine * c := Int.ediv_mul_le _ (by omega)
  have q3 : (fine * b / al + fine * c / al) * al ≤ fine * al := by
    rw [Int.add_mul]
    have : fine * b + fine * c ≤ fine * al := by rw [← Int.mul_add]; exact Int.mul_le_mul_of_nonneg_left hs hf.1
    omega
  have q4 : fine * b / al + fine * c / al ≤ fine := Int.le_of_mul_le_mul_right q3 ha
  omega
theorem s_partOf {g : xG} {D : Nat} {h : xH} {fine b al : Int} {Q : Int → xH → Prop} (hf : 0 ≤ fine ∧ fine ≤ 1000000000) (hb : 0 ≤ b ∧ b ≤ 9) (ha : 0 < al) (hs : b ≤ al) (hQ : Q ((fine * b).tdiv al) h) : zSi g D mX8_partOf [xi fine, xi b, xi al] h Q := by
  have pb := part_b (c := 0) hf hb (by omega) ha (by omega)
  refine eX8_partOf (zX8_partOf_0 ⟨fun z => by omega, fun z => ⟨by omega, ?_⟩⟩)
  rw [x64_id (show -9223372036854775808 ≤ fine * b by omega) (by omega), x64_id (by omega) (by omega), x32_id (by omega) (by omega)]
  exact hQ
/-- the reference's tests -/
theorem r_fin {g : xG} {D : Nat} {h : xH} {a1 a2 a3 a4 a5 a6 a7 : Int} {Q : Int → xH → Prop} (m : pM (h.2 96)) (hno : ¬ ((0 ≤ a1 ∧ a1 < h.2 96 8) ∧ (0 ≤ a2 ∧ a2 < h.2 96 2) ∧ (0 ≤ a3 ∧ a3 < h.2 96 2) ∧ (0 ≤ a4 ∧ a4 < h.2 96 2) ∧ (0 ≤ a5 ∧ a5 ≤ 9) ∧ (0 ≤ a6 ∧ a6 ≤ 9) ∧ (0 ≤ a7 ∧ a7 ≤ 9) ∧ 0 < a5 + a6 + a7) → Q (-1) h)
    (hy : ((0 ≤ a1 ∧ a1 < h.2 96 8) ∧ (0 ≤ a2 ∧ a2 < h.2 96 2) ∧ (0 ≤ a3 ∧ a3 < h.2 96 2) ∧ (0 ≤ a4 ∧ a4 < h.2 96 2) ∧ (0 ≤ a5 ∧ a5 ≤ 9) ∧ (0 ≤ a6 ∧ a6 ≤ 9) ∧ (0 ≤ a7 ∧ a7 ≤ 9) ∧ 0 < a5 + a6 + a7) → ∀ {w5 w9 w10 w11 w12 w13 w14 w15 w16 w17 w18 : xV}, zJ g (D + 2) 218 0 0 99 [xr 95, xi a1, xi a2, xi a3, xi a4, w5, xi a6, xi a7, xi (a5 + a6 + a7), w9, w10, w11, w12, w13, w14, w15, w16, w17, w18] [xi (h.2 96 (11134 + 6 * a1.toNat))] h (x_qi Q)) : zSi g (D + 2) mX9_fined [xr 95, xi a1, xi a2, xi a3, xi a4, xi a5, xi a6, xi a7] h Q := by
  have z := pM_z m
  have hal0 : (0 ≤ a5 ∧ a5 ≤ 9) → (0 ≤ a6 ∧ a6 ≤ 9) → (0 ≤ a7 ∧ a7 ≤ 9) → x32 (x32 (a5 + a6) + a7) = a5 + a6 + a7 := by
    intro q1 q2 q3
    rw [x32_id (show -2147483648 ≤ a5 + a6 by omega) (by omega), x32_id (by omega) (by omega)]
  have l53 : ∀ (s0 al : Int), (s0 = 0 ∧ ¬ ((0 ≤ a5 ∧ a5 ≤ 9) ∧ (0 ≤ a6 ∧ a6 ≤ 9) ∧ (0 ≤ a7 ∧ a7 ≤ 9) ∧ 0 < a5 + a6 + a7)) ∨ (s0 = 1 ∧ al = a5 + a6 + a7 ∧ ((0 ≤ a5 ∧ a5 ≤ 9) ∧ (0 ≤ a6 ∧ a6 ≤ 9) ∧ (0 ≤ a7 ∧ a7 ≤ 9) ∧ 0 < a5 + a6 + a7)) → ∀ {w5 w9 w10 w11 w12 w13 w14 w15 w16 w17 w18 : xV}, zJ g (D + 2) 218 0 0 53 [xr 95, xi a1, xi a2, xi a3, xi a4, w5, xi a6, xi a7, xi al, w9, w10, w11, w12, w13, w14, w15, w16, w17, w18] [xi s0] h (x_qi Q) := by
    intro s0 al hs0 w5 w9 w10 w11 w12 w13 w14 w15 w16 w17 w18
    refine zX9_fined_53 (s_isSeal (by omega) (fun v1 hv1 => zX9_fined_60 ⟨fun u => zX9_fined_111 (hno (by omega)), fun u => s_isPerson (by omega) (fun v2 hv2 => zX9_fined_68 ⟨fun u2 => zX9_fined_111 (hno (by omega)), fun u2 => s_isPerson (by omega) (fun v3 hv3 => zX9_fined_76 ⟨fun u3 => zX9_fined_111 (hno (by omega)), fun u3 => s_isPerson (by omega) (fun v4 hv4 => zX9_fined_85 ⟨fun u4 => zX9_fined_111 (hno (by omega)), fun u4 => ⟨fun u5 => zX9_fined_111 (hno (by omega)), fun u5 => ?_⟩⟩)⟩)⟩)⟩))
    obtain ⟨s, rfl⟩ : ∃ s : Nat, a1 = (s : Int) := ⟨a1.toNat, by omega⟩
    have hal : al = a5 + a6 + a7 := by omega
    refine r_sealAt (c := 4) (by omega) (by decide) ?_
    have := @hy (by omega) xu xu xu xu xu xu xu xu xu xu xu
    rw [show ((s : Int)).toNat = s by omega] at this
    rw [hal]
    exact hy (by omega)
  refine eX9_fined (zX9_fined_0 (s_in (fun v1 hv1 => ?_)))
  generalize hal : x32 (x32 (a5 + a6) + a7) = al
  rw [hal] at hal0
  clear hal
  refine zX9_fined_18 ⟨fun u => zX9_fined_52 (l53 0 al (Or.inl ⟨rfl, by omega⟩)), fun u => s_in (fun v2 hv2 => zX9_fined_29 ⟨fun u2 => zX9_fined_52 (l53 0 al (Or.inl ⟨rfl, by omega⟩)), fun u2 => s_in (fun v3 hv3 => zX9_fined_40 ⟨fun u3 => zX9_fined_52 (l53 0 al (Or.inl ⟨rfl, by omega⟩)), fun u3 => ?_⟩)⟩)⟩
  have e := hal0 (by omega) (by omega) (by omega)
  exact ⟨fun u4 => zX9_fined_52 (l53 0 al (Or.inl ⟨rfl, by omega⟩)), fun u4 => l53 1 al (Or.inr ⟨rfl, e, by omega⟩)⟩
theorem op_fined {g : xG} {D : Nat} {h : xH} {a1 a2 a3 a4 a5 a6 a7 : Int} (I : zInv h) : zSi g (D + 7) mX8_fined [xr 16, xi a1, xi a2, xi a3, xi a4, xi a5, xi a6, xi a7] h (fun x h1 => zSi g (D + 7) mX9_fined [xr 95, xi a1, xi a2, xi a3, xi a4, xi a5, xi a6, xi a7] h1 (fun y h2 => x = y ∧ zInv h2)) := by
  refine zS_sh (fun hs => ?_)
  have Z := zB_of hs I
  have B := rB_inv I
  have z := pM_z I.1
  have hday : h.2 17 14 = h.2 96 0 := I.2.2.1.2.1.2.1
  have hsz : h.2 30 3 = h.2 96 8 := ((I.2.2.1.1 6 (by decide)) (by decide)).1
  have hszp : h.2 20 3 = h.2 96 2 := ((I.2.2.1.1 1 (by decide)) (by decide)).1
  have R : pR h 30 31 80 5 := z_R hs rfl rfl rfl rfl rfl (by decide)
  have R1 : pR h 20 21 30 3 := z_R hs rfl rfl rfl rfl rfl (by decide)
  obtain ⟨n, hn, n80, fb, fe0, fep⟩ := fin_b I.1 I.2.2.1.2.2.2.2.1
  have hn : h.2 36 3 = (n : Int) := hn
  have no : ¬ ((0 ≤ a1 ∧ a1 < h.2 96 8) ∧ (0 ≤ a2 ∧ a2 < h.2 96 2) ∧ (0 ≤ a3 ∧ a3 < h.2 96 2) ∧ (0 ≤ a4 ∧ a4 < h.2 96 2) ∧ (0 ≤ a5 ∧ a5 ≤ 9) ∧ (0 ≤ a6 ∧ a6 ≤ 9) ∧ (0 ≤ a7 ∧ a7 ≤ 9) ∧ 0 < a5 + a6 + a7) → zSi g (D + 7) mX9_fined [xr 95, xi a1, xi a2, xi a3, xi a4, xi a5, xi a6, xi a7] h (fun y h2 => -1 = y ∧ zInv h2) := by
    intro hno
    exact r_fin I.1 (fun _ => ⟨rfl, I⟩) (fun hy => absurd hy hno)
  refine eX8_fined (zX8_fined_0 (s_has R.1 (fun x1 hx1 => ⟨fun q => zX8_fined_57 (no (by omega)), fun q => s_has R1.1 (fun x2 hx2 => ⟨fun q2 => zX8_fined_57 (no (by omega)), fun q2 => s_has R1.1 (fun x3 hx3 => ⟨fun q3 => zX8_fined_57 (no (by omega)), fun q3 => s_has R1.1 (fun x4 hx4 => ⟨fun q4 => zX8_fined_59 ?_, fun q4 => no (by omega)⟩)⟩)⟩)⟩)))
  refine s_win (fun y1 hy1 => ⟨fun p => zX8_fined_103 (no (by omega)), fun p => s_win (fun y2 hy2 => ⟨fun p2 => zX8_fined_103 (no (by omega)), fun p2 => s_win (fun y3 hy3 => ⟨fun p3 => zX8_fined_103 (no (by omega)), fun p3 => ?_⟩)⟩)⟩)
  rw [x32_id (show -2147483648 ≤ a5 + a6 by omega) (by omega), x32_id (by omega) (by omega)]
  refine ⟨fun p4 => zX8_fined_105 ?_, fun p4 => no (by omega)⟩
  obtain ⟨s, rfl⟩ : ∃ s : Nat, a1 = (s : Int) := ⟨a1.toNat, by omega⟩
  have hsl : (s : Int) < h.2 96 8 := by omega
  obtain ⟨c0, c1, c2, c3, c4⟩ := zB_seal Z hsl
  have rks := seal_r I.1 hsl
  have ok : (0 ≤ (s : Int) ∧ (s : Int) < h.2 96 8) ∧ (0 ≤ a2 ∧ a2 < h.2 96 2) ∧ (0 ≤ a3 ∧ a3 < h.2 96 2) ∧ (0 ≤ a4 ∧ a4 < h.2 96 2) ∧ (0 ≤ a5 ∧ a5 ≤ 9) ∧ (0 ≤ a6 ∧ a6 ≤ 9) ∧ (0 ≤ a7 ∧ a7 ≤ 9) ∧ 0 < a5 + a6 + a7 := by omega
  have ets : ((s : Int)).toNat = s := by omega
  -- the reference, the tests passed
  have go : ∀ {h1 : xH} {Q : Int → xH → Prop}, h1.2 96 = h.2 96 → (∀ {w5 w9 w10 w11 w12 w13 w14 w15 w16 w17 w18 : xV}, zJ g (D + 7) 218 0 0 99 [xr 95, xi s, xi a2, xi a3, xi a4, w5, xi a6, xi a7, xi (a5 + a6 + a7), w9, w10, w11, w12, w13, w14, w15, w16, w17, w18] [xi (h.2 96 (11134 + 6 * s))] h1 (x_qi Q)) → zSi g (D + 7) mX9_fined [xr 95, xi s, xi a2, xi a3, xi a4, xi a5, xi a6, xi a7] h1 Q := by
    intro h1 Q e96 k
    refine r_fin (by rw [e96]; exact I.1) (fun hno => by rw [e96] at hno; exact absurd ok hno) (fun _ => ?_)
    rw [e96, ets]
    exact k
  refine s_get R (by omega) (by omega) (by omega) (by omega) ?_
  rw [show ((s : Int) * ((5 : Nat) : Int) + 4).toNat = s * 5 + 4 by omega, c4]
  refine ⟨fun u => zX8_fined_129 (go rfl (zX9_fined_99 ⟨fun _ => zX9_fined_111 ⟨rfl, I⟩, fun t => absurd u t⟩)), fun u => s_isGood Z hsl (fun v h1 f hv => ?_)⟩
  have e96 := fB_96 f
  have I1 := fB_inv f I
  have Z1 := fB_zB f Z
  -- the reference up to isGood
  have go2 : ∀ {hx : xH} {Q : Int → xH → Prop}, hx.2 96 = h.2 96 → (∀ (u2 : Int) (hy : xH), fR hx hy → (u2 = 1 ∧ good (h.2 96) s) ∨ (u2 = 0 ∧ ¬ good (h.2 96) s) → ∀ {w5 w9 w10 w11 w12 w13 w14 w15 w16 w17 w18 : xV}, zJ g (D + 7) 218 0 0 108 [xr 95, xi s, xi a2, xi a3, xi a4, w5, xi a6, xi a7, xi (a5 + a6 + a7), w9, w10, w11, w12, w13, w14, w15, w16, w17, w18] [xi u2] hy (x_qi Q)) → zSi g (D + 7) mX9_fined [xr 95, xi s, xi a2, xi a3, xi a4, xi a5, xi a6, xi a7] hx Q := by
    intro hx Q ex k
    refine go ex (fun {_ _ _ _ _ _ _ _ _ _ _} => zX9_fined_99 ⟨fun t => absurd t u, fun t => r_isGood (by rw [ex]; exact I.1) (by rw [ex]; exact B) (by rw [ex]; exact hsl) (fun u2 hy fy hu2 => ?_)⟩)
    rw [ex] at hu2
    exact k u2 hy fy hu2
  have hz0 : h.2 96 (11134 + 6 * s) = 0 := by omega
  refine ⟨fun t => zX8_fined_131 ?_, fun t => go2 e96 (fun u2 hy fy hu2 => zX9_fined_108 ⟨fun t2 => ?_, fun t2 => ⟨rfl, fR_inv fy I1⟩⟩)⟩
  · have ng : ¬ good (h.2 96) s := by
      rcases hv with r | r
      · omega
      · exact r.2
    obtain ⟨w, hw⟩ : ∃ w : Nat, h.2 96 (11131 + 6 * s) = (w : Int) := ⟨(h.2 96 (11131 + 6 * s)).toNat, by omega⟩
    have hwl : (w : Int) < h.2 96 4 := by omega
    have R1' : pR h1 30 31 80 5 := z_R Z1.1 rfl rfl rfl rfl rfl (by decide)
    refine s_get R1' (by omega) (by omega) (by omega) (by omega) ?_
    rw [show ((s : Int) * ((5 : Nat) : Int) + 1).toNat = s * 5 + 1 by omega, (zB_seal Z1 (by rw [e96]; exact hsl)).2.1, e96, hw, f.2.1 17 (by decide) (by decide) (by decide), hday]
    -- the reference up to the measures
    have go3 : ∀ {hx : xH} {Q : Int → xH → Prop}, hx.2 96 = h.2 96 → (∀ hy, fR hx hy → mO (h.2 96) w (h.2 96 0) (h.2 96 0) = -1 → Q (-1) hy) → (∀ (x : Nat) (hy : xH), fR hx hy → mO (h.2 96) w (h.2 96 0) (h.2 96 0) = (x : Int) → ∀ {w5 w9 w10 w11 w12 w13 w14 w15 w16 w17 w18 : xV}, zJ g (D + 7) 218 0 0 166 [xr 95, xi s, xi a2, xi a3, xi a4, w5, xi a6, xi a7, xi (a5 + a6 + a7), w9, w10, w11, w12, w13, w14, w15, w16, w17, w18] [xi (aM (h.2 96) (-1) 5 (h.2 96 0) (nm1 (h.2 96) (-1) w (h.2 96 0) x))] hy (x_qi Q)) → zSi g (D + 7) mX9_fined [xr 95, xi s, xi a2, xi a3, xi a4, xi a5, xi a6, xi a7] hx Q := by
      intro hx Q ex k0 k1
      refine go2 ex (fun u2 hy fy hu2 {_ _ _ _ _ _ _ _ _ _ _} => zX9_fined_108 ⟨fun t2 => zX9_fined_113 (r_sealAt (c := 1) (by omega) (by decide) ?_), fun t2 => ?_⟩)
      · have ey : hy.2 96 = h.2 96 := (fR_96 fy).trans ex
        rw [show 11130 + 1 + 6 * s = 11131 + 6 * s by omega, ey, hw]
        refine zX9_fined_119 ?_
        rw [ey]
        have By : rB (hy.2 96) := by rw [ey]; exact B
        refine r_meas By (fun e => zX9_fined_139 ⟨fun q => absurd q (by decide), fun _ => k0 hy fy (by rw [ey] at e; exact e)⟩) (fun x e hx5 => zX9_fined_139 ⟨fun _ => zX9_fined_148 ?_, fun q => by omega⟩)
        rw [ey] at e hx5
        refine r_name By (by rw [ey]; exact hwl) (by rw [ey]; exact hx5) B.2.1 (fun hq fq nq => zX9_fined_158 ?_)
        rw [ey] at nq
        have eq : hq.2 96 = h.2 96 := (fR_96 fq).trans ey
        have nb := nm1_b B (Or.inl rfl : (-1 : Int) = -1 ∨ _) hwl hx5 B.2.1
        refine r_sumOf (k := 5) (by rw [eq]; exact B.1) (by decide) nb.2.2.2 nq (fun hr g1 g2 => ?_)
        rw [eq]
        exact k1 x hr (fR_trans (fR_trans fy fq) (fR_of g1 g2)) e
      · rcases hu2 with r | r
        · exact absurd r.2 ng
        · omega
    refine s_weigh Z1 (by rw [e96]; exact hwl) B.2.1 (fun e => ⟨fun q => absurd rfl q, fun _ => go3 e96 (fun hy fy _ => ⟨rfl, fR_inv fy I1⟩) (fun x hy fy ex => by rw [e96] at e; omega)⟩) (fun x h2 e hx5 f2 n2 s2 => ⟨fun _ => zX8_fined_169 ?_, fun q => absurd q (by decide)⟩)
    rw [e96] at e hx5 n2
    have g2 := fB_trans f f2
    have nb := nm1_b B (Or.inl rfl : (-1 : Int) = -1 ∨ _) hwl hx5 B.2.1
    have ab : 0 ≤ aM (h.2 96) (-1) 5 (h.2 96 0) (nm1 (h.2 96) (-1) w (h.2 96 0) x) ∧ aM (h.2 96) (-1) 5 (h.2 96 0) (nm1 (h.2 96) (-1) w (h.2 96 0) x) ≤ 1000000000 := aM_b (k := 5) B.1 (Or.inl rfl) (by decide) nb.2.2.2
    rw [g2.2.1 17 (by decide) (by decide) (by decide), hday]
    refine s_amount (k := 5) (fB_zB g2 Z) (by decide) nb.2.2.2 n2 (fun h3 k1 k2 => ?_)
    have g3 := fB_trans g2 (fB_of77 k1 k2)
    rw [fB_96 g2, show ((5 : Nat) : Int) = 5 from rfl]
    generalize hfn : aM (h.2 96) (-1) 5 (h.2 96 0) (nm1 (h.2 96) (-1) w (h.2 96 0) x) = fine at ab
    rw [x32_id (show -2147483648 ≤ a5 + a6 by omega) (by omega), x32_id (show -2147483648 ≤ a5 + a6 + a7 by omega) (by omega)]
    have pb := part_b (b := a6) (c := a7) (al := a5 + a6 + a7) ab (by omega) (by omega) (by omega) (by omega)
    have pb7 := part_b (b := a7) (c := a6) (al := a5 + a6 + a7) ab (by omega) (by omega) (by omega) (by omega)
    refine s_partOf ab (by omega) (by omega) (by omega) (s_partOf ab (by omega) (by omega) (by omega) ?_)
    have nn6 : 0 ≤ fine * a7 ∧ fine * a7 ≤ 9000000000 := pb7.1
    have nn5 : 0 ≤ fine * a6 ∧ fine * a6 ≤ 9000000000 := pb.1
    have pbs := pb.2.2.2
    have pb2 := pb.2.1
    have pb3 := pb.2.2.1
    generalize hse : (fine * a6).tdiv (a5 + a6 + a7) = second at pb pb2 pb3 pbs
    generalize hth : (fine * a7).tdiv (a5 + a6 + a7) = third at pb pb2 pb3 pbs
    clear pb pb7
    rw [x32_id (show -2147483648 ≤ fine - second by omega) (by omega), x32_id (show -2147483648 ≤ fine - second - third by omega) (by omega)]
    have hs3 := fB_zSh g3 hs
    have R3 : pR h3 30 31 80 5 := z_R hs3 rfl rfl rfl rfl rfl (by decide)
    refine s_set R3 (by omega) (by omega) (by omega) (by omega) (fun h4 hs4 e4 => ?_)
    rw [show ((s : Int) * ((5 : Nat) : Int) + 4).toNat = s * 5 + 4 by omega] at e4
    have R4 : pR h4 36 37 80 6 := z_R hs4 rfl rfl rfl rfl rfl (by decide)
    have sz4 : h4.2 36 3 = (n : Int) := by rw [e4]; (try dsimp only); rw [x_up_r (by decide), g3.2.1 36 (by decide) (by decide) (by decide)]; exact hn
    -- one seal isn't fined, so there is room
    have nlt : n < 80 := by
      obtain ⟨q, q1, q2, -⟩ := I.2.2.1.2.2.2.2.1
      have q1 : h.2 36 3 = (q : Int) := q1
      have sp0 := sg_point (F := fun i => if i < 80 then h.2 96 (11134 + 6 * i) else 0) (x := s) (N := (h.2 96 8).toNat) (by omega)
      rw [sp0] at q2
      try dsimp only at q2
      rw [if_pos (by omega), hz0] at q2
      have sb := sg_point (F := fun i => if i < 80 then (1 : Int) else 0) (x := s) (N := (h.2 96 8).toNat) (by omega)
      have s1 : ∀ N : Nat, N ≤ 80 → sg (fun i => if i < 80 then (1 : Int) else 0) N = N := by
        intro N
        induction N with
        | zero => intro _; rfl
        | succ N ih => intro hN; rw [sg_s, ih (by omega)]; (try dsimp only); rw [if_pos (by omega)]; omega
      rw [s1 _ (by omega)] at sb
      (try dsimp only at sb)
      rw [if_pos (by omega)] at sb
      have mono : ∀ N : Nat, (N : Int) ≤ h.2 96 8 → sg (fun y => if y = s then 0 else if y < 80 then h.2 96 (11134 + 6 * y) else 0) N ≤ sg (fun y => if y = s then 0 else if y < 80 then (1 : Int) else 0) N := by
        intro N
        induction N with
        | zero => intro _; exact Int.le_refl _
        | succ N ih =>
          intro hN
          have r := seal_r I.1 (s := N) (by omega)
          have := ih (by omega)
          rw [sg_s, sg_s]
          (try dsimp only)
          by_cases e : N = s
          · rw [if_pos e, if_pos e]; omega
          · rw [if_neg e, if_neg e, if_pos (by omega), if_pos (by omega)]; omega
      have := mono (h.2 96 8).toNat (by omega)
      omega
    refine s_add R4 sz4 nlt (by decide) (by decide) (fun h5 hs5 e5 e6 => ?_)
    have mkR : ∀ {hq : xH}, zSh hq → pR hq 36 37 80 6 := fun hq => z_R hq rfl rfl rfl rfl rfl (by decide)
    refine s_set (mkR hs5) (by omega) (by omega) (by omega) (by omega) (fun h6 hs6 e7 => s_set (mkR hs6) (by omega) (by omega) (by omega) (by omega) (fun h7 hs7 e8 => s_set (mkR hs7) (by omega) (by omega) (by omega) (by omega) (fun h8 hs8 e9 => ?_)))
    rw [show ((n : Int) * ((6 : Nat) : Int) + 3).toNat = n * 6 + 3 by omega] at e7
    rw [show ((n : Int) * ((6 : Nat) : Int) + 4).toNat = n * 6 + 4 by omega] at e8
    rw [show ((n : Int) * ((6 : Nat) : Int) + 5).toNat = n * 6 + 5 by omega] at e9
    have k8 : h8.2 = x_up (x_up (x_up h5.2 37 (n * 6 + 3) (fine - second - third)) 37 (n * 6 + 4) second) 37 (n * 6 + 5) third := by rw [e9, e8, e7]
    have k81 : h8.1 = h.1 := by rw [e9, e8, e7]; show h5.1 = h.1; rw [e5, e4]; exact g3.1
    have k4 : h4.2 = x_up h3.2 31 (s * 5 + 4) 1 := by rw [e4]
    clear e7 e8 e9 e4
    have o8 : ∀ r, r ≠ 31 → r ≠ 36 → r ≠ 37 → h8.2 r = h3.2 r := fun r r1 r2 r3 => by rw [k8, x_up_r r3, x_up_r r3, x_up_r r3, e6, p_add_o r2 r3, k4, x_up_r r1]
    have o31 : ∀ j, h8.2 31 j = if j = s * 5 + 4 then 1 else h.2 31 j := fun j => by rw [k8, x_up_r (by decide), x_up_r (by decide), x_up_r (by decide), e6, p_add_o (by decide) (by decide), k4, x_up_k, g3.2.1 31 (by decide) (by decide) (by decide)]
    have o36 : h8.2 36 3 = (n : Int) + 1 := by rw [k8, x_up_r (by decide), x_up_r (by decide), x_up_r (by decide), e6]; exact p_add_z
    have o37 : ∀ j, j < n * 6 → h8.2 37 j = h.2 37 j := fun j hj => by rw [k8, x_up_j (by omega), x_up_j (by omega), x_up_j (by omega), e6, p_add_lt (by decide) hj, k4, x_up_r (by decide), g3.2.1 37 (by decide) (by decide) (by decide)]
    have p0 : h8.2 37 (n * 6) = a2 := by
      rw [k8, x_up_j (by omega), x_up_j (by omega), x_up_j (by omega), e6]
      have := p_add_at (C := h4.2) (r := 36) (q := 37) (wi := 6) (n := n) (c := 0) (f := a2) (s := a3) (t := a4) (by decide) (by decide)
      rw [Nat.add_zero] at this
      rw [this]; rfl
    have p1 : h8.2 37 (n * 6 + 1) = a3 := by rw [k8, x_up_j (by omega), x_up_j (by omega), x_up_j (by omega), e6, p_add_at (by decide) (by decide)]; rfl
    have p2 : h8.2 37 (n * 6 + 2) = a4 := by rw [k8, x_up_j (by omega), x_up_j (by omega), x_up_j (by omega), e6, p_add_at (by decide) (by decide)]; rfl
    have p3 : h8.2 37 (n * 6 + 3) = fine - second - third := by rw [k8, x_up_j (by omega), x_up_j (by omega), x_up_eq]
    have p4 : h8.2 37 (n * 6 + 4) = second := by rw [k8, x_up_j (by omega), x_up_eq]
    have p5 : h8.2 37 (n * 6 + 5) = third := by rw [k8, x_up_eq]
    have e896 : h8.2 96 = h.2 96 := by rw [o8 96 (by decide) (by decide) (by decide)]; exact fB_96 g3
    have e898 : h8.2 98 = h.2 98 := by rw [o8 98 (by decide) (by decide) (by decide)]; exact g3.2.1 98 (by decide) (by decide) (by decide)
    have e875 : h8.2 75 3 = h.2 75 3 := by rw [o8 75 (by decide) (by decide) (by decide)]; exact g3.2.2 3 (by decide)
    have oo : ∀ r, ¬ (75 ≤ r ∧ r ≤ 94) → r ≠ 31 → r ≠ 36 → r ≠ 37 → h8.2 r = h.2 r := fun r r0 r1 r2 r3 => by rw [o8 r r1 r2 r3]; exact g3.2.1 r (by omega) (by omega) (by omega)
    clear k8 k4 e6 o8
    refine go3 e896 (fun hy fy ey => by omega) (fun x2 hy fy ey {_ _ _ _ _ _ _ _ _ _ _} => ?_)
    have : x2 = x := by omega
    subst this
    rw [hfn]
    have y98 : hy.2 98 = h.2 98 := (fy.2 98 (by decide) (by decide) (by decide)).trans e898
    have y96 : hy.2 96 = h.2 96 := (fR_96 fy).trans e896
    -- bounds of the coins
    have cb : ∀ p : Int, 0 ≤ sg (fp (h.2 37) p) n ∧ sg (fp (h.2 37) p) n ≤ 240000000000 := by
      intro p
      have := sg_b2 (f := fp (h.2 37) p) (B := 3000000000) (n := n) (fun i hi => by
        have c0 := fb i hi 0 (by decide)
        have c1 := fb i hi 1 (by decide)
        have c2 := fb i hi 2 (by decide)
        have c0 : 0 ≤ h.2 37 (i * 6 + 3) ∧ h.2 37 (i * 6 + 3) ≤ 1000000000 := c0
        have c1 : 0 ≤ h.2 37 (i * 6 + 4) ∧ h.2 37 (i * 6 + 4) ≤ 1000000000 := c1
        have c2 : 0 ≤ h.2 37 (i * 6 + 5) ∧ h.2 37 (i * 6 + 5) ≤ 1000000000 := c2
        unfold fp
        repeat' split
        all_goals omega)
      omega
    have c0 : 0 ≤ h.2 98 0 ∧ h.2 98 0 ≤ 240000000000 := by
      have fe0 : h.2 98 0 = sg (fp (h.2 37) (-1)) n := fe0
      rw [fe0]; exact cb (-1)
    have cp : ∀ p : Nat, p < 30 → 0 ≤ h.2 98 (1 + p) ∧ h.2 98 (1 + p) ≤ 240000000000 := by
      intro p hp
      have fep : h.2 98 (1 + p) = sg (fp (h.2 37) p) n := fep p hp
      rw [fep]; exact cb p
    obtain ⟨xx, rfl⟩ : ∃ q : Nat, a2 = (q : Int) := ⟨a2.toNat, by omega⟩
    obtain ⟨yy, rfl⟩ : ∃ q : Nat, a3 = (q : Int) := ⟨a3.toNat, by omega⟩
    obtain ⟨zz, rfl⟩ : ∃ q : Nat, a4 = (q : Int) := ⟨a4.toNat, by omega⟩
    have cx := cp xx (by omega)
    have cy := cp yy (by omega)
    have cz := cp zz (by omega)
    refine zX9_fined_166 ⟨by omega, by omega, ?_⟩
    rw [x64_id (show -9223372036854775808 ≤ fine * a6 by omega) (by omega), x64_id (show -9223372036854775808 ≤ fine * a7 by omega) (by omega), hse, hth, x64_id (show -9223372036854775808 ≤ second by omega) (by omega), x64_id (show -9223372036854775808 ≤ third by omega) (by omega), y98, x64_id (show -9223372036854775808 ≤ h.2 98 0 + fine by omega) (by omega)]
    refine zX9_fined_204 ?_
    have u1 : x_up hy.2 98 0 (h.2 98 0 + fine) 98 (1 + yy) = h.2 98 (1 + yy) := by rw [x_up_j (by omega), y98]
    rw [x32_id (show -2147483648 ≤ 1 + (yy : Int) by omega) (by omega), show (1 + (yy : Int)).toNat = 1 + yy by omega]
    (try dsimp only)
    rw [u1, x64_id (show -9223372036854775808 ≤ h.2 98 (1 + yy) + second by omega) (by omega)]
    refine ⟨by omega, by omega, zX9_fined_217 ?_⟩
    have v2 : ∀ k, x_up (x_up hy.2 98 0 (h.2 98 0 + fine)) 98 (1 + yy) (h.2 98 (1 + yy) + second) 98 k = if k = 1 + yy then h.2 98 (1 + yy) + second else if k = 0 then h.2 98 0 + fine else h.2 98 k := fun k => by rw [x_up_k, x_up_k, y98]
    rw [x32_id (show -2147483648 ≤ 1 + (zz : Int) by omega) (by omega), show (1 + (zz : Int)).toNat = 1 + zz by omega]
    (try dsimp only)
    rw [v2]
    have w2 : -1000000000000 ≤ (if 1 + zz = 1 + yy then h.2 98 (1 + yy) + second else if 1 + zz = 0 then h.2 98 0 + fine else h.2 98 (1 + zz)) ∧ (if 1 + zz = 1 + yy then h.2 98 (1 + yy) + second else if 1 + zz = 0 then h.2 98 0 + fine else h.2 98 (1 + zz)) ≤ 1000000000000 := by
      repeat' split
      all_goals omega
    generalize hz2 : (if 1 + zz = 1 + yy then h.2 98 (1 + yy) + second else if 1 + zz = 0 then h.2 98 0 + fine else h.2 98 (1 + zz)) = vz at w2
    rw [x64_id (show -9223372036854775808 ≤ vz + third by omega) (by omega)]
    refine ⟨by omega, by omega, zX9_fined_231 ?_⟩
    rw [x32_id (show -2147483648 ≤ 1 + (xx : Int) by omega) (by omega), show (1 + (xx : Int)).toNat = 1 + xx by omega, x64_id (show -9223372036854775808 ≤ fine - second by omega) (by omega), x64_id (show -9223372036854775808 ≤ fine - second - third by omega) (by omega)]
    (try dsimp only)
    rw [x_up_k, v2]
    have w3 : -1000000000000 ≤ (if 1 + xx = 1 + zz then vz + third else if 1 + xx = 1 + yy then h.2 98 (1 + yy) + second else if 1 + xx = 0 then h.2 98 0 + fine else h.2 98 (1 + xx)) ∧ (if 1 + xx = 1 + zz then vz + third else if 1 + xx = 1 + yy then h.2 98 (1 + yy) + second else if 1 + xx = 0 then h.2 98 0 + fine else h.2 98 (1 + xx)) ≤ 2000000000000 := by
      repeat' split
      all_goals omega
    generalize hx2 : (if 1 + xx = 1 + zz then vz + third else if 1 + xx = 1 + yy then h.2 98 (1 + yy) + second else if 1 + xx = 0 then h.2 98 0 + fine else h.2 98 (1 + xx)) = vx at w3
    rw [x64_id (show -9223372036854775808 ≤ vx + (fine - second - third) by omega) (by omega)]
    refine ⟨by omega, by omega, zX9_fined_250 ?_⟩
    rw [x32_id (show -2147483648 ≤ 6 * (s : Int) by omega) (by omega), x32_id (show -2147483648 ≤ 11130 + 6 * (s : Int) by omega) (by omega), x32_id (show -2147483648 ≤ 11130 + 6 * (s : Int) + 4 by omega) (by omega), show (11130 + 6 * (s : Int) + 4).toNat = 11134 + 6 * s by omega]
    refine ⟨by omega, zX9_fined_266 ?_⟩
    rw [x32_id (by omega) (by omega)]
    refine ⟨rfl, ?_⟩
    generalize hC : x_up (x_up (x_up (x_up (x_up hy.2 98 0 (h.2 98 0 + fine)) 98 (1 + yy) (h.2 98 (1 + yy) + second)) 98 (1 + zz) (vz + third)) 98 (1 + xx) (vx + (fine - second - third))) 96 (11134 + 6 * s) 1 = C
    have Co : ∀ r, r ≠ 96 → r ≠ 98 → C r = hy.2 r := fun r r1 r2 => by rw [← hC, x_up_r r1, x_up_r r2, x_up_r r2, x_up_r r2, x_up_r r2]
    have C96 : ∀ k, C 96 k = if k = 11134 + 6 * s then 1 else h.2 96 k := fun k => by rw [← hC, x_up_k, x_up_r (by decide), x_up_r (by decide), x_up_r (by decide), x_up_r (by decide), y96]
    have C98 : ∀ k, C 98 k = if k = 1 + xx then vx + (fine - second - third) else if k = 1 + zz then vz + third else if k = 1 + yy then h.2 98 (1 + yy) + second else if k = 0 then h.2 98 0 + fine else h.2 98 k := fun k => by rw [← hC, x_up_r (by decide), x_up_k, x_up_k, v2]
    have I' := inv_mix (hf := (hy.1, C)) I (show C 75 3 = h.2 75 3 by rw [Co 75 (by decide) (by decide), fy.2 75 (by decide) (by decide) (by decide)]; exact e875)
    have m96 : (mix h (hy.1, C)).2 96 = h.2 96 := mix_n (by omega)
    have m98 : (mix h (hy.1, C)).2 98 = h.2 98 := mix_n (by omega)
    have yo : ∀ r, r ≠ 102 → r ≠ 103 → r ≠ 104 → hy.2 r = h8.2 r := fun r r1 r2 r3 => fy.2 r r1 r2 r3
    refine inv_fined0 (h := mix h (hy.1, C)) (s := s) (n := n) (x := (xx : Int)) (y := (yy : Int)) (z := (zz : Int)) (f1 := fine - second - third) (f2 := second) (f3 := third) I' ?_ (by rw [m96]; exact hsl) (by rw [m96]; exact hz0) (by rw [mix_n (by omega)]; exact hn) (fun r r1 r2 r3 r4 r5 => ?_) (fun j => ?_) ?_ (fun j hj => ?_) ?_ ?_ ?_ ?_ ?_ ?_ (fun k => ?_) ?_ (fun p hp => ?_) (by omega) (by omega) (by omega)
    · show hy.1 = h.1
      rw [fy.1]; exact k81
    · show C r = _
      by_cases sc : (75 ≤ r ∧ r ≤ 94) ∨ (101 ≤ r ∧ r ≤ 110)
      · rw [mix_y sc]
      · rw [mix_n sc, Co r r4 r5, yo r (by omega) (by omega) (by omega)]
        exact oo r (by omega) r1 r2 r3
    · show C 31 j = _
      rw [Co 31 (by decide) (by decide), yo 31 (by decide) (by decide) (by decide), o31, mix_n (by omega)]
    · show C 36 3 = _
      rw [Co 36 (by decide) (by decide), yo 36 (by decide) (by decide) (by decide), o36]
    · show C 37 j = _
      rw [Co 37 (by decide) (by decide), yo 37 (by decide) (by decide) (by decide), o37 j hj, mix_n (by omega)]
    · show C 37 _ = _
      rw [Co 37 (by decide) (by decide), yo 37 (by decide) (by decide) (by decide), p0]
    · show C 37 _ = _
      rw [Co 37 (by decide) (by decide), yo 37 (by decide) (by decide) (by decide), p1]
    · show C 37 _ = _
      rw [Co 37 (by decide) (by decide), yo 37 (by decide) (by decide) (by decide), p2]
    · show C 37 _ = _
      rw [Co 37 (by decide) (by decide), yo 37 (by decide) (by decide) (by decide), p3]
    · show C 37 _ = _
      rw [Co 37 (by decide) (by decide), yo 37 (by decide) (by decide) (by decide), p4]
    · show C 37 _ = _
      rw [Co 37 (by decide) (by decide), yo 37 (by decide) (by decide) (by decide), p5]
    · show C 96 k = _
      rw [C96, m96]
    · show C 98 0 = _
      rw [C98, if_neg (by omega), if_neg (by omega), if_neg (by omega), if_pos rfl, m98]
      omega
    · show C 98 (1 + p) = _
      rw [C98, m98]
      have ex : (1 + p = 1 + xx) = ((xx : Int) = (p : Int)) := by apply propext; omega
      have ey : (1 + p = 1 + yy) = ((yy : Int) = (p : Int)) := by apply propext; omega
      have ez : (1 + p = 1 + zz) = ((zz : Int) = (p : Int)) := by apply propext; omega
      by_cases qx : (xx : Int) = (p : Int) <;> by_cases qy : (yy : Int) = (p : Int) <;> by_cases qz : (zz : Int) = (p : Int)
      all_goals
        first
          | rw [if_pos (by omega : 1 + p = 1 + xx), if_pos qx] 
          | rw [if_neg (by omega : ¬ 1 + p = 1 + xx), if_neg qx]
        first
          | rw [if_pos qy]
          | rw [if_neg qy]
        first
          | rw [if_pos qz]
          | rw [if_neg qz]
        try
          rw [← hx2]
        try
          rw [← hz2]
        repeat' split
        all_goals first
          | omega
          | (rw [show xx = p by omega]; omega)
          | (rw [show yy = p by omega]; omega)
          | (rw [show zz = p by omega]; omega)
          | (subst_vars; omega)
  · rcases hu2 with r | r
    · omega
    · rcases hv with r2 | r2
      · exact absurd r2.2 r.2
      · omega
