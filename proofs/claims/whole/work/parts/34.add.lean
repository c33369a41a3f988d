/-! small methods; a row more in a table, on both sides -/
section SM
variable {g : xG} {D : Nat} {h : xH} {x lo hi : Int} {Q : Int → xH → Prop}
theorem s_win (hQ : ∀ v : Int, (v = 1 ∧ lo ≤ x ∧ x ≤ hi) ∨ (v = 0 ∧ ¬ (lo ≤ x ∧ x ≤ hi)) → Q v h) : zSi g D mX8_isWithin [xi x, xi lo, xi hi] h Q :=
  eX8_isWithin (zX8_isWithin_0 ⟨fun z => zX8_isWithin_14 ⟨Or.inl rfl, hQ 0 (Or.inr ⟨rfl, by omega⟩)⟩, fun z => ⟨fun y => zX8_isWithin_14 ⟨Or.inl rfl, hQ 0 (Or.inr ⟨rfl, by omega⟩)⟩, fun y => ⟨Or.inr rfl, hQ 1 (Or.inl ⟨rfl, z, y⟩)⟩⟩⟩)
theorem s_in (hQ : ∀ v : Int, (v = 1 ∧ lo ≤ x ∧ x ≤ hi) ∨ (v = 0 ∧ ¬ (lo ≤ x ∧ x ≤ hi)) → Q v h) : zSi g D mX9_isIn [xi x, xi lo, xi hi] h Q :=
  eX9_isIn (zX9_isIn_0 ⟨fun z => zX9_isIn_14 ⟨Or.inl rfl, hQ 0 (Or.inr ⟨rfl, by omega⟩)⟩, fun z => ⟨fun y => zX9_isIn_14 ⟨Or.inl rfl, hQ 0 (Or.inr ⟨rfl, by omega⟩)⟩, fun y => ⟨Or.inr rfl, hQ 1 (Or.inl ⟨rfl, z, y⟩)⟩⟩⟩)
theorem s_wday (hQ : ∀ v : Int, (v = 1 ∧ 0 ≤ x ∧ x ≤ 999) ∨ (v = 0 ∧ ¬ (0 ≤ x ∧ x ≤ 999)) → Q v h) : zSi g (D + 1) mX8_isDay [xi x] h Q :=
  eX8_isDay (zX8_isDay_0 (s_win (fun v hv => ⟨by omega, hQ v hv⟩)))
theorem s_day (hQ : ∀ v : Int, (v = 1 ∧ 0 ≤ x ∧ x ≤ 999) ∨ (v = 0 ∧ ¬ (0 ≤ x ∧ x ≤ 999)) → Q v h) : zSi g (D + 1) mX9_isDay [xi x] h Q :=
  eX9_isDay (zX9_isDay_0 (s_in (fun v hv => ⟨by omega, hQ v hv⟩)))
end SM
theorem pTp_congr {h h' : xH} (hC : ∀ r, r = 43 ∨ r = 44 ∨ r = 74 ∨ r = 75 ∨ r = 95 ∨ r = 100 → h'.2 r = h.2 r) (hp : pTp h) : pTp h' := by
  unfold pTp
  rw [hC 43 (by omega), hC 44 (by omega), hC 74 (by omega), hC 75 (by omega), hC 95 (by omega), hC 100 (by omega)]
  exact hp
theorem bok_add {A A' : Nat → Int} {t0 n : Nat} (ht0 : t0 = 0 ∨ t0 = 1 ∨ t0 = 3 ∨ t0 = 4 ∨ t0 = 5 ∨ t0 = 8 ∨ t0 = 10) (hb : bok A) (hn : A (t_z t0) = (n : Int)) (hlt : n < t_m t0) (a1 : A' (t_z t0) = (n : Int) + 1) (a2 : ∀ k, k ≠ t_z t0 → ¬ (t_b t0 + t_s t0 * n ≤ k ∧ k < t_b t0 + t_s t0 * n + t_s t0) → A' k = A k) : bok A' := by
  obtain ⟨b1, b2, b3⟩ := hb
  rcases ht0 with e | e | e | e | e | e | e <;> subst e <;> simp only [t_z, t_b, t_s, t_m, List.getD_cons_zero, List.getD_cons_succ] at hn hlt a1 a2 <;>
  refine ⟨fun i h1 h2 => ?_, fun i h1 h2 => ?_, fun i h1 h2 => ⟨?_, ?_⟩⟩
  all_goals first
    | (rw [a2 _ (by omega) (by omega)]; exact b1 i (by first | (rw [a2 2 (by omega) (by omega)] at h1; exact h1) | omega) h2)
    | (rw [a2 _ (by omega) (by omega)]; exact b2 i (by rw [a2 8 (by omega) (by omega)] at h1; exact h1) h2)
    | (rw [a2 _ (by omega) (by omega)]; exact (b3 i (by rw [a2 12 (by omega) (by omega)] at h1; exact h1) h2).1)
    | (rw [a2 _ (by omega) (by omega)]; exact (b3 i (by rw [a2 12 (by omega) (by omega)] at h1; exact h1) h2).2)
theorem inv_add {h h2 : xH} {t0 n : Nat} (I : zInv h) (ht0 : t0 = 0 ∨ t0 = 1 ∨ t0 = 3 ∨ t0 = 4 ∨ t0 = 5 ∨ t0 = 8 ∨ t0 = 10) (h1 : h2.1 = h.1) (hC : ∀ r, r ≠ 18 + 2 * t0 → r ≠ 19 + 2 * t0 → r ≠ 96 → h2.2 r = h.2 r) (hn : h.2 96 (t_z t0) = (n : Int)) (hlt : n < t_m t0)
    (c1 : h2.2 (18 + 2 * t0) 3 = (n : Int) + 1) (c2 : ∀ j, j < n * t_w t0 → h2.2 (19 + 2 * t0) j = h.2 (19 + 2 * t0) j) (a1 : h2.2 96 (t_z t0) = (n : Int) + 1) (a2 : ∀ k, k ≠ t_z t0 → ¬ (t_b t0 + t_s t0 * n ≤ k ∧ k < t_b t0 + t_s t0 * n + t_s t0) → h2.2 96 k = h.2 96 k)
    (hp : ∀ p ∈ t_p t0, h2.2 (19 + 2 * t0) (n * t_w t0 + p.1) = h2.2 96 (t_b t0 + t_s t0 * n + p.2)) (hr : rok (h2.2 96) t0 n) : zInv h2 := by
  obtain ⟨i1, i2, i3, i4, i5⟩ := I
  have hlt0 : t0 < 12 := by omega
  have h9 : t0 ≠ 9 := by omega
  have hz20 : t_z t0 < 20 ∧ 20 ≤ t_b t0 := by rcases ht0 with e | e | e | e | e | e | e <;> subst e <;> decide
  have hm2 : t_s t0 * n + t_s t0 ≤ t_s t0 * t_m t0 := by
    have := Nat.mul_le_mul_left (t_s t0) (show n + 1 ≤ t_m t0 by omega)
    rw [Nat.mul_add, Nat.mul_one] at this
    exact this
  have hA : ∀ k, k ≠ t_z t0 → ¬ (t_b t0 ≤ k ∧ k < t_b t0 + t_s t0 * t_m t0) → h2.2 96 k = h.2 96 k := fun k k1 k2 => a2 k k1 (by omega)
  have hB : ∀ k, t_b t0 ≤ k → k < t_b t0 + t_s t0 * n → h2.2 96 k = h.2 96 k := fun k k1 k2 => a2 k (by omega) (by omega)
  have e97 := hC 97 (by omega) (by omega) (by omega)
  have e98 := hC 98 (by omega) (by omega) (by omega)
  have e99 := hC 99 (by omega) (by omega) (by omega)
  have hk : cT h2.2 17 (h2.2 96) t0 := by
    have e1 : 17 + 1 + 2 * t0 = 18 + 2 * t0 := by omega
    have e2 : 17 + 2 + 2 * t0 = 19 + 2 * t0 := by omega
    exact cT_add (i3.1 t0 hlt0) hlt0 h9 hn (by rw [e1]; exact c1) a1 (fun j hj => by rw [e2]; exact c2 j hj) hB (fun p hq => by rw [e2]; exact hp p hq)
  refine ⟨pM_add i1 hlt0 h9 hn hlt a1 hA hB hr (bok_add ht0 i1.2.1 hn hlt a1 a2), by rw [e97]; exact i2, ?_, ?_, pTp_congr (fun r hr => hC r (by omega) (by omega) (by omega)) i5⟩
  · rw [e98]
    exact pC_upd i3 i1 ht0 h1 hC hA hk
  · rw [e97, e99]
    exact pC_congr h1 (fun r hr => hC r (by omega) (by omega) (by omega)) i2.1.2.1.2 i4
theorem p_add_o {C : Nat → Nat → Int} {r q wi n r' : Nat} {f s t : Int} (h1 : r' ≠ r) (h2 : r' ≠ q) : p_add C r q wi n f s t r' = C r' := by
  funext j
  unfold p_add
  rw [if_neg (fun z => h1 z.1), if_neg (fun z => h2 z.1)]
theorem p_add_z {C : Nat → Nat → Int} {r q wi n : Nat} {f s t : Int} : p_add C r q wi n f s t r 3 = (n : Int) + 1 := by
  unfold p_add
  rw [if_pos ⟨rfl, rfl⟩]
theorem p_add_lt {C : Nat → Nat → Int} {r q wi n j : Nat} {f s t : Int} (hrq : r ≠ q) (hj : j < n * wi) : p_add C r q wi n f s t q j = C q j := by
  unfold p_add
  rw [if_neg (fun z => hrq z.1.symm), if_neg (by omega)]
theorem p_add_at {C : Nat → Nat → Int} {r q wi n c : Nat} {f s t : Int} (hrq : r ≠ q) (hc : c < wi) : p_add C r q wi n f s t q (n * wi + c) = p_row f s t c := by
  unfold p_add
  rw [if_neg (fun z => hrq z.1.symm), if_pos ⟨rfl, by omega, by omega⟩, show n * wi + c - n * wi = c by omega]
theorem op_town {g : xG} {D : Nat} {h : xH} {a : Int} (I : zInv h) : zSi g (D + 3) mX8_town [xr 16, xi a] h (fun x h1 => zSi g (D + 3) mX9_town [xr 95, xi a] h1 (fun y h2 => x = y ∧ zInv h2)) := by
  refine zS_sh (fun hs => ?_)
  have hz : 0 ≤ h.2 96 1 ∧ h.2 96 1 ≤ 6 := I.1.1.2.2.2.2.2.2 0 (by decide) (by decide)
  obtain ⟨n, hn⟩ : ∃ n : Nat, h.2 96 1 = (n : Int) := ⟨(h.2 96 1).toNat, by omega⟩
  have hsz : h.2 18 3 = (n : Int) := by rw [← hn]; exact ((I.2.2.1.1 0 (by decide)) (by decide)).1
  have R : pR h 18 19 6 1 := z_R hs rfl rfl rfl rfl rfl (by decide)
  refine eX8_town (zX8_town_0 (s_win (fun x hx => ⟨fun z => zX8_town_13 ?_, fun z => ?_⟩)))
  · by_cases hfull : n < 6
    · refine s_add R hsz hfull (by decide) (by decide) (fun h1 hs1 e1 e2 => ?_)
      have e96 : h1.2 96 = h.2 96 := by rw [e2]; exact p_add_o (by decide) (by decide)
      refine eX9_town (zX9_town_0 (s_in (fun y hy => ⟨fun w => ?_, fun w => ⟨fun v => zX9_town_24 ?_, fun v => ?_⟩⟩)))
      · omega
      · rw [e96, hn, x32_id (show -2147483648 ≤ 20 + (n : Int) by omega) (by omega)]
        have e20 : (20 + (n : Int)).toNat = 20 + n := by omega
        rw [e20, x_up_j (show (1 : Nat) ≠ 20 + n by omega), e96, hn, x_up_eq, x32_id (show -2147483648 ≤ (n : Int) + 1 by omega) (by omega), x32_id (by omega) (by omega)]
        refine ⟨by omega, by omega, ?_⟩
        refine inv_add (t0 := 0) (n := n) I (by decide) e1 (fun r r1 r2 r3 => ?_) hn hfull ?_ (fun j hj => ?_) ?_ (fun k k1 k2 => ?_) (fun p hp => ?_) ?_
        · show x_up (x_up h1.2 96 (20 + n) a) 96 1 ((n : Int) + 1) r = h.2 r
          rw [x_up_r r3, x_up_r r3, e2]
          exact p_add_o (by omega) (by omega)
        · show x_up (x_up h1.2 96 (20 + n) a) 96 1 ((n : Int) + 1) 18 3 = (n : Int) + 1
          rw [x_up_r (by decide), x_up_r (by decide), e2]
          exact p_add_z
        · show x_up (x_up h1.2 96 (20 + n) a) 96 1 ((n : Int) + 1) 19 j = h.2 19 j
          rw [x_up_r (by decide), x_up_r (by decide), e2]
          exact p_add_lt (by decide) hj
        · show x_up (x_up h1.2 96 (20 + n) a) 96 1 ((n : Int) + 1) 96 1 = (n : Int) + 1
          exact x_up_eq
        · have k1 : k ≠ 1 := k1
          have k2 : ¬ (20 + 1 * n ≤ k ∧ k < 20 + 1 * n + 1) := k2
          show x_up (x_up h1.2 96 (20 + n) a) 96 1 ((n : Int) + 1) 96 k = h.2 96 k
          rw [x_up_j k1, x_up_j (by omega), e96]
        · have hp : p = (0, 0) := by simpa [t_p] using hp
          subst hp
          show x_up (x_up h1.2 96 (20 + n) a) 96 1 ((n : Int) + 1) 19 (n * 1 + 0) = x_up (x_up h1.2 96 (20 + n) a) 96 1 ((n : Int) + 1) 96 (20 + 1 * n + 0)
          rw [x_up_r (by decide), x_up_r (by decide), e2, p_add_at (by decide) (by decide), x_up_j (by omega), show 20 + 1 * n + 0 = 20 + n by omega, x_up_eq]
          rfl
        · show 80 ≤ x_up (x_up h1.2 96 (20 + n) a) 96 1 ((n : Int) + 1) 96 (20 + n) ∧ x_up (x_up h1.2 96 (20 + n) a) 96 1 ((n : Int) + 1) 96 (20 + n) ≤ 120
          rw [x_up_j (by omega), x_up_eq]
          omega
      · rw [e96] at v
        omega
    · refine s_add_full R (by rw [hsz]; omega) ?_
      refine eX9_town (zX9_town_0 (s_in (fun y hy => ⟨fun w => zX9_town_22 ⟨rfl, I⟩, fun w => ⟨fun v => ?_, fun v => ⟨rfl, I⟩⟩⟩)))
      omega
  · refine eX9_town (zX9_town_0 (s_in (fun y hy => ⟨fun w => zX9_town_22 ⟨rfl, I⟩, fun w => ?_⟩)))
    omega
