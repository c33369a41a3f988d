/-! scratch cells may be what they like -/
def scr (r : Nat) : Bool := (Nat.ble 75 r && Nat.ble r 94) || (Nat.ble 101 r && Nat.ble r 110)
def mix (h hf : xH) : xH := (h.1, fun r => if scr r = true then hf.2 r else h.2 r)
theorem scr_iff {r : Nat} : scr r = true ↔ (75 ≤ r ∧ r ≤ 94) ∨ (101 ≤ r ∧ r ≤ 110) := by
  unfold scr
  simp only [Bool.or_eq_true, Bool.and_eq_true, Nat.ble_eq]
theorem mix_n {h hf : xH} {r : Nat} (hr : ¬ ((75 ≤ r ∧ r ≤ 94) ∨ (101 ≤ r ∧ r ≤ 110))) : (mix h hf).2 r = h.2 r := if_neg (fun z => hr (scr_iff.mp z))
theorem mix_y {h hf : xH} {r : Nat} (hr : (75 ≤ r ∧ r ≤ 94) ∨ (101 ≤ r ∧ r ≤ 110)) : (mix h hf).2 r = hf.2 r := if_pos (scr_iff.mpr hr)
theorem inv_mix {h hf : xH} (I : zInv h) (h3 : hf.2 75 3 = h.2 75 3) : zInv (mix h hf) := by
  refine inv_tp I rfl (fun r hr => mix_n (by omega)) ?_
  obtain ⟨q1, q2, q3, q4, q5, q6, q7, q8⟩ := I.2.2.2.2
  unfold pTp
  rw [mix_n (r := 43) (by omega), mix_n (r := 44) (by omega), mix_n (r := 74) (by omega), mix_n (r := 95) (by omega), mix_n (r := 100) (by omega), mix_y (r := 75) (by omega), h3]
  exact ⟨q1, q2, q3, q4, q5, q6, q7, q8⟩
/-- nothing but scratch has changed -/
theorem inv_scr {h h2 : xH} (I : zInv h) (h1 : h2.1 = h.1) (h3 : h2.2 75 3 = h.2 75 3) (hC : ∀ r, ¬ ((75 ≤ r ∧ r ≤ 94) ∨ (101 ≤ r ∧ r ≤ 110)) → h2.2 r = h.2 r) : zInv h2 := by
  have e : h2 = mix h h2 := by
    refine Prod.ext h1 ?_
    funext r
    by_cases z : (75 ≤ r ∧ r ≤ 94) ∨ (101 ≤ r ∧ r ≤ 110)
    · rw [mix_y z]
    · rw [mix_n z]; exact hC r z
  rw [e]
  exact inv_mix I h3
theorem inv_addS {h h2 : xH} {t0 n : Nat} (I : zInv h) (ht0 : t0 = 0 ∨ t0 = 1 ∨ t0 = 3 ∨ t0 = 4 ∨ t0 = 5 ∨ t0 = 8 ∨ t0 = 10) (h1 : h2.1 = h.1) (h3 : h2.2 75 3 = h.2 75 3) (hC : ∀ r, ¬ ((75 ≤ r ∧ r ≤ 94) ∨ (101 ≤ r ∧ r ≤ 110)) → r ≠ 18 + 2 * t0 → r ≠ 19 + 2 * t0 → r ≠ 96 → h2.2 r = h.2 r) (hn : h.2 96 (t_z t0) = (n : Int)) (hlt : n < t_m t0)
    (c1 : h2.2 (18 + 2 * t0) 3 = (n : Int) + 1) (c2 : ∀ j, j < n * t_w t0 → h2.2 (19 + 2 * t0) j = h.2 (19 + 2 * t0) j) (a1 : h2.2 96 (t_z t0) = (n : Int) + 1) (a2 : ∀ k, k ≠ t_z t0 → ¬ (t_b t0 + t_s t0 * n ≤ k ∧ k < t_b t0 + t_s t0 * n + t_s t0) → h2.2 96 k = h.2 96 k)
    (hp : ∀ p ∈ t_p t0, h2.2 (19 + 2 * t0) (n * t_w t0 + p.1) = h2.2 96 (t_b t0 + t_s t0 * n + p.2)) (hr : rok (h2.2 96) t0 n) : zInv h2 := by
  have m96 : (mix h h2).2 96 = h.2 96 := mix_n (by omega)
  refine inv_add (h := mix h h2) (inv_mix I h3) ht0 h1 (fun r r1 r2 r3 => ?_) (by rw [m96]; exact hn) hlt c1 (fun j hj => by rw [mix_n (by omega)]; exact c2 j hj) a1 (fun k k1 k2 => by rw [m96]; exact a2 k k1 k2) hp hr
  by_cases z : (75 ≤ r ∧ r ≤ 94) ∨ (101 ≤ r ∧ r ≤ 110)
  · rw [mix_y z]
  · rw [mix_n z]; exact hC r z r1 r2 r3
theorem inv_addgS {h h2 : xH} {t0 n : Nat} (I : zInv h) (ht0 : t0 = 2 ∨ t0 = 6 ∨ t0 = 7 ∨ t0 = 11) (h1 : h2.1 = h.1) (h3 : h2.2 75 3 = h.2 75 3) (hC : ∀ r, ¬ ((75 ≤ r ∧ r ≤ 94) ∨ (101 ≤ r ∧ r ≤ 110)) → r ≠ 18 + 2 * t0 → r ≠ 19 + 2 * t0 → r ≠ 96 → h2.2 r = h.2 r) (hn : h.2 96 (t_z t0) = (n : Int)) (hlt : n < t_m t0)
    (c1 : h2.2 (18 + 2 * t0) 3 = (n : Int) + 1) (c2 : ∀ j, j < n * t_w t0 → h2.2 (19 + 2 * t0) j = h.2 (19 + 2 * t0) j) (a1 : h2.2 96 (t_z t0) = (n : Int) + 1) (a2 : ∀ k, k ≠ t_z t0 → ¬ (t_b t0 + t_s t0 * n ≤ k ∧ k < t_b t0 + t_s t0 * n + t_s t0) → h2.2 96 k = h.2 96 k)
    (hp : ∀ p ∈ t_p t0, h2.2 (19 + 2 * t0) (n * t_w t0 + p.1) = h2.2 96 (t_b t0 + t_s t0 * n + p.2)) (hr : rok (h2.2 96) t0 n) (x6 : t0 = 6 → h2.2 96 (11134 + 6 * n) = 0) (x7 : t0 = 7 → h2.2 33 (n * 2) = h2.2 96 (150 + 20 * (h2.2 96 (11130 + 6 * (h2.2 96 (11610 + 3 * n)).toNat)).toNat)) (x11 : t0 = 11 → h2.2 96 (12651 + 100 * n) = 0) : zInv h2 := by
  have m96 : (mix h h2).2 96 = h.2 96 := mix_n (by omega)
  refine inv_addg (h := mix h h2) (inv_mix I h3) ht0 h1 (fun r r1 r2 r3 => ?_) (by rw [m96]; exact hn) hlt c1 (fun j hj => by rw [mix_n (by omega)]; exact c2 j hj) a1 (fun k k1 k2 => by rw [m96]; exact a2 k k1 k2) hp hr x6 x7 x11
  by_cases z : (75 ≤ r ∧ r ≤ 94) ∨ (101 ≤ r ∧ r ≤ 110)
  · rw [mix_y z]
  · rw [mix_n z]; exact hC r z r1 r2 r3
