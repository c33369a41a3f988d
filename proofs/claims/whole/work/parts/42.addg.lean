theorem sg_congr {f f' : Nat → Int} : ∀ {n : Nat}, (∀ i, i < n → f i = f' i) → sg f n = sg f' n
  | 0, _ => rfl
  | n + 1, h => by show sg f n + f n = sg f' n + f' n; rw [sg_congr (fun i hi => h i (by omega)), h n (by omega)]
/-! a row more in dies, seals, looks or lots -/
theorem inv_addg {h h2 : xH} {t0 n : Nat} (I : zInv h) (ht0 : t0 = 2 ∨ t0 = 6 ∨ t0 = 7 ∨ t0 = 11) (h1 : h2.1 = h.1) (hC : ∀ r, r ≠ 18 + 2 * t0 → r ≠ 19 + 2 * t0 → r ≠ 96 → h2.2 r = h.2 r) (hn : h.2 96 (t_z t0) = (n : Int)) (hlt : n < t_m t0)
    (c1 : h2.2 (18 + 2 * t0) 3 = (n : Int) + 1) (c2 : ∀ j, j < n * t_w t0 → h2.2 (19 + 2 * t0) j = h.2 (19 + 2 * t0) j) (a1 : h2.2 96 (t_z t0) = (n : Int) + 1) (a2 : ∀ k, k ≠ t_z t0 → ¬ (t_b t0 + t_s t0 * n ≤ k ∧ k < t_b t0 + t_s t0 * n + t_s t0) → h2.2 96 k = h.2 96 k)
    (hp : ∀ p ∈ t_p t0, h2.2 (19 + 2 * t0) (n * t_w t0 + p.1) = h2.2 96 (t_b t0 + t_s t0 * n + p.2)) (hr : rok (h2.2 96) t0 n) (x6 : t0 = 6 → h2.2 96 (11134 + 6 * n) = 0) (x7 : t0 = 7 → h2.2 33 (n * 2) = h2.2 96 (150 + 20 * (h2.2 96 (11130 + 6 * (h2.2 96 (11610 + 3 * n)).toNat)).toNat)) (x11 : t0 = 11 → h2.2 96 (12651 + 100 * n) = 0) : zInv h2 := by
  obtain ⟨i1, i2, i3, i4, i5⟩ := I
  have hlt0 : t0 < 12 := by omega
  have h9 : t0 ≠ 9 := by omega
  have hz20 : t_z t0 < 20 ∧ 20 ≤ t_b t0 := by rcases ht0 with e | e | e | e <;> subst e <;> decide
  have hm2 : t_s t0 * n + t_s t0 ≤ t_s t0 * t_m t0 := by
    have := Nat.mul_le_mul_left (t_s t0) (show n + 1 ≤ t_m t0 by omega)
    rw [Nat.mul_add, Nat.mul_one] at this
    exact this
  have hA : ∀ k, k ≠ t_z t0 → ¬ (t_b t0 ≤ k ∧ k < t_b t0 + t_s t0 * t_m t0) → h2.2 96 k = h.2 96 k := fun k k1 k2 => a2 k k1 (by omega)
  have hB : ∀ k, t_b t0 ≤ k → k < t_b t0 + t_s t0 * n → h2.2 96 k = h.2 96 k := fun k k1 k2 => a2 k (by omega) (by omega)
  have e97 := hC 97 (by omega) (by omega) (by omega)
  have e98 := hC 98 (by omega) (by omega) (by omega)
  have e99 := hC 99 (by omega) (by omega) (by omega)
  have hk : cT h2.2 17 (h2.2 96) t0 := by
    have e1 : 17 + 1 + 2 * t0 = 18 + 2 * t0 := by omega
    have e2 : 17 + 2 + 2 * t0 = 19 + 2 * t0 := by omega
    exact cT_add (i3.1 t0 hlt0) hlt0 h9 hn (by rw [e1]; exact c1) a1 (fun j hj => by rw [e2]; exact c2 j hj) hB (fun p hq => by rw [e2]; exact hp p hq)
  have hbok : bok (h2.2 96) := by
    obtain ⟨b1, b2, b3⟩ := i1.2.1
    rcases ht0 with e | e | e | e <;> subst e <;> simp only [t_z, t_b, t_s, t_m, List.getD_cons_zero, List.getD_cons_succ] at hn hlt a1 a2 <;>
    refine ⟨fun i h1 h2 => ?_, fun i h1 h2 => ?_, fun i h1 h2 => ⟨?_, ?_⟩⟩
    all_goals first
      | (rw [a2 _ (by omega) (by omega)]; exact b1 i (by rw [a2 2 (by omega) (by omega)] at h1; exact h1) h2)
      | (rw [a2 _ (by omega) (by omega)]; exact b2 i (by first | (rw [a2 8 (by omega) (by omega)] at h1; exact h1) | omega) h2)
      | (rw [a2 _ (by omega) (by omega)]; exact (b3 i (by first | (rw [a2 12 (by omega) (by omega)] at h1; exact h1) | omega) h2).1)
      | (rw [a2 _ (by omega) (by omega)]; exact (b3 i (by first | (rw [a2 12 (by omega) (by omega)] at h1; exact h1) | omega) h2).2)
  have hm := i1
  obtain ⟨⟨s0, s6, -, -, -, -, sz⟩, -, rk⟩ := i1
  have z8 : 0 ≤ h.2 96 8 ∧ h.2 96 8 ≤ 80 := sz 6 (by decide) (by decide)
  have z9 : 0 ≤ h.2 96 9 ∧ h.2 96 9 ≤ 200 := sz 7 (by decide) (by decide)
  have z12 : 0 ≤ h.2 96 12 ∧ h.2 96 12 ≤ 10 := sz 11 (by decide) (by decide)
  have z3 : 0 ≤ h.2 96 3 ∧ h.2 96 3 ≤ 10 := sz 2 (by decide) (by decide)
  -- what stays
  have out : ∀ k, (k = 0 ∨ k = 6 ∨ k = 14 ∨ k = 15 ∨ k = 16 ∨ k = 17 ∨ (2000 ≤ k ∧ k < 11000)) → h2.2 96 k = h.2 96 k := by
    intro k hk
    apply hA
    · rcases ht0 with e | e | e | e <;> subst e <;> simp [t_z] <;> omega
    · rcases ht0 with e | e | e | e <;> subst e <;> simp [t_b, t_s, t_m] <;> omega
  have o2 : ∀ d : Nat, (d : Int) < h.2 96 3 → h2.2 96 (150 + 20 * d) = h.2 96 (150 + 20 * d) := by
    intro d hd
    apply a2 <;> rcases ht0 with e | e | e | e <;> subst e <;> simp only [t_z, t_b, t_s, t_m, List.getD_cons_zero, List.getD_cons_succ] at hn hlt ⊢ <;> omega
  have o6 : ∀ s : Nat, (s : Int) < h.2 96 8 → ∀ c, c < 6 → h2.2 96 (11130 + c + 6 * s) = h.2 96 (11130 + c + 6 * s) := by
    intro d hd c hc
    apply a2 <;> rcases ht0 with e | e | e | e <;> subst e <;> simp only [t_z, t_b, t_s, t_m, List.getD_cons_zero, List.getD_cons_succ] at hn hlt ⊢ <;> omega
  have o60 : ∀ s : Nat, (s : Int) < h.2 96 8 → h2.2 96 (11130 + 6 * s) = h.2 96 (11130 + 6 * s) := fun s hs => o6 s hs 0 (by decide)
  have o7 : ∀ s : Nat, (s : Int) < h.2 96 9 → h2.2 96 (11610 + 3 * s) = h.2 96 (11610 + 3 * s) := by
    intro d hd
    apply a2 <;> rcases ht0 with e | e | e | e <;> subst e <;> simp only [t_z, t_b, t_s, t_m, List.getD_cons_zero, List.getD_cons_succ] at hn hlt ⊢ <;> omega
  have o11 : ∀ s : Nat, (s : Int) < h.2 96 12 → ∀ c, c < 100 → h2.2 96 (12650 + 100 * s + c) = h.2 96 (12650 + 100 * s + c) := by
    intro d hd c hc
    apply a2 <;> rcases ht0 with e | e | e | e <;> subst e <;> simp only [t_z, t_b, t_s, t_m, List.getD_cons_zero, List.getD_cons_succ] at hn hlt ⊢ <;> omega
  refine ⟨pM_add hm hlt0 h9 hn hlt a1 hA hB hr hbok, by rw [e97]; exact i2, ?_, ?_, pTp_congr (fun r hr => hC r (by omega) (by omega) (by omega)) i5⟩
  · rw [e98]
    obtain ⟨p1, p2, p3, p4, p5, p6⟩ := i3
    refine ⟨cT_all p1 hlt0 (fun t ht h9 => (sz t ht h9).2) (fun t ht hne => ⟨by rw [hC (17 + 1 + 2 * t) (by omega) (by omega) (by omega)], fun j => by rw [hC (17 + 2 + 2 * t) (by omega) (by omega) (by omega)]⟩) hA h9 hk, ?_, ?_, ?_, ?_, pActs_frame h1 (fun j => by rw [hC 42 (by omega) (by omega) (by omega)]) (fun r hr => hC r (by omega) (by omega) (by omega)) (fun k k1 k2 => out k (by omega)) (out 6 (by omega)) s6.2 p6⟩
    · unfold pSc
      rw [hC 17 (by omega) (by omega) (by omega), out 6 (by omega), out 0 (by omega), out 14 (by omega), out 15 (by omega), out 16 (by omega), out 17 (by omega)]
      exact p2
    · intro i hi
      have old : (i : Int) < h.2 96 9 → h2.2 33 (i * 2) = h2.2 96 (150 + 20 * (h2.2 96 (11130 + 6 * (h2.2 96 (11610 + 3 * i)).toNat)).toNat) := by
        intro hi2
        have r7 : (0 ≤ h.2 96 (11610 + 3 * i) ∧ h.2 96 (11610 + 3 * i) < h.2 96 8) ∧ 0 ≤ h.2 96 (11611 + 3 * i) ∧ h.2 96 (11611 + 3 * i) ≤ 1 := rk 7 (by decide) (by decide) i hi2
        have r6 : (0 ≤ h.2 96 (11130 + 6 * (h.2 96 (11610 + 3 * i)).toNat) ∧ h.2 96 (11130 + 6 * (h.2 96 (11610 + 3 * i)).toNat) < h.2 96 3) ∧ _ := rk 6 (by decide) (by decide) (h.2 96 (11610 + 3 * i)).toNat (show (((h.2 96 (11610 + 3 * i)).toNat : Nat) : Int) < h.2 96 8 by omega)
        rw [o7 i hi2, o60 _ (by omega), o2 _ (by omega), ← p3 i hi2]
        by_cases e : t0 = 7
        · subst e
          have hn : h.2 96 9 = (n : Int) := hn
          exact c2 (i * 2) (show i * 2 < n * 2 by omega)
        · rw [hC 33 (by omega) (by omega) (by omega)]
      by_cases e : t0 = 7
      · have ee := e
        subst e
        have a1 : h2.2 96 9 = (n : Int) + 1 := a1
        have hn : h.2 96 9 = (n : Int) := hn
        by_cases e2 : i = n
        · subst e2; exact x7 rfl
        · exact old (by omega)
      · have e9 : h2.2 96 9 = h.2 96 9 := hA 9 (by rcases ht0 with z | z | z | z <;> subst z <;> first | decide | omega) (by rcases ht0 with z | z | z | z <;> subst z <;> simp [t_b])
        exact old (by rw [← e9]; exact hi)
    · intro i hi k hk2
      have old : (i : Int) < h.2 96 12 → h2.2 41 (i * 83 + 3 + k) = h2.2 96 (12653 + 100 * i + k) ∧ h2.2 41 (i * 83 + 43 + k) = h2.2 96 (12693 + 100 * i + (h2.2 96 (12653 + 100 * i + k)).toNat) := by
        intro hi2
        obtain ⟨r1, r2, r3, r4, r5, -⟩ := rk 11 (by decide) (by decide) i hi2
        have e1 := o11 i hi2 1 (by decide)
        rw [show 12650 + 100 * i + 1 = 12651 + 100 * i by omega] at e1
        rw [e1] at hk2
        have r6 := r4 k hk2
        have e2 := o11 i hi2 (3 + k) (by omega)
        rw [show 12650 + 100 * i + (3 + k) = 12653 + 100 * i + k by omega] at e2
        have e3 := o11 i hi2 (43 + (h.2 96 (12653 + 100 * i + k)).toNat) (by omega)
        rw [show 12650 + 100 * i + (43 + (h.2 96 (12653 + 100 * i + k)).toNat) = 12693 + 100 * i + (h.2 96 (12653 + 100 * i + k)).toNat by omega] at e3
        rw [e2, e3]
        have hp4 := p4 i hi2 k hk2
        by_cases e : t0 = 11
        · subst e
          have hn : h.2 96 12 = (n : Int) := hn
          exact ⟨(c2 (i * 83 + 3 + k) (show i * 83 + 3 + k < n * 83 by omega)).trans hp4.1, (c2 (i * 83 + 43 + k) (show i * 83 + 43 + k < n * 83 by omega)).trans hp4.2⟩
        · rw [hC 41 (by omega) (by omega) (by omega)]; exact hp4
      by_cases e : t0 = 11
      · subst e
        have a1 : h2.2 96 12 = (n : Int) + 1 := a1
        have hn : h.2 96 12 = (n : Int) := hn
        by_cases e2 : i = n
        · subst e2
          rw [x11 rfl] at hk2
          omega
        · exact old (by omega)
      · have e9 : h2.2 96 12 = h.2 96 12 := hA 12 (by rcases ht0 with z | z | z | z <;> subst z <;> first | decide | omega) (by rcases ht0 with z | z | z | z <;> subst z <;> simp [t_b])
        exact old (by rw [← e9]; exact hi)
    · obtain ⟨m, m1, m2, m3, m4, m5⟩ := p5
      unfold pFin
      rw [hC (17 + 19) (by omega) (by omega) (by omega), hC (17 + 20) (by omega) (by omega) (by omega)]
      refine ⟨m, m1, ?_, m3, m4, m5⟩
      have same : ∀ q : Nat, (q : Int) ≤ h.2 96 8 → sg (fun i => if i < 80 then h2.2 96 (11134 + 6 * i) else 0) q = sg (fun i => if i < 80 then h.2 96 (11134 + 6 * i) else 0) q := by
        intro q hq
        refine sg_congr (fun i hi => ?_)
        show (if i < 80 then h2.2 96 (11134 + 6 * i) else 0) = (if i < 80 then h.2 96 (11134 + 6 * i) else 0)
        rw [o6 i (by omega) 4 (by decide)]
      by_cases e : t0 = 6
      · subst e
        have a1 : h2.2 96 8 = (n : Int) + 1 := a1
        have hn : h.2 96 8 = (n : Int) := hn
        rw [hn] at m2
        rw [a1, show ((n : Int) + 1).toNat = n + 1 by omega]
        show (m : Int) = sg (fun i => if i < 80 then h2.2 96 (11134 + 6 * i) else 0) n + (if n < 80 then h2.2 96 (11134 + 6 * n) else 0)
        rw [same n (by omega), x6 rfl, m2, show ((n : Int)).toNat = n by omega]
        split <;> omega
      · have e9 : h2.2 96 8 = h.2 96 8 := hA 8 (by rcases ht0 with z | z | z | z <;> subst z <;> first | decide | omega) (by rcases ht0 with z | z | z | z <;> subst z <;> simp [t_b])
        rw [e9, same _ (by omega)]
        exact m2
  · rw [e97, e99]
    exact pC_congr h1 (fun r hr => hC r (by omega) (by omega) (by omega)) i2.1.2.1.2 i4
