/-! die, lot, measure -/
def p_fill (C : Nat → Nat → Int) (q lo hi : Nat) (v : Int) : Nat → Nat → Int := fun r j => if r = q ∧ lo ≤ j ∧ j < hi then v else C r j
theorem p_fill_0 {C : Nat → Nat → Int} {q lo hi : Nat} {v : Int} (h : hi ≤ lo) : p_fill C q lo hi v = C := by
  funext r j; unfold p_fill; rw [if_neg (by omega)]
theorem p_fill_s {C : Nat → Nat → Int} {q lo hi : Nat} {v : Int} (h : lo < hi) : p_fill (x_up C q lo v) q (lo + 1) hi v = p_fill C q lo hi v := by
  funext r j; unfold p_fill x_up; repeat' split
  all_goals first | rfl | omega
theorem p_fill_o {C : Nat → Nat → Int} {q lo hi r : Nat} {v : Int} (h : r ≠ q) : p_fill C q lo hi v r = C r := by
  funext j; unfold p_fill; rw [if_neg (fun z => h z.1)]
theorem x_up_k {C : Nat → Nat → Int} {r j k : Nat} {v : Int} : x_up C r j v r k = if k = j then v else C r k := by
  unfold x_up; rw [if_pos rfl]
theorem p_fill_k {C : Nat → Nat → Int} {q lo hi k : Nat} {v : Int} : p_fill C q lo hi v q k = if lo ≤ k ∧ k < hi then v else C q k := by
  unfold p_fill; simp only [true_and]
theorem l_die8 {g : xG} {D i : Nat} {w1 : xV} {Q : Int → xH → Prop} (hi : i < 10) : ∀ (m k : Nat) {h : xH}, k + m = 16 → (∀ h1, zSh h1 → h1.1 = h.1 → h1.2 = p_fill h.2 23 (i * 17 + 1 + k) (i * 17 + 17) (-1) → Q i h1) → zJ g (D + 1) 79 0 0 32 [xr 16, w1, xi i, xi k] [] h (x_qi Q)
  | 0, k, h, e, hQ => zJ_sh fun hs => zX8_die_32 ⟨fun _ => zX8_die_59 (hQ h hs rfl (p_fill_0 (by omega)).symm), fun z => by omega⟩
  | m + 1, k, h, e, hQ => by
    refine zJ_sh fun hs => zX8_die_32 ⟨fun z => by omega, fun z => ?_⟩
    have R : pR h 22 23 10 17 := z_R hs rfl rfl rfl rfl rfl (by decide)
    rw [x32_id (by omega) (by omega), x32_id (by omega) (by omega)]
    refine s_set R (by omega) (by omega) (by omega) (by omega) (fun h1 hs1 e1 => ?_)
    have e2 : h1.2 = x_up h.2 23 (i * 17 + 1 + k) (-1) := by rw [e1]; show x_up h.2 23 ((i : Int) * (17 : Nat) + (1 + (k : Int))).toNat _ = _; rw [show ((i : Int) * ((17 : Nat) : Int) + (1 + (k : Int))).toNat = i * 17 + 1 + k by omega]
    have e3 : h1.1 = h.1 := by rw [e1]
    exact l_die8 hi m (k + 1) (by omega) (fun h2 hs2 e4 e5 => hQ h2 hs2 (e4.trans e3) (by rw [e5, e2]; exact p_fill_s (by omega)))
theorem l_die8o {g : xG} {D : Nat} {w1 : xV} {Q : Int → xH → Prop} : ∀ (m k : Nat) {h : xH}, k + m = 16 → Q (-1) h → zJ g (D + 1) 79 0 0 32 [xr 16, w1, xi (-1), xi k] [] h (x_qi Q)
  | 0, k, h, e, hQ => zX8_die_32 ⟨fun _ => zX8_die_59 hQ, fun z => by omega⟩
  | m + 1, k, h, e, hQ => by
    refine zJ_sh fun hs => zX8_die_32 ⟨fun z => by omega, fun z => ?_⟩
    have R : pR h 22 23 10 17 := z_R hs rfl rfl rfl rfl rfl (by decide)
    rw [x32_id (by omega) (by omega), x32_id (by omega) (by omega)]
    exact s_set_out R (by omega) (l_die8o m (k + 1) (by omega) hQ)
theorem l_die9 {g : xG} {D x : Nat} {w1 : xV} {Q : Int → xH → Prop} (hx : x < 1000) : ∀ (m k : Nat) {h : xH}, k + m = 17 → (zJ g (D + 1) 148 0 0 65 [xr 95, xu, xi x, xi 17] [] (h.1, p_fill h.2 96 (x + k) (x + 17) (-1)) (x_qi Q)) → zJ g (D + 1) 148 0 0 44 [xr 95, w1, xi x, xi k] [] h (x_qi Q)
  | 0, k, h, e, hQ => by
    refine zX9_die_44 ⟨fun _ => ?_, fun z => by omega⟩
    rw [p_fill_0 (by omega)] at hQ
    have : k = 17 := by omega
    subst this
    exact hQ
  | m + 1, k, h, e, hQ => by
    refine zX9_die_44 ⟨fun z => by omega, fun z => ?_⟩
    rw [x32_id (by omega) (by omega), x32_id (by omega) (by omega), show ((x : Int) + (k : Int)).toNat = x + k by omega]
    refine ⟨by omega, l_die9 hx m (k + 1) (by omega) ?_⟩
    show zJ g (D + 1) 148 0 0 65 [xr 95, xu, xi x, xi 17] [] (h.1, p_fill (x_up h.2 96 (x + k) (-1)) 96 (x + (k + 1)) (x + 17) (-1)) (x_qi Q)
    rw [show x + (k + 1) = x + k + 1 by omega, p_fill_s (by omega)]
    exact hQ
theorem op_die {g : xG} {D : Nat} {h : xH} {a : Int} (I : zInv h) : zSi g (D + 3) mX8_die [xr 16, xi a] h (fun x h1 => zSi g (D + 3) mX9_die [xr 95, xi a] h1 (fun y h2 => x = y ∧ zInv h2)) := by
  refine zS_sh (fun hs => ?_)
  have hz : 0 ≤ h.2 96 3 ∧ h.2 96 3 ≤ 10 := I.1.1.2.2.2.2.2.2 2 (by decide) (by decide)
  have hz1 : 0 ≤ h.2 96 2 ∧ h.2 96 2 ≤ 30 := I.1.1.2.2.2.2.2.2 1 (by decide) (by decide)
  have hz0 := I.1.1.1
  obtain ⟨n, hn⟩ : ∃ n : Nat, h.2 96 3 = (n : Int) := ⟨(h.2 96 3).toNat, by omega⟩
  have hsz : h.2 22 3 = (n : Int) := by rw [← hn]; exact ((I.2.2.1.1 2 (by decide)) (by decide)).1
  have hsz1 : h.2 20 3 = h.2 96 2 := ((I.2.2.1.1 1 (by decide)) (by decide)).1
  have R : pR h 22 23 10 17 := z_R hs rfl rfl rfl rfl rfl (by decide)
  have R1 : pR h 20 21 30 3 := z_R hs rfl rfl rfl rfl rfl (by decide)
  have no : ¬ ((0 ≤ a ∧ a < h.2 96 2) ∧ n < 10) → zSi g (D + 3) mX9_die [xr 95, xi a] h (fun y h2 => -1 = y ∧ zInv h2) := by
    intro hno
    refine eX9_die (zX9_die_0 (s_isPerson hz1 (fun y hy => ⟨fun w => zX9_die_19 ⟨rfl, I⟩, fun w => ⟨fun v => ?_, fun v => ⟨rfl, I⟩⟩⟩)))
    omega
  refine eX8_die (zX8_die_0 (s_has R1.1 (fun x hx => ⟨fun z => zX8_die_16 ?_, fun z => no (by omega)⟩)))
  by_cases hfull : n < 10
  · refine s_add R hsz hfull (by decide) (by decide) (fun h1 hs1 e1 e2 => l_die8 hfull 16 0 (by omega) (fun h2 hs2 e3 e4 => ?_))
    have e96 : h2.2 96 = h.2 96 := by rw [e4, p_fill_o (by decide), e2]; exact p_add_o (by decide) (by decide)
    refine eX9_die (zX9_die_0 (s_isPerson (by rw [e96]; exact hz1) (fun y hy => ⟨fun w => ?_, fun w => ⟨fun v => zX9_die_21 ?_, fun v => ?_⟩⟩)))
    · rw [e96] at hy; omega
    · simp (disch := omega) only [e96, hn, x32_id]
      rw [show (150 + 20 * (n : Int)).toNat = 150 + 20 * n by omega, show (150 + 20 * (n : Int)) = ((150 + 20 * n : Nat) : Int) by omega]
      refine ⟨by omega, l_die9 (by omega) 16 1 (by omega) (zX9_die_65 ?_)⟩
      have ez : p_fill (x_up h2.2 96 (150 + 20 * n) a) 96 (150 + 20 * n + 1) (150 + 20 * n + 17) (-1) 96 3 = (n : Int) := by
        unfold p_fill; rw [if_neg (by omega), x_up_j (by omega), e96, hn]
      simp (disch := omega) only [ez, x32_id, x_up_eq]
      refine ⟨by omega, ?_⟩
      generalize hC : x_up (p_fill (x_up h2.2 96 (150 + 20 * n) a) 96 (150 + 20 * n + 1) (150 + 20 * n + 17) (-1)) 96 3 ((n : Int) + 1) = C
      have ho : ∀ r, r ≠ 96 → C r = h2.2 r := fun r hr => by rw [← hC, x_up_r hr, p_fill_o hr, x_up_r hr]
      have hu : ∀ k, C 96 k = if k = 3 then (n : Int) + 1 else if k = 150 + 20 * n then a else if 150 + 20 * n + 1 ≤ k ∧ k < 150 + 20 * n + 17 then -1 else h.2 96 k := by
        intro k
        rw [← hC, x_up_k, p_fill_k, x_up_k, ← e96]
        repeat' split
        all_goals first | rfl | omega
      have hc : ∀ j, h2.2 23 j = if n * 17 + 1 ≤ j ∧ j < n * 17 + 17 then -1 else p_add h.2 22 23 17 n a 0 0 23 j := by
        intro j; rw [e4]; unfold p_fill; rw [e2]; rw [show n * 17 + 1 + 0 = n * 17 + 1 by omega]
        repeat' split
        all_goals first | rfl | omega
      refine inv_addg (t0 := 2) (n := n) I (by decide) (e3.trans e1) (fun r r1 r2 r3 => ?_) hn hfull ?_ (fun j hj => ?_) ?_ (fun k k1 k2 => ?_) (fun p hp => ?_) ?_ (by omega) (by omega) (by omega)
      · show C r = _
        rw [ho r r3, e4, p_fill_o r2, e2]; exact p_add_o r1 r2
      · show C 22 3 = _
        rw [ho 22 (by decide), e4, p_fill_o (by decide), e2]; exact p_add_z
      · show C 23 j = _
        have hj : j < n * 17 := hj
        rw [ho 23 (by decide), hc, if_neg (by omega)]; exact p_add_lt (by decide) hj
      · show C 96 3 = _
        rw [hu, if_pos rfl]
      · show C 96 k = _
        have k2 : ¬ (150 + 20 * n ≤ k ∧ k < 150 + 20 * n + 20) := k2
        have k1 : k ≠ 3 := k1
        rw [hu, if_neg k1, if_neg (by omega), if_neg (by omega)]
      · show C 23 (n * 17 + p.1) = C 96 (150 + 20 * n + p.2)
        have hpc := (t_pc 2 (by decide) p hp).1
        have hpc : p.1 < 17 := hpc
        have hpe : p.1 = p.2 := by revert p; decide
        rw [ho 23 (by decide), hc, hu, if_neg (show 150 + 20 * n + p.2 ≠ 3 by omega)]
        by_cases e0 : p.1 = 0
        · rw [if_neg (by omega), if_pos (by omega), p_add_at (by decide) (by omega), e0]; rfl
        · rw [if_pos (by omega), if_neg (by omega), if_pos (by omega)]
      · refine (show (0 ≤ C 96 (150 + 20 * n) ∧ C 96 (150 + 20 * n) < C 96 2) ∧ ∀ k, k < 16 → -1 ≤ C 96 (151 + 20 * n + k) ∧ C 96 (151 + 20 * n + k) ≤ C 96 0 from ⟨?_, fun k hk => ?_⟩)
        · rw [hu, hu, if_neg (by omega), if_pos rfl, if_neg (by omega), if_neg (by omega), if_neg (by omega)]; omega
        · rw [hu, hu, if_neg (by omega), if_neg (by omega), if_pos (by omega), if_neg (by omega), if_neg (by omega), if_neg (by omega)]; omega
    · rw [e96] at v; omega
  · exact s_add_full R (by rw [hsz]; omega) (l_die8o 16 0 (by omega) (no (by omega)))
theorem l_lot9 {g : xG} {D x : Nat} {w1 : xV} {Q : Int → xH → Prop} (hx : x < 13600) : ∀ (m k : Nat) {h : xH}, k + m = 40 → (zJ g (D + 1) 236 0 0 72 [xr 95, xu, xi x, xi 40] [] (h.1, p_fill h.2 96 (x + 43 + k) (x + 83) (-1)) (x_qi Q)) → zJ g (D + 1) 236 0 0 48 [xr 95, w1, xi x, xi k] [] h (x_qi Q)
  | 0, k, h, e, hQ => by
    refine zX9_lot_48 ⟨fun _ => ?_, fun z => by omega⟩
    rw [p_fill_0 (by omega)] at hQ
    have : k = 40 := by omega
    subst this
    exact hQ
  | m + 1, k, h, e, hQ => by
    refine zX9_lot_48 ⟨fun z => by omega, fun z => ?_⟩
    rw [x32_id (show -2147483648 ≤ (x : Int) + 43 by omega) (by omega), x32_id (by omega) (by omega), x32_id (by omega) (by omega), show ((x : Int) + 43 + (k : Int)).toNat = x + 43 + k by omega]
    refine ⟨by omega, l_lot9 hx m (k + 1) (by omega) ?_⟩
    show zJ g (D + 1) 236 0 0 72 [xr 95, xu, xi x, xi 40] [] (h.1, p_fill (x_up h.2 96 (x + 43 + k) (-1)) 96 (x + 43 + (k + 1)) (x + 83) (-1)) (x_qi Q)
    rw [show x + 43 + (k + 1) = x + 43 + k + 1 by omega, p_fill_s (by omega)]
    exact hQ
theorem op_lot {g : xG} {D : Nat} {h : xH} {a : Int} (I : zInv h) : zSi g (D + 3) mX8_lot [xr 16, xi a] h (fun x h1 => zSi g (D + 3) mX9_lot [xr 95, xi a] h1 (fun y h2 => x = y ∧ zInv h2)) := by
  refine zS_sh (fun hs => ?_)
  have hz : 0 ≤ h.2 96 12 ∧ h.2 96 12 ≤ 10 := I.1.1.2.2.2.2.2.2 11 (by decide) (by decide)
  obtain ⟨n, hn⟩ : ∃ n : Nat, h.2 96 12 = (n : Int) := ⟨(h.2 96 12).toNat, by omega⟩
  have hsz : h.2 40 3 = (n : Int) := by rw [← hn]; exact ((I.2.2.1.1 11 (by decide)) (by decide)).1
  have R : pR h 40 41 10 83 := z_R hs rfl rfl rfl rfl rfl (by decide)
  have hb := I.1.2.1.2.2
  have no : ¬ ((1 ≤ a ∧ a ≤ 40) ∧ n < 10) → zSi g (D + 3) mX9_lot [xr 95, xi a] h (fun y h2 => -1 = y ∧ zInv h2) := by
    intro hno
    refine eX9_lot (zX9_lot_0 (s_in (fun y hy => ⟨fun w => zX9_lot_22 ⟨rfl, I⟩, fun w => ⟨fun v => ?_, fun v => ⟨rfl, I⟩⟩⟩)))
    omega
  refine eX8_lot (zX8_lot_0 (s_win (fun x hx => ⟨fun z => zX8_lot_12 ?_, fun z => no (by omega)⟩)))
  by_cases hfull : n < 10
  · refine s_add R hsz hfull (by decide) (by decide) (fun h2 hs2 e1 e2 => ?_)
    have e96 : h2.2 96 = h.2 96 := by rw [e2]; exact p_add_o (by decide) (by decide)
    refine eX9_lot (zX9_lot_0 (s_in (fun y hy => ⟨fun w => ?_, fun w => ⟨fun v => zX9_lot_24 ?_, fun v => ?_⟩⟩)))
    · omega
    · simp (disch := omega) only [e96, hn, x32_id]
      rw [show (12650 + 100 * (n : Int)).toNat = 12650 + 100 * n by omega, show (12650 + 100 * (n : Int)) = ((12650 + 100 * n : Nat) : Int) by omega]
      refine ⟨by omega, l_lot9 (by omega) 40 0 (by omega) (zX9_lot_72 ?_)⟩
      have ez : p_fill (x_up h2.2 96 (12650 + 100 * n) a) 96 (12650 + 100 * n + 43 + 0) (12650 + 100 * n + 83) (-1) 96 12 = (n : Int) := by
        unfold p_fill; rw [if_neg (by omega), x_up_j (by omega), e96, hn]
      simp (disch := omega) only [ez, x32_id, x_up_eq]
      refine ⟨by omega, ?_⟩
      generalize hC : x_up (p_fill (x_up h2.2 96 (12650 + 100 * n) a) 96 (12650 + 100 * n + 43 + 0) (12650 + 100 * n + 83) (-1)) 96 12 ((n : Int) + 1) = C
      have ho : ∀ r, r ≠ 96 → C r = h2.2 r := fun r hr => by rw [← hC, x_up_r hr, p_fill_o hr, x_up_r hr]
      have hu : ∀ k, C 96 k = if k = 12 then (n : Int) + 1 else if k = 12650 + 100 * n then a else if 12650 + 100 * n + 43 ≤ k ∧ k < 12650 + 100 * n + 83 then -1 else h.2 96 k := by
        intro k
        rw [← hC, x_up_k, p_fill_k, x_up_k, ← e96]
        repeat' split
        all_goals first | rfl | omega
      have b12 := hb n (by omega) (by omega)
      have v1 : C 96 (12651 + 100 * n) = 0 := by rw [hu, if_neg (by omega), if_neg (by omega), if_neg (by omega)]; exact b12.1
      have v2 : C 96 (12652 + 100 * n) = 0 := by rw [hu, if_neg (by omega), if_neg (by omega), if_neg (by omega)]; exact b12.2
      have v0 : C 96 (12650 + 100 * n) = a := by rw [hu, if_neg (by omega), if_pos rfl]
      refine inv_addg (t0 := 11) (n := n) I (by decide) e1 (fun r r1 r2 r3 => ?_) hn hfull ?_ (fun j hj => ?_) ?_ (fun k k1 k2 => ?_) (fun p hp => ?_) ?_ (by omega) (by omega) (fun _ => v1)
      · show C r = _
        rw [ho r r3, e2]; exact p_add_o r1 r2
      · show C 40 3 = _
        rw [ho 40 (by decide), e2]; exact p_add_z
      · show C 41 j = _
        rw [ho 41 (by decide), e2]; exact p_add_lt (by decide) hj
      · show C 96 12 = _
        rw [hu, if_pos rfl]
      · show C 96 k = _
        have k2 : ¬ (12650 + 100 * n ≤ k ∧ k < 12650 + 100 * n + 100) := k2
        have k1 : k ≠ 12 := k1
        rw [hu, if_neg k1, if_neg (by omega), if_neg (by omega)]
      · show C 41 (n * 83 + p.1) = C 96 (12650 + 100 * n + p.2)
        have hp : p = (0, 0) ∨ p = (1, 1) ∨ p = (2, 2) := by simpa [t_p] using hp
        rw [ho 41 (by decide), e2]
        rcases hp with e | e | e <;> subst e
        · rw [p_add_at (by decide) (by decide)]; show a = C 96 (12650 + 100 * n); exact v0.symm
        · rw [p_add_at (by decide) (by decide)]; show 0 = C 96 (12650 + 100 * n + 1); rw [show 12650 + 100 * n + 1 = 12651 + 100 * n by omega]; exact v1.symm
        · rw [p_add_at (by decide) (by decide)]; show 0 = C 96 (12650 + 100 * n + 2); rw [show 12650 + 100 * n + 2 = 12652 + 100 * n by omega]; exact v2.symm
      · refine (show (1 ≤ C 96 (12650 + 100 * n) ∧ C 96 (12650 + 100 * n) ≤ 40) ∧ (0 ≤ C 96 (12651 + 100 * n) ∧ C 96 (12651 + 100 * n) ≤ C 96 (12650 + 100 * n)) ∧ (0 ≤ C 96 (12652 + 100 * n) ∧ C 96 (12652 + 100 * n) ≤ 500) ∧
            (∀ k : Nat, (k : Int) < C 96 (12651 + 100 * n) → 0 ≤ C 96 (12653 + 100 * n + k) ∧ C 96 (12653 + 100 * n + k) < C 96 (12650 + 100 * n)) ∧ (∀ j k : Nat, (j : Int) < C 96 (12651 + 100 * n) → (k : Int) < C 96 (12651 + 100 * n) → C 96 (12653 + 100 * n + j) = C 96 (12653 + 100 * n + k) → j = k) ∧
            ∀ k : Nat, k < 40 → -1 ≤ C 96 (12693 + 100 * n + k) ∧ C 96 (12693 + 100 * n + k) ≤ C 96 (12652 + 100 * n) ∧ (0 ≤ C 96 (12693 + 100 * n + k) → ∃ j : Nat, (j : Int) < C 96 (12651 + 100 * n) ∧ C 96 (12653 + 100 * n + j) = (k : Int)) from ⟨?_, ?_, ?_, fun k hk => ?_, fun j k hj => ?_, fun k hk => ?_⟩)
        · rw [v0]; omega
        · rw [v0, v1]; omega
        · rw [v2]; omega
        · rw [v1] at hk; omega
        · rw [v1] at hj; omega
        · have v3 : C 96 (12693 + 100 * n + k) = -1 := by rw [hu, if_neg (by omega), if_neg (by omega), if_pos (by omega)]
          rw [v3, v2]
          exact ⟨by omega, by omega, fun z => by omega⟩
    · rw [e96] at v; omega
  · exact s_add_full R (by rw [hsz]; omega) (no (by omega))
