/-! a row more, said by what the array then holds -/
theorem inv_add2 {h h2 : xH} {t0 n : Nat} {f s t : Int} {row : Nat → Int} (I : zInv h) (ht0 : t0 = 0 ∨ t0 = 1 ∨ t0 = 3 ∨ t0 = 4 ∨ t0 = 5 ∨ t0 = 8 ∨ t0 = 10) (h1 : h2.1 = h.1) (hn : h.2 96 (t_z t0) = (n : Int)) (hlt : n < t_m t0) (hc : ∀ r, r ≠ 96 → h2.2 r = p_add h.2 (18 + 2 * t0) (19 + 2 * t0) (t_w t0) n f s t r)
    (hu : ∀ k, h2.2 96 k = if k = t_z t0 then (n : Int) + 1 else if t_b t0 + t_s t0 * n ≤ k ∧ k < t_b t0 + t_s t0 * n + t_s t0 then row (k - (t_b t0 + t_s t0 * n)) else h.2 96 k) (hp : ∀ p ∈ t_p t0, p_row f s t p.1 = row p.2) (hr : rok (h2.2 96) t0 n) : zInv h2 := by
  have hlt0 : t0 < 12 := by omega
  have hz20 : t_z t0 < 20 ∧ 20 ≤ t_b t0 := by rcases ht0 with e | e | e | e | e | e | e <;> subst e <;> decide
  refine inv_add (t0 := t0) (n := n) I ht0 h1 (fun r r1 r2 r3 => ?_) hn hlt ?_ (fun j hj => ?_) ?_ (fun k k1 k2 => ?_) (fun p hpp => ?_) hr
  · rw [hc r r3]; exact p_add_o r1 r2
  · rw [hc _ (by omega)]; exact p_add_z
  · rw [hc _ (by omega)]; exact p_add_lt (by omega) hj
  · rw [hu, if_pos rfl]
  · rw [hu, if_neg k1, if_neg k2]
  · have hpc := t_pc t0 hlt0 p hpp
    rw [hc _ (by omega), p_add_at (by omega) hpc.1, hu, if_neg (by omega), if_pos ⟨by omega, by omega⟩, show t_b t0 + t_s t0 * n + p.2 - (t_b t0 + t_s t0 * n) = p.2 by omega]
    exact hp p hpp
theorem op_web {g : xG} {D : Nat} {h : xH} {a : Int} (I : zInv h) : zSi g (D + 3) mX8_web [xr 16, xi a] h (fun x h1 => zSi g (D + 3) mX9_web [xr 95, xi a] h1 (fun y h2 => x = y ∧ zInv h2)) := by
  refine zS_sh (fun hs => ?_)
  have hz : 0 ≤ h.2 96 4 ∧ h.2 96 4 ≤ 50 := I.1.1.2.2.2.2.2.2 3 (by decide) (by decide)
  have hz1 : 0 ≤ h.2 96 2 ∧ h.2 96 2 ≤ 30 := I.1.1.2.2.2.2.2.2 1 (by decide) (by decide)
  obtain ⟨n, hn⟩ : ∃ n : Nat, h.2 96 4 = (n : Int) := ⟨(h.2 96 4).toNat, by omega⟩
  have hsz : h.2 24 3 = (n : Int) := by rw [← hn]; exact ((I.2.2.1.1 3 (by decide)) (by decide)).1
  have hsz1 : h.2 20 3 = h.2 96 2 := ((I.2.2.1.1 1 (by decide)) (by decide)).1
  have R : pR h 24 25 50 1 := z_R hs rfl rfl rfl rfl rfl (by decide)
  have R1 : pR h 20 21 30 3 := z_R hs rfl rfl rfl rfl rfl (by decide)
  have no : ¬ ((0 ≤ a ∧ a < h.2 96 2) ∧ n < 50) → zSi g (D + 3) mX9_web [xr 95, xi a] h (fun y h2 => -1 = y ∧ zInv h2) := by
    intro hno
    refine eX9_web (zX9_web_0 (s_isPerson hz1 (fun y hy => ⟨fun w => zX9_web_19 ⟨rfl, I⟩, fun w => ⟨fun v => ?_, fun v => ⟨rfl, I⟩⟩⟩)))
    omega
  refine eX8_web (zX8_web_0 (s_has R1.1 (fun x hx => ⟨fun z => zX8_web_16 ?_, fun z => no (by omega)⟩)))
  by_cases hfull : n < 50
  · refine s_add R hsz hfull (by decide) (by decide) (fun h1 hs1 e1 e2 => ?_)
    have e96 : h1.2 96 = h.2 96 := by rw [e2]; exact p_add_o (by decide) (by decide)
    refine eX9_web (zX9_web_0 (s_isPerson (by rw [e96]; exact hz1) (fun y hy => ⟨fun w => ?_, fun w => ⟨fun v => zX9_web_21 ?_, fun v => ?_⟩⟩)))
    · rw [e96] at hy; omega
    · simp (disch := omega) only [e96, hn, x32_id, x_up_eq, x_up_j]
      rw [show (350 + (n : Int)).toNat = 350 + n by omega]
      refine ⟨by omega, by omega, ?_⟩
      have hu : ∀ k, x_up (x_up h1.2 96 (350 + n) a) 96 4 ((n : Int) + 1) 96 k = if k = 4 then (n : Int) + 1 else if 350 + 1 * n ≤ k ∧ k < 350 + 1 * n + 1 then a else h.2 96 k := by
        intro k
        unfold x_up
        rw [e96]
        repeat' split
        all_goals first | rfl | omega
      refine inv_add2 (t0 := 3) (n := n) (f := a) (s := 0) (t := 0) (row := fun _ => a) I (by decide) e1 hn hfull (fun r hr => ?_) hu (fun p hp => ?_) ?_
      · show x_up (x_up h1.2 96 (350 + n) a) 96 4 ((n : Int) + 1) r = _
        rw [x_up_r hr, x_up_r hr, e2]
        rfl
      · have hp : p = (0, 0) := by simpa [t_p] using hp
        subst hp; rfl
      · show 0 ≤ x_up (x_up h1.2 96 (350 + n) a) 96 4 ((n : Int) + 1) 96 (350 + n) ∧ x_up (x_up h1.2 96 (350 + n) a) 96 4 ((n : Int) + 1) 96 (350 + n) < x_up (x_up h1.2 96 (350 + n) a) 96 4 ((n : Int) + 1) 96 2
        rw [hu, hu, if_neg (by omega), if_pos (by omega), if_neg (by omega), if_neg (by omega)]
        omega
    · rw [e96] at v
      omega
  · exact s_add_full R (by rw [hsz]; omega) (no (by omega))
theorem op_trade {g : xG} {D : Nat} {h : xH} {a b c : Int} (I : zInv h) : zSi g (D + 3) mX8_trade [xr 16, xi a, xi b, xi c] h (fun x h1 => zSi g (D + 3) mX9_trade [xr 95, xi a, xi b, xi c] h1 (fun y h2 => x = y ∧ zInv h2)) := by
  refine zS_sh (fun hs => ?_)
  have hz : 0 ≤ h.2 96 11 ∧ h.2 96 11 ≤ 40 := I.1.1.2.2.2.2.2.2 10 (by decide) (by decide)
  have hz1 : 0 ≤ h.2 96 2 ∧ h.2 96 2 ≤ 30 := I.1.1.2.2.2.2.2.2 1 (by decide) (by decide)
  obtain ⟨n, hn⟩ : ∃ n : Nat, h.2 96 11 = (n : Int) := ⟨(h.2 96 11).toNat, by omega⟩
  have hsz : h.2 38 3 = (n : Int) := by rw [← hn]; exact ((I.2.2.1.1 10 (by decide)) (by decide)).1
  have hsz1 : h.2 20 3 = h.2 96 2 := ((I.2.2.1.1 1 (by decide)) (by decide)).1
  have R : pR h 38 39 40 3 := z_R hs rfl rfl rfl rfl rfl (by decide)
  have R1 : pR h 20 21 30 3 := z_R hs rfl rfl rfl rfl rfl (by decide)
  have no : ¬ ((0 ≤ a ∧ a < h.2 96 2) ∧ (0 ≤ b ∧ b < h.2 96 2) ∧ ¬ a = b ∧ (0 ≤ c ∧ c ≤ 9999) ∧ n < 40) → zSi g (D + 3) mX9_trade [xr 95, xi a, xi b, xi c] h (fun y h2 => -1 = y ∧ zInv h2) := by
    intro hno
    refine eX9_trade (zX9_trade_0 (s_isPerson hz1 (fun y hy => ⟨fun w => zX9_trade_44 ⟨rfl, I⟩, fun w => s_isPerson hz1 (fun y2 hy2 => ⟨fun w2 => zX9_trade_44 ⟨rfl, I⟩, fun w2 => ⟨fun w3 => zX9_trade_44 ⟨rfl, I⟩, fun w3 => s_in (fun y3 hy3 => ⟨fun w4 => zX9_trade_44 ⟨rfl, I⟩, fun w4 => ⟨fun v => ?_, fun v => ⟨rfl, I⟩⟩⟩)⟩⟩)⟩)))
    omega
  refine eX8_trade (zX8_trade_0 (s_has R1.1 (fun x hx => ⟨fun z => zX8_trade_44 (no (by omega)), fun z => s_has R1.1 (fun x2 hx2 => ⟨fun z2 => zX8_trade_44 (no (by omega)), fun z2 => ⟨fun z3 => zX8_trade_44 (no (by omega)), fun z3 => s_win (fun x4 hx4 => ⟨fun z4 => zX8_trade_46 ?_, fun z4 => no (by omega)⟩)⟩⟩)⟩)))
  by_cases hfull : n < 40
  · refine s_add R hsz hfull (by decide) (by decide) (fun h1 hs1 e1 e2 => ?_)
    have e96 : h1.2 96 = h.2 96 := by rw [e2]; exact p_add_o (by decide) (by decide)
    have hz2 : 0 ≤ h1.2 96 2 ∧ h1.2 96 2 ≤ 30 := by rw [e96]; exact hz1
    refine eX9_trade (zX9_trade_0 (s_isPerson hz2 (fun y hy => ⟨fun w => ?_, fun w => s_isPerson hz2 (fun y2 hy2 => ⟨fun w2 => ?_, fun w2 => ⟨fun w3 => absurd w3 z3, fun w3 => s_in (fun y3 hy3 => ⟨fun w4 => ?_, fun w4 => ⟨fun v => zX9_trade_46 ?_, fun v => ?_⟩⟩)⟩⟩)⟩)))
    · rw [e96] at hy; omega
    · rw [e96] at hy2; omega
    · omega
    · simp (disch := omega) only [e96, hn, x32_id, x_up_eq, x_up_j]
      rw [show (12530 + 3 * (n : Int)).toNat = 12530 + 3 * n by omega, show (12530 + 3 * (n : Int) + 1).toNat = 12531 + 3 * n by omega, show (12530 + 3 * (n : Int) + 2).toNat = 12532 + 3 * n by omega]
      refine ⟨by omega, by omega, by omega, by omega, ?_⟩
      have hu : ∀ k, x_up (x_up (x_up (x_up h1.2 96 (12530 + 3 * n) a) 96 (12531 + 3 * n) b) 96 (12532 + 3 * n) c) 96 11 ((n : Int) + 1) 96 k = if k = 11 then (n : Int) + 1 else if 12530 + 3 * n ≤ k ∧ k < 12530 + 3 * n + 3 then p_row a b c (k - (12530 + 3 * n)) else h.2 96 k := by
        intro k
        unfold x_up p_row
        rw [e96]
        repeat' split
        all_goals first | rfl | omega
      refine inv_add2 (t0 := 10) (n := n) (f := a) (s := b) (t := c) (row := p_row a b c) I (by decide) e1 hn hfull (fun r hr => ?_) hu (fun p hp => ?_) ?_
      · show x_up (x_up (x_up (x_up h1.2 96 (12530 + 3 * n) a) 96 (12531 + 3 * n) b) 96 (12532 + 3 * n) c) 96 11 ((n : Int) + 1) r = _
        rw [x_up_r hr, x_up_r hr, x_up_r hr, x_up_r hr, e2]
        rfl
      · have hp : p = (0, 0) ∨ p = (1, 1) ∨ p = (2, 2) := by simpa [t_p] using hp
        rcases hp with e | e | e <;> subst e <;> rfl
      · have v0 := hu (12530 + 3 * n)
        have v1 := hu (12531 + 3 * n)
        have v2 := hu (12532 + 3 * n)
        have v3 := hu 2
        rw [if_neg (by omega), if_pos (by omega), show 12530 + 3 * n - (12530 + 3 * n) = 0 by omega] at v0
        rw [if_neg (by omega), if_pos (by omega), show 12531 + 3 * n - (12530 + 3 * n) = 1 by omega] at v1
        rw [if_neg (by omega), if_pos (by omega), show 12532 + 3 * n - (12530 + 3 * n) = 2 by omega] at v2
        rw [if_neg (by omega), if_neg (by omega)] at v3
        show (0 ≤ x_up (x_up (x_up (x_up h1.2 96 (12530 + 3 * n) a) 96 (12531 + 3 * n) b) 96 (12532 + 3 * n) c) 96 11 ((n : Int) + 1) 96 (12530 + 3 * n) ∧ x_up (x_up (x_up (x_up h1.2 96 (12530 + 3 * n) a) 96 (12531 + 3 * n) b) 96 (12532 + 3 * n) c) 96 11 ((n : Int) + 1) 96 (12530 + 3 * n) < x_up (x_up (x_up (x_up h1.2 96 (12530 + 3 * n) a) 96 (12531 + 3 * n) b) 96 (12532 + 3 * n) c) 96 11 ((n : Int) + 1) 96 2) ∧ (0 ≤ x_up (x_up (x_up (x_up h1.2 96 (12530 + 3 * n) a) 96 (12531 + 3 * n) b) 96 (12532 + 3 * n) c) 96 11 ((n : Int) + 1) 96 (12531 + 3 * n) ∧ x_up (x_up (x_up (x_up h1.2 96 (12530 + 3 * n) a) 96 (12531 + 3 * n) b) 96 (12532 + 3 * n) c) 96 11 ((n : Int) + 1) 96 (12531 + 3 * n) < x_up (x_up (x_up (x_up h1.2 96 (12530 + 3 * n) a) 96 (12531 + 3 * n) b) 96 (12532 + 3 * n) c) 96 11 ((n : Int) + 1) 96 2) ∧ x_up (x_up (x_up (x_up h1.2 96 (12530 + 3 * n) a) 96 (12531 + 3 * n) b) 96 (12532 + 3 * n) c) 96 11 ((n : Int) + 1) 96 (12530 + 3 * n) ≠ x_up (x_up (x_up (x_up h1.2 96 (12530 + 3 * n) a) 96 (12531 + 3 * n) b) 96 (12532 + 3 * n) c) 96 11 ((n : Int) + 1) 96 (12531 + 3 * n) ∧ 0 ≤ x_up (x_up (x_up (x_up h1.2 96 (12530 + 3 * n) a) 96 (12531 + 3 * n) b) 96 (12532 + 3 * n) c) 96 11 ((n : Int) + 1) 96 (12532 + 3 * n) ∧ x_up (x_up (x_up (x_up h1.2 96 (12530 + 3 * n) a) 96 (12531 + 3 * n) b) 96 (12532 + 3 * n) c) 96 11 ((n : Int) + 1) 96 (12532 + 3 * n) ≤ 9999
        rw [v0, v1, v2, v3]
        show (0 ≤ a ∧ a < h.2 96 2) ∧ (0 ≤ b ∧ b < h.2 96 2) ∧ a ≠ b ∧ 0 ≤ c ∧ c ≤ 9999
        omega
    · rw [e96] at v
      omega
  · exact s_add_full R (by rw [hsz]; omega) (no (by omega))
