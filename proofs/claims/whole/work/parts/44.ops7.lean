/-! measure -/
theorem s_isWeb {g : xG} {D : Nat} {h : xH} {x : Int} {Q : Int → xH → Prop} (hz : 0 ≤ h.2 96 4 ∧ h.2 96 4 ≤ 50) (hQ : ∀ v : Int, (v = 1 ∧ 0 ≤ x ∧ x < h.2 96 4) ∨ (v = 0 ∧ ¬ (0 ≤ x ∧ x < h.2 96 4)) → Q v h) : zSi g (D + 1) mX9_isWeb [xr 95, xi x] h Q := by
  refine eX9_isWeb (zX9_isWeb_0 ?_)
  rw [x32_id (by omega) (by omega)]
  exact s_in (fun v hv => ⟨by omega, hQ v (by omega)⟩)
theorem s_isSeal {g : xG} {D : Nat} {h : xH} {x : Int} {Q : Int → xH → Prop} (hz : 0 ≤ h.2 96 8 ∧ h.2 96 8 ≤ 80) (hQ : ∀ v : Int, (v = 1 ∧ 0 ≤ x ∧ x < h.2 96 8) ∨ (v = 0 ∧ ¬ (0 ≤ x ∧ x < h.2 96 8)) → Q v h) : zSi g (D + 1) mX9_isSeal [xr 95, xi x] h Q := by
  refine eX9_isSeal (zX9_isSeal_0 ?_)
  rw [x32_id (by omega) (by omega)]
  exact s_in (fun v hv => ⟨by omega, hQ v (by omega)⟩)
theorem s_isLot {g : xG} {D : Nat} {h : xH} {x : Int} {Q : Int → xH → Prop} (hz : 0 ≤ h.2 96 12 ∧ h.2 96 12 ≤ 10) (hQ : ∀ v : Int, (v = 1 ∧ 0 ≤ x ∧ x < h.2 96 12) ∨ (v = 0 ∧ ¬ (0 ≤ x ∧ x < h.2 96 12)) → Q v h) : zSi g (D + 1) mX9_isLot [xr 95, xi x] h Q := by
  refine eX9_isLot (zX9_isLot_0 ?_)
  rw [x32_id (by omega) (by omega)]
  exact s_in (fun v hv => ⟨by omega, hQ v (by omega)⟩)
theorem op_measure {g : xG} {D : Nat} {h : xH} {a b c d e f : Int} (I : zInv h) : zSi g (D + 3) mX8_measure [xr 16, xi a, xi b, xi c, xi d, xi e, xi f] h (fun x h1 => zSi g (D + 3) mX9_measure [xr 95, xi a, xi b, xi c, xi d, xi e, xi f] h1 (fun y h2 => x = y ∧ zInv h2)) := by
  refine zS_sh (fun hs => ?_)
  have hz : 0 ≤ h.2 96 5 ∧ h.2 96 5 ≤ 200 := I.1.1.2.2.2.2.2.2 4 (by decide) (by decide)
  have hz4 : 0 ≤ h.2 96 4 ∧ h.2 96 4 ≤ 50 := I.1.1.2.2.2.2.2.2 3 (by decide) (by decide)
  have hz0 := I.1.1.1
  obtain ⟨n, hn⟩ : ∃ n : Nat, h.2 96 5 = (n : Int) := ⟨(h.2 96 5).toNat, by omega⟩
  have hsz : h.2 26 3 = (n : Int) := by rw [← hn]; exact ((I.2.2.1.1 4 (by decide)) (by decide)).1
  have hsz4 : h.2 24 3 = h.2 96 4 := ((I.2.2.1.1 3 (by decide)) (by decide)).1
  have hday : h.2 17 14 = h.2 96 0 := I.2.2.1.2.1.2.1
  have R : pR h 26 27 200 7 := z_R hs rfl rfl rfl rfl rfl (by decide)
  have R4 : pR h 24 25 50 1 := z_R hs rfl rfl rfl rfl rfl (by decide)
  have h200 : h.2 26 0 = 200 := R.2.2.1
  have no : ¬ ((0 ≤ a ∧ a < h.2 96 4) ∧ (0 ≤ b ∧ b ≤ 999) ∧ (1 ≤ c ∧ c ≤ 200) ∧ (1 ≤ d ∧ d ≤ 99) ∧ (1 ≤ e ∧ e ≤ 60) ∧ (0 ≤ f ∧ f ≤ 20) ∧ n < 200) → zSi g (D + 3) mX9_measure [xr 95, xi a, xi b, xi c, xi d, xi e, xi f] h (fun y h2 => -1 = y ∧ zInv h2) := by
    intro hno
    refine eX9_measure (zX9_measure_0 (s_isWeb hz4 (fun y hy => ⟨fun w => zX9_measure_71 ⟨rfl, I⟩, fun w => s_day (fun y1 hy1 => ⟨fun w => zX9_measure_71 ⟨rfl, I⟩, fun w1 => s_in (fun y2 hy2 => ⟨fun w => zX9_measure_71 ⟨rfl, I⟩, fun w2 => s_in (fun y3 hy3 => ⟨fun w => zX9_measure_71 ⟨rfl, I⟩, fun w3 => s_in (fun y4 hy4 => ⟨fun w => zX9_measure_71 ⟨rfl, I⟩, fun w4 => s_in (fun y5 hy5 => ⟨fun w => zX9_measure_71 ⟨rfl, I⟩, fun w5 => ⟨fun v => ?_, fun v => ⟨rfl, I⟩⟩⟩)⟩)⟩)⟩)⟩)⟩)))
    omega
  refine eX8_measure (zX8_measure_0 (s_has R4.1 (fun x hx => ⟨fun z => zX8_measure_34 (no (by omega)), fun z => s_wday (fun x1 hx1 => ⟨fun z1 => zX8_measure_34 (no (by omega)), fun z1 => s_isFull R.1 (fun x2 hx2 => ⟨fun z2 => zX8_measure_36 (s_win (fun x3 hx3 => ⟨fun z3 => zX8_measure_80 (no (by omega)), fun z3 => s_win (fun x4 hx4 => ⟨fun z4 => zX8_measure_80 (no (by omega)), fun z4 => s_win (fun x5 hx5 => ⟨fun z5 => zX8_measure_80 (no (by omega)), fun z5 => s_win (fun x6 hx6 => ⟨fun z6 => zX8_measure_82 ?_, fun z6 => no (by omega)⟩)⟩)⟩)⟩)), fun z2 => no (by omega)⟩)⟩)⟩)))
  have hfull : n < 200 := by omega
  refine s_add R hsz hfull (by decide) (by decide) (fun h1 hs1 e1 e2 => ?_)
  refine s_set (show pR h1 26 27 200 7 from z_R hs1 rfl rfl rfl rfl rfl (by decide)) (by omega) (by omega) (by omega) (by omega) (fun h2 hs2 e3 => ?_)
  refine s_set (show pR h2 26 27 200 7 from z_R hs2 rfl rfl rfl rfl rfl (by decide)) (by omega) (by omega) (by omega) (by omega) (fun h3 hs3 e4 => ?_)
  refine s_set (show pR h3 26 27 200 7 from z_R hs3 rfl rfl rfl rfl rfl (by decide)) (by omega) (by omega) (by omega) (by omega) (fun h4 hs4 e5 => ?_)
  refine s_set (show pR h4 26 27 200 7 from z_R hs4 rfl rfl rfl rfl rfl (by decide)) (by omega) (by omega) (by omega) (by omega) (fun h5 hs5 e6 => ?_)
  have f1 : h5.1 = h.1 := by rw [e6, e5, e4, e3]; exact e1
  have f2 : h5.2 = x_up (x_up (x_up (x_up (p_add h.2 26 27 7 n a b (h.2 96 0)) 27 (n * 7 + 3) c) 27 (n * 7 + 4) d) 27 (n * 7 + 5) e) 27 (n * 7 + 6) f := by
    rw [e6, e5, e4, e3]
    show x_up (x_up (x_up (x_up h1.2 27 ((n : Int) * (7 : Nat) + (3 : Nat)).toNat c) 27 ((n : Int) * (7 : Nat) + (4 : Nat)).toNat d) 27 ((n : Int) * (7 : Nat) + (5 : Nat)).toNat e) 27 ((n : Int) * (7 : Nat) + (6 : Nat)).toNat f = _
    rw [p_nat, p_nat, p_nat, p_nat, e2, hday]
  clear e6 e5 e4 e3 e2 e1
  have fo : ∀ r, r ≠ 27 → h5.2 r = p_add h.2 26 27 7 n a b (h.2 96 0) r := fun r hr => by rw [f2, x_up_r hr, x_up_r hr, x_up_r hr, x_up_r hr]
  have f27 : ∀ j, h5.2 27 j = if j = n * 7 + 6 then f else if j = n * 7 + 5 then e else if j = n * 7 + 4 then d else if j = n * 7 + 3 then c else p_add h.2 26 27 7 n a b (h.2 96 0) 27 j := fun j => by rw [f2, x_up_k, x_up_k, x_up_k, x_up_k]
  have e96 : h5.2 96 = h.2 96 := by rw [fo 96 (by decide)]; exact p_add_o (by decide) (by decide)
  have e26 : h5.2 26 3 = (n : Int) + 1 := by rw [fo 26 (by decide)]; exact p_add_z
  rw [e26]
  clear f2
  refine eX9_measure (zX9_measure_0 (s_isWeb (by rw [e96]; exact hz4) (fun y hy => ⟨fun w => ?_, fun w => s_day (fun y1 hy1 => ⟨fun w1 => ?_, fun w1 => s_in (fun y2 hy2 => ⟨fun w2 => ?_, fun w2 => s_in (fun y3 hy3 => ⟨fun w3 => ?_, fun w3 => s_in (fun y4 hy4 => ⟨fun w4 => ?_, fun w4 => s_in (fun y5 hy5 => ⟨fun w5 => ?_, fun w5 => ⟨fun v => zX9_measure_73 ?_, fun v => ?_⟩⟩)⟩)⟩)⟩)⟩)⟩)))
  · rw [e96] at hy; omega
  · omega
  · omega
  · omega
  · omega
  · omega
  · simp (disch := omega) only [e96, hn, x32_id]
    rw [show (400 + 8 * (n : Int)).toNat = 400 + 8 * n by omega]
    refine ⟨by omega, zX9_measure_96 ?_⟩
    rw [x32_id (by omega) (by omega), show (400 + 8 * (n : Int) + 1).toNat = 401 + 8 * n by omega]
    refine ⟨by omega, zX9_measure_106 ?_⟩
    rw [x32_id (by omega) (by omega), show (400 + 8 * (n : Int) + 2).toNat = 402 + 8 * n by omega]
    refine ⟨by omega, zX9_measure_116 ?_⟩
    rw [x32_id (by omega) (by omega), show (400 + 8 * (n : Int) + 3).toNat = 403 + 8 * n by omega]
    refine ⟨by omega, zX9_measure_127 ?_⟩
    rw [x32_id (by omega) (by omega), show (400 + 8 * (n : Int) + 4).toNat = 404 + 8 * n by omega]
    refine ⟨by omega, zX9_measure_138 ?_⟩
    rw [x32_id (by omega) (by omega), show (400 + 8 * (n : Int) + 5).toNat = 405 + 8 * n by omega]
    refine ⟨by omega, zX9_measure_149 ?_⟩
    rw [x32_id (by omega) (by omega), show (400 + 8 * (n : Int) + 6).toNat = 406 + 8 * n by omega]
    refine ⟨by omega, zX9_measure_165 (zX9_measure_175 ?_)⟩
    simp (disch := omega) only [x_up_j, e96]
    rw [hn, x32_id (by omega) (by omega), x_up_eq]
    refine ⟨rfl, ?_⟩
    generalize hC : x_up (x_up (x_up (x_up (x_up (x_up (x_up (x_up h5.2 96 (400 + 8 * n) a) 96 (401 + 8 * n) b) 96 (402 + 8 * n) c) 96 (403 + 8 * n) d) 96 (404 + 8 * n) e) 96 (405 + 8 * n) f) 96 (406 + 8 * n) (h.2 96 0)) 96 5 ((n : Int) + 1) = C
    have ho : ∀ r, r ≠ 96 → C r = h5.2 r := fun r hr => by rw [← hC, x_up_r hr, x_up_r hr, x_up_r hr, x_up_r hr, x_up_r hr, x_up_r hr, x_up_r hr, x_up_r hr]
    have hu : ∀ k, C 96 k = if k = 5 then (n : Int) + 1 else if k = 406 + 8 * n then h.2 96 0 else if k = 405 + 8 * n then f else if k = 404 + 8 * n then e else if k = 403 + 8 * n then d else if k = 402 + 8 * n then c else if k = 401 + 8 * n then b else if k = 400 + 8 * n then a else h.2 96 k := by
      intro k
      rw [← hC, x_up_k, x_up_k, x_up_k, x_up_k, x_up_k, x_up_k, x_up_k, x_up_k, e96]
    have v0 : C 96 (400 + 8 * n) = a := by rw [hu]; repeat' first | rw [if_pos (by omega)] | rw [if_neg (by omega)]
    have v1 : C 96 (401 + 8 * n) = b := by rw [hu]; repeat' first | rw [if_pos (by omega)] | rw [if_neg (by omega)]
    have v2 : C 96 (402 + 8 * n) = c := by rw [hu]; repeat' first | rw [if_pos (by omega)] | rw [if_neg (by omega)]
    have v3 : C 96 (403 + 8 * n) = d := by rw [hu]; repeat' first | rw [if_pos (by omega)] | rw [if_neg (by omega)]
    have v4 : C 96 (404 + 8 * n) = e := by rw [hu]; repeat' first | rw [if_pos (by omega)] | rw [if_neg (by omega)]
    have v5 : C 96 (405 + 8 * n) = f := by rw [hu]; repeat' first | rw [if_pos (by omega)] | rw [if_neg (by omega)]
    have v6 : C 96 (406 + 8 * n) = h.2 96 0 := by rw [hu]; repeat' first | rw [if_pos (by omega)] | rw [if_neg (by omega)]
    have vo : ∀ k, k ≠ 5 → ¬ (400 + 8 * n ≤ k ∧ k < 400 + 8 * n + 8) → C 96 k = h.2 96 k := by
      intro k k1 k2
      rw [hu, if_neg k1]; repeat' rw [if_neg (by omega)]
    refine inv_add (t0 := 4) (n := n) I (by decide) f1 (fun r r1 r2 r3 => ?_) hn hfull ?_ (fun j hj => ?_) ?_ vo (fun p hp => ?_) ?_
    · show C r = _
      rw [ho r r3, fo r r2]; exact p_add_o r1 r2
    · show C 26 3 = _
      rw [ho 26 (by decide)]; exact e26
    · show C 27 j = _
      have hj : j < n * 7 := hj
      rw [ho 27 (by decide), f27, if_neg (by omega), if_neg (by omega), if_neg (by omega), if_neg (by omega)]; exact p_add_lt (by decide) hj
    · show C 96 5 = _
      rw [hu, if_pos rfl]
    · show C 27 (n * 7 + p.1) = C 96 (400 + 8 * n + p.2)
      have hp : p = (0, 0) ∨ p = (1, 1) ∨ p = (2, 6) ∨ p = (3, 2) ∨ p = (4, 3) ∨ p = (5, 4) ∨ p = (6, 5) := by simpa [t_p] using hp
      rw [ho 27 (by decide), f27]
      rcases hp with z | z | z | z | z | z | z <;> subst z <;> dsimp only
      · rw [if_neg (by omega), if_neg (by omega), if_neg (by omega), if_neg (by omega), p_add_at (by decide) (by decide)]; exact v0.symm
      · rw [if_neg (by omega), if_neg (by omega), if_neg (by omega), if_neg (by omega), p_add_at (by decide) (by decide), show 400 + 8 * n + 1 = 401 + 8 * n by omega]; exact v1.symm
      · rw [if_neg (by omega), if_neg (by omega), if_neg (by omega), if_neg (by omega), p_add_at (by decide) (by decide), show 400 + 8 * n + 6 = 406 + 8 * n by omega]; exact v6.symm
      · rw [if_neg (by omega), if_neg (by omega), if_neg (by omega), if_pos rfl, show 400 + 8 * n + 2 = 402 + 8 * n by omega]; exact v2.symm
      · rw [if_neg (by omega), if_neg (by omega), if_pos rfl, show 400 + 8 * n + 3 = 403 + 8 * n by omega]; exact v3.symm
      · rw [if_neg (by omega), if_pos rfl, show 400 + 8 * n + 4 = 404 + 8 * n by omega]; exact v4.symm
      · rw [if_pos rfl, show 400 + 8 * n + 5 = 405 + 8 * n by omega]; exact v5.symm
    · have u4 := vo 4 (by omega) (by omega)
      have u0 := vo 0 (by omega) (by omega)
      show (0 ≤ C 96 (400 + 8 * n) ∧ C 96 (400 + 8 * n) < C 96 4) ∧ (0 ≤ C 96 (401 + 8 * n) ∧ C 96 (401 + 8 * n) ≤ 999) ∧ (1 ≤ C 96 (402 + 8 * n) ∧ C 96 (402 + 8 * n) ≤ 200) ∧ (1 ≤ C 96 (403 + 8 * n) ∧ C 96 (403 + 8 * n) ≤ 99) ∧ (1 ≤ C 96 (404 + 8 * n) ∧ C 96 (404 + 8 * n) ≤ 60) ∧ (0 ≤ C 96 (405 + 8 * n) ∧ C 96 (405 + 8 * n) ≤ 20) ∧ 0 ≤ C 96 (406 + 8 * n) ∧ C 96 (406 + 8 * n) ≤ C 96 0
      rw [v0, v1, v2, v3, v4, v5, v6, u4, u0]
      omega
  · rw [e96] at v; omega
