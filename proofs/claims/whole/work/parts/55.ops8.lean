/-! says, force, board, sum, need -/
theorem op_says {g : xG} {D : Nat} {h : xH} {a b : Int} (I : zInv h) : zSi g (D + 5) mX8_says [xr 16, xi a, xi b] h (fun x h1 => zSi g (D + 5) mX9_says [xr 95, xi a, xi b] h1 (fun y h2 => x = y ∧ zInv h2)) := by
  refine zS_sh (fun hs => ?_)
  have Z := zB_of hs I
  have B := rB_inv I
  have no : ¬ ((0 ≤ a ∧ a ≤ 999) ∧ (0 ≤ b ∧ b ≤ 3)) → zSi g (D + 5) mX9_says [xr 95, xi a, xi b] h (fun y h2 => -1 = y ∧ zInv h2) := by
    intro hno
    exact eX9_says (zX9_says_0 (s_day (fun y hy => ⟨fun w => zX9_says_9 ⟨fun w0 => zX9_says_24 ⟨fun w1 => zX9_says_41 ⟨fun w2 => zX9_says_58 ⟨fun w3 => zX9_says_74 ⟨rfl, I⟩, fun w3 => by omega⟩, fun w2 => by omega⟩, fun w1 => by omega⟩, fun w0 => by omega⟩, fun w => ⟨rfl, I⟩⟩)))
  refine eX8_says (zX8_says_0 (s_wday (fun x hx => ⟨fun z => zX8_says_16 (no (by omega)), fun z => s_win (fun x2 hx2 => ⟨fun z2 => zX8_says_18 ?_, fun z2 => no (by omega)⟩)⟩)))
  rcases (show b = 0 ∨ b = 1 ∨ b = 2 ∨ b = 3 by omega) with e | e | e | e <;> subst e
  · rw [show x32 (6 + 0) = ((6 : Nat) : Int) by decide]
    exact s_told (k := 6) Z (by decide) (eX9_says (zX9_says_0 (s_day (fun y hy => ⟨fun w => zX9_says_9 ⟨fun w0 => absurd rfl w0, fun w0 => r_numberOf (k := 6) B.1 ⟨rfl, I⟩⟩, fun w => by omega⟩))))
  · rw [show x32 (6 + 1) = ((7 : Nat) : Int) by decide]
    exact s_told (k := 7) Z (by decide) (eX9_says (zX9_says_0 (s_day (fun y hy => ⟨fun w => zX9_says_9 ⟨fun w0 => zX9_says_24 ⟨fun w1 => absurd rfl w1, fun w1 => r_numberOf (k := 7) B.1 ⟨rfl, I⟩⟩, fun w0 => absurd w0 (by decide)⟩, fun w => by omega⟩))))
  · rw [show x32 (6 + 2) = ((8 : Nat) : Int) by decide]
    exact s_told (k := 8) Z (by decide) (eX9_says (zX9_says_0 (s_day (fun y hy => ⟨fun w => zX9_says_9 ⟨fun w0 => zX9_says_24 ⟨fun w1 => zX9_says_41 ⟨fun w2 => absurd rfl w2, fun w2 => r_numberOf (k := 8) B.1 ⟨rfl, I⟩⟩, fun w1 => absurd w1 (by decide)⟩, fun w0 => absurd w0 (by decide)⟩, fun w => by omega⟩))))
  · rw [show x32 (6 + 3) = ((9 : Nat) : Int) by decide]
    exact s_told (k := 9) Z (by decide) (eX9_says (zX9_says_0 (s_day (fun y hy => ⟨fun w => zX9_says_9 ⟨fun w0 => zX9_says_24 ⟨fun w1 => zX9_says_41 ⟨fun w2 => zX9_says_58 ⟨fun w3 => absurd rfl w3, fun w3 => r_numberOf (k := 9) B.1 ⟨rfl, I⟩⟩, fun w2 => absurd w2 (by decide)⟩, fun w1 => absurd w1 (by decide)⟩, fun w0 => absurd w0 (by decide)⟩, fun w => by omega⟩))))
theorem op_force {g : xG} {D : Nat} {h : xH} {a b c : Int} (I : zInv h) : zSi g (D + 3) mX8_force [xr 16, xi a, xi b, xi c] h (fun x h1 => zSi g (D + 3) mX9_force [xr 95, xi a, xi b, xi c] h1 (fun y h2 => x = y ∧ zInv h2)) := by
  refine zS_sh (fun hs => ?_)
  have Z := zB_of hs I
  have hz : 0 ≤ h.2 96 7 ∧ h.2 96 7 ≤ 30 := I.1.1.2.2.2.2.2.2 5 (by decide) (by decide)
  have h6 := I.1.1.2.1
  have h0 := I.1.1.1
  have hday : h.2 17 14 = h.2 96 0 := I.2.2.1.2.1.2.1
  obtain ⟨n, hn⟩ : ∃ n : Nat, h.2 96 7 = (n : Int) := ⟨(h.2 96 7).toNat, by omega⟩
  have hsz : h.2 28 3 = (n : Int) := by rw [← hn]; exact ((I.2.2.1.1 5 (by decide)) (by decide)).1
  have R : pR h 28 29 30 3 := z_R hs rfl rfl rfl rfl rfl (by decide)
  have no : ¬ ((0 ≤ a ∧ a < h.2 96 6) ∧ (h.2 96 0 ≤ b ∧ b ≤ 999) ∧ (b ≤ c ∧ c ≤ 999) ∧ n < 30) → zSi g (D + 3) mX9_force [xr 95, xi a, xi b, xi c] h (fun y h2 => -1 = y ∧ zInv h2) := by
    intro hno
    refine eX9_force (zX9_force_0 ?_)
    rw [x32_id (by omega) (by omega)]
    refine s_in (fun y hy => ⟨fun w => zX9_force_56 ⟨rfl, I⟩, fun w => s_in (fun y2 hy2 => ⟨fun w2 => zX9_force_56 ⟨rfl, I⟩, fun w2 => s_in (fun y3 hy3 => ⟨fun w3 => zX9_force_56 ⟨rfl, I⟩, fun w3 => ⟨fun v => by omega, fun v => ⟨rfl, I⟩⟩⟩)⟩)⟩)
  refine eX8_force (zX8_force_0 (s_actAt Z (fun z => ⟨fun _ => zX8_force_39 (no (by omega)), fun q => absurd rfl q⟩) (fun t r ht hl ap => ⟨fun q => by have := ap.2.1; omega, fun q => ?_⟩)))
  rw [hday]
  refine s_win (fun x2 hx2 => ⟨fun z2 => zX8_force_39 (no (by omega)), fun z2 => s_win (fun x3 hx3 => ⟨fun z3 => zX8_force_41 ?_, fun z3 => no (by omega)⟩)⟩)
  by_cases hfull : n < 30
  · refine s_add R hsz hfull (by decide) (by decide) (fun h1 hs1 e1 e2 => ?_)
    have e96 : h1.2 96 = h.2 96 := by rw [e2]; exact p_add_o (by decide) (by decide)
    refine eX9_force (zX9_force_0 ?_)
    rw [e96, x32_id (by omega) (by omega)]
    refine s_in (fun y hy => ⟨fun w => by omega, fun w => ?_⟩)
    rw [e96]
    refine s_in (fun y2 hy2 => ⟨fun w2 => by omega, fun w2 => s_in (fun y3 hy3 => ⟨fun w3 => by omega, fun w3 => ?_⟩)⟩)
    rw [e96]
    refine ⟨fun v => zX9_force_58 (eX9_putForce (zX9_putForce_0 ?_)), fun v => by omega⟩
    simp (disch := omega) only [e96, hn, x32_id, x_up_eq, x_up_j]
    rw [show (11000 + 4 * (n : Int)).toNat = 11000 + 4 * n by omega, show (11000 + 4 * (n : Int) + 1).toNat = 11001 + 4 * n by omega, show (11000 + 4 * (n : Int) + 2).toNat = 11002 + 4 * n by omega]
    refine ⟨by omega, by omega, by omega, by omega, ?_⟩
    generalize hC : x_up (x_up (x_up (x_up h1.2 96 (11000 + 4 * n) a) 96 (11001 + 4 * n) b) 96 (11002 + 4 * n) c) 96 7 ((n : Int) + 1) = C
    have hu : ∀ k, C 96 k = if k = 7 then (n : Int) + 1 else if 11000 + 4 * n ≤ k ∧ k < 11000 + 4 * n + 4 then (fun j => if j = 3 then h.2 96 (11003 + 4 * n) else p_row a b c j) (k - (11000 + 4 * n)) else h.2 96 k := by
      intro k
      rw [← hC]
      unfold x_up p_row
      rw [e96]
      dsimp only
      repeat' split
      all_goals first | rfl | omega | exact congrArg (h.2 96) (by omega)
    refine inv_add2 (t0 := 5) (n := n) (f := a) (s := b) (t := c) (row := fun j => if j = 3 then h.2 96 (11003 + 4 * n) else p_row a b c j) I (by decide) e1 hn hfull (fun r hr => ?_) hu (fun p hp => ?_) ?_
    · show C r = _
      rw [← hC, x_up_r hr, x_up_r hr, x_up_r hr, x_up_r hr, e2]
      rfl
    · have hp : p = (0, 0) ∨ p = (1, 1) ∨ p = (2, 2) := by simpa [t_p] using hp
      rcases hp with e | e | e <;> subst e <;> rfl
    · have v0 := hu (11000 + 4 * n)
      have v1 := hu (11001 + 4 * n)
      have v2 := hu (11002 + 4 * n)
      have v3 := hu 6
      rw [if_neg (by omega), if_pos (by omega), show 11000 + 4 * n - (11000 + 4 * n) = 0 by omega] at v0
      rw [if_neg (by omega), if_pos (by omega), show 11001 + 4 * n - (11000 + 4 * n) = 1 by omega] at v1
      rw [if_neg (by omega), if_pos (by omega), show 11002 + 4 * n - (11000 + 4 * n) = 2 by omega] at v2
      rw [if_neg (by omega), if_neg (by omega)] at v3
      show (0 ≤ C 96 (11000 + 4 * n) ∧ C 96 (11000 + 4 * n) < C 96 6) ∧ (0 ≤ C 96 (11001 + 4 * n) ∧ C 96 (11001 + 4 * n) ≤ 999) ∧ 0 ≤ C 96 (11002 + 4 * n) ∧ C 96 (11002 + 4 * n) ≤ 999
      rw [v0, v1, v2, v3]
      show (0 ≤ a ∧ a < h.2 96 6) ∧ (0 ≤ b ∧ b ≤ 999) ∧ 0 ≤ c ∧ c ≤ 999
      omega
  · exact s_add_full R (by rw [hsz]; omega) (no (by omega))
theorem mO_c {A : Nat → Int} (h5 : 0 ≤ A 5) (web day known : Int) : mO A web day known = -1 ∨ ∃ x : Nat, mO A web day known = (x : Int) ∧ (x : Int) < A 5 ∧ A (400 + 8 * x) = web := by
  rcases mR_c (A := A) (web := web) (day := day) (known := known) (A 5).toNat with e | ⟨x, e1, e2, e3⟩
  · exact Or.inl e
  · exact Or.inr ⟨x, e1, by omega, e3⟩
theorem op_board {g : xG} {D : Nat} {h : xH} {a b c d : Int} (I : zInv h) : zSi g (D + 6) mX8_board [xr 16, xi a, xi b, xi c, xi d] h (fun x h1 => zSi g (D + 6) mX9_board [xr 95, xi a, xi b, xi c, xi d] h1 (fun y h2 => x = y ∧ zInv h2)) := by
  refine zS_sh (fun hs => ?_)
  have Z := zB_of hs I
  have hz : 0 ≤ h.2 96 4 ∧ h.2 96 4 ≤ 50 := I.1.1.2.2.2.2.2.2 3 (by decide) (by decide)
  have hsz : h.2 24 3 = h.2 96 4 := ((I.2.2.1.1 3 (by decide)) (by decide)).1
  have R : pR h 24 25 50 1 := z_R hs rfl rfl rfl rfl rfl (by decide)
  have no : ¬ ((0 ≤ a ∧ a < h.2 96 4) ∧ (0 ≤ b ∧ b ≤ 999) ∧ (0 ≤ c ∧ c ≤ 999) ∧ (0 ≤ d ∧ d ≤ 5)) → zSi g (D + 6) mX9_board [xr 95, xi a, xi b, xi c, xi d] h (fun y h2 => -2 = y ∧ zInv h2) := by
    intro hno
    exact eX9_board (zX9_board_0 (s_isWeb hz (fun y hy => ⟨fun w => zX9_board_32 ⟨rfl, I⟩, fun w => s_day (fun y2 hy2 => ⟨fun w2 => zX9_board_32 ⟨rfl, I⟩, fun w2 => s_day (fun y3 hy3 => ⟨fun w3 => zX9_board_32 ⟨rfl, I⟩, fun w3 => s_in (fun y4 hy4 => ⟨fun w4 => by omega, fun w4 => ⟨rfl, I⟩⟩)⟩)⟩)⟩)))
  refine eX8_board (zX8_board_0 (s_has R.1 (fun x hx => ⟨fun z => zX8_board_38 (no (by omega)), fun z => s_wday (fun x2 hx2 => ⟨fun z2 => zX8_board_38 (no (by omega)), fun z2 => s_wday (fun x3 hx3 => ⟨fun z3 => zX8_board_38 (no (by omega)), fun z3 => s_win (fun x4 hx4 => ⟨fun z4 => zX8_board_41 ?_, fun z4 => no (by omega)⟩)⟩)⟩)⟩)))
  obtain ⟨w, rfl⟩ : ∃ w : Nat, a = (w : Int) := ⟨a.toNat, by omega⟩
  have hw : (w : Int) < h.2 96 4 := by omega
  have hd : 0 ≤ b ∧ b ≤ 999 := by omega
  have go : ∀ {h1 : xH} {Q : Int → xH → Prop}, fB h h1 → (mO (h.2 96) w b c = -1 → Q (-2) h1) → (∀ (x : Nat) (h2 : xH), mO (h.2 96) w b c = (x : Int) → (x : Int) < h.2 96 5 → fR h1 h2 → nmR h2 (nm1 (h.2 96) (-1) w b x) → (4 ≤ d → zJ g (D + 6) 201 0 0 76 [xr 95, xi w, xi b, xu, xi d, xi ((400 + 8 * x : Nat) : Int)] [] h2 (x_qi Q)) ∧ (d < 4 → (0 ≤ d ∧ d < 7) ∧ Q (h2.2 102 d.toNat) h2)) → zSi g (D + 6) mX9_board [xr 95, xi w, xi b, xi c, xi d] h1 Q := by
    intro h1 Q f g0 g1
    have e96 := fB_96 f
    have B1 : rB (h1.2 96) := rB_inv (fB_inv f I)
    refine eX9_board (zX9_board_0 (s_isWeb (by rw [e96]; exact hz) (fun y hy => ⟨fun w1 => by rw [e96] at hy; omega, fun w1 => s_day (fun y2 hy2 => ⟨fun w2 => by omega, fun w2 => s_day (fun y3 hy3 => ⟨fun w3 => by omega, fun w3 => s_in (fun y4 hy4 => ⟨fun w4 => zX9_board_35 (r_meas B1 (fun e => ⟨fun q => absurd q (by decide), fun q => g0 (by rw [← e96]; exact e)⟩) (fun x e hl => ⟨fun q => zX9_board_52 ?_, fun q => by omega⟩)), fun w4 => by omega⟩)⟩)⟩)⟩)))
    refine r_name B1 (by rw [e96]; exact hw) hl hd (fun h2 f2 n2 => ?_)
    rw [e96] at e hl n2
    exact g1 x h2 e hl f2 n2
  refine s_weigh Z hw hd (fun e => ⟨fun q => absurd rfl q, fun _ => go (fB_refl h) (fun _ => ⟨rfl, I⟩) (fun x h2 e2 => by omega)⟩) (fun x h1 e hx f n1 s1 => ⟨fun _ => zX8_board_57 ⟨fun q4 => zX8_board_71 ⟨fun q5 => zX8_board_88 ?_, fun q5 => ?_⟩, fun q4 => ?_⟩, fun q => absurd q (by decide)⟩)
  · obtain ⟨k, rfl⟩ : ∃ k : Nat, d = (k : Int) := ⟨d.toNat, by omega⟩
    rw [x32_id (by omega) (by omega), show 10 + (k : Int) = ((10 + k : Nat) : Int) by omega]
    have ek : h1.2 76 (10 + k) = nm1 (h.2 96) (-1) w b x k := by
      have := n1 k (by omega)
      rcases (show k = 0 ∨ k = 1 ∨ k = 2 ∨ k = 3 by omega) with e | e | e | e <;> subst e <;> exact this
    refine s_named (by omega) ?_
    rw [ek]
    refine go f (fun e2 => by omega) (fun x2 h2 e2 hx2 f2 n2 => ⟨fun q => by omega, fun q => ⟨by omega, ?_, fR_inv f2 (fB_inv f I)⟩⟩)
    have : x2 = x := by omega
    subst this
    rw [show ((k : Int)).toNat = k by omega, n2 k (by omega)]
  · subst q5
    have e96 := fB_96 f
    have Z1 := fB_zB f Z
    have nb := nm1_b (rB_inv I) (Or.inl rfl : (-1 : Int) = -1 ∨ _) hw hx hd
    refine s_firstClause (k := 1) (so := false) Z1 (by decide) nb.2.2.2 n1 (fun h2 g1 g2 => ?_)
    have f2 := fB_trans f (fB_of77 g1 g2)
    rw [e96]
    refine go f2 (fun e2 => by omega) (fun x2 h3 e2 hx2 f3 n3 => ⟨fun q => zX9_board_76 ⟨fun q2 => absurd rfl q2, fun _ => ?_⟩, fun q => by omega⟩)
    have : x2 = x := by omega
    subst this
    have e3 : h3.2 96 = h.2 96 := (fR_96 f3).trans (fB_96 f2)
    refine r_lacks (by rw [e3]; exact (rB_inv I).1) nb.2.2.2 n3 (fun h4 g3 g4 => ?_)
    rw [e3]
    exact ⟨rfl, fR_inv (fR_of g3 g4) (fR_inv f3 (fB_inv f2 I))⟩
  · subst q4
    rw [s1]
    refine go f (fun e2 => by omega) (fun x2 h2 e2 hx2 f2 n2 => ⟨fun q => zX9_board_76 ⟨fun _ => zX9_board_90 ?_, fun q2 => absurd q2 (by decide)⟩, fun q => by omega⟩)
    have : x2 = x := by omega
    subst this
    have e5 : h2.2 102 5 = if sO (h.2 96) (-1) w b x2 = -1 then 10 else sO (h.2 96) (-1) w b x2 := n2 5 (by decide)
    have sb := sO_b (web := w) (x := x2) (day := b) (rB_inv I) (Or.inl rfl : (-1 : Int) = -1 ∨ _)
    by_cases q : sO (h.2 96) (-1) w b x2 = -1
    · rw [if_pos q] at e5
      rw [e5]
      exact ⟨fun p => absurd rfl p, fun _ => ⟨q, fR_inv f2 (fB_inv f I)⟩⟩
    · rw [if_neg q] at e5
      rw [e5]
      refine ⟨fun p => zX9_board_105 ?_, fun p => by omega⟩
      rw [e5]
      exact ⟨rfl, fR_inv f2 (fB_inv f I)⟩
theorem op_sum {g : xG} {D : Nat} {h : xH} {a b c d : Int} (I : zInv h) : zSi g (D + 6) mX8_sum [xr 16, xi a, xi b, xi c, xi d] h (fun x h1 => zSi g (D + 6) mX9_sum [xr 95, xi a, xi b, xi c, xi d] h1 (fun y h2 => x = y ∧ zInv h2)) := by
  refine zS_sh (fun hs => ?_)
  have Z := zB_of hs I
  have hz : 0 ≤ h.2 96 4 ∧ h.2 96 4 ≤ 50 := I.1.1.2.2.2.2.2.2 3 (by decide) (by decide)
  have hsz : h.2 24 3 = h.2 96 4 := ((I.2.2.1.1 3 (by decide)) (by decide)).1
  have R : pR h 24 25 50 1 := z_R hs rfl rfl rfl rfl rfl (by decide)
  have no : ¬ ((0 ≤ a ∧ a < h.2 96 4) ∧ (0 ≤ b ∧ b ≤ 999) ∧ (0 ≤ c ∧ c ≤ 999) ∧ (0 ≤ d ∧ d ≤ 2)) → zSi g (D + 6) mX9_sum [xr 95, xi a, xi b, xi c, xi d] h (fun y h2 => -1 = y ∧ zInv h2) := by
    intro hno
    exact eX9_sum (zX9_sum_0 (s_isWeb hz (fun y hy => ⟨fun w => zX9_sum_32 ⟨rfl, I⟩, fun w => s_day (fun y2 hy2 => ⟨fun w2 => zX9_sum_32 ⟨rfl, I⟩, fun w2 => s_day (fun y3 hy3 => ⟨fun w3 => zX9_sum_32 ⟨rfl, I⟩, fun w3 => s_in (fun y4 hy4 => ⟨fun w4 => by omega, fun w4 => ⟨rfl, I⟩⟩)⟩)⟩)⟩)))
  refine eX8_sum (zX8_sum_0 (s_has R.1 (fun x hx => ⟨fun z => zX8_sum_38 (no (by omega)), fun z => s_wday (fun x2 hx2 => ⟨fun z2 => zX8_sum_38 (no (by omega)), fun z2 => s_wday (fun x3 hx3 => ⟨fun z3 => zX8_sum_38 (no (by omega)), fun z3 => s_win (fun x4 hx4 => ⟨fun z4 => zX8_sum_40 ?_, fun z4 => no (by omega)⟩)⟩)⟩)⟩)))
  obtain ⟨w, rfl⟩ : ∃ w : Nat, a = (w : Int) := ⟨a.toNat, by omega⟩
  obtain ⟨k, rfl⟩ : ∃ k : Nat, d = (k : Int) := ⟨d.toNat, by omega⟩
  have hw : (w : Int) < h.2 96 4 := by omega
  have hd : 0 ≤ b ∧ b ≤ 999 := by omega
  have hk : k < 3 := by omega
  have go : ∀ {h1 : xH} {Q : Int → xH → Prop}, fB h h1 → (mO (h.2 96) w b c = -1 → Q (-1) h1) → (∀ (x : Nat) (h2 : xH), mO (h.2 96) w b c = (x : Int) → (x : Int) < h.2 96 5 → fR h1 h2 → Q (aM (h.2 96) (-1) ((3 + k : Nat) : Int) b (nm1 (h.2 96) (-1) w b x)) h2) → zSi g (D + 6) mX9_sum [xr 95, xi w, xi b, xi c, xi k] h1 Q := by
    intro h1 Q f g0 g1
    have e96 := fB_96 f
    have B1 : rB (h1.2 96) := rB_inv (fB_inv f I)
    refine eX9_sum (zX9_sum_0 (s_isWeb (by rw [e96]; exact hz) (fun y hy => ⟨fun w1 => by rw [e96] at hy; omega, fun w1 => s_day (fun y2 hy2 => ⟨fun w2 => by omega, fun w2 => s_day (fun y3 hy3 => ⟨fun w3 => by omega, fun w3 => s_in (fun y4 hy4 => ⟨fun w4 => zX9_sum_34 (r_meas B1 (fun e => ⟨fun q => absurd q (by decide), fun q => g0 (by rw [← e96]; exact e)⟩) (fun x e hl => ⟨fun q => zX9_sum_50 ?_, fun q => by omega⟩)), fun w4 => by omega⟩)⟩)⟩)⟩)))
    refine r_name B1 (by rw [e96]; exact hw) hl hd (fun h2 f2 n2 => ?_)
    rw [e96] at e hl n2
    have nb := nm1_b (rB_inv I) (Or.inl rfl : (-1 : Int) = -1 ∨ _) hw hl hd
    have e2 : h2.2 96 = h.2 96 := (fR_96 f2).trans e96
    rw [x32_id (by omega) (by omega), show 4 + (k : Int) = ((3 + k : Nat) : Int) + 1 by omega]
    refine r_sumOf (by rw [e2]; exact (rB_inv I).1) (by omega) nb.2.2.2 n2 (fun h3 g3 g4 => ?_)
    rw [e2]
    exact g1 x h3 e hl (fR_trans f2 (fR_of g3 g4))
  refine s_weigh Z hw hd (fun e => ⟨fun _ => zX8_sum_68 (go (fB_refl h) (fun _ => ⟨rfl, I⟩) (fun x h2 e2 => by omega)), fun q => absurd rfl q⟩) (fun x h1 e hx f n1 s1 => ⟨fun q => absurd q (by decide), fun _ => ?_⟩)
  have e96 := fB_96 f
  have nb := nm1_b (rB_inv I) (Or.inl rfl : (-1 : Int) = -1 ∨ _) hw hx hd
  rw [x32_id (by omega) (by omega), show 3 + (k : Int) = ((3 + k : Nat) : Int) by omega]
  refine s_amount (fB_zB f Z) (by omega) nb.2.2.2 n1 (fun h2 g1 g2 => ?_)
  have f2 := fB_trans f (fB_of77 g1 g2)
  rw [e96]
  refine go f2 (fun e2 => by omega) (fun x2 h3 e2 hx2 f3 => ?_)
  have : x2 = x := by omega
  subst this
  exact ⟨rfl, fR_inv f3 (fB_inv f2 I)⟩
/-- a web's need -/
def nd (A : Nat → Int) (web : Nat) : Int := if mO A web (A 0) (A 0) < 0 then 0 else (nm1 A (-1) web (A 0) (mO A web (A 0) (A 0)).toNat 0 * nm1 A (-1) web (A 0) (mO A web (A 0) (A 0)).toNat 2 * nm1 A (-1) web (A 0) (mO A web (A 0) (A 0)).toNat 1).tdiv 1000 + 1
theorem nd_m {a b c : Int} (ha : 0 ≤ a ∧ a ≤ 240) (hb : 1 ≤ b ∧ b ≤ 60) (hc : 0 ≤ c ∧ c ≤ 123) : (0 ≤ a * b ∧ a * b ≤ 14400) ∧ (0 ≤ a * b * c ∧ a * b * c ≤ 1771200) ∧ (0 ≤ (a * b * c).tdiv 1000 ∧ (a * b * c).tdiv 1000 ≤ 1771) := by
  have m1 : 0 ≤ a * b := Int.mul_nonneg ha.1 (by omega)
  have m2 : a * b ≤ 240 * 60 := Int.mul_le_mul ha.2 hb.2 (by omega) (by omega)
  have m3 : 0 ≤ a * b * c := Int.mul_nonneg m1 hc.1
  have m4 : a * b * c ≤ 14400 * 123 := Int.mul_le_mul (by omega) hc.2 hc.1 (by omega)
  rw [Int.tdiv_eq_ediv_of_nonneg m3]
  omega
theorem nd_b {A : Nat → Int} (B : rB A) {web : Nat} (hw : (web : Int) < A 4) : 0 ≤ nd A web ∧ nd A web ≤ 1772 := by
  unfold nd
  rcases mO_c B.2.2.1.2.2.2.1 web (A 0) (A 0) with e | ⟨x, e1, e2, -⟩
  · rw [e, if_pos (by decide)]; omega
  · rw [e1, if_neg (by omega), show ((x : Int)).toNat = x by omega]
    have nb := nm1_b B (Or.inl rfl : (-1 : Int) = -1 ∨ _) hw e2 B.2.1
    have := nd_m nb.1 nb.2.2.1 nb.2.1
    omega
/-- the class's: the length is named by it -/
theorem s_needOf {g : xG} {D : Nat} {h : xH} {web : Nat} {Q : Int → xH → Prop} (b : zB h (-1)) (hw : (web : Int) < h.2 96 4) (hQ : ∀ h', fB h h' → (∀ x : Nat, mO (h.2 96) web (h.2 96 0) (h.2 96 0) = (x : Int) → h'.2 76 12 = h.2 96 (404 + 8 * x)) → Q (nd (h.2 96) web) h') : zSi g (D + 6) mX1_needOf [xr 75, xi web] h Q := by
  have hday : h.2 17 14 = h.2 96 0 := b.2.2.1.2.1.2.1
  have B := rB_zB b
  unfold nd at hQ
  refine eX1_needOf (zX1_needOf_0 ?_)
  rw [hday]
  refine s_weigh b hw B.2.1 (fun e => ?_) (fun x h1 e hx f n1 s1 => ?_)
  · rw [e, if_pos (by decide)] at hQ
    exact ⟨fun q => absurd rfl q, fun _ => hQ h (fB_refl h) (fun x hx => by omega)⟩
  · rw [e, if_neg (by omega), show ((x : Int)).toNat = x by omega] at hQ
    have nb := nm1_b B (Or.inl rfl : (-1 : Int) = -1 ∨ _) hw hx B.2.1
    have n0 : h1.2 76 10 = _ := n1 0 (by decide)
    have n2 : h1.2 76 12 = _ := n1 2 (by decide)
    have n3 : h1.2 76 11 = _ := n1 1 (by decide)
    refine ⟨fun _ => zX1_needOf_24 (s_named (i := 10) (by decide) (s_named (i := 12) (by decide) (s_named (i := 11) (by decide) ⟨by decide, ?_⟩))), fun q => absurd q (by decide)⟩
    rw [n0, n2, n3]
    have m := nd_m nb.1 nb.2.2.1 nb.2.1
    rw [x32_id (show -2147483648 ≤ nm1 (h.2 96) (-1) web (h.2 96 0) x 0 * nm1 (h.2 96) (-1) web (h.2 96 0) x 2 by omega) (by omega), x32_id (show -2147483648 ≤ nm1 (h.2 96) (-1) web (h.2 96 0) x 0 * nm1 (h.2 96) (-1) web (h.2 96 0) x 2 * nm1 (h.2 96) (-1) web (h.2 96 0) x 1 by omega) (by omega), x32_id (show -2147483648 ≤ (nm1 (h.2 96) (-1) web (h.2 96 0) x 0 * nm1 (h.2 96) (-1) web (h.2 96 0) x 2 * nm1 (h.2 96) (-1) web (h.2 96 0) x 1).tdiv 1000 by omega) (by omega), x32_id (by omega) (by omega)]
    refine hQ h1 f (fun x2 hx2 => ?_)
    have : x2 = x := by omega
    subst this
    rw [n2]; rfl
theorem r_needOf {g : xG} {D : Nat} {h : xH} {web : Nat} {Q : Int → xH → Prop} (B : rB (h.2 96)) (hw : (web : Int) < h.2 96 4) (hQ : ∀ h', fR h h' → Q (nd (h.2 96) web) h') : zSi g (D + 5) mX9_needOf [xr 95, xi web] h Q := by
  unfold nd at hQ
  refine eX9_needOf (zX9_needOf_0 (r_meas B (fun e => ?_) (fun x e hx => ?_)))
  · rw [e, if_pos (by decide)] at hQ
    exact ⟨fun q => absurd q (by decide), fun _ => hQ h (fR_refl h)⟩
  · rw [e, if_neg (by omega), show ((x : Int)).toNat = x by omega] at hQ
    have nb := nm1_b B (Or.inl rfl : (-1 : Int) = -1 ∨ _) hw hx B.2.1
    refine ⟨fun _ => zX9_needOf_24 (r_name B hw hx B.2.1 (fun h1 f n1 => ⟨by decide, ?_⟩)), fun q => by omega⟩
    rw [n1 0 (by decide), n1 1 (by decide), n1 2 (by decide)]
    have m := nd_m nb.1 nb.2.2.1 nb.2.1
    rw [x32_id (show -2147483648 ≤ nm1 (h.2 96) (-1) web (h.2 96 0) x 0 * nm1 (h.2 96) (-1) web (h.2 96 0) x 2 by omega) (by omega), x32_id (show -2147483648 ≤ nm1 (h.2 96) (-1) web (h.2 96 0) x 0 * nm1 (h.2 96) (-1) web (h.2 96 0) x 2 * nm1 (h.2 96) (-1) web (h.2 96 0) x 1 by omega) (by omega), x32_id (show -2147483648 ≤ (nm1 (h.2 96) (-1) web (h.2 96 0) x 0 * nm1 (h.2 96) (-1) web (h.2 96 0) x 2 * nm1 (h.2 96) (-1) web (h.2 96 0) x 1).tdiv 1000 by omega) (by omega), x32_id (by omega) (by omega)]
    exact hQ h1 f
theorem op_need {g : xG} {D : Nat} {h : xH} {a : Int} (I : zInv h) : zSi g (D + 7) mX8_need [xr 16, xi a] h (fun x h1 => zSi g (D + 7) mX9_need [xr 95, xi a] h1 (fun y h2 => x = y ∧ zInv h2)) := by
  refine zS_sh (fun hs => ?_)
  have Z := zB_of hs I
  have hz : 0 ≤ h.2 96 4 ∧ h.2 96 4 ≤ 50 := I.1.1.2.2.2.2.2.2 3 (by decide) (by decide)
  have hsz : h.2 24 3 = h.2 96 4 := ((I.2.2.1.1 3 (by decide)) (by decide)).1
  have R : pR h 24 25 50 1 := z_R hs rfl rfl rfl rfl rfl (by decide)
  refine eX8_need (zX8_need_0 (s_has R.1 (fun x hx => ⟨fun z => zX8_need_25 (eX9_need (zX9_need_0 (s_isWeb hz (fun y hy => ⟨fun w => zX9_need_16 ⟨rfl, I⟩, fun w => by omega⟩)))), fun z => ?_⟩)))
  obtain ⟨w, rfl⟩ : ∃ w : Nat, a = (w : Int) := ⟨a.toNat, by omega⟩
  have hw : (w : Int) < h.2 96 4 := by omega
  refine s_needOf Z hw (fun h1 f _ => ?_)
  have e96 := fB_96 f
  have I1 := fB_inv f I
  refine eX9_need (zX9_need_0 (s_isWeb (by rw [e96]; exact hz) (fun y hy => ⟨fun q => by rw [e96] at hy; omega, fun q => r_needOf (rB_inv I1) (by rw [e96]; exact hw) (fun h2 f2 => ?_)⟩)))
  rw [e96]
  exact ⟨rfl, fR_inv f2 I1⟩
