/-! words, numbers, signs, the split -/
section SP2
variable {g : xG} {D : Nat} {h : xH} {b : Nat → Int} {n : Nat}
theorem l_wend {q R : Nat} {Q : Int → xH → Prop} (Z : cB h b n) (kk : zJ g (D + 5) 67 0 0 31 [xr 43, xi q, xi R, xu, xu] [] h (x_qi Q)) : ∀ (m e : Nat) {w4 : xV}, e + m = n → q ≤ e → ru isLt b n e = R → zJ g (D + 5) 67 0 0 4 [xr 43, xi q, xi e, xi ((e : Int) - q), w4] [] h (x_qi Q) := by
  have ow := Z.2.1
  have fin : ∀ {w3 w4 : xV}, zJ g (D + 5) 67 0 0 31 [xr 43, xi q, xi R, w3, w4] [] h (x_qi Q) := fun {w3 w4} => zj_mask [true, true, true, false, false] kk
  intro m
  induction m with
  | zero =>
    intro e w4 e1 e2 e3
    have : R = e := by rw [← e3]; exact ru_n (fun z => by omega)
    subst this
    refine zX6_addWord_4 ⟨fun _ => fin, fun _ => s_byteAt Z (s_isLetter ?_)⟩
    rw [cv_lt Z.2.2.1, if_neg (fun y => by have := lt_n Z.2.2.1 y; omega)]
    exact ⟨fun _ => fin, fun z => absurd rfl z⟩
  | succ m ih =>
    intro e w4 e1 e2 e3
    refine zX6_addWord_4 ⟨fun z => by omega, fun _ => s_byteAt Z (s_isLetter ?_)⟩
    rw [cv_lt Z.2.2.1]
    by_cases y : isLt (b e) = true
    · rw [if_pos y]
      refine ⟨fun z => absurd z (by decide), fun _ => ?_⟩
      rw [x32_id (by omega) (by omega), x32_id (by omega) (by omega), show (e : Int) + 1 = ((e + 1 : Nat) : Int) by omega, show (e : Int) - q + 1 = ((e + 1 : Nat) : Int) - q by omega]
      exact ih (e + 1) (by omega) (by omega) (by rw [← ru_y (by omega) y]; exact e3)
    · rw [if_neg y]
      have : R = e := by
        rw [← e3]
        refine ru_n (fun z => ?_)
        cases q2 : isLt (b e)
        · rfl
        · exact absurd q2 y
      subst this
      exact ⟨fun _ => fin, fun z => absurd rfl z⟩
theorem l_wkl {q R : Nat} {Q : Int → xH → Prop} (Z : cB h b n) (hq : q ≤ R) (hR : R ≤ n) (hl : ∀ i, i < R - q → isLt (b (q + i)) = true) (v : Int) (hv : v = if R - q ≤ 6 then wdl (fun i => b (q + i)) (R - q) else 0) : ∀ (m k : Nat), k + m = 21 → zJ g (D + 5) 67 0 0 72 [xr 43, xi q, xi R, xi (if ff (fun i => decide (wvl.getD i 0 = v)) m k = -1 then 37 else ff (fun i => decide (wvl.getD i 0 = v)) m k), xu] [] h (x_qi Q) → zJ g (D + 5) 67 0 0 37 [xr 43, xi q, xi R, xi 37, xi k] [] h (x_qi Q)
  | 0, k, e, kk => by
    refine zX6_addWord_37 ⟨fun _ => ?_, fun z => by omega⟩
    exact zj_mask [true, true, true, true, false] kk
  | m + 1, k, e, kk => by
    have ow := Z.2.1
    have wi := word_iff (w := k) (l := R - q) (c := fun i => b (q + i)) (by omega) hl
    rw [← hv] at wi
    refine zX6_addWord_37 ⟨fun z => by omega, fun _ => ⟨fun z => absurd rfl z, fun _ => ?_⟩⟩
    rw [x32_id (by omega) (by omega), show (R : Int) - q = ((R - q : Nat) : Int) by omega]
    refine s_isWord Z (by omega) (by omega) (fun y => ⟨fun z => absurd z (by decide), fun _ => ?_⟩) (fun y => ⟨fun _ => zX6_addWord_66 ?_, fun z => absurd rfl z⟩)
    · have e1 := wi.mp y
      have e2 : ff (fun i => decide (wvl.getD i 0 = v)) (m + 1) k = (k : Int) := by unfold ff; rw [if_pos (by simp only [decide_eq_true_eq]; exact e1.symm)]
      rw [e2, if_neg (by omega)] at kk
      rw [x32_id (by omega) (by omega)]
      have k2 : ∀ {w4 : xV}, zJ g (D + 5) 67 0 0 72 [xr 43, xi q, xi R, xi k, w4] [] h (x_qi Q) := fun {w4} => zj_mask [true, true, true, true, false] kk
      exact zX6_addWord_37 ⟨fun _ => k2, fun _ => ⟨fun _ => k2, fun z => by omega⟩⟩
    · have e1 : ¬ wvl.getD k 0 = v := fun z => y (wi.mpr z.symm)
      have e2 : ff (fun i => decide (wvl.getD i 0 = v)) (m + 1) k = ff (fun i => decide (wvl.getD i 0 = v)) m (k + 1) := by
        show (if decide (wvl.getD k 0 = v) = true then (k : Int) else ff (fun i => decide (wvl.getD i 0 = v)) m (k + 1)) = _
        rw [if_neg (by simp only [decide_eq_true_eq]; exact e1)]
      rw [e2] at kk
      rw [x32_id (by omega) (by omega), show (k : Int) + 1 = ((k + 1 : Nat) : Int) by omega]
      exact l_wkl Z hq hR hl v hv m (k + 1) (by omega) kk
theorem s_addWord {q t : Nat} {Q : Int → xH → Prop} (Z : cB h b n) (hq : q < n) (hl : isLt (b q) = true) (ht : h.2 43 5 = (t : Int)) (h3 : t < 301) (hQ : ∀ h1, aTk h t (kd b n q) q 0 h1 → Q (nx b n q) h1) : zSi g (D + 5) mX6_addWord [xr 43, xi q] h Q := by
  have rb := ru_b (P := isLt) (b := b) (n := n) (p := q) (by omega)
  have ek : kd b n q = wk (wl b n q) := by unfold kd; rw [if_neg (by omega), if_pos hl]
  have en : nx b n q = ru isLt b n q := by unfold nx; rw [if_neg (by omega), if_pos hl]
  refine eX6_addWord (zX6_addWord_0 ?_)
  have r := l_wend (g := g) (D := D) (q := q) (R := ru isLt b n q) (Q := Q) Z (zX6_addWord_31 (l_wkl Z rb.1 rb.2.1 (fun i hi => rb.2.2.2 (q + i) (by omega) (by omega)) (wl b n q) rfl 21 0 rfl (zX6_addWord_72 ?_))) (n - q) q (w4 := xu) (by omega) (Nat.le_refl _) rfl
  · rw [show (q : Int) - q = 0 by omega] at r
    exact r
  · refine s_addToken ht h3 (fun h1 a => ?_)
    have := hQ h1 (by rw [ek]; exact a)
    rw [en] at this
    exact this
theorem l_num {q R : Nat} {Q : Int → xH → Prop} (Z : cB h b n) (hR : R ≤ n) (hl : ∀ i, i < R - q → isDg (b (q + i)) = true) (hn : R < n → isDg (b R) = false) (kk : zJ g (D + 5) 69 0 0 55 [xr 43, xi q, xi R, xi (nvC (fun i => b (q + i)) (R - q)), xu] [] h (x_qi Q)) : ∀ (m e : Nat), e + m = R → q ≤ e → zJ g (D + 5) 69 0 0 7 [xr 43, xi q, xi e, xi (nvC (fun i => b (q + i)) (e - q)), xi ((e : Int) - q)] [] h (x_qi Q)
  | 0, e, e1, e2 => by
    have ow := Z.2.1
    have : e = R := by omega
    subst this
    have fin : ∀ {w4 : xV}, zJ g (D + 5) 69 0 0 55 [xr 43, xi q, xi e, xi (nvC (fun i => b (q + i)) (e - q)), w4] [] h (x_qi Q) := fun {w4} => zj_mask [true, true, true, true, false] kk
    refine zX6_addNumber_7 ⟨fun _ => fin, fun _ => s_byteAt Z (s_isDigit ?_)⟩
    rw [cv_dg Z.2.2.1, if_neg (fun y => by have := dg_n Z.2.2.1 y; rw [hn this] at y; cases y)]
    exact ⟨fun _ => fin, fun z => absurd rfl z⟩
  | m + 1, e, e1, e2 => by
    have ow := Z.2.1
    have y : isDg (b e) = true := by have := hl (e - q) (by omega); rw [show q + (e - q) = e by omega] at this; exact this
    have yb := isDg_iff.mp y
    have nb := nv_eq (c := fun i => b (q + i)) (e - q) (fun i hi => hl i (by omega))
    refine zX6_addNumber_7 ⟨fun z => by omega, fun _ => s_byteAt Z (s_isDigit ?_)⟩
    rw [cv_dg Z.2.2.1, if_pos y]
    refine ⟨fun z => absurd z (by decide), fun _ => s_byteAt Z ?_⟩
    rw [cv_y (by omega)]
    have ev : min 10000 (x32 ((x32 ((x32 ((nvC (fun i => b (q + i)) (e - q)) * 10)) + b e)) - 48)) = nvC (fun i => b (q + i)) (e + 1 - q) := by
      rw [x32_id (x := nvC (fun i => b (q + i)) (e - q) * 10) (by omega) (by omega), x32_id (x := nvC (fun i => b (q + i)) (e - q) * 10 + b e) (by omega) (by omega), x32_id (by omega) (by omega), show e + 1 - q = (e - q) + 1 by omega]
      show _ = min 10000 (nvC (fun i => b (q + i)) (e - q) * 10 + b (q + (e - q)) - 48)
      rw [show q + (e - q) = e by omega]
    rw [ev, x32_id (by omega) (by omega), x32_id (by omega) (by omega), show (e : Int) + 1 = ((e + 1 : Nat) : Int) by omega, show (e : Int) - q + 1 = ((e + 1 : Nat) : Int) - q by omega]
    exact l_num Z hR hl hn kk m (e + 1) (by omega) (by omega)
theorem s_addNumber {q t : Nat} {Q : Int → xH → Prop} (Z : cB h b n) (hq : q < n) (hl : isLt (b q) = false) (hd : isDg (b q) = true) (ht : h.2 43 5 = (t : Int)) (h3 : t < 301) (hQ : ∀ h1, aTk h t (kd b n q) q (nb b n q) h1 → Q (nx b n q) h1) : zSi g (D + 5) mX6_addNumber [xr 43, xi q] h Q := by
  have rb := ru_b (P := isDg) (b := b) (n := n) (p := q) (by omega)
  have ek : kd b n q = 35 := by unfold kd; rw [if_neg (by omega), if_neg (by rw [hl]; decide), if_pos hd]
  have en : nx b n q = ru isDg b n q := by unfold nx; rw [if_neg (by omega), if_neg (by rw [hl]; decide), if_pos hd]
  refine eX6_addNumber (zX6_addNumber_0 ?_)
  have r := l_num (g := g) (D := D) (q := q) (R := ru isDg b n q) (Q := Q) Z rb.2.1 (fun i hi => rb.2.2.2 (q + i) (by omega) (by omega)) rb.2.2.1 (zX6_addNumber_55 ?_) (ru isDg b n q - q) q (by omega) (Nat.le_refl _)
  · rw [show (q : Int) - q = 0 by omega, show q - q = 0 by omega] at r
    exact r
  · refine s_addToken ht h3 (fun h1 a => ?_)
    have := hQ h1 (by rw [ek]; exact a)
    rw [en] at this
    exact this
theorem ixs_sgn : ∀ c : Nat, c < 256 → (if ixs c 12 0 < 0 then 37 else 21 + ixs c 12 0) = sgn c 0 ∧ -1 ≤ ixs c 12 0 ∧ ixs c 12 0 < 12 ∧ x_i2c c = c := by decide +kernel
theorem sgn_2 {c d : Int} : (sgn c 0 = 21 ↔ c = 60) ∧ (sgn c 0 = 22 ↔ c = 62) ∧ (c ≠ 60 → c ≠ 62 → sgn c d = sgn c 0) ∧ (d ≠ 61 → sgn c d = sgn c 0) ∧ sgn 60 61 = 33 ∧ sgn 62 61 = 34 := by
  refine ⟨?_, ?_, fun h1 h2 => ?_, fun h1 => ?_, by decide, by decide⟩
  · unfold sgn
    constructor
    · intro h
      repeat' split at h
      all_goals first | assumption | omega
    · intro h; subst h; decide
  · unfold sgn
    constructor
    · intro h
      repeat' split at h
      all_goals first | assumption | omega
    · intro h; subst h; decide
  · unfold sgn
    rw [if_neg h1, if_neg h2, if_neg h1, if_neg h2]
  · unfold sgn
    rw [if_neg h1, if_neg h1]
    rfl
theorem s_addSign {q t : Nat} {Q : Int → xH → Prop} (Z : cB h b n) (hq : q < n) (hl : isLt (b q) = false) (hd : isDg (b q) = false) (ht : h.2 43 5 = (t : Int)) (h3 : t < 301) (hQ : ∀ h1, aTk h t (kd b n q) q 0 h1 → Q (nx b n q) h1) : zSi g (D + 5) mX6_addSign [xr 43, xi q] h Q := by
  have ow := Z.2.1
  obtain ⟨c, hc⟩ : ∃ c : Nat, b q = (c : Int) := ⟨(b q).toNat, by have := Z.2.2.1.1 q hq; omega⟩
  have cb : c < 256 := by have := Z.2.2.1.1 q hq; omega
  obtain ⟨i1, i2, i3, i4⟩ := ixs_sgn c cb
  obtain ⟨g1, g2, g3, g4, g5, g6⟩ := sgn_2 (c := (c : Int)) (d := b (q + 1))
  have ek : kd b n q = sgn c (b (q + 1)) := by unfold kd; rw [if_neg (by omega), if_neg (by rw [hl]; decide), if_neg (by rw [hd]; decide), hc]
  have en : nx b n q = if ((c : Int) = 60 ∨ (c : Int) = 62) ∧ b (q + 1) = 61 then q + 2 else q + 1 := by unfold nx; rw [if_neg (by omega), if_neg (by rw [hl]; decide), if_neg (by rw [hd]; decide), hc]
  -- the end
  have fin : ∀ {w2 : xV} (lg : Int) , (lg = 1 ∧ ((c : Int) = 60 ∨ (c : Int) = 62) ∧ b (q + 1) = 61) ∨ (lg = 0 ∧ ¬ (((c : Int) = 60 ∨ (c : Int) = 62) ∧ b (q + 1) = 61)) → zJ g (D + 5) 70 0 0 82 [xr 43, xi q, w2, xi (kd b n q), xi lg] [] h (x_qi Q) := by
    intro w2 lg hlg
    refine z_blk (M := 70) (by decide) (by decide +kernel) [(0, (.aload_n 0, 1, (0, 0, 0, 0))), (0, (.iload_n 3, 1, (3, 0, 0, 0))), (0, (.iload_n 1, 1, (1, 0, 0, 0))), (0, (.iconst 0, 1, (0, 0, 0, 0))), (1, (.invokevirtual 51, 3, (62, 6, 3, 0))), (0, (.iload 4, 2, (4, 0, 0, 0))), (0, (.ifCond .eq 9, 3, (100, 0, 0, 0))), (0, (.iload_n 1, 1, (1, 0, 0, 0))), (0, (.iconst 2, 1, (0, 0, 0, 0))), (0, (.iadd, 1, (0, 0, 0, 0))), (0, (.goto 6, 3, (103, 0, 0, 0))), (0, (.ireturn, 1, (0, 0, 0, 0)))] (by decide +kernel) ?_
    show zSv g (D + 4) mX6_addToken [xr 43, xi (kd b n q), xi q, xi 0] h (fun h1 => (lg = 0 → zJ g (D + 5) 70 0 0 100 [xr 43, xi q, w2, xi (kd b n q), xi lg] [] h1 (x_qi Q)) ∧ (¬ lg = 0 → Q (x32 ((q : Int) + 2)) h1))
    refine s_addToken ht h3 (fun h1 a => ?_)
    have hq1 := hQ h1 a
    rw [en] at hq1
    refine ⟨fun z => ?_, fun z => ?_⟩
    · refine z_blk (M := 70) (by decide) (by decide +kernel) [(0, (.iload_n 1, 1, (1, 0, 0, 0))), (0, (.iconst 1, 1, (0, 0, 0, 0))), (0, (.iadd, 1, (0, 0, 0, 0))), (0, (.ireturn, 1, (0, 0, 0, 0)))] (by decide +kernel) ?_
      show Q (x32 ((q : Int) + 1)) h1
      rw [if_neg (by omega)] at hq1
      rw [x32_id (by omega) (by omega)]
      exact hq1
    · rw [if_pos (by omega)] at hq1
      rw [x32_id (by omega) (by omega)]
      exact hq1
  have k79 : ∀ {w2 w4 : xV}, sgn c 0 = kd b n q → ¬ (((c : Int) = 60 ∨ (c : Int) = 62) ∧ b (q + 1) = 61) → zJ g (D + 5) 70 0 0 79 [xr 43, xi q, w2, xi (sgn c 0), w4] [] h (x_qi Q) := by
    intro w2 w4 e1 e2
    refine z_blk (M := 70) (by decide) (by decide +kernel) [(0, (.iconst 0, 1, (0, 0, 0, 0))), (0, (.istore 4, 2, (4, 0, 0, 0)))] (by decide +kernel) ?_
    rw [e1]
    exact fin 0 (Or.inr ⟨rfl, e2⟩)
  have k62 : ∀ {a2 : Int} {lg : Int}, (lg = 1 ∧ b (q + 1) = 61 ∧ (c : Int) ≠ 60) ∨ (lg = 0 ∧ ¬ b (q + 1) = 61) → zJ g (D + 5) 70 0 0 62 [xr 43, xi q, xi a2, xi (sgn c 0), xi lg] [] h (x_qi Q) := by
    intro a2 lg hlg
    refine z_blk (M := 70) (by decide) (by decide +kernel) [(0, (.iload 4, 2, (4, 0, 0, 0))), (0, (.ifCond .eq 15, 3, (79, 0, 0, 0))), (0, (.iload_n 3, 1, (3, 0, 0, 0))), (0, (.bipush 22, 2, (0, 0, 0, 0))), (0, (.if_icmp .ne 9, 3, (79, 0, 0, 0))), (0, (.bipush 34, 2, (0, 0, 0, 0))), (0, (.istore_n 3, 1, (3, 0, 0, 0))), (0, (.goto 6, 3, (82, 0, 0, 0)))] (by decide +kernel) ?_
    show (lg = 0 → zJ g (D + 5) 70 0 0 79 [xr 43, xi q, xi a2, xi (sgn c 0), xi lg] [] h (x_qi Q)) ∧ (¬ lg = 0 → (¬ sgn c 0 = 22 → zJ g (D + 5) 70 0 0 79 [xr 43, xi q, xi a2, xi (sgn c 0), xi lg] [] h (x_qi Q)) ∧ (sgn c 0 = 22 → zJ g (D + 5) 70 0 0 82 [xr 43, xi q, xi a2, xi 34, xi lg] [] h (x_qi Q)))
    refine ⟨fun z => ?_, fun z => ⟨fun z2 => ?_, fun z2 => ?_⟩⟩
    · have y : ¬ b (q + 1) = 61 := by omega
      exact k79 (by rw [ek]; exact (g4 y).symm) (fun x => y x.2)
    · have y : b (q + 1) = 61 ∧ (c : Int) ≠ 60 := by omega
      have y2 : (c : Int) ≠ 62 := fun x => z2 (g2.mpr x)
      exact k79 (by rw [ek]; exact (g3 y.2 y2).symm) (fun x => by omega)
    · have y : lg = 1 ∧ b (q + 1) = 61 := by omega
      have y2 := g2.mp z2
      have : kd b n q = 34 := by rw [ek, y2, y.2]; exact g6
      rw [← this]
      exact fin lg (Or.inl ⟨y.1, Or.inr y2, y.2⟩)
  have k43 : ∀ {a2 : Int} {w4 : xV} {lg : Int}, (lg = 1 ∧ b (q + 1) = 61) ∨ (lg = 0 ∧ ¬ b (q + 1) = 61) → zJ g (D + 5) 70 0 0 43 [xr 43, xi q, xi a2, xi (sgn c 0), w4] [xi lg] h (x_qi Q) := by
    intro a2 w4 lg hlg
    refine z_blk (M := 70) (by decide) (by decide +kernel) [(0, (.istore 4, 2, (4, 0, 0, 0))), (0, (.iload 4, 2, (4, 0, 0, 0))), (0, (.ifCond .eq 15, 3, (62, 0, 0, 0))), (0, (.iload_n 3, 1, (3, 0, 0, 0))), (0, (.bipush 21, 2, (0, 0, 0, 0))), (0, (.if_icmp .ne 9, 3, (62, 0, 0, 0))), (0, (.bipush 33, 2, (0, 0, 0, 0))), (0, (.istore_n 3, 1, (3, 0, 0, 0))), (0, (.goto 23, 3, (82, 0, 0, 0)))] (by decide +kernel) ?_
    show (lg = 0 → zJ g (D + 5) 70 0 0 62 [xr 43, xi q, xi a2, xi (sgn c 0), xi lg] [] h (x_qi Q)) ∧ (¬ lg = 0 → (¬ sgn c 0 = 21 → zJ g (D + 5) 70 0 0 62 [xr 43, xi q, xi a2, xi (sgn c 0), xi lg] [] h (x_qi Q)) ∧ (sgn c 0 = 21 → zJ g (D + 5) 70 0 0 82 [xr 43, xi q, xi a2, xi 33, xi lg] [] h (x_qi Q)))
    refine ⟨fun z => k62 (by omega), fun z => ⟨fun z2 => k62 (Or.inl ?_), fun z2 => ?_⟩⟩
    · rcases hlg with y | y
      · exact ⟨y.1, y.2, fun x => z2 (g1.mpr x)⟩
      · omega
    · have y : lg = 1 ∧ b (q + 1) = 61 := by omega
      have y2 := g1.mp z2
      have : kd b n q = 33 := by rw [ek, y2, y.2]; exact g5
      rw [← this]
      exact fin lg (Or.inl ⟨y.1, Or.inl y2, y.2⟩)
  have k25 : ∀ {a2 : Int} {w3 w4 : xV}, zJ g (D + 5) 70 0 0 25 [xr 43, xi q, xi a2, w3, w4] [xi (sgn c 0)] h (x_qi Q) := by
    intro a2 w3 w4
    refine z_blk (M := 70) (by decide) (by decide +kernel) [(0, (.istore_n 3, 1, (3, 0, 0, 0))), (0, (.aload_n 0, 1, (0, 0, 0, 0))), (0, (.iload_n 1, 1, (1, 0, 0, 0))), (0, (.iconst 1, 1, (0, 0, 0, 0))), (0, (.iadd, 1, (0, 0, 0, 0))), (1, (.invokevirtual 31, 3, (63, 6, 0, 0))), (0, (.bipush 61, 2, (0, 0, 0, 0))), (0, (.if_icmp .ne 7, 3, (42, 0, 0, 0))), (0, (.iconst 1, 1, (0, 0, 0, 0))), (0, (.goto 4, 3, (43, 0, 0, 0)))] (by decide +kernel) ?_
    show zSi g (D + 4) mX6_byteAt [xr 43, xi (x32 ((q : Int) + 1))] h (fun x1 h1 => (¬ x1 = 61 → zJ g (D + 5) 70 0 0 42 [xr 43, xi q, xi a2, xi (sgn c 0), w4] [] h1 (x_qi Q)) ∧ (x1 = 61 → zJ g (D + 5) 70 0 0 43 [xr 43, xi q, xi a2, xi (sgn c 0), w4] [xi 1] h1 (x_qi Q)))
    rw [x32_id (by omega) (by omega), show (q : Int) + 1 = ((q + 1 : Nat) : Int) by omega]
    have e61 := cv_61 (p := q + 1) Z.2.2.1
    refine s_byteAt Z ⟨fun z => ?_, fun z => k43 (Or.inl ⟨rfl, e61.mp z⟩)⟩
    refine z_blk (M := 70) (by decide) (by decide +kernel) [(0, (.iconst 0, 1, (0, 0, 0, 0)))] (by decide +kernel) ?_
    exact k43 (Or.inr ⟨rfl, fun y => z (e61.mpr y)⟩)
  refine z_entry (x_mc_ok (by decide +kernel)) (Nat.le_of_ble_eq_true rfl) ?_
  show zJ g (D + 5) 70 0 0 0 [xr 43, xi q, xu, xu, xu] [] h (x_qi Q)
  refine zj_ldcS (t := 1) (by decide +kernel) rfl rfl rfl ?_
  refine z_blk (M := 70) (by decide) (by decide +kernel) [(0, (.aload_n 0, 1, (0, 0, 0, 0))), (0, (.iload_n 1, 1, (1, 0, 0, 0))), (1, (.invokevirtual 31, 3, (63, 6, 0, 0))), (0, (.i2c, 1, (0, 0, 0, 0)))] (by decide +kernel) ?_
  show zSi g (D + 4) mX6_byteAt [xr 43, xi q] h (fun x1 h1 => zJ g (D + 5) 70 0 0 8 [xr 43, xi q, xu, xu, xu] [xi (x_i2c x1), xr 6] h1 (x_qi Q))
  refine s_byteAt Z ?_
  rw [cv_y hq, hc, i4]
  intro hs0
  show xJ g (D + 5) 70 0 0 8 [xr 43, xi q, xu, xu, xu] ([xi (c : Int)].reverse ++ xr (5 + 1) :: []) h (zQ (x_qi Q))
  refine xj_invokeS (i := 78) (M2 := 257) (As := [xi (c : Int)]) (by decide +kernel) (x_mc_ok (by decide +kernel)) (by decide) rfl (x_lk_ok (by decide) (by decide +kernel)) (x_ims_ok (by decide +kernel)) (x_sel_ok (by decide +kernel)) (x_np_ok 257 (by decide)) (Nat.le_refl _) (Nat.le_refl _) (Nat.le_of_ble_eq_true rfl) (k_indexOf (D := D + 1) (by omega) (by omega) ?_)
  show xJ g (D + 5) 70 0 0 11 [xr 43, xi q, xu, xu, xu] [xi (ixs c 12 0)] h (zQ (x_qi Q))
  refine z_blk (M := 70) (by decide) (by decide +kernel) [(0, (.istore_n 2, 1, (2, 0, 0, 0))), (0, (.iload_n 2, 1, (2, 0, 0, 0))), (0, (.ifCond .ge 8, 3, (21, 0, 0, 0))), (0, (.bipush 37, 2, (0, 0, 0, 0))), (0, (.goto 7, 3, (25, 0, 0, 0)))] (by decide +kernel) ?_ hs0
  show (0 ≤ ixs c 12 0 → zJ g (D + 5) 70 0 0 21 [xr 43, xi q, xi (ixs c 12 0), xu, xu] [] h (x_qi Q)) ∧ (ixs c 12 0 < 0 → zJ g (D + 5) 70 0 0 25 [xr 43, xi q, xi (ixs c 12 0), xu, xu] [xi 37] h (x_qi Q))
  refine ⟨fun z => ?_, fun z => ?_⟩
  · rw [if_neg (by omega)] at i1
    refine z_blk (M := 70) (by decide) (by decide +kernel) [(0, (.bipush 21, 2, (0, 0, 0, 0))), (0, (.iload_n 2, 1, (2, 0, 0, 0))), (0, (.iadd, 1, (0, 0, 0, 0)))] (by decide +kernel) ?_
    show zJ g (D + 5) 70 0 0 25 [xr 43, xi q, xi (ixs c 12 0), xu, xu] [xi (x32 (21 + ixs c 12 0))] h (x_qi Q)
    rw [x32_id (by omega) (by omega), i1]
    exact k25
  · rw [if_pos z] at i1
    rw [i1]
    exact k25
/-- the first t tokens are there -/
def tA (h : xH) (b : Nat → Int) (n t : Nat) : Prop := h.2 43 5 = (t : Int) ∧ ∀ i, i < t → h.2 45 i = kt b n i ∧ h.2 46 i = (ps b n i : Int) ∧ (kt b n i = 35 → h.2 47 i = nb b n (ps b n i)) ∧ ps b n i < n
/-- the tape's tokens may change -/
def fT (h h' : xH) : Prop := h'.1 = h.1 ∧ (∀ r, r ≠ 43 → r ≠ 45 → r ≠ 46 → r ≠ 47 → h'.2 r = h.2 r) ∧ ∀ j, j ≠ 5 → h'.2 43 j = h.2 43 j
theorem fT_k {t : Nat} {k p v : Int} {h0 h1 : xH} (f : fT h0 h) (a : aTk h t k p v h1) : fT h0 h1 := ⟨a.1.trans f.1, fun r r1 r2 r3 r4 => (a.2.1 r r1 r2 r3 r4).trans (f.2.1 r r1 r2 r3 r4), fun j hj => (a.2.2.1 j hj).trans (f.2.2 j hj)⟩
theorem tA_k {t : Nat} {v : Int} {h1 : xH} (A : tA h b n t) (a : aTk h t (kt b n t) (ps b n t) v h1) (hv : kt b n t = 35 → v = nb b n (ps b n t)) (hp : ps b n t < n) : tA h1 b n (t + 1) := by
  obtain ⟨-, -, -, a5, a45, a46, a47⟩ := a
  refine ⟨by rw [a5]; omega, fun i hi => ?_⟩
  rw [a45, a46, a47]
  by_cases e : i = t
  · subst e
    rw [if_pos rfl, if_pos rfl, if_pos rfl]
    exact ⟨rfl, rfl, hv, hp⟩
  · rw [if_neg e, if_neg e, if_neg e]
    exact A.2 i (by omega)
/-- all tokens: E of them ahead of the end -/
def tE (h : xH) (b : Nat → Int) (n E : Nat) : Prop := h.2 43 5 = (E : Int) + 1 ∧ E ≤ n ∧ ps b n E = n ∧ (∀ i, i ≤ E → h.2 45 i = kt b n i ∧ h.2 46 i = (ps b n i : Int) ∧ (kt b n i = 35 → h.2 47 i = nb b n (ps b n i))) ∧ ∀ i, i < E → ps b n i < n
theorem l_split {h0 : xH} {Q : xH → Prop} (hQ : ∀ (h1 : xH) (E : Nat), fT h0 h1 → tE h1 b n E → Q h1) : ∀ (m p t s : Nat) {h : xH} {w3 : xV}, p + m = n → s ≤ p → t ≤ p → fT h0 h → cB h b n → tA h b n t → ps b n t = ru isBl b n p → zJ g (D + 6) 66 0 0 9 [xr 43, xi p, xi s, w3] [] h (x_qv Q) := by
  intro m
  induction m using Nat.strongRecOn with
  | ind m ih =>
  intro p t s h w3 e hs ht f Z A hp
  have ow := Z.2.1
  by_cases pe : p = n
  · subst pe
    have hp : ps b p t = p := by rw [hp]; exact ru_n (fun z => by omega)
    have go : ∀ {w3 : xV}, zJ g (D + 6) 66 0 0 92 [xr 43, xi p, xi s, w3] [] h (x_qv Q) := by
      intro w3
      refine zX6_split_92 ?_
      rw [Z.1]
      refine s_addToken A.1 (by omega) (fun h1 a => hQ h1 t (fT_k f a) ?_)
      obtain ⟨-, -, -, a5, a45, a46, a47⟩ := a
      refine ⟨a5, ht, hp, fun i hi => ?_, fun i hi => (A.2 i hi).2.2.2⟩
      rw [a45, a46, a47]
      by_cases e : i = t
      · subst e
        have k36 : kt b p i = 36 := (kd_r b p (ps b p i)).2.2.mpr (by omega)
        rw [if_pos rfl, if_pos rfl, if_pos rfl, k36, hp]
        exact ⟨rfl, rfl, fun z => by omega⟩
      · rw [if_neg e, if_neg e, if_neg e]
        have := A.2 i (by omega)
        exact ⟨this.1, this.2.1, this.2.2.1⟩
    exact zX6_split_9 ⟨fun _ => go, fun _ => ⟨fun _ => go, fun z => by rw [Z.1] at z; omega⟩⟩
  · have pl : p < n := by omega
    refine zX6_split_9 ⟨fun z => by omega, fun _ => ⟨fun z => by rw [Z.1] at z; omega, fun _ => s_byteAt Z ?_⟩⟩
    rw [cv_y pl]
    have bl : isBl (b p) = true → ps b n t = ru isBl b n (p + 1) := fun z => by rw [hp]; exact ru_y pl z
    have st : ¬ isBl (b p) = true → ps b n t = p := fun z => by
      rw [hp]
      refine ru_n (fun _ => ?_)
      cases y : isBl (b p)
      · rfl
      · exact absurd y z
    refine ⟨fun z => zX6_split_42 ?_, fun z1 => ⟨fun z2 => ?_, fun z => ?_⟩⟩
    · rw [x32_id (by omega) (by omega), x32_id (by omega) (by omega), show (p : Int) + 1 = ((p + 1 : Nat) : Int) by omega, show (s : Int) + 1 = ((s + 1 : Nat) : Int) by omega]
      exact ih (m - 1) (by omega) (p + 1) t (s + 1) (by omega) (by omega) (by omega) f Z A (bl (isBl_iff.mpr (Or.inl z)))
    · have hpt := st (fun y => by have := isBl_iff.mp y; omega)
      have nb1 := nx_b (q := p) Z.2.2.1 (by omega)
      have nxt : ∀ {h1 : xH} {v : Int} {w3 : xV}, aTk h t (kd b n p) p v h1 → (kd b n p = 35 → v = nb b n p) → zJ g (D + 6) 66 0 0 9 [xr 43, xi (nx b n p), xi (x32 ((s : Int) + 1)), w3] [] h1 (x_qv Q) := by
        intro h1 v w3 a hv
        rw [x32_id (by omega) (by omega), show (s : Int) + 1 = ((s + 1 : Nat) : Int) by omega]
        refine ih (n - nx b n p) (by omega) (nx b n p) (t + 1) (s + 1) (by omega) (by omega) (by omega) (fT_k f a) (aTk_cB a Z) (tA_k A (v := v) (by show aTk h t (kd b n (ps b n t)) _ _ _; rw [hpt]; exact a) (by show kd b n (ps b n t) = 35 → _; rw [hpt]; exact hv) (by rw [hpt]; exact pl)) ?_
        show ru isBl b n (nx b n (ps b n t)) = _
        rw [hpt]
      have t3 : t < 301 := by omega
      refine zX6_split_48 (s_isLetter ?_)
      cases yl : isLt (b p)
      · refine ⟨fun _ => zX6_split_64 (s_isDigit ?_), fun z => absurd rfl z⟩
        cases yd : isDg (b p)
        · refine ⟨fun _ => zX6_split_80 (s_addSign Z pl yl yd A.1 t3 (fun h1 a => nxt a (fun z => ?_))), fun z => absurd rfl z⟩
          exfalso
          unfold kd at z
          rw [if_neg (by omega), if_neg (by rw [yl]; decide), if_neg (by rw [yd]; decide)] at z
          have := sgn_r (b p) (b (p + 1))
          omega
        · exact ⟨fun z => absurd z (by decide), fun _ => s_addNumber Z pl yl yd A.1 t3 (fun h1 a => nxt a (fun _ => rfl))⟩
      · refine ⟨fun z => absurd z (by decide), fun _ => s_addWord Z pl yl A.1 t3 (fun h1 a => nxt a (fun z => ?_))⟩
        exfalso
        unfold kd at z
        rw [if_neg (by omega), if_pos yl] at z
        have := wk_r (wl b n p)
        omega
    · rw [x32_id (by omega) (by omega), x32_id (by omega) (by omega), show (p : Int) + 1 = ((p + 1 : Nat) : Int) by omega, show (s : Int) + 1 = ((s + 1 : Nat) : Int) by omega]
      exact ih (m - 1) (by omega) (p + 1) t (s + 1) (by omega) (by omega) (by omega) f Z A (bl (isBl_iff.mpr (Or.inr z)))
theorem s_split {Q : xH → Prop} (Z : cB h b n) (hQ : ∀ (h1 : xH) (E : Nat), fT h h1 → tE h1 b n E → Q h1) : zSv g (D + 6) mX6_split [xr 43] h Q := by
  refine eX6_split (zX6_split_0 ?_)
  have u : ∀ r, r ≠ 43 → x_up h.2 43 5 0 r = h.2 r := fun r hr => x_up_r hr
  have u4 : ∀ j, j ≠ 5 → x_up h.2 43 5 0 43 j = h.2 43 j := fun j hj => x_up_j hj
  refine l_split hQ n 0 0 0 (by omega) (Nat.le_refl _) (Nat.le_refl _) ⟨rfl, fun r r1 _ _ _ => u r r1, u4⟩ ⟨?_, Z.2.1, Z.2.2.1, fun p hp => ?_⟩ ⟨show x_up h.2 43 5 0 43 5 = 0 from x_up_eq, fun i hi => by omega⟩ rfl
  · show x_up h.2 43 5 0 43 4 = _
    rw [u4 4 (by decide)]; exact Z.1
  · show x_up h.2 43 5 0 44 p = _
    rw [u 44 (by decide)]; exact Z.2.2.2 p hp
end SP2
