/-! prize -/
theorem zB_mk {h h' : xH} {bs : Int} (b : zB h bs) (hs : zSh h') (h1 : h'.1 = h.1) (hC : ∀ r, (17 ≤ r ∧ r ≤ 40) ∨ r = 42 ∨ r = 96 ∨ 111 ≤ r → h'.2 r = h.2 r) (h3 : h'.2 75 3 = h.2 75 3) : zB h' bs := by
  obtain ⟨b0, b1, b2, b3⟩ := b
  have e96 := hC 96 (by omega)
  refine ⟨hs, by rw [e96]; exact b1, by rw [e96]; exact pCw_congr h1 (fun r hr => hC r (by omega)) b1.1.2.1.2 b2, ?_⟩
  rw [h3, e96, hC 42 (by omega)]
  exact b3
def nmP (A : Nat → Int) (p : Nat) : Nat → Int := fun i => if i = 4 then A (30 + 4 * p) else if i = 6 then A 0 else 0
def mwB (A : Nat → Int) (p : Nat) : Bool := decide (aB A (-1) 2 (A 0) = -1) || !decide (cF A (-1) 2 (A 0) (nmP A p) true = -1)
theorem nmP_ok {A : Nat → Int} (B : rB A) {p : Nat} (hp : (p : Int) < A 2) : nm_ok (nmP A p) := by
  intro i hi
  have b1 := B.2.2.2.2.1 p hp
  have b2 := B.2.1
  have b3 := B.2.2.1
  unfold nmP
  repeat' split
  all_goals omega
section PZ
variable {g : xG} {D : Nat} {h : xH}
theorem l_jfill {Q : xH → Prop} : ∀ (m i : Nat) {h : xH}, zSh h → i + m = 16 → (∀ j, j < i → h.2 76 j = 0) → (∀ h', h'.1 = h.1 → (∀ r, r ≠ 76 → h'.2 r = h.2 r) → (∀ j, j < 16 → h'.2 76 j = 0) → Q h') → zJ g D 276 0 0 5 [xr 76, xi 0, xi i, xi 16] [] h (x_qv Q)
  | 0, i, h, hs, e, h1, hQ => by
    have : i = 16 := by omega
    subst this
    exact zJ7_fill_53178_5 ⟨fun _ => zJ7_fill_53178_20 (hQ h rfl (fun _ _ => rfl) h1), fun z => by omega⟩
  | m + 1, i, h, hs, e, h1, hQ => by
    have k := z_is (h := h) (r := 76) (c := 10) (N := 16) hs rfl
    refine zJ7_fill_53178_5 ⟨fun z => by omega, fun z => ⟨⟨16, k, by omega, by omega⟩, ?_⟩⟩
    rw [x32_id (by omega) (by omega), show ((i : Int)).toNat = i by omega, show (i : Int) + 1 = ((i + 1 : Nat) : Int) by omega]
    refine l_jfill m (i + 1) (z_up hs k (Or.inl (by decide))) (by omega) (fun j hj => ?_) (fun h' k1 k2 k3 => hQ h' k1 (fun r hr => ?_) k3)
    · (try dsimp only)
      rw [x_up_k]
      by_cases ej : j = i
      · rw [if_pos ej]
      · rw [if_neg ej]; exact h1 j (by omega)
    · rw [k2 r hr]; (try dsimp only); rw [x_up_r hr]
theorem s_jfill {Q : xH → Prop} (hs : zSh h) (hQ : ∀ h', h'.1 = h.1 → (∀ r, r ≠ 76 → h'.2 r = h.2 r) → (∀ j, j < 16 → h'.2 76 j = 0) → Q h') : zSv g D mJ7_fill_53178 [xr 76, xi 0] h Q :=
  eJ7_fill_53178 (zJ7_fill_53178_0 ⟨16, z_is hs rfl, l_jfill 16 0 hs rfl (fun j hj => by omega) hQ⟩)
theorem s_mayWin {p : Nat} {Q : Int → xH → Prop} (b : zB h (-1)) (hp : (p : Int) < h.2 96 2) (hQ : ∀ (v : Int) (h' : xH), fB h h' → (v = 1 ∧ mwB (h.2 96) p = true) ∨ (v = 0 ∧ mwB (h.2 96) p = false) → Q v h') : zSi g (D + 4) mX1_mayWin [xr 75, xi p] h Q := by
  have B := rB_zB b
  have b1 := B.2.2.1
  have hday : h.2 17 14 = h.2 96 0 := b.2.2.1.2.1.2.1
  refine eX1_mayWin (zX1_mayWin_0 (s_jfill b.1 (fun h1 k1 k2 k3 => ?_)))
  have f1 : fB h h1 := ⟨k1, fun r _ r2 _ => k2 r r2, fun j _ => by rw [k2 75 (by decide)]⟩
  have hs1 := fB_zSh f1 b.1
  have R : pR h1 20 21 30 3 := z_R hs1 rfl rfl rfl rfl rfl (by decide)
  have c1 : h1.2 21 (p * 3) = h.2 96 (30 + 4 * p) := by rw [k2 21 (by decide)]; exact ((b.2.2.1.1 1 (by decide)) (by decide)).2 p hp (0, 0) (by decide)
  refine eX2_townOf (zX2_townOf_0 (s_get R (by omega) (by omega) (by omega) (by omega) ?_))
  rw [show ((p : Int) * ((3 : Nat) : Int) + 0).toNat = p * 3 by omega, c1]
  refine s_name (i := 14) (by decide) ?_
  have f2 := fB_trans f1 (fB_76 (j := 14) (v := h.2 96 (30 + 4 * p)))
  have d2 : (((h1.1, x_up h1.2 76 14 (h.2 96 (30 + 4 * p))) : xH).2 17 14) = h.2 96 0 := by rw [f2.2.1 17 (by decide) (by decide) (by decide)]; exact hday
  rw [d2]
  refine s_name (i := 15) (by decide) ?_
  have f3 := fB_trans f2 (fB_76 (j := 15) (v := h.2 96 0))
  have nm3 : nmC (h1.1, x_up (x_up h1.2 76 14 (h.2 96 (30 + 4 * p))) 76 15 (h.2 96 0)) (nmP (h.2 96) p) := by
    intro i hi
    show x_up (x_up h1.2 76 14 (h.2 96 (30 + 4 * p))) 76 15 (h.2 96 0) 76 (nIx i) = _
    rw [x_up_k, x_up_k]
    rcases (show i = 0 ∨ i = 1 ∨ i = 2 ∨ i = 3 ∨ i = 4 ∨ i = 5 ∨ i = 6 by omega) with e | e | e | e | e | e | e <;> subst e
    · exact k3 10 (by decide)
    · exact k3 11 (by decide)
    · exact k3 12 (by decide)
    · exact k3 13 (by decide)
    · rfl
    · exact k3 0 (by decide)
    · rfl
  generalize hh3 : ((h1.1, x_up (x_up h1.2 76 14 (h.2 96 (30 + 4 * p))) 76 15 (h.2 96 0)) : xH) = h3 at f3 nm3
  have z3 := fB_zB f3 b
  have e96 := fB_96 f3
  have d3 : h3.2 17 14 = h.2 96 0 := by rw [f3.2.1 17 (by decide) (by decide) (by decide)]; exact hday
  show zSr g (D + 3) mX1_actFor [xr 75, xi 2, xi (h3.2 17 14)] h3 _
  rw [d3]
  refine s_actFor (k := 2) z3 (by decide) (fun e => ⟨fun _ => zX1_mayWin_67 ⟨Or.inr rfl, hQ 1 h3 f3 (Or.inl ⟨rfl, ?_⟩)⟩, fun q => absurd rfl q⟩) (fun t r e hl a hf => ⟨fun q => by have := a.2.1; omega, fun q => ?_⟩)
  · rw [e96] at e
    unfold mwB
    rw [show aB (h.2 96) (-1) 2 (h.2 96 0) = -1 from e]; rfl
  · rw [d3]
    rw [e96] at e
    have ne : ¬ aB (h.2 96) (-1) 2 (h.2 96 0) = -1 := by rw [show aB (h.2 96) (-1) 2 (h.2 96 0) = (t : Int) from e]; omega
    refine s_firstClause (k := 2) (so := true) z3 (by decide) (nmP_ok B hp) nm3 (fun h4 g1 g2 => ?_)
    have f4 := fB_trans f3 (fB_of77 g1 g2)
    rw [e96, show ((2 : Nat) : Int) = 2 from rfl]
    refine ⟨fun q2 => zX1_mayWin_71 ⟨Or.inl rfl, hQ 0 h4 f4 (Or.inr ⟨rfl, ?_⟩)⟩, fun q2 => ⟨Or.inr rfl, hQ 1 h4 f4 (Or.inl ⟨rfl, ?_⟩)⟩⟩
    · unfold mwB; simp [ne, q2]
    · unfold mwB; simp [q2]
theorem r_mayWin {p : Nat} {Q : Int → xH → Prop} (B : rB (h.2 96)) (hp : (p : Int) < h.2 96 2) (hQ : ∀ (v : Int) (h' : xH), fR h h' → (v = 1 ∧ mwB (h.2 96) p = true) ∨ (v = 0 ∧ mwB (h.2 96) p = false) → Q v h') : zSi g (D + 3) mX9_mayWin [xr 95, xi p] h Q := by
  have b1 := B.2.2.1
  refine eX9_mayWin (zX9_mayWin_0 (r_actFor (k := 2) B.1 (fun e => ⟨fun q => absurd q (by decide), fun _ => ⟨Or.inr rfl, hQ 1 h (fR_refl h) (Or.inl ⟨rfl, ?_⟩)⟩⟩) (fun t e hl hf => ⟨fun q => zX9_mayWin_20 ?_, fun q => by omega⟩)))
  · unfold mwB
    rw [show aB (h.2 96) (-1) 2 (h.2 96 0) = -1 from e]; rfl
  · have e : aB (h.2 96) (-1) 2 (h.2 96 0) = (t : Int) := e
    have ne : ¬ aB (h.2 96) (-1) 2 (h.2 96 0) = -1 := by omega
    have b61 := B.1.1
    have hT := B.1.2.2.2 t hl
    have hT0 := hT.1
    have ec : cF (h.2 96) (-1) 2 (h.2 96 0) (nmP (h.2 96) p) true = fC (tx (h.2 96) t) (nmP (h.2 96) p) 2 true := by unfold cF; rw [e, if_neg (by omega), show ((t : Int)).toNat = t by omega]
    have mwe : mwB (h.2 96) p = !decide (fC (tx (h.2 96) t) (nmP (h.2 96) p) 2 true = -1) := by unfold mwB; rw [ec]; simp [ne]
    -- names
    have last : ∀ {h1 : xH} {w4 : xV}, fR h h1 → (∀ i, i < 4 → h1.2 102 i = 0) → zJ g (D + 3) mX9_mayWin 0 0 43 [xr 95, xi p, xi (h.2 96 0), xi t, w4] [] h1 (x_qi Q) := by
      intro h1 w4 f1 z1
      have e1 := fR_96 f1
      refine zX9_mayWin_43 (r_personAt (c := 0) (by omega) (by decide) ?_)
      rw [e1, Nat.add_zero]
      generalize hC : x_up (x_up (x_up h1.2 102 4 (h.2 96 (30 + 4 * p))) 102 5 0) 102 6 (h.2 96 0) = C
      have Co : ∀ r, r ≠ 102 → C r = h1.2 r := fun r hr => by rw [← hC, x_up_r hr, x_up_r hr, x_up_r hr]
      have f2 : fR h (h1.1, C) := ⟨f1.1, fun r r1 r2 r3 => by (try dsimp only); rw [Co r r1]; exact f1.2 r r1 r2 r3⟩
      have n2 : nmR (h1.1, C) (nmP (h.2 96) p) := by
        intro i hi
        show C 102 i = _
        rw [← hC, x_up_k, x_up_k, x_up_k]
        unfold nmP
        rcases (show i = 0 ∨ i = 1 ∨ i = 2 ∨ i = 3 ∨ i = 4 ∨ i = 5 ∨ i = 6 by omega) with e | e | e | e | e | e | e <;> subst e
        · exact z1 0 (by decide)
        · exact z1 1 (by decide)
        · exact z1 2 (by decide)
        · exact z1 3 (by decide)
        · rfl
        · rfl
        · rfl
      generalize hh2 : ((h1.1, C) : xH) = h2 at f2 n2
      show zJ g (D + 3) mX9_mayWin 0 0 73 [xr 95, xi p, xi (h.2 96 0), xi t, xi 0] [] h2 (x_qi Q)
      have e2 := fR_96 f2
      have nok := nmP_ok B hp
      -- clauses
      have L : ∀ (m i : Nat) {h' : xH} {w1 w2 : xV}, (i : Int) + m = tx (h.2 96) t 0 → h'.1 = h2.1 → (∀ r, r ≠ 103 → r ≠ 104 → h'.2 r = h2.2 r) → ff (fun i => decide (tx (h.2 96) t (1 + 12 * i) = 2 + 1) && ((!decide (vC (tx (h.2 96) t) (nmP (h.2 96) p) i = 0)) == true)) m i = fC (tx (h.2 96) t) (nmP (h.2 96) p) 2 true → zJ g (D + 3) mX9_mayWin 0 0 73 [xr 95, w1, w2, xi t, xi i] [] h' (x_qi Q) := by
        intro m
        induction m with
        | zero =>
          intro i h' w1 w2 ei d1 d2 ef
          have e96 : h'.2 96 = h.2 96 := (d2 96 (by decide) (by decide)).trans e2
          refine zX9_mayWin_73 (r_clausesOf (by omega) ?_)
          rw [e96]
          refine ⟨fun _ => zX9_mayWin_131 ⟨Or.inl rfl, hQ 0 h' (fR_trans f2 (fR_of d1 d2)) (Or.inr ⟨rfl, ?_⟩)⟩, fun q => by omega⟩
          rw [mwe, ← ef]; rfl
        | succ m ih =>
          intro i h' w1 w2 ei d1 d2 ef
          have e96 : h'.2 96 = h.2 96 := (d2 96 (by decide) (by decide)).trans e2
          have hi : (i : Int) < tx (h.2 96) t 0 := by omega
          have ef' : (if (decide (tx (h.2 96) t (1 + 12 * i) = 2 + 1) && ((!decide (vC (tx (h.2 96) t) (nmP (h.2 96) p) i = 0)) == true)) = true then (i : Int) else ff (fun i => decide (tx (h.2 96) t (1 + 12 * i) = 2 + 1) && ((!decide (vC (tx (h.2 96) t) (nmP (h.2 96) p) i = 0)) == true)) m (i + 1)) = fC (tx (h.2 96) t) (nmP (h.2 96) p) 2 true := ef
          have next : ∀ {h3 : xH} {w1 w2 : xV}, h3.1 = h2.1 → (∀ r, r ≠ 103 → r ≠ 104 → h3.2 r = h2.2 r) → ¬ ((decide (tx (h.2 96) t (1 + 12 * i) = 2 + 1) && ((!decide (vC (tx (h.2 96) t) (nmP (h.2 96) p) i = 0)) == true)) = true) → zJ g (D + 3) mX9_mayWin 0 0 73 [xr 95, w1, w2, xi t, xi (x32 ((i : Int) + 1))] [] h3 (x_qi Q) := by
            intro h3 w1 w2 a1 a2 hno
            rw [if_neg hno] at ef'
            rw [x32_id (by omega) (by omega), show (i : Int) + 1 = ((i + 1 : Nat) : Int) by omega]
            exact ih (i + 1) (by omega) a1 a2 ef'
          refine zX9_mayWin_73 (r_clausesOf (by omega) ?_)
          rw [e96]
          refine ⟨fun y => by omega, fun y => r_clauseAt (by omega) (by omega) ?_⟩
          rw [show (((2000 + 900 * t + (1 + 12 * i) : Nat) : Int)).toNat = 2000 + 900 * t + (1 + 12 * i) by omega, e96, ← tx_at (A := h.2 96) (t := t) (k := 1 + 12 * i) (by omega)]
          refine ⟨by omega, fun w => zX9_mayWin_102 (r_clauseAt (by omega) (by omega) ?_), fun w => next d1 d2 (by simp only [Bool.and_eq_true, decide_eq_true_eq]; omega)⟩
          refine r_work (by omega) (by rw [e96]; exact hT) (i := i) (by rw [e96]; exact hi) (by rw [e96]; omega) nok (fun i hi => by rw [d2 102 (by decide) (by decide)]; exact n2 i hi) (fun h3 a1 a2 a3 a4 => ?_)
          rw [e96] at a3 a4
          have g1 : h3.1 = h2.1 := a1.trans d1
          have g2 : ∀ r, r ≠ 103 → r ≠ 104 → h3.2 r = h2.2 r := fun r r1 r2 => (a2 r r1 r2).trans (d2 r r1 r2)
          have yk : decide (tx (h.2 96) t (1 + 12 * i) = 2 + 1) = true := by simp only [decide_eq_true_eq]; omega
          rw [a3 (by omega)]
          rw [yk, Bool.true_and] at ef' next
          refine ⟨fun u => zX9_mayWin_125 (next g1 g2 (by simp [u])), fun u => ⟨Or.inr rfl, hQ 1 h3 (fR_trans f2 (fR_of g1 g2)) (Or.inl ⟨rfl, ?_⟩)⟩⟩
          have ev : ((!decide (vC (tx (h.2 96) t) (nmP (h.2 96) p) i = 0)) == true) = true := by simp [u]
          rw [ev, if_pos (rfl : true = true)] at ef'
          rw [mwe, ← ef']
          have : ¬ (i : Int) = -1 := by omega
          simp [this]
      exact L (tx (h.2 96) t 0).toNat 0 (by omega) rfl (fun _ _ _ => rfl) rfl
    have L0 : ∀ (m i : Nat) {h1 : xH}, i + m = 4 → fR h h1 → (∀ j, j < i → h1.2 102 j = 0) → zJ g (D + 3) mX9_mayWin 0 0 23 [xr 95, xi p, xi (h.2 96 0), xi t, xi i] [] h1 (x_qi Q) := by
      intro m
      induction m with
      | zero =>
        intro i h1 ei f1 z1
        have : i = 4 := by omega
        subst this
        exact zX9_mayWin_23 ⟨fun _ => last f1 z1, fun q => by omega⟩
      | succ m ih =>
        intro i h1 ei f1 z1
        refine zX9_mayWin_23 ⟨fun q => by omega, fun q => ⟨by omega, ?_⟩⟩
        rw [x32_id (by omega) (by omega), show ((i : Int)).toNat = i by omega, show (i : Int) + 1 = ((i + 1 : Nat) : Int) by omega]
        refine ih (i + 1) (by omega) ⟨f1.1, fun r r1 r2 r3 => by (try dsimp only); rw [x_up_r r1]; exact f1.2 r r1 r2 r3⟩ (fun j hj => ?_)
        (try dsimp only)
        rw [x_up_k]
        by_cases ej : j = i
        · rw [if_pos ej]
        · rw [if_neg ej]; exact z1 j (by omega)
    exact L0 4 0 rfl (fR_refl h) (fun j hj => by omega)
end PZ
/-- who may win, in their order -/
def qN (A : Nat → Int) : Nat → Nat
  | 0 => 0
  | p + 1 => if mwB A p = true then qN A p + 1 else qN A p
def qF (A : Nat → Int) : Nat → Nat → Int
  | 0 => fun _ => 0
  | p + 1 => if mwB A p = true then e_up (qF A p) (qN A p) p else qF A p
theorem qN_b (A : Nat → Int) : ∀ p, qN A p ≤ p ∧ ∀ j, j < qN A p → 0 ≤ qF A p j ∧ qF A p j < p
  | 0 => ⟨Nat.le_refl 0, fun j hj => absurd hj (Nat.not_lt_zero j)⟩
  | p + 1 => by
    obtain ⟨h1, h2⟩ := qN_b A p
    unfold qN qF
    by_cases e : mwB A p = true
    · rw [if_pos e, if_pos e]
      refine ⟨by omega, fun j hj => ?_⟩
      unfold e_up
      by_cases ej : j = qN A p
      · rw [if_pos ej]; omega
      · rw [if_neg ej]; have := h2 j (by omega); omega
    · rw [if_neg e, if_neg e]
      exact ⟨by omega, fun j hj => by have := h2 j hj; omega⟩
theorem mx_rng {f : Nat → Int} {n : Nat} {seed : Int} {P : Int → Prop} (hP : ∀ j, j < n → P (f j)) : ∀ i, i ≤ n → ∀ j, j < n → P (mx f n seed i j)
  | 0, _, j, hj => hP j hj
  | i + 1, hi, j, hj => by
    have b := ot_b (seed := seed) (show i < n by omega)
    have ih := mx_rng (seed := seed) hP i (by omega)
    show P (swp (mx f n seed i) i (ot n seed i) j)
    unfold swp
    repeat' split
    · exact ih i (by omega)
    · exact ih _ b.2
    · exact ih j hj
/-- the place of the i-th prize -/
def sl (kn : Nat → Nat) (i : Nat) : Nat → Nat → Int → Nat → Int
  | 0, _, _, _ => -1
  | m + 1, k, K, w => if tb K (kn k) = true then sl kn i m (k + 1) K w else if w = i then (k : Int) else sl kn i m (k + 1) (x_or K (x_shl 1 (kn k : Int))) (w + 1)
theorem sl_c (kn : Nat → Nat) (i : Nat) : ∀ (m k : Nat) (K : Int) (w : Nat), sl kn i m k K w = -1 ∨ ∃ q : Nat, sl kn i m k K w = (q : Int) ∧ k ≤ q ∧ q < k + m
  | 0, _, _, _ => Or.inl rfl
  | m + 1, k, K, w => by
    unfold sl
    repeat' split
    · rcases sl_c kn i m (k + 1) K w with h | ⟨q, h1, h2, h3⟩
      · exact Or.inl h
      · exact Or.inr ⟨q, h1, by omega, by omega⟩
    · exact Or.inr ⟨k, rfl, by omega, by omega⟩
    · rcases sl_c kn i m (k + 1) (x_or K (x_shl 1 (kn k : Int))) (w + 1) with h | ⟨q, h1, h2, h3⟩
      · exact Or.inl h
      · exact Or.inr ⟨q, h1, by omega, by omega⟩
theorem op_prize {g : xG} {D : Nat} {h : xH} {a b c : Int} (hc : -2147483648 ≤ a ∧ a < 2147483648) (I : zInv h) : zSi g (D + 6) mX8_prize [xr 16, xi a, xi b, xi c] h (fun x h1 => zSi g (D + 6) mX9_prize [xr 95, xi a, xi b, xi c] h1 (fun y h2 => x = y ∧ zInv h2)) := by
  refine zS_sh (fun hs => ?_)
  have Z := zB_of hs I
  have B := rB_inv I
  have z := pM_z I.1
  have hsz : h.2 20 3 = h.2 96 2 := ((I.2.2.1.1 1 (by decide)) (by decide)).1
  have rk : ∀ p : Nat, (p : Int) < h.2 96 2 → 0 ≤ h.2 96 (31 + 4 * p) ∧ h.2 96 (31 + 4 * p) ≤ 9 := fun p hp => (I.1.2.2 1 (by decide) (by decide) p hp).2.1
  have no : ¬ ((1 ≤ a ∧ a ≤ 30) ∧ (0 ≤ c ∧ c ≤ a - 1)) → zSi g (D + 6) mX9_prize [xr 95, xi a, xi b, xi c] h (fun y h2 => -1 = y ∧ zInv h2) := by
    intro hno
    refine eX9_prize (zX9_prize_0 (s_in (fun y hy => ⟨fun w => zX9_prize_21 ⟨rfl, I⟩, fun w => ?_⟩)))
    rw [x32_id (by omega) (by omega)]
    exact s_in (fun y2 hy2 => ⟨fun w2 => by omega, fun w2 => ⟨rfl, I⟩⟩)
  refine eX8_prize (zX8_prize_0 (s_win (fun x hx => ⟨fun q => zX8_prize_21 (no (by omega)), fun q => ?_⟩)))
  rw [x32_id (by omega) (by omega)]
  refine s_win (fun x2 hx2 => ⟨fun q2 => zX8_prize_23 ?_, fun q2 => no (by omega)⟩)
  obtain ⟨i, rfl⟩ : ∃ i : Nat, c = (i : Int) := ⟨c.toNat, by omega⟩
  obtain ⟨P, hP⟩ : ∃ P : Nat, h.2 96 2 = (P : Int) := ⟨(h.2 96 2).toNat, by omega⟩
  have qb := qN_b (h.2 96) P
  generalize hG : mx (qF (h.2 96) P) (qN (h.2 96) P) b (qN (h.2 96) P) = G
  have gr : ∀ j, j < qN (h.2 96) P → 0 ≤ G j ∧ G j < P := fun j hj => by rw [← hG]; exact mx_rng (P := fun v => 0 ≤ v ∧ v < P) qb.2 _ (Nat.le_refl _) j hj
  have kr : ∀ j, j < qN (h.2 96) P → (0 ≤ h.2 96 (31 + 4 * (G j).toNat) ∧ h.2 96 (31 + 4 * (G j).toNat) ≤ 9) := fun j hj => rk _ (by have := gr j hj; omega)
  have qn30 : qN (h.2 96) P ≤ 30 := by omega
  -- what changes on the class's side
  let F8 : xH → Prop := fun h' => h'.1 = h.1 ∧ (∀ r, r ≠ 75 → r ≠ 76 → r ≠ 77 → r ≠ 93 → r ≠ 94 → h'.2 r = h.2 r) ∧ ∀ j, j ≠ 4 → h'.2 75 j = h.2 75 j
  have F8I : ∀ {h' : xH}, F8 h' → zInv h' := fun f => inv_scr I f.1 (f.2.2 3 (by decide)) (fun r hr => f.2.1 r (by omega) (by omega) (by omega) (by omega) (by omega))
  have F8Z : ∀ {h' : xH}, F8 h' → zSh h' → zB h' (-1) := fun f hs' => zB_mk Z hs' f.1 (fun r hr => f.2.1 r (by omega) (by omega) (by omega) (by omega) (by omega)) (f.2.2 3 (by decide))
  have F8e : ∀ {h' : xH}, F8 h' → h'.2 96 = h.2 96 := fun f => f.2.1 96 (by decide) (by decide) (by decide) (by decide) (by decide)
  -- the reference
  have REF : ∀ {h1 : xH}, F8 h1 → ∀ v : Int, (sl (fun k => (h.2 96 (31 + 4 * (G k).toNat)).toNat) i (qN (h.2 96) P) 0 0 0 = -1 → v = -1) → (∀ q : Nat, sl (fun k => (h.2 96 (31 + 4 * (G k).toNat)).toNat) i (qN (h.2 96) P) 0 0 0 = (q : Int) → v = G q) → zSi g (D + 6) mX9_prize [xr 95, xi a, xi b, xi i] h1 (fun y h2 => v = y ∧ zInv h2) := by
    intro h1 f1 v v0 v1
    have I1 := F8I f1
    have e1 := F8e f1
    let F9 : xH → Prop := fun h' => h'.1 = h1.1 ∧ ∀ r, r ≠ 102 → r ≠ 103 → r ≠ 104 → r ≠ 109 → h'.2 r = h1.2 r
    have F9I : ∀ {h' : xH}, F9 h' → zInv h' := fun f => inv_scr I1 f.1 (by rw [f.2 75 (by decide) (by decide) (by decide) (by decide)]) (fun r hr => f.2 r (by omega) (by omega) (by omega) (by omega))
    have F9e : ∀ {h' : xH}, F9 h' → h'.2 96 = h.2 96 := fun f => (f.2 96 (by decide) (by decide) (by decide) (by decide)).trans e1
    refine eX9_prize (zX9_prize_0 (s_in (fun y hy => ⟨fun w => by omega, fun w => ?_⟩)))
    rw [x32_id (by omega) (by omega)]
    refine s_in (fun y2 hy2 => ⟨fun w2 => zX9_prize_23 ?_, fun w2 => by omega⟩)
    -- the choice
    have S : ∀ (m k : Nat) (K : Int) (w : Nat) {h' : xH} {w1 w2 w3 w8 : xV}, k + m = qN (h.2 96) P → w ≤ i → F9 h' → (∀ j, j < qN (h.2 96) P → h'.2 109 j = G j) → sl (fun k => (h.2 96 (31 + 4 * (G k).toNat)).toNat) i m k K w = sl (fun k => (h.2 96 (31 + 4 * (G k).toNat)).toNat) i (qN (h.2 96) P) 0 0 0 → zJ g (D + 6) mX9_prize 0 0 88 [xr 95, w1, w2, w3, xi (qN (h.2 96) P : Nat), xi K, xi ((i : Int) - w), xi k, w8] [] h' (x_qi (fun y h2 => v = y ∧ zInv h2)) := by
      intro m
      induction m with
      | zero =>
        intro k K w h' w1 w2 w3 w8 ek hw f' t' es
        exact zX9_prize_88 ⟨fun _ => zX9_prize_151 ⟨v0 es.symm, F9I f'⟩, fun q => by omega⟩
      | succ m ih =>
        intro k K w h' w1 w2 w3 w8 ek hw f' t' es
        have gk := gr k (by omega)
        have kk := kr k (by omega)
        have es' : (if tb K (h.2 96 (31 + 4 * (G k).toNat)).toNat = true then sl (fun k => (h.2 96 (31 + 4 * (G k).toNat)).toNat) i m (k + 1) K w else if w = i then (k : Int) else sl (fun k => (h.2 96 (31 + 4 * (G k).toNat)).toNat) i m (k + 1) (x_or K (x_shl 1 (((h.2 96 (31 + 4 * (G k).toNat)).toNat : Nat) : Int))) (w + 1)) = sl (fun k => (h.2 96 (31 + 4 * (G k).toNat)).toNat) i (qN (h.2 96) P) 0 0 0 := es
        refine zX9_prize_88 ⟨fun q => by omega, fun q => ?_⟩
        rw [show ((k : Int)).toNat = k by omega, t' k (by omega)]
        obtain ⟨u, hu⟩ : ∃ u : Nat, G k = (u : Int) := ⟨(G k).toNat, by omega⟩
        have eu : (G k).toNat = u := by omega
        rw [hu]
        refine ⟨by omega, r_personAt (c := 1) (by omega) (by decide) ?_⟩
        rw [F9e f', show 30 + 4 * u + 1 = 31 + 4 * u by omega]
        rw [eu] at es' kk
        obtain ⟨n, hn⟩ : ∃ n : Nat, h.2 96 (31 + 4 * u) = (n : Int) := ⟨(h.2 96 (31 + 4 * u)).toNat, by omega⟩
        rw [hn] at es' kk ⊢
        rw [show ((n : Int)).toNat = n by omega] at es'
        have ta := tb_and (K := K) (k := n) (by omega)
        rw [x32_id (show -2147483648 ≤ (k : Int) + 1 by omega) (by omega), show (k : Int) + 1 = ((k + 1 : Nat) : Int) by omega]
        refine ⟨fun t => zX9_prize_122 ⟨fun t2 => zX9_prize_142 ?_, fun t2 => ⟨by omega, ?_, F9I f'⟩⟩, fun t => ?_⟩
        · have tf := ta.mp t
          rw [x32_id (show -2147483648 ≤ (k : Int) + 1 by omega) (by omega), show (k : Int) + 1 = ((k + 1 : Nat) : Int) by omega, x32_id (by omega) (by omega), show (i : Int) - w + -1 = (i : Int) - ((w + 1 : Nat) : Int) by omega]
          rw [tf] at es'
          clear ta t tf
          rw [if_neg (by decide), if_neg (by omega)] at es'
          exact ih (k + 1) _ (w + 1) (by omega) (by omega) f' t' es'
        · have tf := ta.mp t
          rw [tf] at es'
          clear ta t tf
          rw [if_neg (by decide), if_pos (by omega)] at es'
          rw [show ((k : Int)).toNat = k by omega, t' k (by omega)]
          exact v1 k es'.symm
        · have tt : tb K n = true := by
            cases q3 : tb K n with
            | true => rfl
            | false => exact absurd (ta.mpr q3) t
          rw [tt] at es'
          clear ta t tt
          rw [if_pos rfl] at es'
          exact ih (k + 1) K w (by omega) hw f' t' es'
    -- who may win
    have L : ∀ (m p : Nat) {h' : xH} {w1 w6 w7 w8 : xV}, p + m = P → F9 h' → (∀ j, j < qN (h.2 96) p → h'.2 109 j = qF (h.2 96) p j) → zJ g (D + 6) mX9_prize 0 0 29 [xr 95, w1, xi b, xi i, xi (qN (h.2 96) p : Nat), xi p, w6, w7, w8] [] h' (x_qi (fun y h2 => v = y ∧ zInv h2)) := by
      intro m
      induction m with
      | zero =>
        intro p h' w1 w6 w7 w8 ep f' t'
        have : p = P := by omega
        subst this
        refine zX9_prize_29 ?_
        rw [F9e f', hP]
        refine ⟨fun _ => zX9_prize_70 (r_draw (by omega) (Nat.le_refl _) (fun h2 g1 g2 g3 => ?_)), fun q => by omega⟩
        have f2 : F9 h2 := ⟨g1.trans f'.1, fun r r1 r2 r3 r4 => by rw [g2 r r4]; exact f'.2 r r1 r2 r3 r4⟩
        have t2 : ∀ j, j < qN (h.2 96) p → h2.2 109 j = G j := fun j hj => by rw [g3, ← hG]; exact mx_cong t' _ (Nat.le_refl _) j hj
        have := S (qN (h.2 96) p) 0 0 0 (w1 := xu) (w2 := xi b) (w3 := xi i) (w8 := xu) (by omega) (by omega) f2 t2 rfl
        rw [show (i : Int) - ((0 : Nat) : Int) = (i : Int) by omega] at this
        exact this
      | succ m ih =>
        intro p h' w1 w6 w7 w8 ep f' t'
        have qp := qN_b (h.2 96) p
        refine zX9_prize_29 ?_
        rw [F9e f', hP]
        refine ⟨fun q => by omega, fun q => r_mayWin (by rw [F9e f']; exact B) (by rw [F9e f']; omega) (fun u h2 f2 hu => ?_)⟩
        rw [F9e f'] at hu
        have f3 : F9 h2 := ⟨f2.1.trans f'.1, fun r r1 r2 r3 r4 => by rw [f2.2 r r1 r2 r3]; exact f'.2 r r1 r2 r3 r4⟩
        have ih' := @ih (p + 1)
        refine ⟨fun t => zX9_prize_52 ⟨by omega, ?_⟩, fun t => ?_⟩
        · have mt : mwB (h.2 96) p = true := by
            rcases hu with r | r
            · exact r.2
            · omega
          have en : qN (h.2 96) (p + 1) = qN (h.2 96) p + 1 := if_pos mt
          have ef : qF (h.2 96) (p + 1) = e_up (qF (h.2 96) p) (qN (h.2 96) p) p := if_pos mt
          rw [en, ef] at ih'
          rw [x32_id (by omega) (by omega), x32_id (by omega) (by omega), show (((qN (h.2 96) p : Nat) : Int)).toNat = qN (h.2 96) p by omega, show ((qN (h.2 96) p : Nat) : Int) + 1 = ((qN (h.2 96) p + 1 : Nat) : Int) by omega, show (p : Int) + 1 = ((p + 1 : Nat) : Int) by omega]
          refine ih' (by omega) ⟨f3.1, fun r r1 r2 r3 r4 => by (try dsimp only); rw [x_up_r r4]; exact f3.2 r r1 r2 r3 r4⟩ (fun j hj => ?_)
          (try dsimp only)
          rw [x_up_k]
          unfold e_up
          by_cases ej : j = qN (h.2 96) p
          · rw [if_pos ej, if_pos ej]
          · rw [if_neg ej, if_neg ej, f2.2 109 (by decide) (by decide) (by decide)]; exact t' j (by omega)
        · have mf : ¬ mwB (h.2 96) p = true := by
            rcases hu with r | r
            · omega
            · rw [r.2]; decide
          have en : qN (h.2 96) (p + 1) = qN (h.2 96) p := if_neg mf
          have ef : qF (h.2 96) (p + 1) = qF (h.2 96) p := if_neg mf
          rw [en, ef] at ih'
          rw [x32_id (by omega) (by omega), show (p : Int) + 1 = ((p + 1 : Nat) : Int) by omega]
          exact ih' (by omega) f3 (fun j hj => by rw [f2.2 109 (by decide) (by decide) (by decide)]; exact t' j hj)
    exact L P 0 (by omega) ⟨rfl, fun _ _ _ _ _ => rfl⟩ (fun j hj => absurd hj (Nat.not_lt_zero j))
  -- the class: the choice
  have S8 : ∀ (m k : Nat) (K : Int) (w : Nat) {h' : xH} {w1 w2 w7 w8 : xV}, k + m = qN (h.2 96) P → w ≤ i → F8 h' → h'.2 93 1 = (qN (h.2 96) P : Nat) → (∀ j, j < qN (h.2 96) P → h'.2 94 j = G j) → sl (fun k => (h.2 96 (31 + 4 * (G k).toNat)).toNat) i m k K w = sl (fun k => (h.2 96 (31 + 4 * (G k).toNat)).toNat) i (qN (h.2 96) P) 0 0 0 → zJ g (D + 6) mX8_prize 0 0 93 [xr 16, w1, w2, xi i, xi K, xi w, xi k, w7, w8] [] h' (x_qi (fun x h1 => zSi g (D + 6) mX9_prize [xr 95, xi a, xi b, xi i] h1 (fun y h2 => x = y ∧ zInv h2))) := by
    intro m
    induction m with
    | zero =>
      intro k K w h' w1 w2 w7 w8 ek hw f' s' t' es
      have end' := REF f' (-1) (fun _ => rfl) (fun q hq => by rw [← es] at hq; exact absurd hq (by show ¬ (-1 : Int) = q; omega))
      refine zX8_prize_93 ?_
      rw [s']
      exact ⟨fun _ => zX8_prize_174 end', fun q => by omega⟩
    | succ m ih =>
      intro k K w h' w1 w2 w7 w8 ek hw f' s' t' es
      have gk := gr k (by omega)
      have kk := kr k (by omega)
      have es' : (if tb K (h.2 96 (31 + 4 * (G k).toNat)).toNat = true then sl (fun k => (h.2 96 (31 + 4 * (G k).toNat)).toNat) i m (k + 1) K w else if w = i then (k : Int) else sl (fun k => (h.2 96 (31 + 4 * (G k).toNat)).toNat) i m (k + 1) (x_or K (x_shl 1 (((h.2 96 (31 + 4 * (G k).toNat)).toNat : Nat) : Int))) (w + 1)) = sl (fun k => (h.2 96 (31 + 4 * (G k).toNat)).toNat) i (qN (h.2 96) P) 0 0 0 := es
      refine zJ_sh (fun hs' => ?_)
      have R : pR h' 20 21 30 3 := z_R hs' rfl rfl rfl rfl rfl (by decide)
      obtain ⟨u, hu⟩ : ∃ u : Nat, G k = (u : Int) := ⟨(G k).toNat, by omega⟩
      have eu : (G k).toNat = u := by omega
      rw [eu] at es' kk
      obtain ⟨n, hn⟩ : ∃ n : Nat, h.2 96 (31 + 4 * u) = (n : Int) := ⟨(h.2 96 (31 + 4 * u)).toNat, by omega⟩
      rw [hn] at es' kk
      rw [show ((n : Int)).toNat = n by omega] at es'
      have c1 : h'.2 21 (u * 3 + 1) = (n : Int) := by
        rw [f'.2.1 21 (by decide) (by decide) (by decide) (by decide) (by decide), ← hn, show 31 + 4 * u = 30 + 4 * u + 1 by omega]
        exact ((I.2.2.1.1 1 (by decide)) (by decide)).2 u (show (u : Int) < h.2 96 2 by omega) (1, 1) (by decide)
      have ts := tb_shr (K := K) (k := n) (by omega)
      refine zX8_prize_93 ?_
      rw [s']
      refine ⟨fun q => by omega, fun q => ⟨fun q2 => by omega, fun q2 => s_thing (by omega) s' (fun q3 => by omega) (fun k' e' l' => ?_)⟩⟩
      have : k' = k := by omega
      subst this
      rw [t' k' (by omega), hu]
      refine s_get R (by omega) (by omega) (by omega) (by omega) ?_
      rw [show ((u : Int) * ((3 : Nat) : Int) + 1).toNat = u * 3 + 1 by omega, c1]
      have hold : ∀ {Q : Int → xH → Prop}, (∀ v : Int, (v = 1 ∧ tb K n = true) ∨ (v = 0 ∧ tb K n = false) → Q v h') → zSi g (D + 5) mX8_holds [xi K, xi n] h' Q := by
        intro Q hQ
        refine eX8_holds (zX8_holds_0 (s_win (fun v hv => ⟨fun y => by omega, fun y => ⟨fun y2 => zX8_holds_23 ⟨Or.inl rfl, hQ 0 (Or.inr ⟨rfl, ?_⟩)⟩, fun y2 => ⟨Or.inr rfl, hQ 1 (Or.inl ⟨rfl, ts.1.mp y2⟩)⟩⟩⟩)))
        cases q5 : tb K n with
        | true => exact absurd (ts.1.mpr q5) y2
        | false => rfl
      refine hold (fun v hv => ⟨fun t => zX8_prize_168 ?_, fun t => ⟨fun t2 => zX8_prize_156 ?_, fun t2 => ?_⟩⟩)
      · have tt : tb K n = true := by
          rcases hv with r | r
          · exact r.2
          · omega
        rw [x32_id (show -2147483648 ≤ (k' : Int) + 1 by omega) (by omega), show (k' : Int) + 1 = ((k' + 1 : Nat) : Int) by omega]
        clear ts hold
        rw [tt, if_pos rfl] at es'
        exact ih (k' + 1) K w (by omega) hw f' s' t' es'
      · have tf : tb K n = false := by
          rcases hv with r | r
          · omega
          · exact r.2
        rw [x32_id (show -2147483648 ≤ (k' : Int) + 1 by omega) (by omega), show (k' : Int) + 1 = ((k' + 1 : Nat) : Int) by omega, x32_id (by omega) (by omega), show (w : Int) + 1 = ((w + 1 : Nat) : Int) by omega]
        clear ts hold
        rw [tf, if_neg (by decide), if_neg (by omega)] at es'
        exact ih (k' + 1) _ (w + 1) (by omega) (by omega) f' s' t' es'
      · have tf : tb K n = false := by
          rcases hv with r | r
          · omega
          · exact r.2
        clear ts hold
        rw [tf, if_neg (by decide), if_pos (by omega)] at es'
        refine REF f' u (fun e9 => ?_) (fun q9 e9 => ?_)
        · rw [← es'] at e9; omega
        · rw [← es'] at e9
          have : q9 = k' := by omega
          subst this; exact hu.symm
  -- the class: who may win
  have L8 : ∀ (m p : Nat) {h' : xH} {w1 w5 w6 w7 w8 : xV}, p + m = P → F8 h' → h'.2 93 1 = (qN (h.2 96) p : Nat) → (∀ j, j < qN (h.2 96) p → h'.2 94 j = qF (h.2 96) p j) → zJ g (D + 6) mX8_prize 0 0 34 [xr 16, w1, xi b, xi i, xi p, w5, w6, w7, w8] [] h' (x_qi (fun x h1 => zSi g (D + 6) mX9_prize [xr 95, xi a, xi b, xi i] h1 (fun y h2 => x = y ∧ zInv h2))) := by
    intro m
    induction m with
    | zero =>
      intro p h' w1 w5 w6 w7 w8 ep f' s' t'
      have : p = P := by omega
      subst this
      have e20 : h'.2 20 3 = (p : Int) := by rw [f'.2.1 20 (by decide) (by decide) (by decide) (by decide) (by decide), hsz, hP]
      refine zX8_prize_34 ?_
      rw [e20]
      refine ⟨fun _ => zX8_prize_76 (s_mix (n := qN (h.2 96) p) (by omega) s' (fun h2 g1 g2 g3 => ?_)), fun q => by omega⟩
      have f2 : F8 h2 := ⟨g1.trans f'.1, fun r r1 r2 r3 r4 r5 => by rw [g2 r r5]; exact f'.2.1 r r1 r2 r3 r4 r5, fun j hj => by rw [g2 75 (by decide)]; exact f'.2.2 j hj⟩
      have t2 : ∀ j, j < qN (h.2 96) p → h2.2 94 j = G j := fun j hj => by rw [g3, ← hG]; exact mx_cong t' _ (Nat.le_refl _) j hj
      exact S8 (qN (h.2 96) p) 0 0 0 (by omega) (by omega) f2 (by rw [g2 93 (by decide)]; exact s') t2 rfl
    | succ m ih =>
      intro p h' w1 w5 w6 w7 w8 ep f' s' t'
      have qp := qN_b (h.2 96) p
      have e20 : h'.2 20 3 = (P : Int) := by rw [f'.2.1 20 (by decide) (by decide) (by decide) (by decide) (by decide), hsz, hP]
      have e96 := F8e f'
      refine zJ_sh (fun hs' => zX8_prize_34 ?_)
      rw [e20]
      refine ⟨fun q => by omega, fun q => s_mayWin (F8Z f' hs') (by rw [e96]; omega) (fun u h2 f2 hu => ?_)⟩
      rw [e96] at hu
      have f3 : F8 h2 := ⟨f2.1.trans f'.1, fun r r1 r2 r3 r4 r5 => by rw [f2.2.1 r r1 r2 r3]; exact f'.2.1 r r1 r2 r3 r4 r5, fun j hj => by rw [f2.2.2 j hj]; exact f'.2.2 j hj⟩
      have s3 : h2.2 93 1 = (qN (h.2 96) p : Nat) := by rw [f2.2.1 93 (by decide) (by decide) (by decide)]; exact s'
      have t3 : h2.2 94 = h'.2 94 := f2.2.1 94 (by decide) (by decide) (by decide)
      have ih' := @ih (p + 1)
      refine ⟨fun t => zX8_prize_70 ?_, fun t => eX7_add (zX7_add_0 ?_)⟩
      · have mf : ¬ mwB (h.2 96) p = true := by
          rcases hu with r | r
          · omega
          · rw [r.2]; decide
        have en : qN (h.2 96) (p + 1) = qN (h.2 96) p := if_neg mf
        have ef : qF (h.2 96) (p + 1) = qF (h.2 96) p := if_neg mf
        rw [en, ef] at ih'
        rw [x32_id (by omega) (by omega), show (p : Int) + 1 = ((p + 1 : Nat) : Int) by omega]
        exact ih' (by omega) f3 s3 (fun j hj => by rw [t3]; exact t' j hj)
      · have mt : mwB (h.2 96) p = true := by
          rcases hu with r | r
          · exact r.2
          · omega
        have en : qN (h.2 96) (p + 1) = qN (h.2 96) p + 1 := if_pos mt
        have ef : qF (h.2 96) (p + 1) = e_up (qF (h.2 96) p) (qN (h.2 96) p) p := if_pos mt
        rw [en, ef] at ih'
        rw [x_up_r (show 93 ≠ 94 by decide), s3, x32_id (show -2147483648 ≤ ((qN (h.2 96) p : Nat) : Int) + 1 by omega) (by omega)]
        refine ⟨fun q3 => by omega, fun q3 => ⟨fun q4 => by omega, fun q4 => ⟨by omega, ?_⟩⟩⟩
        rw [x32_id (by omega) (by omega), show (((qN (h.2 96) p : Nat) : Int)).toNat = qN (h.2 96) p by omega, show (p : Int) + 1 = ((p + 1 : Nat) : Int) by omega]
        refine ih' (by omega) ⟨f3.1, fun r r1 r2 r3 r4 r5 => by (try dsimp only); rw [x_up_r r4, x_up_r r5]; exact f3.2.1 r r1 r2 r3 r4 r5, fun j hj => by (try dsimp only); rw [x_up_r (by decide), x_up_r (by decide)]; exact f3.2.2 j hj⟩ ?_ (fun j hj => ?_)
        · (try dsimp only); rw [x_up_eq]; omega
        · (try dsimp only)
          rw [x_up_r (by decide), x_up_k, t3]
          unfold e_up
          by_cases ej : j = qN (h.2 96) p
          · rw [if_pos ej, if_pos ej]
          · rw [if_neg ej, if_neg ej]; exact t' j (by omega)
  refine L8 P 0 (by omega) ⟨rfl, fun r r1 r2 r3 r4 r5 => by (try dsimp only); rw [x_up_r r4], fun j hj => by (try dsimp only); rw [x_up_r (by decide)]⟩ ?_ (fun j hj => absurd hj (Nat.not_lt_zero j))
  (try dsimp only)
  exact x_up_eq
