/-! the reference's acts, read -/
/-- what the reference's rows must be where it reads acts and webs (a force more than the table holds may be there) -/
def rA (A : Nat → Int) : Prop := (0 ≤ A 6 ∧ A 6 ≤ 10) ∧ (0 ≤ A 7 ∧ A 7 ≤ 31) ∧ (∀ f : Nat, (f : Int) < A 7 → 0 ≤ A (11000 + 4 * f) ∧ A (11000 + 4 * f) < A 6) ∧ ∀ t : Nat, (t : Int) < A 6 → tokT (tx A t)
/-- names, sums and truths of the reference may change -/
def fR (h h' : xH) : Prop := h'.1 = h.1 ∧ ∀ r, r ≠ 102 → r ≠ 103 → r ≠ 104 → h'.2 r = h.2 r
theorem fR_refl (h : xH) : fR h h := ⟨rfl, fun _ _ _ _ => rfl⟩
theorem fR_trans {h h1 h2 : xH} (a : fR h h1) (b : fR h1 h2) : fR h h2 := ⟨b.1.trans a.1, fun r r1 r2 r3 => (b.2 r r1 r2 r3).trans (a.2 r r1 r2 r3)⟩
theorem fR_96 {h h' : xH} (f : fR h h') : h'.2 96 = h.2 96 := f.2 96 (by decide) (by decide) (by decide)
theorem fR_inv {h h' : xH} (f : fR h h') (I : zInv h) : zInv h' := by
  refine inv_tp I f.1 (fun r hr => f.2 r (by omega) (by omega) (by omega)) (pTp_congr (fun r hr => f.2 r (by omega) (by omega) (by omega)) I.2.2.2.2)
theorem rA_of {h : xH} (I : zInv h) : rA (h.2 96) := by
  refine ⟨I.1.1.2.1, ?_, fun f hf => ?_, fun t ht => ?_⟩
  · have : 0 ≤ h.2 96 7 ∧ h.2 96 7 ≤ 30 := I.1.1.2.2.2.2.2.2 5 (by decide) (by decide)
    omega
  · have rk : (0 ≤ h.2 96 (11000 + 4 * f) ∧ h.2 96 (11000 + 4 * f) < h.2 96 6) ∧ _ := I.1.2.2 5 (by decide) (by decide) f hf
    exact rk.1
  · obtain ⟨r, a⟩ : ∃ r, aP h t r := I.2.2.1.2.2.2.2.2.1 t ht
    exact aP_T a
section RA
variable {g : xG} {D : Nat} {h : xH}
theorem r_clauseAt {t i : Nat} {Q : Int → xH → Prop} (ht : t < 10) (hi : i ≤ 20) (hQ : Q ((2000 + 900 * t + (1 + 12 * i) : Nat) : Int) h) : zSi g D mX9_clauseAt [xr 95, xi t, xi i] h Q := by
  refine eX9_clauseAt (zX9_clauseAt_0 ?_)
  simp (disch := omega) only [x32_id]
  rw [show 2000 + 900 * (t : Int) + 1 + 12 * (i : Int) = ((2000 + 900 * t + (1 + 12 * i) : Nat) : Int) by omega]
  exact hQ
theorem r_clausesOf {t : Nat} {Q : Int → xH → Prop} (ht : t < 10) (hQ : Q (tx (h.2 96) t 0) h) : zSi g D mX9_clausesOf [xr 95, xi t] h Q := by
  refine eX9_clausesOf (zX9_clausesOf_0 ?_)
  simp (disch := omega) only [x32_id]
  rw [show (2000 + 900 * (t : Int)).toNat = 2000 + 900 * t + 0 by omega, ← tx_at (A := h.2 96) (t := t) (k := 0) (by decide)]
  exact ⟨by omega, hQ⟩
theorem l_rfirst {t k : Nat} {Q : Int → xH → Prop} (ht : t < 10) (hT : tokT (tx (h.2 96) t)) : ∀ (m i : Nat), (i : Int) + m = tx (h.2 96) t 0 → (ff (fun i => decide (tx (h.2 96) t (1 + 12 * i) = k + 1)) m i = -1 → Q (-1) h) → (∀ j : Nat, ff (fun i => decide (tx (h.2 96) t (1 + 12 * i) = k + 1)) m i = (j : Int) → Q ((2000 + 900 * t + (1 + 12 * j) : Nat) : Int) h) → zJ g (D + 1) 190 0 0 2 [xr 95, xi t, xi (k + 1), xi i] [] h (x_qi Q)
  | 0, i, e, h0, h1 => zX9_firstOf_2 (r_clausesOf ht ⟨fun z => zX9_firstOf_39 (h0 rfl), fun z => by omega⟩)
  | m + 1, i, e, h0, h1 => by
    have hT0 := hT.1
    unfold ff at h0 h1
    refine zX9_firstOf_2 (r_clausesOf ht ⟨fun z => by omega, fun z => r_clauseAt ht (by omega) ?_⟩)
    rw [show (((2000 + 900 * t + (1 + 12 * i) : Nat) : Int)).toNat = 2000 + 900 * t + (1 + 12 * i) by omega, ← tx_at (A := h.2 96) (t := t) (k := 1 + 12 * i) (by omega)]
    refine ⟨by omega, fun y => zX9_firstOf_33 ?_, fun y => r_clauseAt ht (by omega) ?_⟩
    · rw [x32_id (by omega) (by omega), show (i : Int) + 1 = ((i + 1 : Nat) : Int) by omega]
      rw [if_neg (by simp only [decide_eq_true_eq]; exact y)] at h0
      exact l_rfirst ht hT m (i + 1) (by omega) h0 (fun j hj => h1 j (by rw [if_neg (by simp only [decide_eq_true_eq]; exact y)]; exact hj))
    · exact h1 i (by rw [if_pos (by simp only [decide_eq_true_eq]; exact y)])
theorem r_firstOf {t k : Nat} {Q : Int → xH → Prop} (ht : t < 10) (hT : tokT (tx (h.2 96) t)) (h0 : fO (tx (h.2 96) t) k = -1 → Q (-1) h) (h1 : ∀ j : Nat, fO (tx (h.2 96) t) k = (j : Int) → Q ((2000 + 900 * t + (1 + 12 * j) : Nat) : Int) h) : zSi g (D + 1) mX9_firstOf [xr 95, xi t, xi (k + 1)] h Q := by
  have hT0 := hT.1
  exact eX9_firstOf (zX9_firstOf_0 (l_rfirst ht hT (tx (h.2 96) t 0).toNat 0 (by omega) h0 h1))
theorem l_ractFor {k : Nat} {day : Int} {Q : Int → xH → Prop} (b : rA (h.2 96)) : ∀ (n : Nat) {w4 : xV}, (n : Int) ≤ h.2 96 7 → (aF (h.2 96) k day n = -1 → Q (-1) h) → (∀ t : Nat, aF (h.2 96) k day n = (t : Int) → (t : Int) < h.2 96 6 → 0 ≤ fO (tx (h.2 96) t) k → Q t h) → zJ g (D + 2) 191 0 0 10 [xr 95, xi (k + 1), xi day, xi ((n : Int) - 1), w4] [] h (x_qi Q)
  | 0, w4, hn, h0, h1 => zX9_actFor_10 ⟨fun z => zX9_actFor_77 (h0 rfl), fun z => by omega⟩
  | n + 1, w4, hn, h0, h1 => by
    obtain ⟨b1, b2, b3, b4⟩ := b
    have f3 := b3 n (by omega)
    rw [show ((n + 1 : Nat) : Int) - 1 = (n : Int) by omega]
    have back : ∀ {w4 : xV}, ¬ (h.2 96 (11001 + 4 * n) ≤ day ∧ day ≤ h.2 96 (11002 + 4 * n) ∧ 0 ≤ fO (tx (h.2 96) (h.2 96 (11000 + 4 * n)).toNat) k) → zJ g (D + 2) 191 0 0 71 [xr 95, xi (k + 1), xi day, xi n, w4] [] h (x_qi Q) := by
      intro w4 hno
      unfold aF at h0 h1
      rw [if_neg hno] at h0
      refine zX9_actFor_71 ?_
      rw [x32_id (by omega) (by omega), show (n : Int) + -1 = (n : Int) - 1 by omega]
      exact l_ractFor ⟨b1, b2, b3, b4⟩ n (by omega) h0 (fun t ht => h1 t (by rw [if_neg hno]; exact ht))
    refine zX9_actFor_10 ⟨fun z => by omega, fun z => ?_⟩
    have q1 : x32 (11000 + x32 (4 * (n : Int))) = ((11000 + 4 * n : Nat) : Int) := by rw [x32_id (show -2147483648 ≤ 4 * (n : Int) by omega) (by omega), x32_id (by omega) (by omega)]; omega
    rw [q1]
    have q2 : x32 (((11000 + 4 * n : Nat) : Int) + 1) = ((11001 + 4 * n : Nat) : Int) := by rw [x32_id (by omega) (by omega)]; omega
    have q3 : x32 (((11000 + 4 * n : Nat) : Int) + 2) = ((11002 + 4 * n : Nat) : Int) := by rw [x32_id (by omega) (by omega)]; omega
    rw [q2, q3]
    clear q1 q2 q3
    refine ⟨by omega, by omega, ?_⟩
    rw [show (((11000 + 4 * n : Nat) : Int)).toNat = 11000 + 4 * n by omega, show (((11001 + 4 * n : Nat) : Int)).toNat = 11001 + 4 * n by omega, show (((11002 + 4 * n : Nat) : Int)).toNat = 11002 + 4 * n by omega]
    obtain ⟨t, ht⟩ : ∃ t : Nat, h.2 96 (11000 + 4 * n) = (t : Int) := ⟨(h.2 96 (11000 + 4 * n)).toNat, by omega⟩
    refine s_in (fun v hv => ⟨fun y => back (by omega), fun y => ⟨by omega, ?_⟩⟩)
    rw [ht]
    have et : (h.2 96 (11000 + 4 * n)).toNat = t := by omega
    refine r_firstOf (by omega) (b4 t (by omega)) (fun e => ⟨fun w => back (by rw [et]; omega), fun w => absurd w (by decide)⟩) (fun j hj => ⟨fun w => by omega, fun w => ⟨by omega, ?_⟩⟩)
    rw [ht]
    refine h1 t ?_ (by omega) (by omega)
    unfold aF
    rw [if_pos ⟨by omega, by omega, by rw [et]; omega⟩, ht]
theorem r_actFor {k : Nat} {day : Int} {Q : Int → xH → Prop} (b : rA (h.2 96)) (h0 : aB (h.2 96) (-1) k day = -1 → Q (-1) h) (h1 : ∀ t : Nat, aB (h.2 96) (-1) k day = (t : Int) → (t : Int) < h.2 96 6 → 0 ≤ fO (tx (h.2 96) t) k → Q t h) : zSi g (D + 2) mX9_actFor [xr 95, xi (k + 1), xi day] h Q := by
  have b2 := b.2.1
  unfold aB at h0 h1
  rw [if_neg (by omega)] at h0
  refine eX9_actFor (zX9_actFor_0 ?_)
  rw [x32_id (by omega) (by omega)]
  have := l_ractFor (g := g) (D := D) (w4 := xu) b (h.2 96 7).toNat (by omega) h0 (fun t ht => h1 t (by rw [if_neg (by omega)]; exact ht))
  rw [show (((h.2 96 7).toNat : Nat) : Int) = h.2 96 7 by omega] at this
  exact this
theorem r_numberOf {k : Nat} {day d : Int} {Q : Int → xH → Prop} (b : rA (h.2 96)) (hQ : Q (nO (h.2 96) (-1) k day d) h) : zSi g (D + 3) mX9_numberOf [xr 95, xi (k + 1), xi day, xi d] h Q := by
  unfold nO at hQ
  have b1 := b.1
  refine eX9_numberOf (zX9_numberOf_0 (r_actFor b (fun e => ?_) (fun t e hl hf => ?_)))
  · rw [e, if_pos (by decide)] at hQ
    exact ⟨fun z => absurd z (by decide), fun _ => hQ⟩
  · rw [e, if_neg (by omega), show ((t : Int)).toNat = t by omega] at hQ
    refine ⟨fun z => zX9_numberOf_17 (r_firstOf (by omega) (b.2.2.2 t hl) (fun e2 => by omega) (fun j hj => ?_)), fun z => by omega⟩
    rw [hj, show ((j : Int)).toNat = j by omega] at hQ
    have hj2 : (j : Int) < tx (h.2 96) t 0 := by
      rcases fO_c (tx (h.2 96) t) k with c | ⟨i, c1, c2, c3⟩
      · omega
      · omega
    have hT0 := (b.2.2.2 t hl).1
    rw [x32_id (by omega) (by omega), show (((2000 + 900 * t + (1 + 12 * j) : Nat) : Int) + 1).toNat = 2000 + 900 * t + (2 + 12 * j) by omega, ← tx_at (A := h.2 96) (t := t) (k := 2 + 12 * j) (by omega)]
    exact ⟨by omega, hQ⟩
end RA
