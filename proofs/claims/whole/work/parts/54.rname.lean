/-! a web is named: the reference -/
section RN
variable {g : xG} {D : Nat} {h : xH} {day known : Int} {nm : Nat → Int}
theorem l_rmeas {web : Int} {Q : Int → xH → Prop} (B : rB (h.2 96)) (h0 : mO (h.2 96) web day known = -1 → Q (-1) h) (h1 : ∀ x : Nat, mO (h.2 96) web day known = (x : Int) → (x : Int) < h.2 96 5 → Q ((400 + 8 * x : Nat) : Int) h) : ∀ (m n : Nat) {w6 : xV}, (n : Int) + m = h.2 96 5 → zJ g D 153 0 0 6 [xr 95, xi web, xi day, xi known, xi (if mR (h.2 96) web day known n < 0 then -1 else ((400 + 8 * (mR (h.2 96) web day known n).toNat : Nat) : Int)), xi n, w6] [] h (x_qi Q)
  | 0, n, w6, e => by
    refine zX9_measuresOf_6 ⟨fun z => zX9_measuresOf_102 ?_, fun z => by omega⟩
    unfold mO at h0 h1
    rw [show (h.2 96 5).toNat = n by omega] at h0 h1
    rcases mR_c (A := h.2 96) (web := web) (day := day) (known := known) n with c | ⟨x, c1, c2, -⟩
    · rw [c, if_pos (by decide)]; exact h0 c
    · rw [c1, if_neg (by omega), show ((x : Int)).toNat = x by omega]; exact h1 x c1 (by omega)
  | m + 1, n, w6, e => by
    have b5 := B.2.2.1.2.2.2
    have rk := B.2.2.2.2.2.2 n (by omega)
    have ih := fun {w6 : xV} => @l_rmeas web Q B h0 h1 m (n + 1) w6 (by omega)
    have q0 : x32 (400 + x32 (8 * (n : Int))) = ((400 + 8 * n : Nat) : Int) := by rw [x32_id (show -2147483648 ≤ 8 * (n : Int) by omega) (by omega), x32_id (by omega) (by omega)]; omega
    have q1 : x32 (((400 + 8 * n : Nat) : Int) + 1) = ((401 + 8 * n : Nat) : Int) := by rw [x32_id (by omega) (by omega)]; omega
    have q6 : x32 (((400 + 8 * n : Nat) : Int) + 6) = ((406 + 8 * n : Nat) : Int) := by rw [x32_id (by omega) (by omega)]; omega
    have no : ∀ {w6 : xV}, ¬ (h.2 96 (400 + 8 * n) = web ∧ h.2 96 (401 + 8 * n) ≤ day ∧ h.2 96 (406 + 8 * n) ≤ known ∧ (mR (h.2 96) web day known n < 0 ∨ h.2 96 (401 + 8 * (mR (h.2 96) web day known n).toNat) ≤ h.2 96 (401 + 8 * n))) → zJ g D 153 0 0 96 [xr 95, xi web, xi day, xi known, xi (if mR (h.2 96) web day known n < 0 then -1 else ((400 + 8 * (mR (h.2 96) web day known n).toNat : Nat) : Int)), xi n, w6] [] h (x_qi Q) := by
      intro w6 hno
      have em : mR (h.2 96) web day known (n + 1) = mR (h.2 96) web day known n := if_neg hno
      rw [em] at ih
      refine zX9_measuresOf_96 ?_
      rw [x32_id (by omega) (by omega), show (n : Int) + 1 = ((n + 1 : Nat) : Int) by omega]
      exact ih
    have yes : ∀ {w6 : xV}, (h.2 96 (400 + 8 * n) = web ∧ h.2 96 (401 + 8 * n) ≤ day ∧ h.2 96 (406 + 8 * n) ≤ known ∧ (mR (h.2 96) web day known n < 0 ∨ h.2 96 (401 + 8 * (mR (h.2 96) web day known n).toNat) ≤ h.2 96 (401 + 8 * n))) → zJ g D 153 0 0 6 [xr 95, xi web, xi day, xi known, xi ((400 + 8 * n : Nat) : Int), xi (x32 ((n : Int) + 1)), w6] [] h (x_qi Q) := by
      intro w6 hyes
      have em : mR (h.2 96) web day known (n + 1) = (n : Int) := if_pos hyes
      rw [em, if_neg (by omega), show ((n : Int)).toNat = n by omega] at ih
      rw [x32_id (by omega) (by omega), show (n : Int) + 1 = ((n + 1 : Nat) : Int) by omega]
      exact ih
    refine zX9_measuresOf_6 ?_
    rw [q0, q1, q6]
    clear q0 q1 q6
    rw [show (((400 + 8 * n : Nat) : Int)).toNat = 400 + 8 * n by omega, show (((401 + 8 * n : Nat) : Int)).toNat = 401 + 8 * n by omega, show (((406 + 8 * n : Nat) : Int)).toNat = 406 + 8 * n by omega]
    refine ⟨fun z => by omega, fun z => ⟨by omega, fun y => no (fun q => y q.1), fun y => ⟨by omega, fun y2 => no (by omega), fun y2 => ⟨by omega, fun y3 => no (by omega), fun y3 => ?_⟩⟩⟩⟩
    rcases mR_c (A := h.2 96) (web := web) (day := day) (known := known) n with c | ⟨x, c1, c2, -⟩
    · refine ⟨fun y4 => zX9_measuresOf_92 (yes ⟨y, y2, y3, by omega⟩), fun y4 => ?_⟩
      rw [c, if_pos (by decide)] at y4
      exact absurd y4 (by decide)
    · have hne : ¬ mR (h.2 96) web day known n < 0 := by omega
      rw [if_neg hne] at no ⊢
      rw [c1, show ((x : Int)).toNat = x by omega] at no yes ⊢
      refine ⟨fun y4 => by omega, fun y4 => ⟨by omega, ?_⟩⟩
      rw [x32_id (by omega) (by omega), show (((400 + 8 * x : Nat) : Int) + 1).toNat = 401 + 8 * x by omega]
      exact ⟨by omega, fun y5 => no (by omega), fun y5 => yes ⟨y, y2, y3, Or.inr y5⟩⟩
theorem r_meas {web : Int} {Q : Int → xH → Prop} (B : rB (h.2 96)) (h0 : mO (h.2 96) web day known = -1 → Q (-1) h) (h1 : ∀ x : Nat, mO (h.2 96) web day known = (x : Int) → (x : Int) < h.2 96 5 → Q ((400 + 8 * x : Nat) : Int) h) : zSi g D mX9_measuresOf [xr 95, xi web, xi day, xi known] h Q := by
  have b5 := B.2.2.1.2.2.2
  exact eX9_measuresOf (zX9_measuresOf_0 (l_rmeas B h0 h1 (h.2 96 5).toNat 0 (by omega)))
theorem fR_of {h' : xH} (e1 : h'.1 = h.1) (e2 : ∀ r, r ≠ 103 → r ≠ 104 → h'.2 r = h.2 r) : fR h h' := ⟨e1, fun r _ r2 r3 => e2 r r2 r3⟩
theorem l_rsort {t : Nat} {Q : Int → xH → Prop} (ht : t < 10) (hT : tokT (tx (h.2 96) t)) (hn : nm_ok nm) (hm : nmR h nm) : ∀ (m i : Nat) {h' : xH} {w1 w4 : xV}, (i : Int) + m = tx (h.2 96) t 0 → h'.1 = h.1 → (∀ r, r ≠ 103 → r ≠ 104 → h'.2 r = h.2 r) → (∀ h2, h2.1 = h.1 → (∀ r, r ≠ 103 → r ≠ 104 → h2.2 r = h.2 r) → Q (if ff (fun i => decide (tx (h.2 96) t (1 + 12 * i) = 0 + 1) && ((!decide (vC (tx (h.2 96) t) nm i = 0)) == true)) m i < 0 then -1 else tx (h.2 96) t (2 + 12 * (ff (fun i => decide (tx (h.2 96) t (1 + 12 * i) = 0 + 1) && ((!decide (vC (tx (h.2 96) t) nm i = 0)) == true)) m i).toNat)) h2) → zJ g (D + 3) 199 0 0 9 [xr 95, w1, xi t, xi i, w4] [] h' (x_qi Q)
  | 0, i, h', w1, w4, e, e1, e2, hQ => by
    have e96 : h'.2 96 = h.2 96 := e2 96 (by decide) (by decide)
    refine zX9_sortOfWeb_9 ⟨fun z => by omega, fun z => r_clausesOf ht ?_⟩
    rw [e96]
    exact ⟨fun z => zX9_sortOfWeb_76 (hQ h' e1 e2), fun z => by omega⟩
  | m + 1, i, h', w1, w4, e, e1, e2, hQ => by
    have e96 : h'.2 96 = h.2 96 := e2 96 (by decide) (by decide)
    have hT0 := hT.1
    have hi : (i : Int) < tx (h.2 96) t 0 := by omega
    unfold ff at hQ
    have next : ∀ {h2 : xH} {w1 w4 : xV}, h2.1 = h.1 → (∀ r, r ≠ 103 → r ≠ 104 → h2.2 r = h.2 r) → ¬ ((decide (tx (h.2 96) t (1 + 12 * i) = 0 + 1) && ((!decide (vC (tx (h.2 96) t) nm i = 0)) == true)) = true) → zJ g (D + 3) 199 0 0 9 [xr 95, w1, xi t, xi (x32 ((i : Int) + 1)), w4] [] h2 (x_qi Q) := by
      intro h2 w1 w4 f1 f2 hno
      rw [x32_id (by omega) (by omega), show (i : Int) + 1 = ((i + 1 : Nat) : Int) by omega]
      rw [if_neg hno] at hQ
      exact l_rsort ht hT hn hm m (i + 1) (by omega) f1 f2 hQ
    refine zX9_sortOfWeb_9 ⟨fun z => by omega, fun z => r_clausesOf ht ?_⟩
    rw [e96]
    refine ⟨fun y => by omega, fun y => r_clauseAt ht (by omega) ?_⟩
    rw [show (((2000 + 900 * t + (1 + 12 * i) : Nat) : Int)).toNat = 2000 + 900 * t + (1 + 12 * i) by omega, e96, ← tx_at (A := h.2 96) (t := t) (k := 1 + 12 * i) (by omega)]
    refine ⟨by omega, fun w => zX9_sortOfWeb_44 ?_, fun w => next e1 e2 (by simp only [Bool.and_eq_true, decide_eq_true_eq]; omega)⟩
    refine r_work ht (by rw [e96]; exact hT) (i := i) (by rw [e96]; exact hi) (by rw [e96]; omega) hn (fun i hi => by rw [e2 102 (by decide) (by decide)]; exact hm i hi) (fun h2 f1 f2 f3 f4 => ?_)
    rw [e96] at f3 f4
    have g1 : h2.1 = h.1 := f1.trans e1
    have g2 : ∀ r, r ≠ 103 → r ≠ 104 → h2.2 r = h.2 r := fun r r1 r2 => (f2 r r1 r2).trans (e2 r r1 r2)
    have yk : decide (tx (h.2 96) t (1 + 12 * i) = 0 + 1) = true := by simp only [decide_eq_true_eq]; omega
    rw [f3 (by omega)]
    rw [yk, Bool.true_and] at hQ next
    refine ⟨fun q => zX9_sortOfWeb_70 (next g1 g2 (by simp [q])), fun q => ?_⟩
    have ev : ((!decide (vC (tx (h.2 96) t) nm i = 0)) == true) = true := by simp [q]
    rw [ev, if_pos (rfl : true = true), if_neg (by omega), show ((i : Int)).toNat = i by omega] at hQ
    rw [x32_id (by omega) (by omega), show (((2000 + 900 * t + (1 + 12 * i) : Nat) : Int) + 1).toNat = 2000 + 900 * t + (2 + 12 * i) by omega, g2 96 (by decide) (by decide), ← tx_at (A := h.2 96) (t := t) (k := 2 + 12 * i) (by omega)]
    exact ⟨by omega, hQ h2 g1 g2⟩
theorem r_sort {Q : Int → xH → Prop} (B : rA (h.2 96)) (hn : nm_ok nm) (hm : nmR h nm) (hQ : ∀ h2, h2.1 = h.1 → (∀ r, r ≠ 103 → r ≠ 104 → h2.2 r = h.2 r) → Q (if cF (h.2 96) (-1) 0 day nm true < 0 then -1 else tx (h.2 96) (aB (h.2 96) (-1) 0 day).toNat (2 + 12 * (cF (h.2 96) (-1) 0 day nm true).toNat)) h2) : zSi g (D + 3) mX9_sortOfWeb [xr 95, xi day] h Q := by
  have b1 := B.1
  refine eX9_sortOfWeb (zX9_sortOfWeb_0 (r_actFor (k := 0) B (fun e => ?_) (fun t e hl hf => ?_)))
  · have c : cF (h.2 96) (-1) 0 day nm true = -1 := by unfold cF; rw [show (0 : Int) = ((0 : Nat) : Int) from rfl, e]; rfl
    rw [c, if_pos (by decide)] at hQ
    exact zX9_sortOfWeb_9 ⟨fun _ => zX9_sortOfWeb_76 (hQ h rfl (fun _ _ _ => rfl)), fun z => absurd z (by decide)⟩
  · rw [show ((0 : Nat) : Int) = 0 from rfl] at e
    have c : cF (h.2 96) (-1) 0 day nm true = fC (tx (h.2 96) t) nm 0 true := by unfold cF; rw [e, if_neg (by omega), show ((t : Int)).toNat = t by omega]
    rw [c, e, show ((t : Int)).toNat = t by omega] at hQ
    have hT := (B.2.2.2 t hl)
    have hT0 := hT.1
    exact l_rsort (by omega) hT hn hm (tx (h.2 96) t 0).toNat 0 (by omega) rfl (fun _ _ _ => rfl) hQ
theorem l_rlacks {t : Nat} {Q : Int → xH → Prop} (ht : t < 10) (hT : tokT (tx (h.2 96) t)) (hn : nm_ok nm) (hm : nmR h nm) : ∀ (m i : Nat) {h' : xH} {w1 w4 : xV}, (i : Int) + m = tx (h.2 96) t 0 → h'.1 = h.1 → (∀ r, r ≠ 103 → r ≠ 104 → h'.2 r = h.2 r) → (∀ h2, h2.1 = h.1 → (∀ r, r ≠ 103 → r ≠ 104 → h2.2 r = h.2 r) → Q (ff (fun i => decide (tx (h.2 96) t (1 + 12 * i) = 1 + 1) && ((!decide (vC (tx (h.2 96) t) nm i = 0)) == false)) m i) h2) → zJ g (D + 3) 200 0 0 9 [xr 95, w1, xi t, xi i, w4] [] h' (x_qi Q)
  | 0, i, h', w1, w4, e, e1, e2, hQ => by
    have e96 : h'.2 96 = h.2 96 := e2 96 (by decide) (by decide)
    refine zX9_lacks_9 ⟨fun z => by omega, fun z => r_clausesOf ht ?_⟩
    rw [e96]
    exact ⟨fun z => zX9_lacks_68 (hQ h' e1 e2), fun z => by omega⟩
  | m + 1, i, h', w1, w4, e, e1, e2, hQ => by
    have e96 : h'.2 96 = h.2 96 := e2 96 (by decide) (by decide)
    have hT0 := hT.1
    have hi : (i : Int) < tx (h.2 96) t 0 := by omega
    unfold ff at hQ
    have next : ∀ {h2 : xH} {w1 w4 : xV}, h2.1 = h.1 → (∀ r, r ≠ 103 → r ≠ 104 → h2.2 r = h.2 r) → ¬ ((decide (tx (h.2 96) t (1 + 12 * i) = 1 + 1) && ((!decide (vC (tx (h.2 96) t) nm i = 0)) == false)) = true) → zJ g (D + 3) 200 0 0 9 [xr 95, w1, xi t, xi (x32 ((i : Int) + 1)), w4] [] h2 (x_qi Q) := by
      intro h2 w1 w4 f1 f2 hno
      rw [x32_id (by omega) (by omega), show (i : Int) + 1 = ((i + 1 : Nat) : Int) by omega]
      rw [if_neg hno] at hQ
      exact l_rlacks ht hT hn hm m (i + 1) (by omega) f1 f2 hQ
    refine zX9_lacks_9 ⟨fun z => by omega, fun z => r_clausesOf ht ?_⟩
    rw [e96]
    refine ⟨fun y => by omega, fun y => r_clauseAt ht (by omega) ?_⟩
    rw [show (((2000 + 900 * t + (1 + 12 * i) : Nat) : Int)).toNat = 2000 + 900 * t + (1 + 12 * i) by omega, e96, ← tx_at (A := h.2 96) (t := t) (k := 1 + 12 * i) (by omega)]
    refine ⟨by omega, fun w => zX9_lacks_44 ?_, fun w => next e1 e2 (by simp only [Bool.and_eq_true, decide_eq_true_eq]; omega)⟩
    refine r_work ht (by rw [e96]; exact hT) (i := i) (by rw [e96]; exact hi) (by rw [e96]; omega) hn (fun i hi => by rw [e2 102 (by decide) (by decide)]; exact hm i hi) (fun h2 f1 f2 f3 f4 => ?_)
    rw [e96] at f3 f4
    have g1 : h2.1 = h.1 := f1.trans e1
    have g2 : ∀ r, r ≠ 103 → r ≠ 104 → h2.2 r = h.2 r := fun r r1 r2 => (f2 r r1 r2).trans (e2 r r1 r2)
    have yk : decide (tx (h.2 96) t (1 + 12 * i) = 1 + 1) = true := by simp only [decide_eq_true_eq]; omega
    rw [f3 (by omega)]
    rw [yk, Bool.true_and] at hQ next
    refine ⟨fun q => zX9_lacks_62 (next g1 g2 (by simp [q])), fun q => ?_⟩
    rw [if_pos (by simp [q])] at hQ
    exact hQ h2 g1 g2
theorem r_lacks {Q : Int → xH → Prop} (B : rA (h.2 96)) (hn : nm_ok nm) (hm : nmR h nm) (hQ : ∀ h2, h2.1 = h.1 → (∀ r, r ≠ 103 → r ≠ 104 → h2.2 r = h.2 r) → Q (cF (h.2 96) (-1) 1 day nm false) h2) : zSi g (D + 3) mX9_lacks [xr 95, xi day] h Q := by
  have b1 := B.1
  refine eX9_lacks (zX9_lacks_0 (r_actFor (k := 1) B (fun e => ?_) (fun t e hl hf => ?_)))
  · have c : cF (h.2 96) (-1) 1 day nm false = -1 := by unfold cF; rw [show aB (h.2 96) (-1) 1 day = -1 from e]; rfl
    rw [c] at hQ
    exact zX9_lacks_9 ⟨fun _ => zX9_lacks_68 (hQ h rfl (fun _ _ _ => rfl)), fun z => absurd z (by decide)⟩
  · rw [show ((1 : Nat) : Int) = 1 from rfl] at e
    have c : cF (h.2 96) (-1) 1 day nm false = fC (tx (h.2 96) t) nm 1 false := by unfold cF; rw [e, if_neg (by omega), show ((t : Int)).toNat = t by omega]
    rw [c] at hQ
    have hT := (B.2.2.2 t hl)
    have hT0 := hT.1
    exact l_rlacks (by omega) hT hn hm (tx (h.2 96) t 0).toNat 0 (by omega) rfl (fun _ _ _ => rfl) hQ
theorem r_sumOf {k : Nat} {Q : Int → xH → Prop} (B : rA (h.2 96)) (hk : 3 ≤ k ∧ k < 6) (hn : nm_ok nm) (hm : nmR h nm) (hQ : ∀ h2, h2.1 = h.1 → (∀ r, r ≠ 103 → r ≠ 104 → h2.2 r = h.2 r) → Q (aM (h.2 96) (-1) k day nm) h2) : zSi g (D + 3) mX9_sumOf [xr 95, xi (k + 1), xi day] h Q := by
  have b1 := B.1
  unfold aM at hQ
  refine eX9_sumOf (zX9_sumOf_0 (r_actFor B (fun e => ?_) (fun t e hl hf => ?_)))
  · rw [e, if_pos (by decide)] at hQ
    exact ⟨fun z => absurd z (by decide), fun _ => hQ h rfl (fun _ _ _ => rfl)⟩
  · rw [e, if_neg (by omega), show ((t : Int)).toNat = t by omega] at hQ
    have hT := (B.2.2.2 t hl)
    refine ⟨fun z => zX9_sumOf_13 (r_firstOf (by omega) hT (fun e2 => by omega) (fun j hj => ?_)), fun z => by omega⟩
    rw [hj, show ((j : Int)).toNat = j by omega] at hQ
    have hj2 : (j : Int) < tx (h.2 96) t 0 ∧ tx (h.2 96) t (1 + 12 * j) = (k : Int) + 1 := by
      rcases fO_c (tx (h.2 96) t) k with c | ⟨i, c1, c2, c3⟩
      · omega
      · have : j = i := by omega
        subst this; exact ⟨c2, c3⟩
    have vb := (vC_b hT hn hj2.1).2 (by omega)
    refine r_work (by omega) hT hj2.1 (by omega) hn hm (fun h2 f1 f2 f3 f4 => ?_)
    rw [f4 (by omega)]
    refine ⟨fun q => zX9_sumOf_39 ?_, fun q => ?_⟩
    · rw [f4 (by omega), x32_id (by omega) (by omega)]
      have : max 0 (vC (tx (h.2 96) t) nm j) = vC (tx (h.2 96) t) nm j := by
        unfold x_cmp at q; repeat' split at q
        all_goals omega
      rw [this] at hQ
      exact hQ h2 f1 f2
    · have : max 0 (vC (tx (h.2 96) t) nm j) = 0 := by
        unfold x_cmp at q; repeat' split at q
        all_goals omega
      rw [this] at hQ
      exact hQ h2 f1 f2
theorem l_rweeks {a3 : Nat} {a4 a5 sh w0 : Int} {wk : Nat} {Q : xH → Prop} (hw : h.2 96 (a3 + 5) = (wk : Int)) (h20 : wk ≤ 20) (ha : a3 < 2000) (h0 : 0 ≤ w0 ∧ w0 ≤ 240) (hs : 0 ≤ sh ∧ sh ≤ 20) (hQ : ∀ {w1 w7 w8 : xV}, zJ g (D + 1) 198 0 0 90 [xr 95, w1, xi day, xi a3, xi a4, xi a5, xi (wd w0 sh wk), w7, w8] [] h (x_qv Q)) : ∀ (m n : Nat) {w1 : xV}, n + m = wk → zJ g (D + 1) 198 0 0 58 [xr 95, w1, xi day, xi a3, xi a4, xi a5, xi (wd w0 sh n), xi sh, xi n] [] h (x_qv Q)
  | 0, n, w1, e => by
    have : n = wk := by omega
    subst this
    refine zX9_name_58 ?_
    rw [x32_id (by omega) (by omega), show ((a3 : Int) + 5).toNat = a3 + 5 by omega, hw]
    exact ⟨by omega, fun z => hQ, fun z => by omega⟩
  | m + 1, n, w1, e => by
    have b := wd_b h0 hs n
    refine zX9_name_58 ?_
    rw [x32_id (show -2147483648 ≤ (a3 : Int) + 5 by omega) (by omega), show ((a3 : Int) + 5).toNat = a3 + 5 by omega, hw]
    refine ⟨by omega, fun z => by omega, fun z => ⟨by decide, ?_⟩⟩
    rw [x32_id (show -2147483648 ≤ wd w0 sh n * sh by omega) (by omega), x32_id (show -2147483648 ≤ (wd w0 sh n * sh).tdiv 100 by omega) (by omega), x32_id (by omega) (by omega), x32_id (by omega) (by omega), show (n : Int) + 1 = ((n + 1 : Nat) : Int) by omega]
    exact l_rweeks hw h20 ha h0 hs hQ m (n + 1) (by omega)
theorem r_personAt {p : Nat} {c : Nat} {Q : Int → xH → Prop} (hp : p < 30) (hc : c < 4) (hQ : Q (h.2 96 (30 + 4 * p + c)) h) : zSi g D mX9_personAt [xr 95, xi p, xi c] h Q := by
  refine eX9_personAt (zX9_personAt_0 ?_)
  simp (disch := omega) only [x32_id]
  rw [show (30 + 4 * (p : Int) + (c : Int)).toNat = 30 + 4 * p + c by omega]
  exact ⟨by omega, hQ⟩
theorem r_name {web x : Nat} {Q : xH → Prop} (B : rB (h.2 96)) (hw : (web : Int) < h.2 96 4) (hx : (x : Int) < h.2 96 5) (hd : 0 ≤ day ∧ day ≤ 999) (hQ : ∀ h', fR h h' → nmR h' (nm1 (h.2 96) (-1) web day x) → Q h') : zSv g (D + 4) mX9_name [xr 95, xi web, xi day, xi ((400 + 8 * x : Nat) : Int)] h Q := by
  obtain ⟨w1, w2, w3⟩ := web_b B hw
  have b1 := B.2.2.1
  obtain ⟨m0, m1, m2, m3, m4, m5, m6⟩ := B.2.2.2.2.2.2 x hx
  have sh : 0 ≤ nO (h.2 96) (-1) 6 day 0 ∧ nO (h.2 96) (-1) 6 day 0 ≤ 20 := nO_b B.1 (Or.inl rfl) 6 day 0 0 20 (by omega) (by omega)
  obtain ⟨-, -, -, nok⟩ := nm0_b B (Or.inl rfl : (-1 : Int) = -1 ∨ _) hw hx hd
  refine eX9_name (zX9_name_0 ?_)
  rw [x32_id (show -2147483648 ≤ 350 + (web : Int) by omega) (by omega), show (350 + (web : Int)).toNat = 350 + web by omega]
  obtain ⟨p, hp⟩ : ∃ p : Nat, h.2 96 (350 + web) = (p : Int) := ⟨(h.2 96 (350 + web)).toNat, by omega⟩
  have et : h.2 96 (30 + 4 * p + 0) = tO (h.2 96) web := by unfold tO; rw [hp]; rfl
  rw [hp]
  refine ⟨by omega, r_personAt (c := 0) (by omega) (by decide) ?_⟩
  rw [et]
  have ei : h.2 96 (20 + tO (h.2 96) web).toNat = iO (h.2 96) web := by unfold iO; rw [show (20 + tO (h.2 96) web).toNat = 20 + (tO (h.2 96) web).toNat by omega]
  rw [x32_id (show -2147483648 ≤ 20 + tO (h.2 96) web by omega) (by omega), ei, x32_id (show -2147483648 ≤ ((400 + 8 * x : Nat) : Int) + 2 by omega) (by omega), show (((400 + 8 * x : Nat) : Int) + 2).toNat = 402 + 8 * x by omega]
  have wb := w0_b m2 w3
  rw [x32_id (show -2147483648 ≤ h.2 96 (402 + 8 * x) * iO (h.2 96) web by omega) (by omega), x32_id (show -2147483648 ≤ (h.2 96 (402 + 8 * x) * iO (h.2 96) web).tdiv 100 by omega) (by omega)]
  refine ⟨by omega, by omega, by decide, r_numberOf (k := 6) B.1 ?_⟩
  rw [show ((6 : Nat) : Int) = 6 from rfl]
  obtain ⟨wk, hwk⟩ : ∃ wk : Nat, h.2 96 (405 + 8 * x) = (wk : Int) := ⟨(h.2 96 (405 + 8 * x)).toNat, by omega⟩
  refine l_rweeks (a3 := 400 + 8 * x) (wk := wk) (by rw [show 400 + 8 * x + 5 = 405 + 8 * x by omega]; exact hwk) (by omega) (by omega) wb.2 sh (fun {u1 u7 u8} => zX9_name_90 ?_) wk 0 (by omega)
  have e96 : ∀ (C : Nat → Nat → Int) (j : Nat) (v : Int), x_up C 102 j v 96 = C 96 := fun C j v => x_up_r (by decide)
  simp only [e96]
  rw [x32_id (show -2147483648 ≤ ((400 + 8 * x : Nat) : Int) + 3 by omega) (by omega), show (((400 + 8 * x : Nat) : Int) + 3).toNat = 403 + 8 * x by omega, x32_id (show -2147483648 ≤ ((400 + 8 * x : Nat) : Int) + 4 by omega) (by omega), show (((400 + 8 * x : Nat) : Int) + 4).toNat = 404 + 8 * x by omega, x32_id (show -2147483648 ≤ ((400 + 8 * x : Nat) : Int) + 5 by omega) (by omega), show (((400 + 8 * x : Nat) : Int) + 5).toNat = 405 + 8 * x by omega]
  have cb := c0_b m3 w3
  rw [x32_id (show -2147483648 ≤ h.2 96 (403 + 8 * x) * 100 by omega) (by omega), x32_id (show -2147483648 ≤ (h.2 96 (403 + 8 * x) * 100).tdiv (iO (h.2 96) web) by omega) (by omega)]
  refine ⟨by omega, by omega, by omega, by omega, ?_⟩
  generalize hC : x_up (x_up (x_up (x_up (x_up (x_up (x_up h.2 102 0 (wd ((h.2 96 (402 + 8 * x) * iO (h.2 96) web).tdiv 100) (nO (h.2 96) (-1) 6 day 0) wk)) 102 1 ((h.2 96 (403 + 8 * x) * 100).tdiv (iO (h.2 96) web))) 102 2 (h.2 96 (404 + 8 * x))) 102 3 (h.2 96 (405 + 8 * x))) 102 4 (tO (h.2 96) web)) 102 5 0) 102 6 day = C
  have C96 : C 96 = h.2 96 := by rw [← hC]; simp only [e96]
  have Cr : ∀ r, r ≠ 102 → C r = h.2 r := by
    intro r hr
    rw [← hC, x_up_r hr, x_up_r hr, x_up_r hr, x_up_r hr, x_up_r hr, x_up_r hr, x_up_r hr]
  have nC : nmR (h.1, C) (nm0 (h.2 96) (-1) web day x) := by
    intro i hi
    have ewk : (h.2 96 (405 + 8 * x)).toNat = wk := by omega
    rcases (show i = 0 ∨ i = 1 ∨ i = 2 ∨ i = 3 ∨ i = 4 ∨ i = 5 ∨ i = 6 by omega) with e | e | e | e | e | e | e <;> subst e
    · show C 102 0 = wd ((h.2 96 (402 + 8 * x) * iO (h.2 96) web).tdiv 100) (nO (h.2 96) (-1) 6 day 0) (h.2 96 (405 + 8 * x)).toNat
      rw [ewk, ← hC]; rfl
    all_goals (show C 102 _ = _; rw [← hC]; rfl)
  have S := r_sort (g := g) (D := D) (h := (h.1, C)) (day := day) (nm := nm0 (h.2 96) (-1) web day x) (Q := fun x1 h1 => (¬ ((x_up h1.2 102 5 x1) 102 5) = ((-1)) → zJ g (D + 4) 198 0 0 198 [xr 95, xu, xi day, xi ((400 + 8 * x : Nat) : Int), xi (tO (h.2 96) web), xi (iO (h.2 96) web), xi (wd ((h.2 96 (402 + 8 * x) * iO (h.2 96) web).tdiv 100) (nO (h.2 96) (-1) 6 day 0) wk), xu, xu] [] (h1.1, x_up h1.2 102 5 x1) (x_qv Q)) ∧ (((x_up h1.2 102 5 x1) 102 5) = ((-1)) → Q (h1.1, x_up (x_up h1.2 102 5 x1) 102 5 10))) (by show rA (C 96); rw [C96]; exact B.1) nok nC (fun h2 g1 g2 => ?_)
  · exact S
  · have e2 : ((h.1, C) : xH).2 96 = h.2 96 := C96
    rw [e2]
    have es : (if cF (h.2 96) (-1) 0 day (nm0 (h.2 96) (-1) web day x) true < 0 then -1 else tx (h.2 96) (aB (h.2 96) (-1) 0 day).toNat (2 + 12 * (cF (h.2 96) (-1) 0 day (nm0 (h.2 96) (-1) web day x) true).toNat)) = sO (h.2 96) (-1) web day x := rfl
    rw [es, x_up_eq]
    have fin : ∀ (C2 : Nat → Nat → Int) (v : Int), v = (if sO (h.2 96) (-1) web day x = -1 then 10 else sO (h.2 96) (-1) web day x) → (∀ r, r ≠ 102 → C2 r = h2.2 r) → (∀ i, i ≠ 5 → C2 102 i = h2.2 102 i) → C2 102 5 = v → Q (h2.1, C2) := by
      intro C2 v hv q1 q2 q3
      refine hQ _ ⟨g1, fun r r1 r2 r3 => by show C2 r = _; rw [q1 r r1, g2 r r2 r3]; exact Cr r r1⟩ (fun i hi => ?_)
      show C2 102 i = _
      unfold nm1
      by_cases e : i = 5
      · subst e; rw [if_pos rfl, q3, hv]
      · rw [if_neg e, q2 i e, g2 102 (by decide) (by decide)]; exact nC i hi
    refine ⟨fun z => zX9_name_198 (fin _ _ (by rw [if_neg z]) (fun r hr => x_up_r hr) (fun i hi => x_up_j hi) x_up_eq), fun z => fin _ _ (by rw [if_pos z]) (fun r hr => by rw [x_up_r hr, x_up_r hr]) (fun i hi => by rw [x_up_j hi, x_up_j hi]) x_up_eq⟩
end RN
