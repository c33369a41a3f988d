/-! the class's acts, read -/
def aP (h : xH) (t r : Nat) : Prop := h.2 42 t = (r : Int) ∧ 111 ≤ r ∧ pActB h.1 (h.2 r) (h.2 (r + 1)) (h.2 (r + 2)) (h.2 (r + 3)) r (tx (h.2 96) t)
/-- tables but lots, scalars, acts -/
def pCw (h : xH) (L : Nat) (A : Nat → Int) : Prop := (∀ t, t < 11 → cT h.2 L A t) ∧ pSc h.2 L A ∧ True ∧ True ∧ True ∧ pActs h L A
theorem pCw_of {h : xH} {L : Nat} {A E : Nat → Int} (q : pC h L A E) : pCw h L A := ⟨fun t ht => q.1 t (by omega), q.2.1, trivial, trivial, trivial, q.2.2.2.2.2⟩
theorem pCw_congr {h h' : xH} {A : Nat → Int} (h1 : h'.1 = h.1) (hC : ∀ r, (17 ≤ r ∧ r ≤ 40) ∨ r = 42 ∨ 111 ≤ r → h'.2 r = h.2 r) (hm : A 6 ≤ 10) (hp : pCw h 17 A) : pCw h' 17 A := by
  obtain ⟨p1, p2, -, -, -, p6⟩ := hp
  refine ⟨fun t ht => ?_, ?_, trivial, trivial, trivial, pActs_frame h1 (fun j => by rw [hC (17 + 25) (Or.inr (Or.inl rfl))]) (fun r hr => hC r (Or.inr (Or.inr hr))) (fun _ _ _ => rfl) rfl hm p6⟩
  · intro h9
    obtain ⟨c1, c2⟩ := p1 t ht h9
    refine ⟨by rw [hC _ (Or.inl ⟨by omega, by omega⟩)]; exact c1, fun i hi p hp => ?_⟩
    rw [hC _ (Or.inl ⟨by omega, by omega⟩)]
    exact c2 i hi p hp
  · unfold pSc
    rw [hC 17 (Or.inl ⟨by omega, by omega⟩)]
    exact p2
/-- what the class reads: tables and acts, and the act beside (bs; -1: none) -/
def zB (h : xH) (bs : Int) : Prop := zSh h ∧ pM (h.2 96) ∧ pCw h 17 (h.2 96) ∧ ((bs = -1 ∧ h.2 75 3 = 0) ∨ (0 ≤ bs ∧ bs < h.2 96 6 ∧ h.2 75 3 = h.2 42 bs.toNat))
theorem zB_of {h : xH} (hs : zSh h) (I : zInv h) : zB h (-1) := ⟨hs, I.1, pCw_of I.2.2.1, Or.inl ⟨rfl, I.2.2.2.2.2.2.2.2.2.2.2⟩⟩
/-- names, pile and sort of the bench may change -/
def fB (h h' : xH) : Prop := h'.1 = h.1 ∧ (∀ r, r ≠ 75 → r ≠ 76 → r ≠ 77 → h'.2 r = h.2 r) ∧ ∀ j, j ≠ 4 → h'.2 75 j = h.2 75 j
theorem fB_refl (h : xH) : fB h h := ⟨rfl, fun _ _ _ _ => rfl, fun _ _ => rfl⟩
theorem fB_trans {h h1 h2 : xH} (a : fB h h1) (b : fB h1 h2) : fB h h2 := ⟨b.1.trans a.1, fun r r1 r2 r3 => (b.2.1 r r1 r2 r3).trans (a.2.1 r r1 r2 r3), fun j hj => (b.2.2 j hj).trans (a.2.2 j hj)⟩
theorem fB_76 {h : xH} {j : Nat} {v : Int} : fB h (h.1, x_up h.2 76 j v) := ⟨rfl, fun r _ r2 _ => x_up_r r2, fun j _ => by dsimp only; rw [x_up_r (by decide)]⟩
theorem fB_77 {h : xH} {j : Nat} {v : Int} : fB h (h.1, x_up h.2 77 j v) := ⟨rfl, fun r _ _ r3 => x_up_r r3, fun j _ => by dsimp only; rw [x_up_r (by decide)]⟩
theorem fB_75 {h : xH} {v : Int} : fB h (h.1, x_up h.2 75 4 v) := ⟨rfl, fun r r1 _ _ => x_up_r r1, fun j hj => by dsimp only; rw [x_up_j hj]⟩
theorem fB_96 {h h' : xH} (f : fB h h') : h'.2 96 = h.2 96 := f.2.1 96 (by decide) (by decide) (by decide)
theorem fB_zSh {h h' : xH} (f : fB h h') (hs : zSh h) : zSh h' := by
  refine ⟨by rw [f.1]; exact hs.1, fun r j v hv => ?_⟩
  by_cases e : r = 75
  · subst e
    have hj : j ≠ 4 := by
      intro z; subst z
      have : z_pt 75 4 = none := by decide +kernel
      rw [this] at hv; cases hv
    rw [f.2.2 j hj]; exact hs.2 _ _ _ hv
  · by_cases e2 : r = 76
    · subst e2
      unfold z_pt at hv
      have : zPr.getD (76 - 16) [] = [] := by decide +kernel
      rw [this] at hv; cases hv
    · by_cases e3 : r = 77
      · subst e3
        unfold z_pt at hv
        have : zPr.getD (77 - 16) [] = [] := by decide +kernel
        rw [this] at hv; cases hv
      · rw [f.2.1 r e e2 e3]; exact hs.2 _ _ _ hv
theorem fB_zB {h h' : xH} {bs : Int} (f : fB h h') (b : zB h bs) : zB h' bs := by
  obtain ⟨b0, b1, b2, b3⟩ := b
  refine ⟨fB_zSh f b0, by rw [fB_96 f]; exact b1, ?_, ?_⟩
  · rw [fB_96 f]
    exact pCw_congr f.1 (fun r hr => f.2.1 r (by omega) (by omega) (by omega)) b1.1.2.1.2 b2
  · rw [f.2.2 3 (by decide), fB_96 f, f.2.1 42 (by decide) (by decide) (by decide)]; exact b3
theorem fB_inv {h h' : xH} (f : fB h h') (I : zInv h) : zInv h' := by
  refine inv_tp I f.1 (fun r hr => f.2.1 r (by omega) (by omega) (by omega)) ?_
  obtain ⟨q1, q2, q3, q4, q5, q6, q7, q8⟩ := I.2.2.2.2
  unfold pTp
  rw [f.2.1 43 (by decide) (by decide) (by decide), f.2.1 44 (by decide) (by decide) (by decide), f.2.1 74 (by decide) (by decide) (by decide), f.2.1 95 (by decide) (by decide) (by decide), f.2.1 100 (by decide) (by decide) (by decide), f.2.2 3 (by decide)]
  exact ⟨q1, q2, q3, q4, q5, q6, q7, q8⟩
theorem fB_aP {h h' : xH} {t r : Nat} (f : fB h h') (a : aP h t r) : aP h' t r := by
  obtain ⟨a1, a2, a3⟩ := a
  refine ⟨by rw [f.2.1 42 (by decide) (by decide) (by decide)]; exact a1, a2, ?_⟩
  rw [f.1, f.2.1 r (by omega) (by omega) (by omega), f.2.1 (r + 1) (by omega) (by omega) (by omega), f.2.1 (r + 2) (by omega) (by omega) (by omega), f.2.1 (r + 3) (by omega) (by omega) (by omega), fB_96 f]
  exact a3
theorem zB_act {h : xH} {bs : Int} (b : zB h bs) {t : Nat} (ht : (t : Int) < h.2 96 6) : ∃ r, aP h t r := b.2.2.1.2.2.2.2.2.1 t ht
section AC
variable {g : xG} {D : Nat} {h : xH} {bs : Int} {t r : Nat}
theorem aP_T (a : aP h t r) : tokT (tx (h.2 96) t) := by obtain ⟨-, -, N, -, -, -, -, -, -, -, -, -, -, -, z, -⟩ := a; exact z
theorem aP_act (a : aP h t r) : x_is h r 0 4 ∧ pR h (r + 1) (r + 2) 20 4 ∧ h.2 r 0 = ((r + 1 : Nat) : Int) ∧ h.2 (r + 1) 3 = tx (h.2 96) t 0 := by
  obtain ⟨-, -, N, k0, k1, k2, k3, k4, e0, e1, e2, e3, e4, e5, -⟩ := a
  exact ⟨⟨k0, k1⟩, ⟨⟨by omega, k2⟩, ⟨by omega, k3⟩, e2, e3, e4, by decide⟩, e0, e5⟩
theorem aP_row (a : aP h t r) {i : Nat} (hi : (i : Int) < tx (h.2 96) t 0) : h.2 (r + 2) (i * 4) = tx (h.2 96) t (1 + 12 * i) - 1 ∧ (tx (h.2 96) t (1 + 12 * i) = 1 ∨ 7 ≤ tx (h.2 96) t (1 + 12 * i) → h.2 (r + 2) (i * 4 + 1) = tx (h.2 96) t (2 + 12 * i)) ∧ h.2 (r + 2) (i * 4 + 2) = tx (h.2 96) t (3 + 12 * i) ∧ h.2 (r + 2) (i * 4 + 3) = tx (h.2 96) t (4 + 12 * i) := by
  obtain ⟨-, -, N, k0, k1, k2, k3, k4, e0, e1, e2, e3, e4, e5, -, e6, -⟩ := a
  exact e6 i hi
theorem fO_c (T : Nat → Int) (k : Int) : (fO T k = -1 ∧ ¬ ∃ i : Nat, (i : Int) < T 0 ∧ T (1 + 12 * i) = k + 1) ∨ (∃ i : Nat, fO T k = (i : Int) ∧ (i : Int) < T 0 ∧ T (1 + 12 * i) = k + 1) := by
  rcases ff_c (fun i => decide (T (1 + 12 * i) = k + 1)) (T 0).toNat 0 with ⟨h1, h2⟩ | ⟨j, h1, h2, h3, h4⟩
  · refine Or.inl ⟨h1, fun ⟨i, i1, i2⟩ => ?_⟩
    have := h2 i (by omega) (by omega)
    simp only [decide_eq_false_iff_not] at this
    exact this i2
  · exact Or.inr ⟨j, h1, by omega, by simpa using h4⟩
theorem s_tells {k : Nat} {Q : Int → xH → Prop} (a : aP h t r) (hk : k < 10) (hQ : ∀ v : Int, (v = 1 ∧ 0 ≤ fO (tx (h.2 96) t) k) ∨ (v = 0 ∧ fO (tx (h.2 96) t) k = -1) → Q v h) : zSi g D mX0_tells [xr r, xi k] h Q := by
  have key : x_and (x_shr (h.2 r 2) k) 1 = 1 ↔ ∃ i : Nat, (i : Int) < tx (h.2 96) t 0 ∧ tx (h.2 96) t (1 + 12 * i) = (k : Int) + 1 := by
    obtain ⟨-, -, N, k0, k1, k2, k3, k4, e0, e1, e2, e3, e4, e5, -, e6, e7, e8⟩ := a
    exact e8 k hk
  have hc := fO_c (tx (h.2 96) t) k
  refine eX0_tells (zX0_tells_0 ⟨(aP_act a).1, fun z => zX0_tells_16 ⟨Or.inl rfl, hQ 0 ?_⟩, fun z => ⟨Or.inr rfl, hQ 1 ?_⟩⟩)
  · rcases hc with c | ⟨i, c1, c2, c3⟩
    · exact Or.inr ⟨rfl, c.1⟩
    · exact absurd (key.mpr ⟨i, c2, c3⟩) z
  · rcases hc with c | ⟨i, c1, c2, c3⟩
    · exact absurd (key.mp z) c.2
    · exact Or.inl ⟨rfl, by omega⟩
theorem s_kindAt {i : Nat} {Q : Int → xH → Prop} (a : aP h t r) (hi : (i : Int) < tx (h.2 96) t 0) (hQ : Q (tx (h.2 96) t (1 + 12 * i) - 1) h) : zSi g (D + 1) mX0_kindAt [xr r, xi i] h Q := by
  obtain ⟨a1, a2, a3, a4⟩ := aP_act a
  have hT := (aP_T a).1
  have e : (h.2 r 0).toNat = r + 1 := by rw [a3]; simp
  refine eX0_kindAt (zX0_kindAt_0 ?_)
  rw [e]
  refine ⟨a1, a2.1, s_get a2 (by omega) (by omega) (by omega) (by omega) ?_⟩
  rw [show ((i : Int) * ((4 : Nat) : Int) + 0).toNat = i * 4 by omega, (aP_row a hi).1]
  exact hQ
theorem s_numberAt {i : Nat} {Q : Int → xH → Prop} (a : aP h t r) (hi : (i : Int) < tx (h.2 96) t 0) (hk : tx (h.2 96) t (1 + 12 * i) = 1 ∨ 7 ≤ tx (h.2 96) t (1 + 12 * i)) (hQ : Q (tx (h.2 96) t (2 + 12 * i)) h) : zSi g (D + 1) mX0_numberAt [xr r, xi i] h Q := by
  obtain ⟨a1, a2, a3, a4⟩ := aP_act a
  have hT := (aP_T a).1
  have e : (h.2 r 0).toNat = r + 1 := by rw [a3]; simp
  refine eX0_numberAt (zX0_numberAt_0 ?_)
  rw [e]
  refine ⟨a1, a2.1, s_get a2 (by omega) (by omega) (by omega) (by omega) ?_⟩
  rw [show ((i : Int) * ((4 : Nat) : Int) + 1).toNat = i * 4 + 1 by omega, (aP_row a hi).2.1 hk]
  exact hQ
theorem l_firstOf {k : Int} {Q : Int → xH → Prop} (a : aP h t r) (hk : -100 ≤ k ∧ k ≤ 100) : ∀ (m i : Nat), (i : Int) + m = tx (h.2 96) t 0 → Q (ff (fun i => decide (tx (h.2 96) t (1 + 12 * i) = k + 1)) m i) h → zJ g (D + 2) 7 0 0 2 [xr r, xi k, xi i] [] h (x_qi Q)
  | 0, i, e, hQ => by
    obtain ⟨a1, a2, a3, a4⟩ := aP_act a
    have e0 : (h.2 r 0).toNat = r + 1 := by rw [a3]; simp
    refine zX0_firstOf_2 ?_
    rw [e0]
    exact ⟨a1, a2.1, fun z => zX0_firstOf_30 hQ, fun z => by omega⟩
  | m + 1, i, e, hQ => by
    obtain ⟨a1, a2, a3, a4⟩ := aP_act a
    have hT := (aP_T a).1
    have e0 : (h.2 r 0).toNat = r + 1 := by rw [a3]; simp
    unfold ff at hQ
    refine zX0_firstOf_2 ?_
    rw [e0]
    refine ⟨a1, a2.1, fun z => by omega, fun z => ⟨a1, s_kindAt a (by omega) ⟨fun y => zX0_firstOf_24 ?_, fun y => ?_⟩⟩⟩
    · rw [x32_id (by omega) (by omega), show (i : Int) + 1 = ((i + 1 : Nat) : Int) by omega]
      rw [if_neg (by simp only [decide_eq_true_eq]; omega)] at hQ
      exact l_firstOf a hk m (i + 1) (by omega) hQ
    · rw [if_pos (by simp only [decide_eq_true_eq]; omega)] at hQ
      exact hQ
theorem s_firstOf {k : Int} {Q : Int → xH → Prop} (a : aP h t r) (hk : -100 ≤ k ∧ k ≤ 100) (hQ : Q (fO (tx (h.2 96) t) k) h) : zSi g (D + 2) mX0_firstOf [xr r, xi k] h Q := by
  have hT := (aP_T a).1
  exact eX0_firstOf (zX0_firstOf_0 (l_firstOf a hk (tx (h.2 96) t 0).toNat 0 (by omega) hQ))
theorem s_actAt {Q : Nat → xH → Prop} (b : zB h bs) {x : Int} (h0 : (¬ (0 ≤ x ∧ x < h.2 96 6)) → Q 0 h) (h1 : ∀ (t r : Nat), x = (t : Int) → x < h.2 96 6 → aP h t r → Q r h) : zSr g D mX2_actAt [xr 17, xi x] h Q := by
  have e13 : h.2 17 13 = h.2 96 6 := b.2.2.1.2.1.1
  have e6 := b.2.1.1.2.1
  refine eX2_actAt (zX2_actAt_0 ⟨fun z => zX2_actAt_30 (h0 (by omega)), fun z => ⟨fun y => zX2_actAt_30 (h0 (by omega)), fun y => ⟨fun w => by omega, fun w => ⟨⟨z, w⟩, ?_⟩⟩⟩⟩)
  obtain ⟨t, rfl⟩ : ∃ t : Nat, x = (t : Int) := ⟨x.toNat, by omega⟩
  obtain ⟨r, a⟩ := zB_act b (t := t) (by omega)
  have : (h.2 42 (t : Int).toNat).toNat = r := by rw [show ((t : Int)).toNat = t by omega, a.1]; simp
  rw [this]
  exact h1 t r rfl (by omega) a
/-- the force's row -/
theorem zB_force (b : zB h bs) {f : Nat} (hf : (f : Int) < h.2 96 7) : h.2 29 (f * 3) = h.2 96 (11000 + 4 * f) ∧ h.2 29 (f * 3 + 1) = h.2 96 (11001 + 4 * f) ∧ h.2 29 (f * 3 + 2) = h.2 96 (11002 + 4 * f) ∧ (0 ≤ h.2 96 (11000 + 4 * f) ∧ h.2 96 (11000 + 4 * f) < h.2 96 6) := by
  have c5 := ((b.2.2.1.1 5 (by decide)) (by decide)).2 f hf
  have rk : (0 ≤ h.2 96 (11000 + 4 * f) ∧ h.2 96 (11000 + 4 * f) < h.2 96 6) ∧ (0 ≤ h.2 96 (11001 + 4 * f) ∧ h.2 96 (11001 + 4 * f) ≤ 999) ∧ 0 ≤ h.2 96 (11002 + 4 * f) ∧ h.2 96 (11002 + 4 * f) ≤ 999 := b.2.1.2.2 5 (by decide) (by decide) f hf
  refine ⟨c5 (0, 0) (by decide), ?_, ?_, rk.1⟩
  · rw [show 11001 + 4 * f = 11000 + 4 * f + 1 by omega]; exact c5 (1, 1) (by decide)
  · rw [show 11002 + 4 * f = 11000 + 4 * f + 2 by omega]; exact c5 (2, 2) (by decide)
theorem l_actFor {k : Nat} {day : Int} {Q : Nat → xH → Prop} (b : zB h bs) (hk : k < 10) : ∀ (n : Nat) {w5 : xV}, (n : Int) ≤ h.2 96 7 → (aF (h.2 96) k day n = -1 → Q 0 h) → (∀ (t r : Nat), aF (h.2 96) k day n = (t : Int) → (t : Int) < h.2 96 6 → aP h t r → 0 ≤ fO (tx (h.2 96) t) k → Q r h) → zJ g (D + 1) 16 0 0 39 [xr 75, xi k, xi day, xr 28, xi ((n : Int) - 1), w5] [] h (x_qr Q)
  | 0, w5, hn, h0, h1 => zX1_actFor_39 ⟨fun z => zX1_actFor_105 (h0 rfl), fun z => by omega⟩
  | n + 1, w5, hn, h0, h1 => by
    have R : pR h 28 29 30 3 := z_R b.1 rfl rfl rfl rfl rfl (by decide)
    have hz : 0 ≤ h.2 96 7 ∧ h.2 96 7 ≤ 30 := b.2.1.1.2.2.2.2.2.2 5 (by decide) (by decide)
    obtain ⟨f0, f1, f2, f3⟩ := zB_force b (f := n) (by omega)
    rw [show ((n + 1 : Nat) : Int) - 1 = (n : Int) by omega]
    have back : ∀ {w5 : xV}, ¬ (h.2 96 (11001 + 4 * n) ≤ day ∧ day ≤ h.2 96 (11002 + 4 * n) ∧ 0 ≤ fO (tx (h.2 96) (h.2 96 (11000 + 4 * n)).toNat) k) → zJ g (D + 1) 16 0 0 99 [xr 75, xi k, xi day, xr 28, xi n, w5] [] h (x_qr Q) := by
      intro w5 hno
      unfold aF at h0 h1
      rw [if_neg hno] at h0
      refine zX1_actFor_99 ?_
      rw [x32_id (by omega) (by omega), show (n : Int) + -1 = (n : Int) - 1 by omega]
      exact l_actFor b hk n (by omega) h0 (fun t r ht => h1 t r (by rw [if_neg hno]; exact ht))
    refine zX1_actFor_39 ⟨fun z => by omega, fun z => s_get R (by omega) (by omega) (by omega) (by omega) ?_⟩
    rw [show ((n : Int) * ((3 : Nat) : Int) + 1).toNat = n * 3 + 1 by omega, f1]
    refine ⟨fun y => back (by omega), fun y => s_get R (by omega) (by omega) (by omega) (by omega) ?_⟩
    rw [show ((n : Int) * ((3 : Nat) : Int) + 2).toNat = n * 3 + 2 by omega, f2]
    refine ⟨fun w => back (by omega), fun w => s_get R (by omega) (by omega) (by omega) (by omega) ?_⟩
    rw [show ((n : Int) * ((3 : Nat) : Int) + 0).toNat = n * 3 by omega, f0]
    refine s_actAt b (fun q => absurd f3 q) (fun t r ht hlt a => ⟨fun q => by have := a.2.1; omega, fun q => ⟨(aP_act a).1, s_tells a hk (fun v hv => ⟨fun p => back ?_, fun p => ?_⟩)⟩⟩)
    · rw [ht, show ((t : Int)).toNat = t by omega]; omega
    · have hyes : h.2 96 (11001 + 4 * n) ≤ day ∧ day ≤ h.2 96 (11002 + 4 * n) ∧ 0 ≤ fO (tx (h.2 96) (h.2 96 (11000 + 4 * n)).toNat) k := by
        rw [ht, show ((t : Int)).toNat = t by omega]; omega
      refine h1 t r ?_ (by omega) a (by omega)
      unfold aF
      rw [if_pos hyes, ht]
theorem s_actFor {k : Nat} {day : Int} {Q : Nat → xH → Prop} (b : zB h bs) (hk : k < 10) (h0 : aB (h.2 96) bs k day = -1 → Q 0 h) (h1 : ∀ (t r : Nat), aB (h.2 96) bs k day = (t : Int) → (t : Int) < h.2 96 6 → aP h t r → 0 ≤ fO (tx (h.2 96) t) k → Q r h) : zSr g (D + 1) mX1_actFor [xr 75, xi k, xi day] h Q := by
  have hz : 0 ≤ h.2 96 7 ∧ h.2 96 7 ≤ 30 := b.2.1.1.2.2.2.2.2.2 5 (by decide) (by decide)
  have hsz : h.2 28 3 = h.2 96 7 := ((b.2.2.1.1 5 (by decide)) (by decide)).1
  have go : ¬ (0 ≤ bs ∧ 0 ≤ fO (tx (h.2 96) bs.toNat) k) → zJ g (D + 1) 16 0 0 23 [xr 75, xi k, xi day, xu, xu, xu] [] h (x_qr Q) := by
    intro hno
    unfold aB at h0 h1
    rw [if_neg hno] at h0
    refine zX1_actFor_23 ?_
    rw [hsz, x32_id (by omega) (by omega)]
    have := l_actFor (g := g) (D := D) (w5 := xu) b hk (h.2 96 7).toNat (by omega) h0 (fun t r ht => h1 t r (by rw [if_neg hno]; exact ht))
    rw [show (((h.2 96 7).toNat : Nat) : Int) = h.2 96 7 by omega] at this
    exact this
  refine eX1_actFor (zX1_actFor_0 ?_)
  rcases b.2.2.2 with ⟨c1, c2⟩ | ⟨c1, c2, c3⟩
  · exact ⟨fun z => go (by omega), fun z => by omega⟩
  · obtain ⟨t, rfl⟩ : ∃ t : Nat, bs = (t : Int) := ⟨bs.toNat, by omega⟩
    obtain ⟨r, a⟩ := zB_act b c2
    have e : (h.2 75 3).toNat = r := by rw [c3, show ((t : Int)).toNat = t by omega, a.1]; simp
    rw [e]
    have := a.2.1
    refine ⟨fun z => by omega, fun z => ⟨(aP_act a).1, s_tells a hk (fun v hv => ⟨fun y => go ?_, fun y => ?_⟩)⟩⟩
    · rw [show ((t : Int)).toNat = t by omega]; omega
    · rw [e]
      refine h1 t r ?_ c2 a (by omega)
      unfold aB
      rw [if_pos ⟨c1, by rw [show ((t : Int)).toNat = t by omega]; omega⟩]
end AC
