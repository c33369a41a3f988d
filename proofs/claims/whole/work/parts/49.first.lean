/-! the first clause that is so; fees, bounties, fines: in the class -/
theorem vC_b {T nm : Nat → Int} (hT : tokT T) (hn : nm_ok nm) {i : Nat} (hi : (i : Int) < T 0) : (T (1 + 12 * i) ≤ 3 → vC T nm i = 0 ∨ vC T nm i = 1) ∧ (T (1 + 12 * i) ≤ 6 → -1000000000 ≤ vC T nm i ∧ vC T nm i ≤ 1000000000) := by
  obtain ⟨u1, u2, u3, u4, u5, u6⟩ := hT.2 i hi
  have cks : ∀ j, j < (T (4 + 12 * i) - T (3 + 12 * i)).toNat → cok (T (250 + 2 * ((T (3 + 12 * i)).toNat + j))) (T (251 + 2 * ((T (3 + 12 * i)).toNat + j))) := fun j hj => u4 _ (by omega) (by omega)
  have b1 : T (1 + 12 * i) ≤ 3 → vC T nm i = 0 ∨ vC T nm i = 1 := fun e => (e_ok (w := fun j => T (251 + 2 * j)) hn (u5 e) cks).2.2.1 0 (by decide)
  refine ⟨b1, fun e => ?_⟩
  by_cases e3 : T (1 + 12 * i) ≤ 3
  · have := b1 e3; omega
  · exact (e_ok (w := fun j => T (251 + 2 * j)) hn (u6 (by omega) e) cks).2.2.2 0 (by decide)
def cF (A : Nat → Int) (bs k day : Int) (nm : Nat → Int) (so : Bool) : Int := if aB A bs k day < 0 then -1 else fC (tx A (aB A bs k day).toNat) nm k so
def aM (A : Nat → Int) (bs k day : Int) (nm : Nat → Int) : Int := if aB A bs k day < 0 then 0 else max 0 (vC (tx A (aB A bs k day).toNat) nm (fO (tx A (aB A bs k day).toNat) k).toNat)
theorem fB_of77 {h h' : xH} (e1 : h'.1 = h.1) (e2 : ∀ r, r ≠ 77 → h'.2 r = h.2 r) : fB h h' := ⟨e1, fun r _ _ r3 => e2 r r3, fun j _ => by rw [e2 75 (by decide)]⟩
theorem l_firstClause {g : xG} {D : Nat} {h : xH} {t r : Nat} {nm : Nat → Int} {k : Nat} {so : Bool} {Q : Int → xH → Prop} (a : aP h t r) (hk : k < 6) (hn : nm_ok nm) (hm : nmC h nm) : ∀ (m i : Nat) {h' : xH} {w2 : xV}, (i : Int) + m = tx (h.2 96) t 0 → h'.1 = h.1 → (∀ r, r ≠ 77 → h'.2 r = h.2 r) → (∀ h2, h2.1 = h.1 → (∀ r, r ≠ 77 → h2.2 r = h.2 r) → Q (ff (fun i => decide (tx (h.2 96) t (1 + 12 * i) = k + 1) && ((!decide (vC (tx (h.2 96) t) nm i = 0)) == so)) m i) h2) → zJ g (D + 3) 19 0 0 18 [xr 75, xi k, w2, xi (if so then 1 else 0), xr r, xi i] [] h' (x_qi Q)
  | 0, i, h', w2, e, e1, e2, hQ => by
    have a' := fB_aP (fB_of77 e1 e2) a
    have e96 : h'.2 96 = h.2 96 := e2 96 (by decide)
    obtain ⟨a1, a2, a3, a4⟩ := aP_act a'
    have e0 : (h'.2 r 0).toNat = r + 1 := by rw [a3]; simp
    rw [e96] at a4
    refine zX1_firstClause_18 ?_
    rw [e0, a4]
    exact ⟨a1, a2.1, fun z => zX1_firstClause_73 (hQ h' e1 e2), fun z => by omega⟩
  | m + 1, i, h', w2, e, e1, e2, hQ => by
    have a' := fB_aP (fB_of77 e1 e2) a
    have e96 : h'.2 96 = h.2 96 := e2 96 (by decide)
    obtain ⟨a1, a2, a3, a4⟩ := aP_act a'
    have hT := aP_T a
    have e0 : (h'.2 r 0).toNat = r + 1 := by rw [a3]; simp
    have hi : (i : Int) < tx (h.2 96) t 0 := by omega
    have hT0 := hT.1
    rw [e96] at a4
    have next : ∀ {h2 : xH} {w2 : xV}, h2.1 = h.1 → (∀ r, r ≠ 77 → h2.2 r = h.2 r) → ¬ ((decide (tx (h.2 96) t (1 + 12 * i) = k + 1) && ((!decide (vC (tx (h.2 96) t) nm i = 0)) == so)) = true) → zJ g (D + 3) 19 0 0 67 [xr 75, xi k, w2, xi (if so then 1 else 0), xr r, xi i] [] h2 (x_qi Q) := by
      intro h2 w2 f1 f2 hno
      refine zX1_firstClause_67 ?_
      rw [x32_id (by omega) (by omega), show (i : Int) + 1 = ((i + 1 : Nat) : Int) by omega]
      unfold ff at hQ
      rw [if_neg hno] at hQ
      exact l_firstClause a hk hn hm m (i + 1) (by omega) f1 f2 hQ
    refine zX1_firstClause_18 ?_
    rw [e0, a4]
    refine ⟨a1, a2.1, fun z => by omega, fun z => ⟨a1, s_kindAt a' (by rw [e96]; exact hi) ?_⟩⟩
    rw [e96]
    refine ⟨fun y => next e1 e2 (by simp only [Bool.and_eq_true, decide_eq_true_eq]; omega), fun y => ?_⟩
    refine s_valueOf a' (by rw [e96]; exact hi) (by rw [e96]; omega) hn (fun i hi => by rw [e2 76 (by decide)]; exact hm i hi) (fun h2 f1 f2 => ?_)
    have g1 : h2.1 = h.1 := f1.trans e1
    have g2 : ∀ r, r ≠ 77 → h2.2 r = h.2 r := fun r hr => (f2 r hr).trans (e2 r hr)
    rw [e96]
    have yk : decide (tx (h.2 96) t (1 + 12 * i) = (k : Int) + 1) = true := by simp only [decide_eq_true_eq]; omega
    unfold ff at hQ
    rw [yk, Bool.true_and] at hQ next
    have cmp0 : x_cmp (vC (tx (h.2 96) t) nm i) 0 = 0 ↔ vC (tx (h.2 96) t) nm i = 0 := by
      unfold x_cmp; repeat' split
      all_goals omega
    refine ⟨fun q => zX1_firstClause_59 (zX1_firstClause_60 ⟨fun p => next g1 g2 ?_, fun p => ?_⟩), fun q => zX1_firstClause_60 ⟨fun p => next g1 g2 ?_, fun p => ?_⟩⟩
    · have := cmp0.mp q
      cases so
      · exact absurd rfl p
      · simp [this]
    · have := cmp0.mp q
      cases so
      · rw [if_pos (by simp [this])] at hQ; exact hQ h2 g1 g2
      · exact absurd p (by decide)
    · have : ¬ vC (tx (h.2 96) t) nm i = 0 := fun z => q (cmp0.mpr z)
      cases so
      · simp [this]
      · exact absurd rfl p
    · have : ¬ vC (tx (h.2 96) t) nm i = 0 := fun z => q (cmp0.mpr z)
      cases so
      · exact absurd p (by decide)
      · rw [if_pos (by simp [this])] at hQ; exact hQ h2 g1 g2
theorem s_firstClause {g : xG} {D : Nat} {h : xH} {bs day : Int} {nm : Nat → Int} {k : Nat} {so : Bool} {Q : Int → xH → Prop} (b : zB h bs) (hk : k < 6) (hn : nm_ok nm) (hm : nmC h nm) (hQ : ∀ h2, h2.1 = h.1 → (∀ r, r ≠ 77 → h2.2 r = h.2 r) → Q (cF (h.2 96) bs k day nm so) h2) : zSi g (D + 3) mX1_firstClause [xr 75, xi k, xi day, xi (if so then 1 else 0)] h Q := by
  unfold cF at hQ
  refine eX1_firstClause (zX1_firstClause_0 (s_actFor b (by omega) (fun e => ?_) (fun t r e hl a hf => ?_)))
  · rw [e, if_pos (by decide)] at hQ
    exact ⟨fun z => absurd rfl z, fun _ => hQ h rfl (fun _ _ => rfl)⟩
  · have hr := a.2.1
    rw [e, if_neg (by omega), show ((t : Int)).toNat = t by omega] at hQ
    have hT := (aP_T a).1
    exact ⟨fun z => zX1_firstClause_15 (l_firstClause a hk hn hm (tx (h.2 96) t 0).toNat 0 (by omega) rfl (fun _ _ => rfl) hQ), fun z => by omega⟩
theorem s_amount {g : xG} {D : Nat} {h : xH} {bs day : Int} {nm : Nat → Int} {k : Nat} {Q : Int → xH → Prop} (b : zB h bs) (hk : 3 ≤ k ∧ k < 6) (hn : nm_ok nm) (hm : nmC h nm) (hQ : ∀ h2, h2.1 = h.1 → (∀ r, r ≠ 77 → h2.2 r = h.2 r) → Q (aM (h.2 96) bs k day nm) h2) : zSi g (D + 3) mX1_amount [xr 75, xi k, xi day] h Q := by
  unfold aM at hQ
  refine eX1_amount (zX1_amount_0 (s_actFor b (by omega) (fun e => ?_) (fun t r e hl a hf => ?_)))
  · rw [e, if_pos (by decide)] at hQ
    exact ⟨fun z => absurd rfl z, fun _ => hQ h rfl (fun _ _ => rfl)⟩
  · have hr := a.2.1
    rw [e, if_neg (by omega), show ((t : Int)).toNat = t by omega] at hQ
    refine ⟨fun z => zX1_amount_15 ⟨(aP_act a).1, s_firstOf a (by omega) ?_⟩, fun z => by omega⟩
    rcases fO_c (tx (h.2 96) t) k with c | ⟨i, c1, c2, c3⟩
    · omega
    · rw [c1] at hQ ⊢
      rw [show ((i : Int)).toNat = i by omega] at hQ
      have vb := (vC_b (aP_T a) hn c2).2 (by omega)
      refine s_valueOf a c2 (by omega) hn hm (fun h2 f1 f2 => ?_)
      rw [x32_id (by omega) (by omega)]
      exact hQ h2 f1 f2
