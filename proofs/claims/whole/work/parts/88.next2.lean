/-! the reference's next token -/
section NX2
variable {g : xG} {D : Nat} {b : Nat → Int} {n : Nat}
theorem l_rsign {h0 h : xH} {q : Nat} {Q : xH → Prop} {w2 : xV} (hq : q < n) (nl : isLt (b q) = false) (nd : isDg (b q) = false) (Z : rB8 h b n) (f : fN h0 h) (c8 : h.2 95 8 = (q : Int)) (c9 : h.2 95 9 = (q : Int)) (hQ : ∀ h1, fN h0 h1 → rQ h1 b n q → Q h1) : zJ g (D + 2) 161 0 0 245 [xr 95, xi (b q), w2] [] h (x_qv Q) := by
  have ow := Z.2.1
  have et : tc b n q = tsg (b q) (b (q + 1)) := by unfold tc; rw [if_neg (by omega), if_neg (by rw [nd]; decide), if_neg (by rw [nl]; decide)]
  have en : nx b n q = if (b q = 60 ∨ b q = 62) ∧ b (q + 1) = 61 then q + 2 else q + 1 := by unfold nx; rw [if_neg (by omega), if_neg (by rw [nl]; decide), if_neg (by rw [nd]; decide)]
  have fin : ∀ {h1 : xH}, fN h0 h1 → h1.2 95 8 = (nx b n q : Int) → h1.2 95 9 = (q : Int) → h1.2 95 10 = tsg (b q) (b (q + 1)) → Q h1 := fun f1 d8 d9 d10 => hQ _ f1 ⟨d8, d9, by rw [et]; exact d10, fun z => absurd z (by rw [nd]; decide), fun z => absurd z (by rw [nl]; decide)⟩
  rw [en] at fin
  have e245 := @zX9_nextToken_245 g (D + 1) (b q) w2 h Q
  rw [c8, x32_id (by omega) (by omega)] at e245
  have Z1 : rB8 (h.1, x_up h.2 95 8 ((q : Int) + 1)) b n := fN_B (fN_up (fN_refl h) (Or.inl rfl)) Z
  have f1 : fN h0 (h.1, x_up h.2 95 8 ((q : Int) + 1)) := fN_up f (Or.inl rfl)
  -- the token's sign
  have k343 : ∀ {w2 : xV} {s0 : Int}, (¬ ((b q = 60 ∨ b q = 62) ∧ b (q + 1) = 61) → s0 = tsg (b q) (b (q + 1))) → zJ g (D + 2) 161 0 0 343 [xr 95, xi (b q), w2] [xi s0, xr 95] (h.1, x_up h.2 95 8 ((q : Int) + 1)) (x_qv Q) := by
    intro w2 s0 hs
    have f2 : fN h0 (h.1, x_up (x_up h.2 95 8 ((q : Int) + 1)) 95 10 s0) := fN_up f1 (Or.inr (Or.inr (Or.inl rfl)))
    have Z2 : rB8 (h.1, x_up (x_up h.2 95 8 ((q : Int) + 1)) 95 10 s0) b n := fN_B (fN_up (fN_refl _) (Or.inr (Or.inr (Or.inl rfl)))) Z1
    have d8 : x_up (x_up h.2 95 8 ((q : Int) + 1)) 95 10 s0 95 8 = ((q + 1 : Nat) : Int) := by rw [x_up_j (by decide), x_up_eq]; omega
    have d9 : x_up (x_up h.2 95 8 ((q : Int) + 1)) 95 10 s0 95 9 = (q : Int) := by rw [x_up_j (by decide), x_up_j (by decide)]; exact c9
    have no : ¬ ((b q = 60 ∨ b q = 62) ∧ b (q + 1) = 61) → Q (h.1, x_up (x_up h.2 95 8 ((q : Int) + 1)) 95 10 s0) := fun z => fin f2 (by rw [if_neg z]; exact d8) d9 (by dsimp only; rw [x_up_eq]; exact hs z)
    have k358 : ∀ {w2 : xV}, (b q = 60 ∨ b q = 62) → zJ g (D + 2) 161 0 0 358 [xr 95, xi (b q), w2] [] (h.1, x_up (x_up h.2 95 8 ((q : Int) + 1)) 95 10 s0) (x_qv Q) := by
      intro w2 z
      refine zX9_nextToken_358 ?_
      dsimp only
      rw [d8]
      refine r_see Z2 ⟨fun y => zX9_nextToken_396 (no (fun x => y x.2)), fun y => ?_⟩
      have e8 : x32 (x_up (x_up h.2 95 8 ((q : Int) + 1)) 95 10 s0 95 8 + 1) = ((q + 2 : Nat) : Int) := by rw [d8, x32_id (by omega) (by omega)]; omega
      dsimp only
      rw [e8]
      have f3 : fN h0 (h.1, x_up (x_up (x_up h.2 95 8 ((q : Int) + 1)) 95 10 s0) 95 8 ((q + 2 : Nat) : Int)) := fN_up f2 (Or.inl rfl)
      refine ⟨fun x => zX9_nextToken_392 (fin (fN_up f3 (Or.inr (Or.inr (Or.inl rfl)))) ?_ ?_ ?_), fun x => fin (fN_up f3 (Or.inr (Or.inr (Or.inl rfl)))) ?_ ?_ ?_⟩ <;> dsimp only
      · rw [x_up_j (by decide), x_up_eq, if_pos ⟨z, y⟩]
      · rw [x_up_j (by decide), x_up_j (by decide)]; exact d9
      · rw [x_up_eq]; unfold tsg; rw [if_neg x, if_pos (by omega), if_pos y]
      · rw [x_up_j (by decide), x_up_eq, if_pos ⟨z, y⟩]
      · rw [x_up_j (by decide), x_up_j (by decide)]; exact d9
      · rw [x_up_eq]; unfold tsg; rw [if_pos x, if_pos y]
    exact zX9_nextToken_343 ⟨fun z => k358 (Or.inl z), fun z => ⟨fun z2 => zX9_nextToken_396 (no (by omega)), fun z2 => k358 (Or.inr z2)⟩⟩
  have y : ∀ {w2 : xV}, (b q = 60 ∨ b q = 62 ∨ b q = 61 ∨ b q = 35 ∨ b q = 43 ∨ b q = 45 ∨ b q = 42 ∨ b q = 47 ∨ b q = 40 ∨ b q = 41 ∨ b q = 44 ∨ b q = 59) → zJ g (D + 2) 161 0 0 327 [xr 95, xi (b q), w2] [] (h.1, x_up h.2 95 8 ((q : Int) + 1)) (x_qv Q) := by
    intro w2 z
    refine zX9_nextToken_327 (zX9_nextToken_332 ⟨fun x => absurd x (by decide), fun _ => k343 (fun x => ?_)⟩)
    unfold tsg
    by_cases a1 : b q = 60
    · rw [if_pos a1, if_neg (fun a2 => x ⟨Or.inl a1, a2⟩)]; exact a1
    · rw [if_neg a1]
      by_cases a3 : b q = 62
      · rw [if_pos a3, if_neg (fun a2 => x ⟨Or.inr a3, a2⟩)]; exact a3
      · rw [if_neg a3, if_pos (by omega)]
  refine e245 ⟨fun z => y (by omega), fun z1 => ⟨fun z => y (by omega), fun z2 => ⟨fun z => y (by omega), fun z3 => ⟨fun z => y (by omega), fun z4 => ⟨fun z => y (by omega), fun z5 => ⟨fun z => y (by omega), fun z6 => ⟨fun z => y (by omega), fun z7 => ⟨fun z => y (by omega), fun z8 => ⟨fun z => y (by omega), fun z9 => ⟨fun z => y (by omega), fun z10 => ⟨fun z => y (by omega), fun z11 => ⟨fun z12 => ?_, fun z => ?_⟩⟩⟩⟩⟩⟩⟩⟩⟩⟩⟩⟩
  · refine zX9_nextToken_331 (zX9_nextToken_332 ⟨fun _ => zX9_nextToken_342 (k343 (fun x => ?_)), fun x => absurd rfl x⟩)
    unfold tsg
    rw [if_neg z1, if_neg z2, if_neg (by omega)]
  · exact y (by omega)
theorem r_next0 {h0 h : xH} {q : Nat} {Q : xH → Prop} {w1 w2 : xV} (hq : q ≤ n) (Z : rB8 h b n) (f : fN h0 h) (c8 : h.2 95 8 = (q : Int)) (hQ : ∀ h1, fN h0 h1 → rQ h1 b n q → Q h1) : zJ g (D + 2) 161 0 0 39 [xr 95, w1, w2] [] h (x_qv Q) := by
  have ow := Z.2.1
  refine zX9_nextToken_39 ?_
  rw [c8, x_up_j (show 8 ≠ 9 by decide), c8]
  have f1 : fN h0 (h.1, x_up h.2 95 9 (q : Int)) := fN_up f (Or.inr (Or.inl rfl))
  have Z1 : rB8 (h.1, x_up h.2 95 9 (q : Int)) b n := fN_B (fN_up (fN_refl h) (Or.inr (Or.inl rfl))) Z
  have d8 : x_up h.2 95 9 (q : Int) 95 8 = (q : Int) := by rw [x_up_j (by decide)]; exact c8
  have d9 : x_up h.2 95 9 (q : Int) 95 9 = (q : Int) := x_up_eq
  refine r_see Z1 ⟨fun z => zX9_nextToken_68 (r_isDigit ?_), fun z => hQ _ (fN_up f1 (Or.inr (Or.inr (Or.inl rfl)))) ⟨?_, ?_, ?_, ?_, ?_⟩⟩
  · have ql : q < n := by
      rcases Nat.lt_or_ge q n with x | x
      · exact x
      · rw [Z.2.2.1.2 q x] at z; omega
    cases yd : isDg (b q)
    · refine ⟨fun _ => zX9_nextToken_144 (r_isLetter ?_), fun x => absurd rfl x⟩
      cases yl : isLt (b q)
      · exact ⟨fun _ => l_rsign ql yl yd Z1 f1 d8 d9 hQ, fun x => absurd rfl x⟩
      · refine ⟨fun x => absurd x (by decide), fun _ => ?_⟩
        have rb := ru_b (P := isLt) (b := b) (n := n) (p := q) (by omega)
        have hn : isLt (b (ru isLt b n q)) = false := by
          rcases Nat.lt_or_ge (ru isLt b n q) n with x | x
          · exact rb.2.2.1 x
          · rw [Z.2.2.1.2 _ x]; rfl
        have en : nx b n q = ru isLt b n q := by unfold nx; rw [if_neg (by omega), if_pos yl]
        have et : tc b n q = 2 := by unfold tc; rw [if_neg (by omega), if_neg (by rw [yd]; decide), if_pos yl]
        have f2 : fN h0 (h.1, x_up (x_up (x_up h.2 95 9 (q : Int)) 95 10 2) 95 12 0) := fN_up (fN_up f1 (Or.inr (Or.inr (Or.inl rfl)))) (Or.inr (Or.inr (Or.inr (Or.inr rfl))))
        have Z2 : rB8 (h.1, x_up (x_up (x_up h.2 95 9 (q : Int)) 95 10 2) 95 12 0) b n := fN_B (fN_up (fN_up (fN_refl _) (Or.inr (Or.inr (Or.inl rfl)))) (Or.inr (Or.inr (Or.inr (Or.inr rfl))))) Z1
        refine l_rlet rb.2.1 (fun i hi => rb.2.2.2 (q + i) (by omega) (by omega)) hn (fun h1 g1 g8 g9 g10 g12 => hQ h1 g1 ⟨by rw [en]; exact g8, g9, by rw [et]; exact g10, fun x => absurd x (by rw [yd]; decide), fun _ => g12⟩) (ru isLt b n q - q) q (by omega) (Nat.le_refl _) Z2 f2 ?_ ?_ ?_ ?_ <;> dsimp only
        · rw [x_up_j (by decide), x_up_j (by decide)]; exact d8
        · rw [x_up_j (by decide), x_up_j (by decide)]; exact d9
        · rw [x_up_j (by decide), x_up_eq]
        · rw [x_up_eq, show q - q = 0 by omega]; rfl
    · refine ⟨fun x => absurd x (by decide), fun _ => ?_⟩
      have rb := ru_b (P := isDg) (b := b) (n := n) (p := q) (by omega)
      have hn : isDg (b (ru isDg b n q)) = false := by
        rcases Nat.lt_or_ge (ru isDg b n q) n with x | x
        · exact rb.2.2.1 x
        · rw [Z.2.2.1.2 _ x]; rfl
      have yl : isLt (b q) = false := by
        cases x : isLt (b q)
        · rfl
        · have a1 := isLt_iff.mp x
          have a2 := isDg_iff.mp yd
          omega
      have en : nx b n q = ru isDg b n q := by unfold nx; rw [if_neg (by omega), if_neg (by rw [yl]; decide), if_pos yd]
      have et : tc b n q = 1 := by unfold tc; rw [if_neg (by omega), if_pos yd]
      have f2 : fN h0 (h.1, x_up (x_up (x_up h.2 95 9 (q : Int)) 95 10 1) 95 11 0) := fN_up (fN_up f1 (Or.inr (Or.inr (Or.inl rfl)))) (Or.inr (Or.inr (Or.inr (Or.inl rfl))))
      have Z2 : rB8 (h.1, x_up (x_up (x_up h.2 95 9 (q : Int)) 95 10 1) 95 11 0) b n := fN_B (fN_up (fN_up (fN_refl _) (Or.inr (Or.inr (Or.inl rfl)))) (Or.inr (Or.inr (Or.inr (Or.inl rfl))))) Z1
      refine l_rdig rb.2.1 (fun i hi => rb.2.2.2 (q + i) (by omega) (by omega)) hn (fun h1 g1 g8 g9 g10 g11 => hQ h1 g1 ⟨by rw [en]; exact g8, g9, by rw [et]; exact g10, fun _ => g11, fun x => absurd x (by rw [yl]; decide)⟩) (ru isDg b n q - q) q (by omega) (Nat.le_refl _) Z2 f2 ?_ ?_ ?_ ?_ <;> dsimp only
      · rw [x_up_j (by decide), x_up_j (by decide)]; exact d8
      · rw [x_up_j (by decide), x_up_j (by decide)]; exact d9
      · rw [x_up_j (by decide), x_up_eq]
      · rw [x_up_eq, show q - q = 0 by omega]; rfl
  all_goals
    have ql : n ≤ q := by
      rcases Nat.lt_or_ge q n with x | x
      · have := Z.2.2.1.1 q x; omega
      · exact x
    dsimp only
  · rw [x_up_j (by decide), d8]; unfold nx; rw [if_pos ql]
  · rw [x_up_j (by decide)]; exact d9
  · rw [x_up_eq]; unfold tc; rw [if_pos ql]
  · intro x; have := dg_n Z.2.2.1 x; omega
  · intro x; have := lt_n Z.2.2.1 x; omega
theorem l_rblank {h0 : xH} {R : Nat} {Q : xH → Prop} (hQ : ∀ h1, fN h0 h1 → rQ h1 b n R → Q h1) : ∀ (m p : Nat) {h : xH} {w1 w2 : xV}, p + m = n → rB8 h b n → fN h0 h → h.2 95 8 = (p : Int) → ru isBl b n p = R → zJ g (D + 2) 161 0 0 0 [xr 95, w1, w2] [] h (x_qv Q)
  | 0, p, h, w1, w2, e, Z, f, c8, hR => by
    have : R = p := by rw [← hR]; exact ru_n (fun z => by omega)
    subst this
    refine zX9_nextToken_0 ?_
    rw [c8]
    refine r_see Z ?_
    rw [Z.2.2.1.2 R (by omega)]
    refine ⟨fun z => absurd z (by decide), fun _ => ?_⟩
    rw [c8]
    refine r_see Z ?_
    rw [Z.2.2.1.2 R (by omega)]
    exact ⟨fun _ => r_next0 (by omega) Z f c8 hQ, fun z => absurd z (by decide)⟩
  | m + 1, p, h, w1, w2, e, Z, f, c8, hR => by
    have ow := Z.2.1
    have go : isBl (b p) = true → zJ g (D + 2) 161 0 0 0 [xr 95, xu, xu] [] (h.1, x_up h.2 95 8 (x32 ((p : Int) + 1))) (x_qv Q) := by
      intro y
      rw [x32_id (by omega) (by omega)]
      exact l_rblank hQ m (p + 1) (by omega) (fN_B (fN_up (fN_refl h) (Or.inl rfl)) Z) (fN_up f (Or.inl rfl)) (by dsimp only; rw [x_up_eq]; omega) (by rw [← ru_y (by omega) y]; exact hR)
    refine zX9_nextToken_0 ?_
    rw [c8]
    refine r_see Z ⟨fun z => zX9_nextToken_26 (by rw [c8]; exact go (isBl_iff.mpr (Or.inl z))), fun z1 => ?_⟩
    rw [c8]
    refine r_see Z ⟨fun z2 => ?_, fun z => by rw [c8]; exact go (isBl_iff.mpr (Or.inr z))⟩
    have : R = p := by
      rw [← hR]
      refine ru_n (fun _ => ?_)
      cases y : isBl (b p)
      · rfl
      · have := isBl_iff.mp y; omega
    subst this
    exact r_next0 (by omega) Z f c8 hQ
/-- the reference stands at token i -/
abbrev rS (h : xH) (b : Nat → Int) (n i : Nat) : Prop := rQ h b n (ps b n i)
theorem r_first {h : xH} {Q : xH → Prop} (Z : rB8 h b n) (c8 : h.2 95 8 = 0) (hQ : ∀ h1, fN h h1 → rS h1 b n 0 → Q h1) : zSv g (D + 2) mX9_nextToken [xr 95] h Q :=
  eX9_nextToken (l_rblank (h0 := h) hQ n 0 (by omega) Z (fN_refl h) c8 rfl)
theorem r_next {h : xH} {i : Nat} {Q : xH → Prop} (Z : rB8 h b n) (S : rS h b n i) (hQ : ∀ h1, fN h h1 → rS h1 b n (i + 1) → Q h1) : zSv g (D + 2) mX9_nextToken [xr 95] h Q := by
  have := nx_b Z.2.2.1 (ps_b Z.2.2.1 i).1
  exact eX9_nextToken (l_rblank (h0 := h) hQ (n - nx b n (ps b n i)) (nx b n (ps b n i)) (by omega) Z (fN_refl h) S.1 rfl)
end NX2
