/-! the reference's reader: its tokens against the kinds, its words -/
section RP
variable {g : xG} {D : Nat} {b : Nat → Int} {n : Nat} {h : xH}
theorem tk_s {c d : Int} (h0 : isLt c = false) (h1 : isDg c = false) : (tsg c d ≠ 0 ∧ tsg c d ≠ 1 ∧ tsg c d ≠ 2) ∧ (tsg c d = 40 ↔ sgn c d = 29) ∧ (tsg c d = 41 ↔ sgn c d = 30) ∧ (tsg c d = 44 ↔ sgn c d = 31) ∧ (tsg c d = 59 ↔ sgn c d = 32) ∧ (tsg c d = 43 ↔ sgn c d = 25) ∧ (tsg c d = 45 ↔ sgn c d = 26) ∧ (tsg c d = 42 ↔ sgn c d = 27) ∧ (tsg c d = 47 ↔ sgn c d = 28) ∧ (tsg c d = 60 ↔ sgn c d = 21) ∧ (tsg c d = 4 ↔ sgn c d = 33) ∧ (tsg c d = 62 ↔ sgn c d = 22) ∧ (tsg c d = 5 ↔ sgn c d = 34) ∧ (tsg c d = 61 ↔ sgn c d = 23) ∧ (tsg c d = 35 ↔ sgn c d = 24) := by
  unfold tsg sgn
  by_cases a1 : c = 60
  · subst a1; rw [if_pos rfl, if_pos rfl]; split <;> omega
  rw [if_neg a1, if_neg a1]
  by_cases a2 : c = 62
  · subst a2; rw [if_pos rfl, if_pos rfl]; split <;> omega
  rw [if_neg a2, if_neg a2]
  by_cases a3 : c = 61
  · subst a3; decide
  by_cases a4 : c = 35
  · subst a4; decide
  by_cases a5 : c = 43
  · subst a5; decide
  by_cases a6 : c = 45
  · subst a6; decide
  by_cases a7 : c = 42
  · subst a7; decide
  by_cases a8 : c = 47
  · subst a8; decide
  by_cases a9 : c = 40
  · subst a9; decide
  by_cases a10 : c = 41
  · subst a10; decide
  by_cases a11 : c = 44
  · subst a11; decide
  by_cases a12 : c = 59
  · subst a12; decide
  rw [if_neg (by omega), if_neg a3, if_neg a4, if_neg a5, if_neg a6, if_neg a7, if_neg a8, if_neg a9, if_neg a10, if_neg a11, if_neg a12]
  decide
/-- a token's code against its kind -/
theorem tk_i {q : Nat} : (tc b n q = 0 ↔ kd b n q = 36) ∧ (tc b n q = 1 ↔ kd b n q = 35) ∧ (tc b n q = 40 ↔ kd b n q = 29) ∧ (tc b n q = 41 ↔ kd b n q = 30) ∧ (tc b n q = 44 ↔ kd b n q = 31) ∧ (tc b n q = 59 ↔ kd b n q = 32) ∧ (tc b n q = 43 ↔ kd b n q = 25) ∧ (tc b n q = 45 ↔ kd b n q = 26) ∧ (tc b n q = 42 ↔ kd b n q = 27) ∧ (tc b n q = 47 ↔ kd b n q = 28) ∧ (tc b n q = 60 ↔ kd b n q = 21) ∧ (tc b n q = 4 ↔ kd b n q = 33) ∧ (tc b n q = 62 ↔ kd b n q = 22) ∧ (tc b n q = 5 ↔ kd b n q = 34) ∧ (tc b n q = 61 ↔ kd b n q = 23) ∧ (tc b n q = 35 ↔ kd b n q = 24) := by
  unfold tc kd
  by_cases h1 : n ≤ q
  · rw [if_pos h1, if_pos h1]; decide
  rw [if_neg h1, if_neg h1]
  cases yd : isDg (b q)
  · rw [if_neg (by decide)]
    cases yl : isLt (b q)
    · rw [if_neg (by decide), if_neg (by decide), if_neg (by decide)]
      have t := tk_s (c := b q) (d := b (q + 1)) yl yd
      have r := sgn_r (b q) (b (q + 1))
      obtain ⟨⟨t0, t1, t2⟩, t3⟩ := t
      refine ⟨⟨fun z => absurd z t0, fun z => by omega⟩, ⟨fun z => absurd z t1, fun z => by omega⟩, t3⟩
    · rw [if_pos rfl, if_pos rfl]
      have := wk_r (wl b n q)
      omega
  · have yl : isLt (b q) = false := by
      cases x : isLt (b q)
      · rfl
      · have a1 := isLt_iff.mp x
        have a2 := isDg_iff.mp yd
        omega
    rw [if_pos rfl, yl, if_neg (by decide), if_pos rfl]; decide
theorem tk_w {q w : Nat} (hw : w < 21) : (kd b n q = (w : Int) ↔ tc b n q = 2 ∧ wl b n q = wvl.getD w 0) ∧ (tc b n q = 2 → isLt (b q) = true) := by
  unfold tc kd
  by_cases h1 : n ≤ q
  · rw [if_pos h1, if_pos h1]; exact ⟨⟨fun z => by omega, fun z => by omega⟩, fun z => by omega⟩
  rw [if_neg h1, if_neg h1]
  cases yl : isLt (b q)
  · rw [if_neg (by decide : ¬ (false = true))]
    cases yd : isDg (b q)
    · rw [if_neg (by decide : ¬ (false = true)), if_neg (by decide : ¬ (false = true)), if_neg (by decide : ¬ (false = true))]
      have t := tk_s (c := b q) (d := b (q + 1)) yl yd
      have r := sgn_r (b q) (b (q + 1))
      exact ⟨⟨fun z => by omega, fun z => absurd z.1 t.1.2.2⟩, fun z => absurd z t.1.2.2⟩
    · rw [if_pos rfl, if_pos rfl]
      exact ⟨⟨fun z => by omega, fun z => absurd z.1 (by decide)⟩, fun z => absurd z (by decide)⟩
  · have yd : isDg (b q) = false := by
      cases x : isDg (b q)
      · rfl
      · have a1 := isLt_iff.mp yl
        have a2 := isDg_iff.mp x
        omega
    rw [yd, if_pos rfl, if_neg (by decide : ¬ (false = true)), if_pos rfl]
    exact ⟨⟨fun z => ⟨rfl, (wk_iff hw).mp z⟩, fun z => (wk_iff hw).mpr z.2⟩, fun _ => rfl⟩
/-- the word that the reference has is the w-th -/
theorem tk_c {i w : Nat} {v : Int} (S : rS h b n i) (hw : w < 21) (hv : v = wvl.getD w 0) : kt b n i = (w : Int) ↔ h.2 95 10 = 2 ∧ x_cmp (h.2 95 12) v = 0 := by
  have e := tk_w (b := b) (n := n) (q := ps b n i) hw
  rw [show kt b n i = kd b n (ps b n i) from rfl, e.1, S.2.2.1]
  have xc : x_cmp (h.2 95 12) v = 0 ↔ h.2 95 12 = v := by
    unfold x_cmp
    split
    · omega
    · split <;> omega
  constructor
  · intro z
    exact ⟨z.1, xc.mpr (by rw [S.2.2.2.2 (e.2 z.1), z.2, hv])⟩
  · intro z
    refine ⟨z.1, ?_⟩
    rw [← S.2.2.2.2 (e.2 z.1), xc.mp z.2, hv]
theorem r_w3 {a c d : Int} {Q : Int → xH → Prop} (ha : 0 ≤ a ∧ a ≤ 255) (hc : 0 ≤ c ∧ c ≤ 255) (hd : 0 ≤ d ∧ d ≤ 255) (hQ : Q ((a * 256 + c) * 256 + d) h) : zSl g D mX9_w3 [xi a, xi c, xi d] h Q := by
  refine eX9_w3 (zX9_w3_0 ?_)
  rw [x_or8 (w := a) (c := c) (by omega) (by omega) (by omega) (by omega), x_or8 (by omega) (by omega) (by omega) (by omega)]
  exact hQ
theorem r_w4 {a c d e : Int} {Q : Int → xH → Prop} (ha : 0 ≤ a ∧ a ≤ 255) (hc : 0 ≤ c ∧ c ≤ 255) (hd : 0 ≤ d ∧ d ≤ 255) (he : 0 ≤ e ∧ e ≤ 255) (hQ : Q (((a * 256 + c) * 256 + d) * 256 + e) h) : zSl g (D + 1) mX9_w4 [xi a, xi c, xi d, xi e] h Q := by
  refine eX9_w4 (zX9_w4_0 (r_w3 ha hc hd ?_))
  rw [x_or8 (by omega) (by omega) (by omega) (by omega)]
  exact hQ
theorem r_w5 {a c d e f : Int} {Q : Int → xH → Prop} (ha : 0 ≤ a ∧ a ≤ 255) (hc : 0 ≤ c ∧ c ≤ 255) (hd : 0 ≤ d ∧ d ≤ 255) (he : 0 ≤ e ∧ e ≤ 255) (hf : 0 ≤ f ∧ f ≤ 255) (hQ : Q ((((a * 256 + c) * 256 + d) * 256 + e) * 256 + f) h) : zSl g (D + 1) mX9_w5 [xi a, xi c, xi d, xi e, xi f] h Q := by
  refine eX9_w5 (zX9_w5_0 (r_w3 ha hc hd ?_))
  rw [x_or8 (w := (a * 256 + c) * 256 + d) (c := e) (by omega) (by omega) (by omega) (by omega), x_or8 (by omega) (by omega) (by omega) (by omega)]
  exact hQ
theorem r_w6 {a c d e f k : Int} {Q : Int → xH → Prop} (ha : 0 ≤ a ∧ a ≤ 255) (hc : 0 ≤ c ∧ c ≤ 255) (hd : 0 ≤ d ∧ d ≤ 255) (he : 0 ≤ e ∧ e ≤ 255) (hf : 0 ≤ f ∧ f ≤ 255) (hk : 0 ≤ k ∧ k ≤ 255) (hQ : Q (((((a * 256 + c) * 256 + d) * 256 + e) * 256 + f) * 256 + k) h) : zSl g (D + 2) mX9_w6 [xi a, xi c, xi d, xi e, xi f, xi k] h Q := by
  refine eX9_w6 (zX9_w6_0 (r_w5 ha hc hd he hf ?_))
  rw [x_or8 (by omega) (by omega) (by omega) (by omega)]
  exact hQ
theorem r_isWord {i w : Nat} {v : Int} {Q : Int → xH → Prop} (S : rS h b n i) (hw : w < 21) (hv : v = wvl.getD w 0) (h1 : kt b n i = (w : Int) → Q 1 h) (h0 : kt b n i ≠ (w : Int) → Q 0 h) : zSi g D mX9_isWord [xr 95, xl v] h Q := by
  have e := tk_c S hw hv
  exact eX9_isWord (zX9_isWord_0 ⟨fun z => zX9_isWord_21 ⟨Or.inl rfl, h0 (fun y => z (e.mp y).1)⟩, fun z => ⟨fun z2 => zX9_isWord_21 ⟨Or.inl rfl, h0 (fun y => z2 (e.mp y).2)⟩, fun z2 => ⟨Or.inr rfl, h1 (e.mpr ⟨z, z2⟩)⟩⟩⟩)
theorem r_nameOf {i : Nat} {Q : Int → xH → Prop} (S : rS h b n i) (h1 : kt b n i = 0 ∨ (10 ≤ kt b n i ∧ kt b n i ≤ 15) → Q (nmv (kt b n i)) h) (h0 : ¬ (kt b n i = 0 ∨ (10 ≤ kt b n i ∧ kt b n i ≤ 15)) → Q (-1) h) : zSi g (D + 3) mX9_nameOf [xr 95] h Q := by
  have c10 := tk_c (w := 10) (v := 512869299304) S (by decide) (by decide)
  have c11 := tk_c (w := 11) (v := 427071729268) S (by decide) (by decide)
  have c12 := tk_c (w := 12) (v := 119182899770472) S (by decide) (by decide)
  have c13 := tk_c (w := 13) (v := 512802253683) S (by decide) (by decide)
  have c14 := tk_c (w := 14) (v := 1953462126) S (by decide) (by decide)
  have c0 := tk_c (w := 0) (v := 1936683636) S (by decide) (by decide)
  have c15 := tk_c (w := 15) (v := 6578553) S (by decide) (by decide)
  have y : ∀ k v : Int, kt b n i = k → (k = 0 ∨ (10 ≤ k ∧ k ≤ 15)) → nmv k = v → Q v h := fun k v e1 e2 e3 => by
    have := h1 (by rw [e1]; exact e2)
    rw [e1, e3] at this; exact this
  refine eX9_nameOf (zX9_nameOf_0 ⟨fun t => zX9_nameOf_10 (r_w5 (by decide) (by decide) (by decide) (by decide) (by decide) ⟨fun z1 => zX9_nameOf_33 (r_w5 (by decide) (by decide) (by decide) (by decide) (by decide) ⟨fun z2 => zX9_nameOf_56 (r_w6 (by decide) (by decide) (by decide) (by decide) (by decide) (by decide) ⟨fun z3 => zX9_nameOf_81 (r_w5 (by decide) (by decide) (by decide) (by decide) (by decide) ⟨fun z4 => zX9_nameOf_104 (r_w4 (by decide) (by decide) (by decide) (by decide) ⟨fun z5 => zX9_nameOf_125 (r_w4 (by decide) (by decide) (by decide) (by decide) ⟨fun z6 => zX9_nameOf_148 (r_w3 (by decide) (by decide) (by decide) ⟨fun z7 => zX9_nameOf_170 (h0 ?_), fun z => y 15 6 (c15.mpr ⟨t, z⟩) (by decide) (by decide)⟩), fun z => y 0 5 (c0.mpr ⟨t, z⟩) (by decide) (by decide)⟩), fun z => y 14 4 (c14.mpr ⟨t, z⟩) (by decide) (by decide)⟩), fun z => y 13 3 (c13.mpr ⟨t, z⟩) (by decide) (by decide)⟩), fun z => y 12 2 (c12.mpr ⟨t, z⟩) (by decide) (by decide)⟩), fun z => y 11 1 (c11.mpr ⟨t, z⟩) (by decide) (by decide)⟩), fun z => y 10 0 (c10.mpr ⟨t, z⟩) (by decide) (by decide)⟩), fun t => h0 ?_⟩)
  · intro q
    rcases (show kt b n i = 0 ∨ kt b n i = 10 ∨ kt b n i = 11 ∨ kt b n i = 12 ∨ kt b n i = 13 ∨ kt b n i = 14 ∨ kt b n i = 15 by omega) with q | q | q | q | q | q | q
    · exact z6 (c0.mp q).2
    · exact z1 (c10.mp q).2
    · exact z2 (c11.mp q).2
    · exact z3 (c12.mp q).2
    · exact z4 (c13.mp q).2
    · exact z5 (c14.mp q).2
    · exact z7 (c15.mp q).2
  · intro q
    rcases (show kt b n i = 0 ∨ kt b n i = 10 ∨ kt b n i = 11 ∨ kt b n i = 12 ∨ kt b n i = 13 ∨ kt b n i = 14 ∨ kt b n i = 15 by omega) with q | q | q | q | q | q | q
    · exact t (c0.mp q).1
    · exact t (c10.mp q).1
    · exact t (c11.mp q).1
    · exact t (c12.mp q).1
    · exact t (c13.mp q).1
    · exact t (c14.mp q).1
    · exact t (c15.mp q).1
theorem r_compareOf {i : Nat} {Q : Int → xH → Prop} (S : rS h b n i) (h1 : kt b n i = 21 ∨ kt b n i = 22 ∨ kt b n i = 23 ∨ kt b n i = 24 ∨ kt b n i = 33 ∨ kt b n i = 34 → Q (cmc (kt b n i)).1 h) (h0 : ¬ (kt b n i = 21 ∨ kt b n i = 22 ∨ kt b n i = 23 ∨ kt b n i = 24 ∨ kt b n i = 33 ∨ kt b n i = 34) → Q (-1) h) : zSi g D mX9_compareOf [xr 95] h Q := by
  obtain ⟨-, -, -, -, -, -, -, -, -, -, t60, t4, t62, t5, t61, t35⟩ := tk_i (b := b) (n := n) (q := ps b n i)
  rw [← S.2.2.1] at t60 t4 t62 t5 t61 t35
  have y : ∀ k v : Int, kd b n (ps b n i) = k → (k = 21 ∨ k = 22 ∨ k = 23 ∨ k = 24 ∨ k = 33 ∨ k = 34) → (cmc k).1 = v → Q v h := fun k v e1 e2 e3 => by
    have e1 : kt b n i = k := e1
    have := h1 (by rw [e1]; exact e2)
    rw [e1, e3] at this; exact this
  refine eX9_compareOf (zX9_compareOf_0 ⟨fun z1 => zX9_compareOf_14 ⟨fun z2 => zX9_compareOf_27 ⟨fun z3 => zX9_compareOf_41 ⟨fun z4 => zX9_compareOf_54 ⟨fun z5 => zX9_compareOf_68 ⟨fun z6 => zX9_compareOf_82 (h0 ?_), fun z => y 24 15 (t35.mp z) (by decide) (by decide)⟩, fun z => y 23 14 (t61.mp z) (by decide) (by decide)⟩, fun z => y 34 13 (t5.mp z) (by decide) (by decide)⟩, fun z => y 22 12 (t62.mp z) (by decide) (by decide)⟩, fun z => y 33 11 (t4.mp z) (by decide) (by decide)⟩, fun z => y 21 10 (t60.mp z) (by decide) (by decide)⟩)
  intro q
  rcases q with q | q | q | q | q | q
  · exact z1 (t60.mpr q)
  · exact z3 (t62.mpr q)
  · exact z5 (t61.mpr q)
  · exact z6 (t35.mpr q)
  · exact z2 (t4.mpr q)
  · exact z4 (t5.mpr q)
end RP
