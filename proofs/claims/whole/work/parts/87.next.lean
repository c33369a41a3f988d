/-! the reference's tokens -/
section NXT
variable {g : xG} {D : Nat} {b : Nat → Int} {n : Nat}
theorem x_or8 {w c : Int} (h0 : 0 ≤ w) (h1 : w < 281474976710656) (c0 : 0 ≤ c) (c1 : c ≤ 255) : x_orL (x_shlL w 8) c = w * 256 + c := by
  obtain ⟨a, ha⟩ : ∃ a : Nat, w = a := ⟨w.toNat, by omega⟩
  obtain ⟨e, he⟩ : ∃ e : Nat, c = e := ⟨c.toNat, by omega⟩
  subst ha; subst he
  unfold x_orL x_shlL
  rw [xn_backL]
  have e1 : ((Int32.ofInt 8).toInt64 &&& 63) = (8 : Int64) := by decide
  rw [e1]
  show (((BitVec.ofInt 64 (a : Int)) <<< ((8 : Int64).toBitVec.smod 64)) ||| BitVec.ofInt 64 (e : Int)).toInt = _
  have e2 : ((8 : Int64).toBitVec.smod 64) = 8#64 := by decide
  rw [e2]
  have n1 : ((BitVec.ofInt 64 (a : Int) <<< 8#64) ||| BitVec.ofInt 64 (e : Int)).toNat = a * 256 + e := by
    rw [BitVec.toNat_or, BitVec.shiftLeft_eq', BitVec.toNat_shiftLeft, BitVec.toNat_ofInt, BitVec.toNat_ofInt]
    rw [show ((a : Int) % ((2 ^ 64 : Nat) : Int)).toNat = a by omega, show ((e : Int) % ((2 ^ 64 : Nat) : Int)).toNat = e by omega]
    show (a <<< 8 % 2 ^ 64) ||| e = _
    rw [Nat.mod_eq_of_lt (by rw [Nat.shiftLeft_eq]; omega), ← Nat.shiftLeft_add_eq_or_of_lt (by omega), Nat.shiftLeft_eq]
  rw [BitVec.toInt_eq_toNat_of_lt (by rw [n1]; omega), n1]
  omega
theorem wdl_lt {c : Nat → Int} : ∀ l : Nat, (∀ i, i < l → 0 ≤ c i ∧ c i ≤ 255) → 0 ≤ wdl c l ∧ wdl c l < 256 ^ l
  | 0, _ => ⟨Int.le_refl _, by show (0 : Int) < 256 ^ 0; decide⟩
  | l + 1, h => by
    have i := wdl_lt l (fun i hi => h i (by omega))
    have := h l (by omega)
    unfold wdl
    rw [Int.pow_succ]
    exact ⟨by omega, by omega⟩
/-- the reference's tape has the bytes b -/
def rB8 (h : xH) (b : Nat → Int) (n : Nat) : Prop := h.2 95 5 = (n : Int) ∧ n ≤ 300 ∧ bok8 b n ∧ ∀ p, p < n → h.2 100 p = b p
/-- where the text is, and the token, may change -/
def fN (h h' : xH) : Prop := h'.1 = h.1 ∧ (∀ r, r ≠ 95 → h'.2 r = h.2 r) ∧ ∀ j, j ≠ 8 → j ≠ 9 → j ≠ 10 → j ≠ 11 → j ≠ 12 → h'.2 95 j = h.2 95 j
theorem fN_refl (h : xH) : fN h h := ⟨rfl, fun _ _ => rfl, fun _ _ _ _ _ _ => rfl⟩
theorem fN_trans {h h1 h2 : xH} (a : fN h h1) (c : fN h1 h2) : fN h h2 := ⟨c.1.trans a.1, fun r hr => (c.2.1 r hr).trans (a.2.1 r hr), fun j j1 j2 j3 j4 j5 => (c.2.2 j j1 j2 j3 j4 j5).trans (a.2.2 j j1 j2 j3 j4 j5)⟩
theorem fN_up {h h1 : xH} {j : Nat} {v : Int} (a : fN h h1) (hj : j = 8 ∨ j = 9 ∨ j = 10 ∨ j = 11 ∨ j = 12) : fN h (h1.1, x_up h1.2 95 j v) := ⟨a.1, fun r hr => by dsimp only; rw [x_up_r hr]; exact a.2.1 r hr, fun i j1 j2 j3 j4 j5 => by dsimp only; rw [x_up_j (by omega)]; exact a.2.2 i j1 j2 j3 j4 j5⟩
theorem fN_B {h h1 : xH} (a : fN h h1) (Z : rB8 h b n) : rB8 h1 b n := ⟨by rw [a.2.2 5 (by decide) (by decide) (by decide) (by decide) (by decide)]; exact Z.1, Z.2.1, Z.2.2.1, fun p hp => by rw [a.2.1 100 (by decide)]; exact Z.2.2.2 p hp⟩
theorem r_see {h : xH} {p : Nat} {Q : Int → xH → Prop} (Z : rB8 h b n) (hQ : Q (b p) h) : zSi g D mX9_see [xr 95, xi p] h Q := by
  obtain ⟨z1, z2, z3, z4⟩ := Z
  refine eX9_see (zX9_see_0 ⟨fun q => zX9_see_17 ?_, fun q => ⟨by omega, ?_⟩⟩)
  · rw [z3.2 p (by omega)] at hQ; exact hQ
  · rw [show ((p : Int)).toNat = p by omega, z4 p (by omega)]; exact hQ
theorem r_isLetter {h : xH} {c : Int} {Q : Int → xH → Prop} (hQ : Q (if isLt c = true then 1 else 0) h) : zSi g (D + 1) mX9_isLetter [xi c] h Q := by
  have e := isLt_iff (c := c)
  have yes : (97 ≤ c ∧ c ≤ 122) ∨ (65 ≤ c ∧ c ≤ 90) → Q 1 h := fun z => by rw [if_pos (e.mpr z)] at hQ; exact hQ
  have no : ¬ ((97 ≤ c ∧ c ≤ 122) ∨ (65 ≤ c ∧ c ≤ 90)) → Q 0 h := fun z => by rw [if_neg (fun y => z (e.mp y))] at hQ; exact hQ
  exact eX9_isLetter (zX9_isLetter_0 (s_in (fun v hv => ⟨fun q => zX9_isLetter_22 ⟨Or.inr rfl, yes (by omega)⟩, fun q => s_in (fun v2 hv2 => ⟨fun q2 => zX9_isLetter_26 ⟨Or.inl rfl, no (by omega)⟩, fun q2 => ⟨Or.inr rfl, yes (by omega)⟩⟩)⟩)))
theorem r_isDigit {h : xH} {c : Int} {Q : Int → xH → Prop} (hQ : Q (if isDg c = true then 1 else 0) h) : zSi g (D + 1) mX9_isDigit [xi c] h Q := by
  have e := isDg_iff (c := c)
  refine eX9_isDigit (zX9_isDigit_0 (s_in (fun v hv => ⟨by omega, ?_⟩)))
  by_cases z : isDg c = true
  · rw [if_pos z] at hQ
    have := e.mp z
    rw [show v = 1 by omega]; exact hQ
  · rw [if_neg z] at hQ
    have : ¬ (48 ≤ c ∧ c ≤ 57) := fun y => z (e.mpr y)
    rw [show v = 0 by omega]; exact hQ
def tsg (c d : Int) : Int := if c = 60 then (if d = 61 then 4 else 60) else if c = 62 then (if d = 61 then 5 else 62) else if c = 61 ∨ c = 35 ∨ c = 43 ∨ c = 45 ∨ c = 42 ∨ c = 47 ∨ c = 40 ∨ c = 41 ∨ c = 44 ∨ c = 59 then c else 3
def tc (b : Nat → Int) (n q : Nat) : Int := if n ≤ q then 0 else if isDg (b q) = true then 1 else if isLt (b q) = true then 2 else tsg (b q) (b (q + 1))
/-- the reference stands at the token at q -/
def rQ (h : xH) (b : Nat → Int) (n q : Nat) : Prop := h.2 95 8 = (nx b n q : Int) ∧ h.2 95 9 = (q : Int) ∧ h.2 95 10 = tc b n q ∧ (isDg (b q) = true → h.2 95 11 = nvR (fun j => b (q + j)) (ru isDg b n q - q)) ∧ (isLt (b q) = true → h.2 95 12 = wl b n q)
theorem l_rdig {h0 : xH} {q R : Nat} {Q : xH → Prop} (hR : R ≤ n) (hl : ∀ i, i < R - q → isDg (b (q + i)) = true) (hn : isDg (b R) = false) (hQ : ∀ h1, fN h0 h1 → h1.2 95 8 = (R : Int) → h1.2 95 9 = (q : Int) → h1.2 95 10 = 1 → h1.2 95 11 = nvR (fun j => b (q + j)) (R - q) → Q h1) : ∀ (m e : Nat) {h : xH} {w1 w2 : xV}, e + m = R → q ≤ e → rB8 h b n → fN h0 h → h.2 95 8 = (e : Int) → h.2 95 9 = (q : Int) → h.2 95 10 = 1 → h.2 95 11 = nvR (fun j => b (q + j)) (e - q) → zJ g (D + 2) 161 0 0 85 [xr 95, w1, w2] [] h (x_qv Q)
  | 0, e, h, w1, w2, e1, e2, Z, f, c8, c9, c10, c11 => by
    have : e = R := by omega
    subst this
    refine zX9_nextToken_85 ?_
    rw [c8]
    refine r_see Z (r_isDigit ?_)
    rw [if_neg (by rw [hn]; decide)]
    exact ⟨fun _ => zX9_nextToken_396 (hQ h f c8 c9 c10 c11), fun z => absurd rfl z⟩
  | m + 1, e, h, w1, w2, e1, e2, Z, f, c8, c9, c10, c11 => by
    have ow := Z.2.1
    have y : isDg (b e) = true := by have := hl (e - q) (by omega); rw [show q + (e - q) = e by omega] at this; exact this
    have yb := isDg_iff.mp y
    have nb := nv_eq (c := fun i => b (q + i)) (e - q) (fun i hi => hl i (by omega))
    have ns : nvR (fun j => b (q + j)) (e + 1 - q) = if nvR (fun j => b (q + j)) (e - q) < 100000 then 10 * nvR (fun j => b (q + j)) (e - q) + b e - 48 else nvR (fun j => b (q + j)) (e - q) := by
      rw [show e + 1 - q = (e - q) + 1 by omega]
      show (if nvR (fun j => b (q + j)) (e - q) < 100000 then 10 * nvR (fun j => b (q + j)) (e - q) + b (q + (e - q)) - 48 else nvR (fun j => b (q + j)) (e - q)) = _
      rw [show q + (e - q) = e by omega]
    refine zX9_nextToken_85 ?_
    rw [c8]
    refine r_see Z (r_isDigit ?_)
    rw [if_pos y]
    refine ⟨fun z => absurd z (by decide), fun _ => ⟨fun z => zX9_nextToken_131 ?_, fun z => ?_⟩⟩
    · rw [c11] at z
      rw [if_neg (by omega)] at ns
      rw [c8, x32_id (by omega) (by omega)]
      have f2 : fN h0 (h.1, x_up h.2 95 8 ((e : Int) + 1)) := fN_up f (Or.inl rfl)
      refine l_rdig hR hl hn hQ m (e + 1) (by omega) (by omega) (fN_B (fN_up (fN_refl h) (Or.inl rfl)) Z) f2 (by dsimp only; rw [x_up_eq]; omega) (by dsimp only; rw [x_up_j (by decide)]; exact c9) (by dsimp only; rw [x_up_j (by decide)]; exact c10) (by dsimp only; rw [x_up_j (by decide), ns]; exact c11)
    · rw [c11] at z
      rw [if_pos z] at ns
      rw [c8]
      refine r_see Z ?_
      have ev : x32 ((x32 ((x32 (10 * (h.2 95 11))) + b e)) - 48) = nvR (fun j => b (q + j)) (e + 1 - q) := by
        rw [c11, x32_id (x := 10 * _) (by omega) (by omega), x32_id (x := 10 * _ + _) (by omega) (by omega), x32_id (by omega) (by omega), ns]
      rw [ev, x_up_j (show 8 ≠ 11 by decide), c8, x32_id (by omega) (by omega)]
      have f1 : fN h (h.1, x_up h.2 95 11 (nvR (fun j => b (q + j)) (e + 1 - q))) := fN_up (fN_refl h) (Or.inr (Or.inr (Or.inr (Or.inl rfl))))
      have f2 : fN h (h.1, x_up (x_up h.2 95 11 (nvR (fun j => b (q + j)) (e + 1 - q))) 95 8 ((e : Int) + 1)) := fN_up f1 (Or.inl rfl)
      refine l_rdig hR hl hn hQ m (e + 1) (by omega) (by omega) (fN_B f2 Z) (fN_trans f f2) (by dsimp only; rw [x_up_eq]; omega) (by dsimp only; rw [x_up_j (by decide), x_up_j (by decide)]; exact c9) (by dsimp only; rw [x_up_j (by decide), x_up_j (by decide)]; exact c10) (by dsimp only; rw [x_up_j (by decide), x_up_eq])
theorem l_rlet {h0 : xH} {q R : Nat} {Q : xH → Prop} (hR : R ≤ n) (hl : ∀ i, i < R - q → isLt (b (q + i)) = true) (hn : isLt (b R) = false) (hQ : ∀ h1, fN h0 h1 → h1.2 95 8 = (R : Int) → h1.2 95 9 = (q : Int) → h1.2 95 10 = 2 → h1.2 95 12 = (if R - q ≤ 6 then wdl (fun j => b (q + j)) (R - q) else 0) → Q h1) : ∀ (m e : Nat) {h : xH} {w1 w2 : xV}, e + m = R → q ≤ e → rB8 h b n → fN h0 h → h.2 95 8 = (e : Int) → h.2 95 9 = (q : Int) → h.2 95 10 = 2 → h.2 95 12 = wdl (fun j => b (q + j)) (min (e - q) 6) → zJ g (D + 2) 161 0 0 161 [xr 95, w1, w2] [] h (x_qv Q)
  | 0, e, h, w1, w2, e1, e2, Z, f, c8, c9, c10, c12 => by
    have ow := Z.2.1
    have : e = R := by omega
    subst this
    refine zX9_nextToken_161 ?_
    rw [c8]
    refine r_see Z (r_isLetter ?_)
    rw [if_neg (by rw [hn]; decide)]
    refine ⟨fun _ => zX9_nextToken_223 ?_, fun z => absurd rfl z⟩
    rw [c8, c9, x32_id (by omega) (by omega)]
    refine ⟨fun z => zX9_nextToken_396 (hQ h f c8 c9 c10 ?_), fun z => hQ _ (fN_up f (Or.inr (Or.inr (Or.inr (Or.inr rfl))))) ?_ ?_ ?_ ?_⟩
    · rw [if_pos (by omega), c12, show min (e - q) 6 = e - q by omega]
    · dsimp only; rw [x_up_j (by decide)]; exact c8
    · dsimp only; rw [x_up_j (by decide)]; exact c9
    · dsimp only; rw [x_up_j (by decide)]; exact c10
    · dsimp only; rw [x_up_eq, if_neg (by omega)]
  | m + 1, e, h, w1, w2, e1, e2, Z, f, c8, c9, c10, c12 => by
    have ow := Z.2.1
    have y : isLt (b e) = true := by have := hl (e - q) (by omega); rw [show q + (e - q) = e by omega] at this; exact this
    have yb := isLt_iff.mp y
    refine zX9_nextToken_161 ?_
    rw [c8]
    refine r_see Z (r_isLetter ?_)
    rw [if_pos y, c8, c9, x32_id (by omega) (by omega)]
    refine ⟨fun z => absurd z (by decide), fun _ => ⟨fun z => zX9_nextToken_210 ?_, fun z => ?_⟩⟩
    · rw [c8, x32_id (by omega) (by omega)]
      refine l_rlet hR hl hn hQ m (e + 1) (by omega) (by omega) (fN_B (fN_up (fN_refl h) (Or.inl rfl)) Z) (fN_up f (Or.inl rfl)) (by dsimp only; rw [x_up_eq]; omega) (by dsimp only; rw [x_up_j (by decide)]; exact c9) (by dsimp only; rw [x_up_j (by decide)]; exact c10) (by dsimp only; rw [x_up_j (by decide), c12, show min (e + 1 - q) 6 = min (e - q) 6 by omega])
    · refine r_see Z ?_
      have lw := wdl_lt (c := fun j => b (q + j)) (e - q) (fun i hi => by have := isLt_iff.mp (hl i (by omega)); omega)
      have l5 : (256 : Int) ^ (e - q) ≤ 281474976710656 := by
        rcases (show e - q = 0 ∨ e - q = 1 ∨ e - q = 2 ∨ e - q = 3 ∨ e - q = 4 ∨ e - q = 5 by omega) with z | z | z | z | z | z <;> rw [z] <;> decide
      have ev : x_orL (x_shlL (h.2 95 12) 8) (b e) = wdl (fun j => b (q + j)) (min (e + 1 - q) 6) := by
        rw [c12, show min (e - q) 6 = e - q by omega, x_or8 lw.1 (by omega) (by omega) (by omega), show min (e + 1 - q) 6 = (e - q) + 1 by omega]
        show _ = wdl (fun j => b (q + j)) (e - q) * 256 + b (q + (e - q))
        rw [show q + (e - q) = e by omega]
      rw [ev, x_up_j (show 8 ≠ 12 by decide), c8, x32_id (by omega) (by omega)]
      have f1 : fN h (h.1, x_up h.2 95 12 (wdl (fun j => b (q + j)) (min (e + 1 - q) 6))) := fN_up (fN_refl h) (Or.inr (Or.inr (Or.inr (Or.inr rfl))))
      have f2 : fN h (h.1, x_up (x_up h.2 95 12 (wdl (fun j => b (q + j)) (min (e + 1 - q) 6))) 95 8 ((e : Int) + 1)) := fN_up f1 (Or.inl rfl)
      refine l_rlet hR hl hn hQ m (e + 1) (by omega) (by omega) (fN_B f2 Z) (fN_trans f f2) (by dsimp only; rw [x_up_eq]; omega) (by dsimp only; rw [x_up_j (by decide), x_up_j (by decide)]; exact c9) (by dsimp only; rw [x_up_j (by decide), x_up_j (by decide)]; exact c10) (by dsimp only; rw [x_up_j (by decide), x_up_eq])
end NXT
