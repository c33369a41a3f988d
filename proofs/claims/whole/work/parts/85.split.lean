/-! the class splits the tape -/
section SPL
variable {g : xG} {D : Nat} {h : xH} {b : Nat → Int} {n : Nat}
/-- the tape has the bytes b -/
def cB (h : xH) (b : Nat → Int) (n : Nat) : Prop := h.2 43 4 = (n : Int) ∧ n ≤ 300 ∧ bok8 b n ∧ ∀ p, p < n → h.2 44 p = b p
def cv (b : Nat → Int) (n p : Nat) : Int := if p < n then b p else 0
theorem cv_y {p : Nat} (hp : p < n) : cv b n p = b p := if_pos hp
theorem cv_lt {p : Nat} (hb : bok8 b n) : isLt (cv b n p) = isLt (b p) := by
  unfold cv
  by_cases e : p < n
  · rw [if_pos e]
  · rw [if_neg e, hb.2 p (by omega)]; rfl
theorem cv_dg {p : Nat} (hb : bok8 b n) : isDg (cv b n p) = isDg (b p) := by
  unfold cv
  by_cases e : p < n
  · rw [if_pos e]
  · rw [if_neg e, hb.2 p (by omega)]; rfl
theorem cv_61 {p : Nat} (hb : bok8 b n) : cv b n p = 61 ↔ b p = 61 := by
  unfold cv
  by_cases e : p < n
  · rw [if_pos e]
  · rw [if_neg e, hb.2 p (by omega)]; decide
theorem s_byteAt {p : Nat} {Q : Int → xH → Prop} (Z : cB h b n) (hQ : Q (cv b n p) h) : zSi g D mX6_byteAt [xr 43, xi p] h Q := by
  obtain ⟨z1, z2, z3, z4⟩ := Z
  have out : n ≤ p → zJ g D 63 0 0 30 [xr 43, xi p] [] h (x_qi Q) := fun q => by
    unfold cv at hQ; rw [if_neg (by omega)] at hQ; exact zX6_byteAt_30 hQ
  refine eX6_byteAt (zX6_byteAt_0 ⟨fun q => by omega, fun _ => ⟨fun q => out (by omega), fun q => ⟨fun q2 => out (by omega), fun q2 => ⟨⟨by omega, q2⟩, ?_⟩⟩⟩⟩)
  rw [show ((p : Int)).toNat = p by omega, z4 p (by omega), ← cv_y (b := b) (show p < n by omega)]
  exact hQ
theorem s_isLetter {c : Int} {Q : Int → xH → Prop} (hQ : Q (if isLt c = true then 1 else 0) h) : zSi g D mX6_isLetter [xi c] h Q := by
  have e := isLt_iff (c := c)
  have yes : (97 ≤ c ∧ c ≤ 122) ∨ (65 ≤ c ∧ c ≤ 90) → Q 1 h := fun z => by rw [if_pos (e.mpr z)] at hQ; exact hQ
  have no : ¬ ((97 ≤ c ∧ c ≤ 122) ∨ (65 ≤ c ∧ c ≤ 90)) → Q 0 h := fun z => by rw [if_neg (fun y => z (e.mp y))] at hQ; exact hQ
  have low : ¬ (97 ≤ c ∧ c ≤ 122) → zJ g D 64 0 0 12 [xi c] [] h (x_qi Q) := fun z => zX6_isLetter_12 ⟨fun q => zX6_isLetter_28 ⟨Or.inl rfl, no (by omega)⟩, fun q => ⟨fun q2 => zX6_isLetter_28 ⟨Or.inl rfl, no (by omega)⟩, fun q2 => ⟨Or.inr rfl, yes (by omega)⟩⟩⟩
  exact eX6_isLetter (zX6_isLetter_0 ⟨fun q => low (by omega), fun q => ⟨fun q2 => zX6_isLetter_24 ⟨Or.inr rfl, yes (by omega)⟩, fun q2 => low (by omega)⟩⟩)
theorem s_isDigit {c : Int} {Q : Int → xH → Prop} (hQ : Q (if isDg c = true then 1 else 0) h) : zSi g D mX6_isDigit [xi c] h Q := by
  have e := isDg_iff (c := c)
  have yes : (48 ≤ c ∧ c ≤ 57) → Q 1 h := fun z => by rw [if_pos (e.mpr z)] at hQ; exact hQ
  have no : ¬ (48 ≤ c ∧ c ≤ 57) → Q 0 h := fun z => by rw [if_neg (fun y => z (e.mp y))] at hQ; exact hQ
  exact eX6_isDigit (zX6_isDigit_0 ⟨fun q => zX6_isDigit_16 ⟨Or.inl rfl, no (by omega)⟩, fun q => ⟨fun q2 => zX6_isDigit_16 ⟨Or.inl rfl, no (by omega)⟩, fun q2 => ⟨Or.inr rfl, yes (by omega)⟩⟩⟩)
/-- a token more -/
def aTk (h : xH) (t : Nat) (k p v : Int) (h1 : xH) : Prop := h1.1 = h.1 ∧ (∀ r, r ≠ 43 → r ≠ 45 → r ≠ 46 → r ≠ 47 → h1.2 r = h.2 r) ∧ (∀ j, j ≠ 5 → h1.2 43 j = h.2 43 j) ∧ h1.2 43 5 = (t : Int) + 1 ∧ (∀ j, h1.2 45 j = if j = t then k else h.2 45 j) ∧ (∀ j, h1.2 46 j = if j = t then p else h.2 46 j) ∧ ∀ j, h1.2 47 j = if j = t then v else h.2 47 j
theorem s_addToken {t : Nat} {k p v : Int} {Q : xH → Prop} (ht : h.2 43 5 = (t : Int)) (h3 : t < 301) (hQ : ∀ h1, aTk h t k p v h1 → Q h1) : zSv g D mX6_addToken [xr 43, xi k, xi p, xi v] h Q := by
  refine eX6_addToken (zX6_addToken_0 ⟨fun q => by omega, fun _ => ⟨fun q => by omega, fun _ => ⟨fun q => by omega, fun _ => ⟨fun q => by omega, fun _ => ⟨by omega, ?_⟩⟩⟩⟩⟩)
  have e1 : x_up h.2 45 (h.2 43 5).toNat k 43 5 = (t : Int) := by rw [x_up_r (by decide)]; exact ht
  rw [e1]
  have e2 : x_up (x_up h.2 45 (h.2 43 5).toNat k) 46 ((t : Int)).toNat p 43 5 = (t : Int) := by rw [x_up_r (by decide)]; exact e1
  rw [e2]
  have e3 : x_up (x_up (x_up h.2 45 (h.2 43 5).toNat k) 46 ((t : Int)).toNat p) 47 ((t : Int)).toNat v 43 5 = (t : Int) := by rw [x_up_r (by decide)]; exact e2
  rw [e3, ht, show ((t : Int)).toNat = t by omega, x32_id (by omega) (by omega)]
  refine ⟨by omega, by omega, hQ _ ⟨rfl, fun r r1 r2 r3 r4 => ?_, fun j hj => ?_, ?_, fun j => ?_, fun j => ?_, fun j => ?_⟩⟩ <;> dsimp only
  · rw [x_up_r r1, x_up_r r4, x_up_r r3, x_up_r r2]
  · rw [x_up_j hj, x_up_r (by decide), x_up_r (by decide), x_up_r (by decide)]
  · rw [x_up_eq]
  · rw [x_up_r (by decide), x_up_r (by decide), x_up_r (by decide)]
    unfold x_up; rw [if_pos rfl]
  · rw [x_up_r (by decide), x_up_r (by decide)]
    unfold x_up; rw [if_pos rfl]; rfl
  · rw [x_up_r (by decide)]
    unfold x_up; rw [if_pos rfl]; rfl
theorem aTk_cB {t : Nat} {k p v : Int} {h1 : xH} (a : aTk h t k p v h1) (Z : cB h b n) : cB h1 b n := ⟨by rw [a.2.2.1 4 (by decide)]; exact Z.1, Z.2.1, Z.2.2.1, fun q hq => by rw [a.2.1 44 (by decide) (by decide) (by decide) (by decide)]; exact Z.2.2.2 q hq⟩
/-- rows for texts, over the heap's shape -/
theorem zj_ldcS {M k m pc t i : Nat} {ls st : List xV} {Q : xV → xH → Prop} {q : Nat × String} (hd : decode (x_cd M) pc = .ok (.ldc i, 2)) (hq : x_tx[t]? = some q) (ho : (x_y M).cls = "LinenBoard$Tape") (hi : i = q.1) (kk : zJ g D M k m (pc + 2) ls (xr (5 + t) :: st) h Q) : zJ g D M k m pc ls st h Q := fun hs => xj_ldcS hd hq ho hi (kk hs)
theorem l_isWord {w s l : Nat} {Q : Int → xH → Prop} (Z : cB h b n) (hw : w < 21) (hl : l ≤ 6) (hs : s + l ≤ n) (h1 : (∀ i, i < 6 → (if i < l then b (s + i) else 32) = WS w i) → Q 1 h) (h0 : ¬ (∀ i, i < 6 → (if i < l then b (s + i) else 32) = WS w i) → Q 0 h) : ∀ (m j : Nat) {w5 w6 : xV}, j + m = 6 → (∀ i, i < j → (if i < l then b (s + i) else 32) = WS w i) → zJ g (D + 4) 68 0 0 11 [xr 43, xi w, xi s, xi l, xi j, w5, w6] [] h (x_qi Q)
  | 0, j, w5, w6, e, hm => by
    refine z_blk (M := 68) (by decide) (by decide +kernel) [(0, (.iload 4, 2, (4, 0, 0, 0))), (0, (.bipush 6, 2, (0, 0, 0, 0))), (0, (.if_icmp .ge 68, 3, (83, 0, 0, 0)))] (by decide +kernel) ?_
    show ((6 : Int) ≤ j → zJ g (D + 4) 68 0 0 83 [xr 43, xi w, xi s, xi l, xi j, w5, w6] [] h (x_qi Q)) ∧ ((j : Int) < 6 → zJ g (D + 4) 68 0 0 18 [xr 43, xi w, xi s, xi l, xi j, w5, w6] [] h (x_qi Q))
    refine ⟨fun _ => ?_, fun z => by omega⟩
    refine z_blk (M := 68) (by decide) (by decide +kernel) [(0, (.iconst 1, 1, (0, 0, 0, 0))), (0, (.ireturn, 1, (3, 0, 0, 0)))] (by decide +kernel) ?_
    exact ⟨Or.inr rfl, h1 (fun i hi => hm i (by omega))⟩
  | m + 1, j, w5, w6, e, hm => by
    have ow := Z.2.1
    have yes : ∀ {w5 w6 : xV}, (if j < l then b (s + j) else 32) = WS w j → zJ g (D + 4) 68 0 0 77 [xr 43, xi w, xi s, xi l, xi j, w5, w6] [] h (x_qi Q) := by
      intro w5 w6 z
      refine z_blk (M := 68) (by decide) (by decide +kernel) [(0, (.iinc 4 1, 3, (4, 0, 0, 0))), (0, (.goto (-69), 3, (11, 0, 0, 0)))] (by decide +kernel) ?_
      show zJ g (D + 4) 68 0 0 11 [xr 43, xi w, xi s, xi l, xi (x32 ((j : Int) + 1)), w5, w6] [] h (x_qi Q)
      rw [x32_id (by omega) (by omega), show (j : Int) + 1 = ((j + 1 : Nat) : Int) by omega]
      refine l_isWord Z hw hl hs h1 h0 m (j + 1) (by omega) (fun i hi => ?_)
      by_cases y : i = j
      · subst y; exact z
      · exact hm i (by omega)
    have go : ∀ {c : Int}, c = (if j < l then b (s + j) else 32) → zJ g (D + 4) 68 0 0 37 [xr 43, xi w, xi s, xi l, xi j, w5, w6] [xi c] h (x_qi Q) := by
      intro c hc
      refine z_blk (M := 68) (by decide) (by decide +kernel) [(0, (.istore 5, 2, (5, 0, 0, 0))), (0, (.iload_n 1, 1, (1, 0, 0, 0))), (0, (.bipush 6, 2, (0, 0, 0, 0))), (0, (.imul, 1, (0, 0, 0, 0))), (0, (.iload 4, 2, (4, 0, 0, 0))), (0, (.iadd, 1, (0, 0, 0, 0))), (0, (.istore 6, 2, (6, 0, 0, 0))), (0, (.iload 6, 2, (6, 0, 0, 0))), (0, (.ifCond .lt 25, 3, (75, 0, 0, 0))), (0, (.iload 6, 2, (6, 0, 0, 0)))] (by decide +kernel) ?_
      show (x32 (x32 ((w : Int) * 6) + (j : Int)) < 0 → zJ g (D + 4) 68 0 0 75 [xr 43, xi w, xi s, xi l, xi j, xi c, xi (x32 (x32 ((w : Int) * 6) + (j : Int)))] [] h (x_qi Q)) ∧ (0 ≤ x32 (x32 ((w : Int) * 6) + (j : Int)) → zJ g (D + 4) 68 0 0 55 [xr 43, xi w, xi s, xi l, xi j, xi c, xi (x32 (x32 ((w : Int) * 6) + (j : Int)))] [xi (x32 (x32 ((w : Int) * 6) + (j : Int)))] h (x_qi Q))
      rw [x32_id (x := (w : Int) * 6) (by omega) (by omega), x32_id (by omega) (by omega), show (w : Int) * 6 + (j : Int) = ((6 * w + j : Nat) : Int) by omega]
      refine ⟨fun z => by omega, fun _ => ?_⟩
      refine zj_ldcS (t := 0) (by decide +kernel) rfl rfl rfl (fun hs0 => ?_)
      refine xj_invokeS (i := 61) (M2 := 255) (As := []) (by decide +kernel) (x_mc_ok (by decide +kernel)) (by decide) rfl (x_lk_ok (by decide) (by decide +kernel)) (x_ims_ok (by decide +kernel)) (x_sel_ok (by decide +kernel)) (x_np_ok 255 (by decide)) (Nat.le_refl _) (Nat.le_refl _) (Nat.le_of_ble_eq_true rfl) (k_length (D := D + 2) (by decide) ?_)
      show xJ g (D + 4) 68 0 0 60 [xr 43, xi w, xi s, xi l, xi j, xi c, xi ((6 * w + j : Nat) : Int)] [xi 126, xi ((6 * w + j : Nat) : Int)] h (zQ (x_qi Q))
      refine z_blk (M := 68) (by decide) (by decide +kernel) [(0, (.if_icmp .ge 15, 3, (75, 0, 0, 0)))] (by decide +kernel) ?_ hs0
      show ((126 : Int) ≤ ((6 * w + j : Nat) : Int) → zJ g (D + 4) 68 0 0 75 [xr 43, xi w, xi s, xi l, xi j, xi c, xi ((6 * w + j : Nat) : Int)] [] h (x_qi Q)) ∧ (((6 * w + j : Nat) : Int) < 126 → zJ g (D + 4) 68 0 0 63 [xr 43, xi w, xi s, xi l, xi j, xi c, xi ((6 * w + j : Nat) : Int)] [] h (x_qi Q))
      refine ⟨fun z => by omega, fun _ => ?_⟩
      refine zj_ldcS (t := 0) (by decide +kernel) rfl rfl rfl ?_
      refine z_blk (M := 68) (by decide) (by decide +kernel) [(0, (.iload 6, 2, (6, 0, 0, 0)))] (by decide +kernel) ?_
      intro hs1
      show xJ g (D + 4) 68 0 0 67 [xr 43, xi w, xi s, xi l, xi j, xi c, xi ((6 * w + j : Nat) : Int)] ([xi ((6 * w + j : Nat) : Int)].reverse ++ xr (5 + 0) :: []) h (zQ (x_qi Q))
      refine xj_invokeS (i := 66) (M2 := 256) (As := [xi ((6 * w + j : Nat) : Int)]) (by decide +kernel) (x_mc_ok (by decide +kernel)) (by decide) rfl (x_lk_ok (by decide) (by decide +kernel)) (x_ims_ok (by decide +kernel)) (x_sel_ok (by decide +kernel)) (x_np_ok 256 (by decide)) (Nat.le_refl _) (Nat.le_refl _) (Nat.le_of_ble_eq_true rfl) (k_charAt (by decide) (by omega) (show ((6 * w + j : Nat) : Int) < 126 by omega) ?_)
      rw [show (((6 * w + j : Nat) : Int)).toNat = 6 * w + j by omega]
      show xJ g (D + 4) 68 0 0 70 [xr 43, xi w, xi s, xi l, xi j, xi c, xi ((6 * w + j : Nat) : Int)] [xi (WS w j)] h (zQ (x_qi Q))
      refine z_blk (M := 68) (by decide) (by decide +kernel) [(0, (.iload 5, 2, (5, 0, 0, 0))), (0, (.if_icmp .eq 5, 3, (77, 0, 0, 0))), (0, (.iconst 0, 1, (0, 0, 0, 0))), (0, (.ireturn, 1, (3, 0, 0, 0)))] (by decide +kernel) ?_ hs1
      show (WS w j = c → zJ g (D + 4) 68 0 0 77 [xr 43, xi w, xi s, xi l, xi j, xi c, xi ((6 * w + j : Nat) : Int)] [] h (x_qi Q)) ∧ (¬ WS w j = c → ((0 : Int) = 0 ∨ (0 : Int) = 1) ∧ Q 0 h)
      exact ⟨fun z => yes (by rw [← hc]; exact z.symm), fun z => ⟨Or.inl rfl, h0 (fun y => z (by rw [hc]; exact (y j (by omega)).symm))⟩⟩
    refine z_blk (M := 68) (by decide) (by decide +kernel) [(0, (.iload 4, 2, (4, 0, 0, 0))), (0, (.bipush 6, 2, (0, 0, 0, 0))), (0, (.if_icmp .ge 68, 3, (83, 0, 0, 0))), (0, (.iload 4, 2, (4, 0, 0, 0))), (0, (.iload_n 3, 1, (3, 0, 0, 0))), (0, (.if_icmp .ge 14, 3, (35, 0, 0, 0))), (0, (.aload_n 0, 1, (0, 0, 0, 0))), (0, (.iload_n 2, 1, (2, 0, 0, 0))), (0, (.iload 4, 2, (4, 0, 0, 0))), (0, (.iadd, 1, (0, 0, 0, 0))), (1, (.invokevirtual 31, 3, (63, 6, 0, 0))), (0, (.goto 5, 3, (37, 0, 0, 0)))] (by decide +kernel) ?_
    show ((6 : Int) ≤ j → zJ g (D + 4) 68 0 0 83 [xr 43, xi w, xi s, xi l, xi j, w5, w6] [] h (x_qi Q)) ∧ ((j : Int) < 6 → ((l : Int) ≤ j → zJ g (D + 4) 68 0 0 35 [xr 43, xi w, xi s, xi l, xi j, w5, w6] [] h (x_qi Q)) ∧ ((j : Int) < l → zSi g (D + 3) mX6_byteAt [xr 43, xi (x32 ((s : Int) + j))] h (fun x1 h1 => zJ g (D + 4) 68 0 0 37 [xr 43, xi w, xi s, xi l, xi j, w5, w6] [xi x1] h1 (x_qi Q))))
    refine ⟨fun z => by omega, fun _ => ⟨fun z => ?_, fun z => ?_⟩⟩
    · refine z_blk (M := 68) (by decide) (by decide +kernel) [(0, (.bipush 32, 2, (0, 0, 0, 0)))] (by decide +kernel) ?_
      exact go (by rw [if_neg (by omega)])
    · rw [x32_id (by omega) (by omega), show (s : Int) + j = ((s + j : Nat) : Int) by omega]
      refine s_byteAt Z ?_
      rw [cv_y (by omega)]
      exact go (by rw [if_pos (by omega)])
theorem s_isWord {w s l : Nat} {Q : Int → xH → Prop} (Z : cB h b n) (hw : w < 21) (hs : s + l ≤ n) (h1 : (l ≤ 6 ∧ ∀ i, i < 6 → (if i < l then b (s + i) else 32) = WS w i) → Q 1 h) (h0 : ¬ (l ≤ 6 ∧ ∀ i, i < 6 → (if i < l then b (s + i) else 32) = WS w i) → Q 0 h) : zSi g (D + 4) mX6_isWord [xr 43, xi w, xi s, xi l] h Q := by
  have ow := Z.2.1
  refine z_entry (x_mc_ok (by decide +kernel)) (Nat.le_of_ble_eq_true rfl) ?_
  show zJ g (D + 4) 68 0 0 0 [xr 43, xi w, xi s, xi l, xu, xu, xu] [] h (x_qi Q)
  refine z_blk (M := 68) (by decide) (by decide +kernel) [(0, (.iload_n 3, 1, (3, 0, 0, 0))), (0, (.bipush 6, 2, (0, 0, 0, 0))), (0, (.if_icmp .le 5, 3, (8, 0, 0, 0))), (0, (.iconst 0, 1, (0, 0, 0, 0))), (0, (.ireturn, 1, (3, 0, 0, 0)))] (by decide +kernel) ?_
  show ((l : Int) ≤ 6 → zJ g (D + 4) 68 0 0 8 [xr 43, xi w, xi s, xi l, xu, xu, xu] [] h (x_qi Q)) ∧ ((6 : Int) < l → ((0 : Int) = 0 ∨ (0 : Int) = 1) ∧ Q 0 h)
  refine ⟨fun z => ?_, fun z => ⟨Or.inl rfl, h0 (fun y => by omega)⟩⟩
  refine z_blk (M := 68) (by decide) (by decide +kernel) [(0, (.iconst 0, 1, (0, 0, 0, 0))), (0, (.istore 4, 2, (4, 0, 0, 0)))] (by decide +kernel) ?_
  exact l_isWord Z hw (by omega) hs (fun y => h1 ⟨by omega, y⟩) (fun y => h0 (fun x => y x.2)) 6 0 rfl (fun i hi => by omega)
end SPL
