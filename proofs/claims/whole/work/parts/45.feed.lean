/-! feed -/
theorem x_and255 (x : Int) : 0 ≤ x_and x 255 ∧ x_and x 255 ≤ 255 := by
  unfold x_and
  have h1 : (Int32.ofInt x &&& Int32.ofInt 255).toInt = ((Int32.ofInt x).toBitVec &&& (255#32)).toInt := rfl
  rw [h1]
  generalize (Int32.ofInt x).toBitVec = b
  have h2 : (b &&& 255#32).toNat ≤ 255 := by
    rw [BitVec.toNat_and]
    exact Nat.and_le_right
  rw [BitVec.toInt_eq_toNat_of_lt (by omega)]
  omega
def by4 (a : Int) (k : Nat) : Int := x_and (x_shr a (24 - 8 * (k : Int))) 255
def p_f4 (C : Nat → Nat → Int) (qo fo qa n k m : Nat) (a : Int) : Nat → Nat → Int := fun r j => if r = qo ∧ j = fo then ((n + m : Nat) : Int) else if r = qa ∧ n + k ≤ j ∧ j < n + m then by4 a (j - n) else C r j
theorem p_f4_s {C : Nat → Nat → Int} {qo fo qa n k m : Nat} {a : Int} (h : k < m) (hq : qo ≠ qa) : p_f4 (x_up (x_up C qa (n + k) (by4 a k)) qo fo ((n : Int) + k + 1)) qo fo qa n (k + 1) m a = p_f4 C qo fo qa n k m a := by
  funext r j
  unfold p_f4
  by_cases h1 : r = qo ∧ j = fo
  · rw [if_pos h1, if_pos h1]
  · rw [if_neg h1, if_neg h1]
    by_cases h2 : r = qa ∧ n + (k + 1) ≤ j ∧ j < n + m
    · rw [if_pos h2, if_pos ⟨h2.1, by omega, h2.2.2⟩]
    · rw [if_neg h2]
      by_cases h3 : r = qa ∧ j = n + k
      · obtain ⟨e1, e2⟩ := h3
        subst e1; subst e2
        rw [if_pos ⟨rfl, by omega, by omega⟩, x_up_r (fun z => hq z.symm), x_up_eq, show n + k - n = k by omega]
      · rw [if_neg (by omega)]
        have e1 : x_up (x_up C qa (n + k) (by4 a k)) qo fo ((n : Int) + k + 1) r j = x_up C qa (n + k) (by4 a k) r j := by
          by_cases e : r = qo
          · subst e; exact x_up_j (fun z => h1 ⟨rfl, z⟩)
          · rw [x_up_r e]
        rw [e1]
        by_cases e : r = qa
        · subst e; exact x_up_j (fun z => h3 ⟨rfl, z⟩)
        · rw [x_up_r e]
theorem p_f4_0 {C : Nat → Nat → Int} {qo fo qa n : Nat} {a : Int} {m : Nat} (h : C qo fo = ((n + m : Nat) : Int)) : p_f4 C qo fo qa n m m a = C := by
  funext r j
  unfold p_f4
  by_cases h1 : r = qo ∧ j = fo
  · obtain ⟨e1, e2⟩ := h1
    subst e1; subst e2
    rw [if_pos ⟨rfl, rfl⟩, h]
  · rw [if_neg h1, if_neg (by omega)]
theorem l_put {g : xG} {D n : Nat} {a : Int} {Q : xH → Prop} (hn : n + 4 ≤ 300) : ∀ (m k : Nat) {h : xH}, k + m = 4 → h.2 43 4 = (n : Int) + k → (zSh (h.1, p_f4 h.2 43 4 44 n k 4 a) → Q (h.1, p_f4 h.2 43 4 44 n k 4 a)) → zJ g D 61 0 0 3 [xr 43, xi a, xi (24 - 8 * (k : Int))] [] h (x_qv Q)
  | 0, k, h, e, e2, hQ => by
    have : k = 4 := by omega
    subst this
    refine zJ_sh fun hs => zX6_put_3 ⟨fun _ => zX6_put_58 ?_, fun z => by omega⟩
    rw [p_f4_0 (by rw [e2]; omega)] at hQ
    exact hQ hs
  | m + 1, k, h, e, e2, hQ => by
    refine zX6_put_3 ⟨fun z => by omega, fun z => ⟨fun z2 => by omega, fun z2 => ⟨fun z3 => by omega, fun z3 => ⟨⟨z2, z3⟩, ?_⟩⟩⟩⟩
    rw [x_up_r (show 43 ≠ 44 by decide), e2, x32_id (by omega) (by omega), x32_id (by omega) (by omega), show ((n : Int) + (k : Int)).toNat = n + k by omega, show (24 - 8 * (k : Int) + -8) = 24 - 8 * ((k + 1 : Nat) : Int) by omega]
    refine l_put hn m (k + 1) (by omega) (by dsimp only; rw [x_up_eq]; omega) ?_
    show zSh (h.1, p_f4 (x_up (x_up h.2 44 (n + k) (by4 a k)) 43 4 ((n : Int) + k + 1)) 43 4 44 n (k + 1) 4 a) → Q (h.1, p_f4 (x_up (x_up h.2 44 (n + k) (by4 a k)) 43 4 ((n : Int) + k + 1)) 43 4 44 n (k + 1) 4 a)
    rw [p_f4_s (by omega) (by decide)]
    exact hQ
theorem l_four {g : xG} {D n : Nat} {a : Int} {Q : xH → Prop} (hn : n + 4 ≤ 300) : ∀ (m k : Nat) {h : xH}, k + m = 4 → h.2 95 5 = (n : Int) + k → (zSh (h.1, p_f4 h.2 95 5 100 n k 4 a) → Q (h.1, p_f4 h.2 95 5 100 n k 4 a)) → zJ g D 155 0 0 3 [xr 95, xi a, xi (24 - 8 * (k : Int))] [] h (x_qv Q)
  | 0, k, h, e, e2, hQ => by
    have : k = 4 := by omega
    subst this
    refine zJ_sh fun hs => zX9_four_3 ⟨fun _ => zX9_four_39 ?_, fun z => by omega⟩
    rw [p_f4_0 (by rw [e2]; omega)] at hQ
    exact hQ hs
  | m + 1, k, h, e, e2, hQ => by
    refine zX9_four_3 ⟨fun z => by omega, fun z => ⟨by omega, ?_⟩⟩
    rw [x_up_r (show 95 ≠ 100 by decide), e2, x32_id (by omega) (by omega), x32_id (by omega) (by omega), show ((n : Int) + (k : Int)).toNat = n + k by omega, show (24 - 8 * (k : Int) + -8) = 24 - 8 * ((k + 1 : Nat) : Int) by omega]
    refine l_four hn m (k + 1) (by omega) (by dsimp only; rw [x_up_eq]; omega) ?_
    show zSh (h.1, p_f4 (x_up (x_up h.2 100 (n + k) (by4 a k)) 95 5 ((n : Int) + k + 1)) 95 5 100 n (k + 1) 4 a) → Q (h.1, p_f4 (x_up (x_up h.2 100 (n + k) (by4 a k)) 95 5 ((n : Int) + k + 1)) 95 5 100 n (k + 1) 4 a)
    rw [p_f4_s (by omega) (by decide)]
    exact hQ
theorem s_put {g : xG} {D n : Nat} {h : xH} {a : Int} {Q : xH → Prop} (hn : n + 4 ≤ 300) (e : h.2 43 4 = (n : Int)) (hQ : ∀ h1 : xH, h1.1 = h.1 → h1.2 = p_f4 h.2 43 4 44 n 0 4 a → Q h1) : zSv g D mX6_put [xr 43, xi a] h Q :=
  eX6_put (zX6_put_0 (l_put hn 4 0 rfl (by rw [e]; omega) (fun hs => hQ _ rfl rfl)))
theorem s_four {g : xG} {D n : Nat} {h : xH} {a : Int} {Q : xH → Prop} (hn : n + 4 ≤ 300) (e : h.2 95 5 = (n : Int)) (hQ : ∀ h1 : xH, h1.1 = h.1 → h1.2 = p_f4 h.2 95 5 100 n 0 4 a → Q h1) : zSv g D mX9_four [xr 95, xi a] h Q :=
  eX9_four (zX9_four_0 (l_four hn 4 0 rfl (by rw [e]; omega) (fun hs => hQ _ rfl rfl)))
theorem p_f4_z {C : Nat → Nat → Int} {qo fo qa n k m : Nat} {a : Int} : p_f4 C qo fo qa n k m a qo fo = ((n + m : Nat) : Int) := by unfold p_f4; rw [if_pos ⟨rfl, rfl⟩]
theorem p_f4_o {C : Nat → Nat → Int} {qo fo qa n k m r : Nat} {a : Int} (h1 : r ≠ qo) (h2 : r ≠ qa) : p_f4 C qo fo qa n k m a r = C r := by
  funext j; unfold p_f4; rw [if_neg (fun z => h1 z.1), if_neg (fun z => h2 z.1)]
theorem p_f4_p {C : Nat → Nat → Int} {qo fo qa n k m j : Nat} {a : Int} (hq : qo ≠ qa) (hj : j ≠ fo) : p_f4 C qo fo qa n k m a qo j = C qo j := by
  unfold p_f4; rw [if_neg (fun z => hj z.2), if_neg (fun z => hq z.1)]
theorem p_f4_a {C : Nat → Nat → Int} {qo fo qa n j : Nat} {a : Int} (hq : qo ≠ qa) : p_f4 C qo fo qa n 0 4 a qa j = if n ≤ j ∧ j < n + 4 then by4 a (j - n) else C qa j := by
  unfold p_f4; rw [if_neg (fun z => hq z.1.symm)]; simp only [true_and, Nat.add_zero]
def p_b5 (n : Nat) (a b c d e : Int) (j : Nat) : Int := if j < n + 4 then by4 a (j - n) else if j < n + 8 then by4 b (j - (n + 4)) else if j < n + 12 then by4 c (j - (n + 8)) else if j < n + 16 then by4 d (j - (n + 12)) else by4 e (j - (n + 16))
theorem p_f4_5 {C : Nat → Nat → Int} {qo fo qa n j : Nat} {a b c d e : Int} (hq : qo ≠ qa) : p_f4 (p_f4 (p_f4 (p_f4 (p_f4 C qo fo qa n 0 4 a) qo fo qa (n + 4) 0 4 b) qo fo qa (n + 8) 0 4 c) qo fo qa (n + 12) 0 4 d) qo fo qa (n + 16) 0 4 e qa j = if n ≤ j ∧ j < n + 20 then p_b5 n a b c d e j else C qa j := by
  rw [p_f4_a hq, p_f4_a hq, p_f4_a hq, p_f4_a hq, p_f4_a hq]
  unfold p_b5
  by_cases h1 : n ≤ j ∧ j < n + 20
  · rw [if_pos h1]
    by_cases h2 : j < n + 4
    · rw [if_neg (by omega), if_neg (by omega), if_neg (by omega), if_neg (by omega), if_pos (by omega), if_pos h2]
    · rw [if_neg h2]
      by_cases h3 : j < n + 8
      · rw [if_neg (by omega), if_neg (by omega), if_neg (by omega), if_pos (by omega), if_pos h3]
      · rw [if_neg h3]
        by_cases h4 : j < n + 12
        · rw [if_neg (by omega), if_neg (by omega), if_pos (by omega), if_pos h4]
        · rw [if_neg h4]
          by_cases h5 : j < n + 16
          · rw [if_neg (by omega), if_pos (by omega), if_pos h5]
          · rw [if_neg h5, if_pos (by omega)]
  · rw [if_neg h1, if_neg (by omega), if_neg (by omega), if_neg (by omega), if_neg (by omega), if_neg (by omega)]
theorem p_b5_r (n : Nat) (a b c d e : Int) (j : Nat) : 0 ≤ p_b5 n a b c d e j ∧ p_b5 n a b c d e j ≤ 255 := by
  unfold p_b5 by4
  repeat' split
  all_goals exact x_and255 _
theorem op_feed {g : xG} {D : Nat} {h : xH} {a b c d e : Int} (I : zInv h) : zSi g (D + 3) mX8_feed [xr 16, xi a, xi b, xi c, xi d, xi e] h (fun x h1 => zSi g (D + 3) mX9_feed [xr 95, xi a, xi b, xi c, xi d, xi e] h1 (fun y h2 => x = y ∧ zInv h2)) := by
  obtain ⟨t1, t2, t3, t4, t5, t6, t7, t8⟩ := I.2.2.2.2
  obtain ⟨n, hn⟩ : ∃ n : Nat, h.2 43 4 = (n : Int) := ⟨(h.2 43 4).toNat, by omega⟩
  have hn9 : h.2 95 5 = (n : Int) := by rw [← t1]; exact hn
  refine eX8_feed (zX8_feed_0 ?_)
  rw [hn, x32_id (by omega) (by omega)]
  refine ⟨fun z => zX8_feed_18 ?_, fun z => eX9_feed (zX9_feed_0 ?_)⟩
  · refine s_put (n := n) (by omega) hn (fun h1 k1 l1 => s_put (n := n + 4) (by omega) (by rw [l1]; exact p_f4_z) (fun h2 k2 l2 => s_put (n := n + 8) (by omega) (by rw [l2]; exact p_f4_z) (fun h3 k3 l3 => s_put (n := n + 12) (by omega) (by rw [l3]; exact p_f4_z) (fun h4 k4 l4 => s_put (n := n + 16) (by omega) (by rw [l4]; exact p_f4_z) (fun h5 k5 l5 => ?_)))))
    have ez : h5.2 43 4 = ((n + 20 : Nat) : Int) := by rw [l5]; exact p_f4_z
    rw [l4, l3, l2, l1] at l5
    have f1 : h5.1 = h.1 := by rw [k5, k4, k3, k2, k1]
    have fo : ∀ r, r ≠ 43 → r ≠ 44 → h5.2 r = h.2 r := fun r r1 r2 => by rw [l5, p_f4_o r1 r2, p_f4_o r1 r2, p_f4_o r1 r2, p_f4_o r1 r2, p_f4_o r1 r2]
    have f44 : ∀ j, h5.2 44 j = if n ≤ j ∧ j < n + 20 then p_b5 n a b c d e j else h.2 44 j := fun j => by rw [l5]; exact p_f4_5 (by decide)
    clear l1 l2 l3 l4 l5 k1 k2 k3 k4 k5
    rw [ez]
    refine eX9_feed (zX9_feed_0 ?_)
    have en : h5.2 95 5 = (n : Int) := by rw [fo 95 (by decide) (by decide)]; exact hn9
    rw [en, x32_id (by omega) (by omega)]
    refine ⟨fun z => zX9_feed_15 ?_, fun z => by omega⟩
    refine s_four (n := n) (by omega) en (fun h1 k1 l1 => s_four (n := n + 4) (by omega) (by rw [l1]; exact p_f4_z) (fun h2 k2 l2 => s_four (n := n + 8) (by omega) (by rw [l2]; exact p_f4_z) (fun h3 k3 l3 => s_four (n := n + 12) (by omega) (by rw [l3]; exact p_f4_z) (fun h4 k4 l4 => s_four (n := n + 16) (by omega) (by rw [l4]; exact p_f4_z) (fun h6 k5 l5 => ?_)))))
    have ez6 : h6.2 95 5 = ((n + 20 : Nat) : Int) := by rw [l5]; exact p_f4_z
    rw [l4, l3, l2, l1] at l5
    have g1 : h6.1 = h.1 := by rw [k5, k4, k3, k2, k1, f1]
    have go : ∀ r, r ≠ 95 → r ≠ 100 → h6.2 r = h5.2 r := fun r r1 r2 => by rw [l5, p_f4_o r1 r2, p_f4_o r1 r2, p_f4_o r1 r2, p_f4_o r1 r2, p_f4_o r1 r2]
    have gp : ∀ j, j ≠ 5 → h6.2 95 j = h.2 95 j := fun j hj => by rw [l5, p_f4_p (by decide) hj, p_f4_p (by decide) hj, p_f4_p (by decide) hj, p_f4_p (by decide) hj, p_f4_p (by decide) hj, fo 95 (by decide) (by decide)]
    have g100 : ∀ j, h6.2 100 j = if n ≤ j ∧ j < n + 20 then p_b5 n a b c d e j else h.2 100 j := fun j => by rw [l5, p_f4_5 (by decide), fo 100 (by decide) (by decide)]
    clear l1 l2 l3 l4 l5 k1 k2 k3 k4 k5
    rw [ez6]
    refine ⟨rfl, inv_tp I g1 (fun r hr => by rw [go r (by omega) (by omega), fo r (by omega) (by omega)]) ?_⟩
    unfold pTp
    rw [go 43 (by decide) (by decide), go 44 (by decide) (by decide), go 74 (by decide) (by decide), go 75 (by decide) (by decide), ez, ez6, fo 74 (by decide) (by decide), fo 75 (by decide) (by decide), gp 6 (by decide), gp 7 (by decide)]
    refine ⟨rfl, by omega, fun i hi => ?_, t4, t5, t6, t7, t8⟩
    rw [f44, g100]
    by_cases q : n ≤ i ∧ i < n + 20
    · rw [if_pos q, if_pos q]
      exact ⟨rfl, p_b5_r n a b c d e i⟩
    · rw [if_neg q, if_neg q]
      exact t3 i (by omega)
  · rw [hn9, x32_id (by omega) (by omega)]
    exact ⟨fun z => by omega, fun z => ⟨rfl, I⟩⟩
