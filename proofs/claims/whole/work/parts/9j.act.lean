/-! ACT -/
def uS (b : Nat → Int) (n E o i : Nat) : Rs := (pp (kt b n) (nmt b n) (E + 1)).2.2 o (-1) i
def uA (b : Nat → Int) (n E i : Nat) : Rs := pAsk (kt b n) (uS b n E) (E + 1) 0 i
def uN (b : Nat → Int) (n E i : Nat) : Rs := pAnd (kt b n) (uA b n E) (E + 1) i
def uE (b : Nat → Int) (n E i : Nat) : Rs := pEit (kt b n) (uA b n E) (uN b n E) (E + 1) false i
def uT (b : Nat → Int) (n E : Nat) : Tx := pTx (kt b n) (nmt b n) (uE b n E) (uS b n E 0) 22 [] [] 0
section ACT
variable {g : xG} {D : Nat} {b : Nat → Int} {n E r t0 : Nat}
theorem uS_p (hK : kt b n E = 36) (hN : ∀ i, 0 ≤ nmt b n i) : ∀ o i, i ≤ E → rsL E o (-1) i (uS b n E o i) := fun o i hi => (pp_ok (K := kt b n) (N := nmt b n) hK hN (E + 1) i hi (by omega) o).2.2 (-1) (Or.inl rfl)
theorem uA_p (hK : kt b n E = 36) (hN : ∀ i, 0 ≤ nmt b n i) : ∀ i, i ≤ E → rsA E i (uA b n E i) := fun i hi => p_Ask hK (uS_p hK hN) (E + 1) 0 i hi (by omega)
theorem uN_p (hK : kt b n E = 36) (hN : ∀ i, 0 ≤ nmt b n i) : ∀ i, i ≤ E → rsN E i (uN b n E i) := fun i hi => p_And hK (uA_p hK hN) (E + 1) i hi (by omega)
theorem uE_p (hK : kt b n E = 36) (hN : ∀ i, 0 ≤ nmt b n i) : ∀ i, i ≤ E → rsE E false i (uE b n E i) := fun i hi => p_Eit hK (uA_p hK hN) (uN_p hK hN) (E + 1) false i hi (by omega)
theorem uS_j (hK : kt b n E = 36) (hN : ∀ i, 0 ≤ nmt b n i) : ∀ o i, o ≤ 8 → i ≤ E → jS g b n E r o i (uS b n E o i) := fun o i ho hi => jS_of ho ((c_pp hK hN (E + 1) i hi (by omega) o ho).2.2 (-1) (Or.inl rfl))
theorem uA_j (hK : kt b n E = 36) (hN : ∀ i, 0 ≤ nmt b n i) : ∀ i, i ≤ E → jA g b n E r 0 i (uA b n E i) := fun i hi => c_Ask hK (uS_p hK hN) (uS_j hK hN) (E + 1) 0 i (by omega) hi (by omega)
theorem uN_j (hK : kt b n E = 36) (hN : ∀ i, 0 ≤ nmt b n i) : ∀ i, i ≤ E → jN g b n E r i (uN b n E i) := fun i hi => c_And hK (uA_p hK hN) (uA_j hK hN) (E + 1) i hi (by omega)
theorem uE_j (hK : kt b n E = 36) (hN : ∀ i, 0 ≤ nmt b n i) : ∀ i, i ≤ E → jE g b n E r i (uE b n E i) := fun i hi D h w Q hD C W hQ => by
  obtain ⟨D, rfl⟩ : ∃ D', D = D' + 1 := ⟨D - 1, by omega⟩
  exact eX4_readEither (zX4_readEither_0 (c_Eit hK (uA_p hK hN) (uN_p hK hN) (uA_j hK hN) (uN_j hK hN) (E + 1) false i hi (by omega) (D + 1) h w Q 0 xu hD C W (by omega) ⟨fun z => absurd z (by decide), fun z => absurd z (by omega)⟩ (fun z => absurd z (by decide)) hQ))
theorem uS_k (hK : kt b n E = 36) (hE3 : E ≤ 300) (hN : ∀ i, 0 ≤ nmt b n i) : ∀ o i, i ≤ E → kS g b n t0 o i (uS b n E o i) := fun o i hi => kS_of ((k_pp hK hE3 hN (E + 1) i hi (by omega) o).2.2 (-1) (Or.inl rfl))
theorem uA_k (hK : kt b n E = 36) (hE3 : E ≤ 300) (hN : ∀ i, 0 ≤ nmt b n i) : ∀ i, i ≤ E → kA g b n t0 i (uA b n E i) := fun i hi => kA_of hK hE3 (uS_p hK hN) (uS_k hK hE3 hN) hi (by omega)
theorem uE_k (hK : kt b n E = 36) (hE3 : E ≤ 300) (hN : ∀ i, 0 ≤ nmt b n i) : ∀ i, i ≤ E → kE g b n t0 i (uE b n E i) := fun i hi D h w Q Bb Rr hw hf h0 => by
  refine eX9_either (zX9_either_0 ?_)
  exact k_Eit hK hE3 (uA_p hK hN) (uN_p hK hN) (uA_k hK hE3 hN) (fun i hi => k_And hK hE3 (uA_p hK hN) (uA_k hK hE3 hN) (E + 1) i hi (by omega)) (E + 1) false i hi (by omega) D h w Q xu xu Bb Rr (by rw [if_neg (by decide)]; omega) hf h0
/-- what the reference's act may change -/
def rpx (t0 : Nat) (h h' : xH) : Prop := h'.1 = h.1 ∧ (∀ q, q ≠ 95 → q ≠ 96 → q ≠ 101 → h'.2 q = h.2 q) ∧ ∀ a, ¬ (t0 ≤ a ∧ a < t0 + 900) → a ≠ 6 → h'.2 96 a = h.2 96 a
theorem r_act {h : xH} {k0 : Nat} {Q : Int → xH → Prop} (Zr : rB8 h b n) (h6 : h.2 96 6 = (k0 : Int)) (hk : k0 < 10) (hK : kt b n E = 36) (hE3 : E ≤ 300) (hN : ∀ i, 0 ≤ nmt b n i)
    (hf : (uT b n E).1 ≠ 0 → ∀ h7, rpx (2000 + 900 * k0) h h7 → h7.2 96 6 = (k0 : Int) → h7.2 95 5 = 0 → h7.2 95 6 = (uT b n E).1 → h7.2 95 7 = (ps b n (uT b n E).2.1 : Int) → Q (-1) h7)
    (h0 : (uT b n E).1 = 0 → ∀ h7, rpx (2000 + 900 * k0) h h7 → h7.2 96 6 = (k0 : Int) + 1 → h7.2 95 5 = 0 → h7.2 95 6 = 0 → h7.2 95 7 = -1 → h7.2 96 (2000 + 900 * k0) = ((uT b n E).2.2.1.length : Int) → (∀ c, c < (uT b n E).2.2.1.length → h7.2 96 (2000 + 900 * k0 + 1 + 12 * c) = (gc (uT b n E).2.2.1 c).1 + 1 ∧ ((gc (uT b n E).2.2.1 c).1 = 0 ∨ 6 ≤ (gc (uT b n E).2.2.1 c).1 → h7.2 96 (2000 + 900 * k0 + 2 + 12 * c) = (gc (uT b n E).2.2.1 c).2.1) ∧ h7.2 96 (2000 + 900 * k0 + 3 + 12 * c) = ((gc (uT b n E).2.2.1 c).2.2.1 : Int) ∧ h7.2 96 (2000 + 900 * k0 + 4 + 12 * c) = ((gc (uT b n E).2.2.1 c).2.2.2 : Int)) → (∀ j, j < (uT b n E).2.2.2.length → h7.2 96 (2000 + 900 * k0 + 250 + 2 * j) = (gl (uT b n E).2.2.2 j).1 ∧ h7.2 96 (2000 + 900 * k0 + 250 + 2 * j + 1) = (gl (uT b n E).2.2.2 j).2) → Q (k0 : Int) h7) : zSi g (D + 36) mX9_act [xr 95] h Q := by
  have e1 : x32 (2000 + (x32 (900 * (h.2 96 6)))) = ((2000 + 900 * k0 : Nat) : Int) := by
    rw [h6, x32_id (x := 900 * (k0 : Int)) (by omega) (by omega), x32_id (by omega) (by omega)]; omega
  refine eX9_act (zX9_act_0 ⟨fun _ => zX9_act_14 (eX9_readText (zX9_readText_0 ?_)), fun z => by omega⟩)
  rw [e1]
  generalize hh1 : ((h.1, x_up (x_up (x_up (x_up (x_up (x_up h.2 95 13 ((2000 + 900 * k0 : Nat) : Int)) 95 14 0) 95 15 0) 95 19 0) 95 16 0) 95 8 0) : xH) = h1
  have q1 : h1.1 = h.1 := by rw [← hh1]
  have o1 : ∀ q, q ≠ 95 → h1.2 q = h.2 q := fun q hq => by rw [← hh1]; dsimp only; rw [x_up_r hq, x_up_r hq, x_up_r hq, x_up_r hq, x_up_r hq, x_up_r hq]
  have o2 : ∀ j, j ≠ 8 → j ≠ 13 → j ≠ 14 → j ≠ 15 → j ≠ 16 → j ≠ 19 → h1.2 95 j = h.2 95 j := fun j a1 a2 a3 a4 a5 a6 => by rw [← hh1]; dsimp only; rw [x_up_j a1, x_up_j a5, x_up_j a6, x_up_j a4, x_up_j a3, x_up_j a2]
  have c8 : h1.2 95 8 = 0 := by rw [← hh1]; dsimp only; rw [x_up_eq]
  have c13 : h1.2 95 13 = ((2000 + 900 * k0 : Nat) : Int) := by rw [← hh1]; dsimp only; rw [x_up_j (by decide), x_up_j (by decide), x_up_j (by decide), x_up_j (by decide), x_up_j (by decide), x_up_eq]
  have c14 : h1.2 95 14 = 0 := by rw [← hh1]; dsimp only; rw [x_up_j (by decide), x_up_j (by decide), x_up_j (by decide), x_up_j (by decide), x_up_eq]
  have c15 : h1.2 95 15 = 0 := by rw [← hh1]; dsimp only; rw [x_up_j (by decide), x_up_j (by decide), x_up_j (by decide), x_up_eq]
  have c16 : h1.2 95 16 = 0 := by rw [← hh1]; dsimp only; rw [x_up_j (by decide), x_up_eq]
  have c19 : h1.2 95 19 = 0 := by rw [← hh1]; dsimp only; rw [x_up_j (by decide), x_up_j (by decide), x_up_eq]
  clear hh1
  have Z1 : rB8 h1 b n := ⟨by rw [o2 5 (by decide) (by decide) (by decide) (by decide) (by decide) (by decide)]; exact Zr.1, Zr.2.1, Zr.2.2.1, fun p hp => by rw [o1 100 (by decide)]; exact Zr.2.2.2 p hp⟩
  refine r_first Z1 c8 (fun h2 f2 S2 => ?_)
  have B2 : rpB b n (2000 + 900 * k0) h2 := ⟨fN_B f2 Z1, by omega, by omega⟩
  have g2 : ∀ j, 13 ≤ j → h2.2 95 j = h1.2 95 j := fun j hj => f2.2.2 j (by omega) (by omega) (by omega) (by omega) (by omega)
  have R2 : rpS0 b n (2000 + 900 * k0) h2 0 [] 0 := ⟨S2, by rw [g2 13 (by decide)]; exact c13, by rw [g2 15 (by decide)]; exact c15, fun j hj => absurd hj (Nat.not_lt_zero j), by rw [g2 19 (by decide)]; exact c19⟩
  have K2 : rpK (2000 + 900 * k0) h2 [] := ⟨by rw [g2 14 (by decide)]; exact c14, by decide, fun c hc => absurd hc (Nat.not_lt_zero c), fun k hk2 => by rw [g2 16 (by decide), c16, tb_0]; exact ⟨fun z => absurd z (by decide), fun z => by obtain ⟨c, hc, -⟩ := z; exact absurd hc (by simp)⟩⟩
  refine k_text (D := D + 26) (h0 := h2) hK hE3 (uE_p hK hN) (uE_k hK hE3 hN) (uS_k hK hE3 hN 0) (uS_p hK hN 0) 22 [] [] 0 (by decide) (rpg_refl h2) B2 R2 K2 (Nat.zero_le _) (Nat.le_refl _) (fun h3 f3 T3 => ?_)
  rw [show pTx (kt b n) (nmt b n) (uE b n E) (uS b n E 0) 22 [] [] 0 = uT b n E from rfl] at T3 ⊢
  rw [x_up_eq]
  have fx : ∀ {h7 : xH}, h7.1 = h3.1 → (∀ q, q ≠ 95 → q ≠ 96 → h7.2 q = h3.2 q) → (∀ a, a ≠ 2000 + 900 * k0 → a ≠ 6 → h7.2 96 a = h3.2 96 a) → rpx (2000 + 900 * k0) h h7 := by
    intro h7 a1 a2 a3
    refine ⟨by rw [a1, f3.1, f2.1, q1], fun q y1 y2 y3 => by rw [a2 q y1 y2, f3.2.1 q y1 y2 y3, f2.2.1 q y1, o1 q y1], fun a y1 y2 => ?_⟩
    rw [a3 a (by omega) y2, f3.2.2.2 a (by omega), f2.2.1 96 (by decide), o1 96 (by decide)]
  have h36 : h3.2 96 6 = (k0 : Int) := by rw [f3.2.2.2 6 (by omega), f2.2.1 96 (by decide), o1 96 (by decide)]; exact h6
  rcases T3 with ⟨z1, R3, K3⟩ | ⟨z1, e3⟩
  · refine ⟨fun y => absurd z1 y, fun _ => zX9_act_38 ?_⟩
    have u6 : x_up (x_up (x_up h3.2 95 6 (uT b n E).1) 95 7 (-1)) 95 5 0 95 6 = (uT b n E).1 := by rw [x_up_j (by decide), x_up_j (by decide), x_up_eq]
    dsimp only
    rw [u6]
    refine ⟨fun _ => zX9_act_55 ?_, fun y => absurd z1 y⟩
    have u13 : x_up (x_up (x_up h3.2 95 6 (uT b n E).1) 95 7 (-1)) 95 5 0 95 13 = ((2000 + 900 * k0 : Nat) : Int) := by rw [x_up_j (by decide), x_up_j (by decide), x_up_j (by decide)]; exact R3.2.1
    have u14 : x_up (x_up (x_up h3.2 95 6 (uT b n E).1) 95 7 (-1)) 95 5 0 95 14 = ((uT b n E).2.2.1.length : Int) := by rw [x_up_j (by decide), x_up_j (by decide), x_up_j (by decide)]; exact K3.1
    have u96 : x_up (x_up (x_up h3.2 95 6 (uT b n E).1) 95 7 (-1)) 95 5 0 96 = h3.2 96 := by rw [x_up_r (by decide), x_up_r (by decide), x_up_r (by decide)]
    dsimp only
    rw [u13, u14, show (((2000 + 900 * k0 : Nat) : Int)).toNat = 2000 + 900 * k0 by omega]
    generalize hh5 : x_up (x_up (x_up (x_up h3.2 95 6 (uT b n E).1) 95 7 (-1)) 95 5 0) 96 (2000 + 900 * k0) ((uT b n E).2.2.1.length : Int) = C5
    have v6 : C5 96 6 = (k0 : Int) := by rw [← hh5, x_up_j (by omega), u96]; exact h36
    rw [v6, x32_id (x := (k0 : Int) + 1) (by omega) (by omega), x_up_eq, x32_id (by omega) (by omega), show (k0 : Int) + 1 - 1 = (k0 : Int) by omega]
    have v96 : ∀ a, a ≠ 2000 + 900 * k0 → C5 96 a = h3.2 96 a := fun a ha => by rw [← hh5, x_up_j ha, u96]
    have v95 : ∀ j, C5 95 j = x_up (x_up (x_up h3.2 95 6 (uT b n E).1) 95 7 (-1)) 95 5 0 95 j := fun j => by rw [← hh5, x_up_r (by decide)]
    have vo : ∀ q, q ≠ 95 → q ≠ 96 → C5 q = h3.2 q := fun q y1 y2 => by rw [← hh5, x_up_r y2, x_up_r y1, x_up_r y1, x_up_r y1]
    have v0 : C5 96 (2000 + 900 * k0) = ((uT b n E).2.2.1.length : Int) := by rw [← hh5, x_up_eq]
    have w96 : ∀ a, a ≠ 2000 + 900 * k0 → a ≠ 6 → x_up C5 96 6 ((k0 : Int) + 1) 96 a = h3.2 96 a := fun a y1 y2 => by rw [x_up_j y2, v96 a y1]
    have hc := K3.2.1
    refine ⟨by omega, h0 z1 _ (fx rfl (fun q y1 y2 => by dsimp only; rw [x_up_r y2, vo q y1 y2]) w96) ?_ ?_ ?_ ?_ ?_ (fun c hc2 => ?_) (fun j hj => ?_)⟩ <;> dsimp only
    · rw [x_up_eq]
    · rw [x_up_r (by decide), v95, x_up_eq]
    · rw [x_up_r (by decide), v95, x_up_j (by decide), x_up_j (by decide), x_up_eq]; exact z1
    · rw [x_up_r (by decide), v95, x_up_j (by decide), x_up_eq]
    · rw [x_up_j (by omega)]; exact v0
    · rw [w96 _ (by omega) (by omega), w96 _ (by omega) (by omega), w96 _ (by omega) (by omega), w96 _ (by omega) (by omega)]
      exact K3.2.2.1 c hc2
    · rw [w96 _ (by omega) (by omega), w96 _ (by omega) (by omega)]
      exact R3.2.2.2.1 j hj
  · refine ⟨fun _ => zX9_act_34 (zX9_act_38 ?_), fun y => absurd y z1⟩
    have u6 : ∀ s0 : Int, x_up (x_up (x_up h3.2 95 6 (uT b n E).1) 95 7 s0) 95 5 0 95 6 = (uT b n E).1 := fun s0 => by rw [x_up_j (by decide), x_up_j (by decide), x_up_eq]
    have u9 : x_up h3.2 95 6 (uT b n E).1 95 9 = (ps b n (uT b n E).2.1 : Int) := by rw [x_up_j (by decide)]; exact e3
    dsimp only
    rw [u9, u6]
    refine ⟨fun y => absurd y z1, fun _ => hf z1 _ (fx rfl (fun q y1 y2 => by dsimp only; rw [x_up_r y1, x_up_r y1, x_up_r y1]) (fun a y1 y2 => by dsimp only; rw [x_up_r (by decide), x_up_r (by decide), x_up_r (by decide)])) ?_ ?_ ?_ ?_⟩ <;> dsimp only
    · rw [x_up_r (by decide), x_up_r (by decide), x_up_r (by decide)]; exact h36
    · rw [x_up_eq]
    · exact u6 _
    · rw [x_up_j (by decide), x_up_eq]
end ACT
