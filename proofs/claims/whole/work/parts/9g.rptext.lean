/-! a clause and a text, read by the reference -/
theorem tx_e1 {t0 m : Nat} (h1 : t0 ≤ 20000) (h2 : m ≤ 100) : x32 ((x32 ((t0 : Int) + 1)) + (x32 (12 * (m : Int)))) = ((t0 + 1 + 12 * m : Nat) : Int) := by
  rw [x32_id (x := (t0 : Int) + 1) (by omega) (by omega), x32_id (x := 12 * (m : Int)) (by omega) (by omega), x32_id (by omega) (by omega)]; omega
theorem tx_e2 {t0 m : Nat} (h1 : t0 ≤ 20000) (h2 : m ≤ 100) : x32 (((t0 + 1 + 12 * m : Nat) : Int) + 1) = ((t0 + 2 + 12 * m : Nat) : Int) := by
  rw [x32_id (by omega) (by omega)]; omega
section RTX
variable {g : xG} {D : Nat} {b : Nat → Int} {n t0 E : Nat} {h : xH} {Q : Int → xH → Prop}
theorem k_Cl {A C : Nat → Rs} {cl : List Cl} {i : Nat} {w : List (Int × Int)} (hK : kt b n E = 36) (hE3 : E ≤ 300) (kEs : ∀ i, i ≤ E → kE g b n t0 i (A i)) (kSs : ∀ i, i ≤ E → kS g b n t0 0 i (C i)) (pC : ∀ i, i ≤ E → rsL E 0 (-1) i (C i)) (Bb : rpB b n t0 h) (Rr : rpS0 b n t0 h i w 0) (Kk : rpK t0 h cl) (hi : i ≤ E) (hw : w.length ≤ i) (hQ : ∀ h1, rpg t0 h h1 → rpT b n t0 h1 (pCl (kt b n) (nmt b n) A C cl w i) → Q (pCl (kt b n) (nmt b n) A C cl w i).1 h1) : zSi g (D + 8) mX9_clause [xr 95] h Q := by
  have b2 := Bb.2.1
  have b3 := Bb.2.2
  have kr := kd_r b n (ps b n i)
  unfold pCl at hQ
  refine eX9_clause (zX9_clause_0 (r_sortOf Rr.1 (fun k0 => ⟨fun _ => zX9_clause_11 ?_, fun z => by omega⟩) (fun k0 => ⟨fun z => absurd rfl z, fun _ => ?_⟩)))
  rotate_left
  · rw [if_pos (by omega)] at hQ
    exact hQ h (rpg_refl h) (Or.inr ⟨show (1 : Int) ≠ 0 by decide, Rr.1.2.1⟩)
  rw [if_neg (by omega)] at hQ
  obtain ⟨k, hk⟩ : ∃ k : Nat, kt b n i = (k : Int) := ⟨(kt b n i).toNat, by omega⟩
  have l1 := Kk.2.2.2 k (by omega)
  have es : kt b n i + 1 = ((k + 1 : Nat) : Int) := by omega
  have e0 := lt_E (K := kt b n) hK hi hk (by omega)
  have k30 : ¬ (3 ≤ kt b n i ∧ ∃ c ∈ cl, c.1 = kt b n i) → ∀ {w2 w3 : xV}, zJ g (D + 8) 182 0 0 30 [xr 95, xi (kt b n i + 1), w2, w3] [] h (x_qi Q) := by
    intro k1 w2 w3
    rw [if_neg k1] at hQ
    refine zX9_clause_30 ⟨fun q => zX9_clause_41 ?_, fun q => ?_⟩
    rotate_left
    · have : 20 ≤ cl.length := by have := Kk.1; omega
      rw [if_pos this] at hQ
      exact hQ h (rpg_refl h) (Or.inr ⟨show (5 : Int) ≠ 0 by decide, Rr.1.2.1⟩)
    have hc : cl.length < 20 := by
      have := Kk.1
      have := Kk.2.1
      omega
    rw [if_neg (by omega)] at hQ
    generalize hcm : x_or (h.2 95 16) (x_shl 1 (kt b n i + 1)) = cm
    have u13 : x_up h.2 95 16 cm 95 13 = (t0 : Int) := by rw [x_up_j (by decide)]; exact Rr.2.1
    have u14 : x_up h.2 95 16 cm 95 14 = (cl.length : Int) := by rw [x_up_j (by decide)]; exact Kk.1
    rw [u13, u14, tx_e1 (by omega) (by omega), tx_e2 (by omega) (by omega), show (((t0 + 1 + 12 * cl.length : Nat) : Int)).toNat = t0 + 1 + 12 * cl.length by omega]
    have u96 : ∀ a, a ≠ t0 + 1 + 12 * cl.length → x_up (x_up h.2 95 16 cm) 96 (t0 + 1 + 12 * cl.length) (kt b n i + 1) 96 a = h.2 96 a := fun a ha => by rw [x_up_j ha, x_up_r (by decide)]
    have f1 : rpg t0 h (h.1, x_up (x_up h.2 95 16 cm) 96 (t0 + 1 + 12 * cl.length) (kt b n i + 1)) := rpg_trans (rpg_95 (j := 16) (v := cm) (by omega)) (rpg_96 (h := (h.1, x_up h.2 95 16 cm)) (by omega))
    have R1 : rpS0 b n t0 (h.1, x_up (x_up h.2 95 16 cm) 96 (t0 + 1 + 12 * cl.length) (kt b n i + 1)) i w 0 := rpS0_96 (rpS0_95 (j := 16) (v := cm) (Or.inr rfl) Rr) (by omega)
    have B1 := rpB_g Bb f1
    have O1 : rpO t0 (h.1, x_up (x_up h.2 95 16 cm) 96 (t0 + 1 + 12 * cl.length) (kt b n i + 1)) cl (kt b n i) := by
      refine ⟨?_, hc, fun c hc2 => ?_, fun j hj => ?_, ?_⟩ <;> dsimp only
      · rw [x_up_r (by decide)]; exact u14
      · rw [u96 _ (by omega), u96 _ (by omega), u96 _ (by omega), u96 _ (by omega)]; exact Kk.2.2.1 c hc2
      · rw [x_up_r (by decide), x_up_eq, ← hcm, es, tb_put (by omega) (by omega), Bool.or_eq_true, decide_eq_true_eq]
        have := Kk.2.2.2 j hj
        constructor
        · intro y
          rcases y with y | y
          · exact Or.inl (this.mp y)
          · right; omega
        · intro y
          rcases y with y | y
          · exact Or.inl (this.mpr y)
          · right; omega
      · rw [x_up_eq]
    refine ⟨by omega, r_nextZ B1 R1 (fun h2 f2 R2 => ⟨fun z => zX9_clause_97 ⟨fun _ => ?_, fun y => absurd rfl y⟩, fun z => ?_⟩)⟩
    · have f02 := rpg_trans f1 (rpg_f f2)
      have B2 := rpB_g Bb f02
      have O2 := rpO_f f2 O1
      by_cases k5 : kt b n i ≤ 5
      · have te : pTl (kt b n) (nmt b n) (kt b n i) (i + 1) = (0, i + 1, 0) := by unfold pTl; rw [if_neg (by omega)]
        rw [te] at hQ
        rw [if_neg (fun y => y rfl)] at hQ
        dsimp only at hQ
        refine k_103a (v := 0) hE3 (show i + 1 ≤ E by omega) (by omega) (by omega) (kEs _ (by omega)) (kSs _ (by omega)) (pC _ (by omega)) B2 R2 O2 (fun y => by omega) (fun z1 z2 h3 f3 R3 K3 => ?_) (fun z1 z2 h3 f3 e3 => ?_) (fun z1 h3 f3 e3 => ?_)
        · rw [if_neg (fun y => y z1), if_neg (fun y => y z2)] at hQ
          refine hQ h3 (rpg_trans f02 f3) (Or.inl ⟨rfl, R3, ?_⟩)
          rw [List.length_append] at K3
          exact K3
        · rw [if_neg (fun y => y z1), if_pos z2] at hQ
          exact hQ h3 (rpg_trans f02 f3) (Or.inr ⟨show (1 : Int) ≠ 0 by decide, e3⟩)
        · rw [if_pos z1] at hQ
          exact hQ h3 (rpg_trans f02 f3) (Or.inr ⟨z1, e3⟩)
      · have pb : ∀ j, pBd A C (kt b n i) j = (0, j, []) := fun j => by unfold pBd; rw [if_neg (by omega), if_neg k5]
        refine k_103b (by omega) B2 R2 O2 (fun z1 z2 h3 f3 R3 K3 => ?_) (fun z1 z2 h3 f3 e3 => ?_) (fun z1 h3 f3 e3 => ?_)
        · rw [if_neg (fun y => y z1), pb, if_neg (fun y => y rfl), if_neg (fun y => y z2)] at hQ
          refine hQ h3 (rpg_trans f02 f3) (Or.inl ⟨rfl, ?_, ?_⟩)
          · dsimp only; rw [List.append_nil]; exact R3
          · exact K3
        · rw [if_neg (fun y => y z1), pb, if_neg (fun y => y rfl), if_pos z2] at hQ
          exact hQ h3 (rpg_trans f02 f3) (Or.inr ⟨show (1 : Int) ≠ 0 by decide, e3⟩)
        · rw [if_pos z1] at hQ
          exact hQ h3 (rpg_trans f02 f3) (Or.inr ⟨z1, e3⟩)
    · have k0 : kt b n i = 0 := by omega
      have f02 := rpg_trans f1 (rpg_f f2)
      have B2 := rpB_g Bb f02
      have O2 := rpO_f f2 O1
      have te : pTl (kt b n) (nmt b n) (kt b n i) (i + 1) = if kt b n (i + 1) ≠ 35 then (1, i + 1, 0) else if nmt b n (i + 1) < 0 ∨ 9 < nmt b n (i + 1) then (2, i + 1, 0) else (0, i + 1 + 1, nmt b n (i + 1)) := by
        unfold pTl
        rw [if_pos (Or.inl k0), k0]
        rfl
      refine r_take (by decide) B2 R2 (by omega) (fun k1 => ?_) (fun k1 k2 => ?_) (fun k1 k2 h3 f3 R3 => ?_)
      · rw [if_pos k1] at te
        rw [te] at hQ
        rw [if_pos (show (1 : Int) ≠ 0 by decide)] at hQ
        exact zX9_clause_97 ⟨fun y => absurd y (by decide), fun _ => hQ h2 f02 (Or.inr ⟨show (1 : Int) ≠ 0 by decide, R2.1.2.1⟩)⟩
      · rw [if_neg (fun y => y k1), if_pos k2] at te
        rw [te, if_pos (show (2 : Int) ≠ 0 by decide)] at hQ
        exact zX9_clause_97 ⟨fun y => absurd y (by decide), fun _ => hQ h2 f02 (Or.inr ⟨show (2 : Int) ≠ 0 by decide, R2.1.2.1⟩)⟩
      · rw [if_neg (fun y => y k1), if_neg k2] at te
        rw [te] at hQ
        rw [if_neg (fun y => y rfl)] at hQ
        dsimp only at hQ
        have e3 := lt_E (K := kt b n) hK (show i + 1 ≤ E by omega) k1 (by decide)
        have f3' : rpg t0 h2 (h2.1, x_up h2.2 96 (t0 + 2 + 12 * cl.length) (nmt b n (i + 1))) := rpg_96 (by omega)
        have f03 := rpg_trans (rpg_trans f02 f3') (rpg_f f3)
        have B3 := rpB_g Bb f03
        have O3 : rpO t0 h3 cl (kt b n i) := rpO_f f3 (rpO_96 O2 (Nat.le_refl _))
        refine zX9_clause_97 ⟨fun _ => ?_, fun y => absurd rfl y⟩
        refine k_103a (v := nmt b n (i + 1)) hE3 (show i + 1 + 1 ≤ E by omega) (by omega) (by omega) (kEs _ (by omega)) (kSs _ (by omega)) (pC _ (by omega)) B3 R3 O3 (fun y => ?_) (fun z1 z2 h4 f4 R4 K4 => ?_) (fun z1 z2 h4 f4 e4 => ?_) (fun z1 h4 f4 e4 => ?_)
        · rw [f3.2.2.2 _ (by omega)]; dsimp only; rw [x_up_eq]
        · rw [if_neg (fun y => y z1), if_neg (fun y => y z2)] at hQ
          refine hQ h4 (rpg_trans f03 f4) (Or.inl ⟨rfl, R4, ?_⟩)
          rw [List.length_append] at K4
          exact K4
        · rw [if_neg (fun y => y z1), if_pos z2] at hQ
          exact hQ h4 (rpg_trans f03 f4) (Or.inr ⟨show (1 : Int) ≠ 0 by decide, e4⟩)
        · rw [if_pos z1] at hQ
          exact hQ h4 (rpg_trans f03 f4) (Or.inr ⟨z1, e4⟩)
  refine ⟨fun z3 => k30 (by omega), fun z3 => ⟨fun q => k30 (fun y => q ?_), fun q => ?_⟩⟩
  · rw [es]
    refine (tb_shr (by omega)).1.mpr (l1.mpr ?_)
    rw [← hk]; exact y.2
  · rw [es] at q
    have := l1.mp ((tb_shr (by omega)).1.mp q)
    rw [← hk] at this
    rw [if_pos ⟨by omega, this⟩] at hQ
    exact hQ h (rpg_refl h) (Or.inr ⟨show (4 : Int) ≠ 0 by decide, Rr.1.2.1⟩)
theorem k_text {A C : Nat → Rs} {h0 : xH} (hK : kt b n E = 36) (hE3 : E ≤ 300) (hA : ∀ i, i ≤ E → rsE E false i (A i)) (kEs : ∀ i, i ≤ E → kE g b n t0 i (A i)) (kSs : ∀ i, i ≤ E → kS g b n t0 0 i (C i)) (pC : ∀ i, i ≤ E → rsL E 0 (-1) i (C i)) : ∀ (m : Nat) (cl : List Cl) (w : List (Int × Int)) (i : Nat) {h : xH} {w1 : xV}, 21 ≤ cl.length + m → rpg t0 h0 h → rpB b n t0 h → rpS0 b n t0 h i w 0 → rpK t0 h cl → i ≤ E → w.length ≤ i → (∀ h1, rpg t0 h0 h1 → rpT b n t0 h1 (pTx (kt b n) (nmt b n) A C m cl w i) → Q (pTx (kt b n) (nmt b n) A C m cl w i).1 h1) → zJ g (D + 9) 183 0 0 48 [xr 95, w1] [] h (x_qi Q)
  | 0, cl, w, i, h, w1, e, f, Bb, Rr, Kk, hi, hw, hQ => by have := Kk.2.1; omega
  | m + 1, cl, w, i, h, w1, e, f, Bb, Rr, Kk, hi, hw, hQ => by
    have t0' := (tk_i (b := b) (n := n) (q := ps b n i)).1
    rw [← Rr.1.2.2.1] at t0'
    unfold pTx at hQ
    refine zX9_readText_48 ⟨fun z => zX9_readText_69 ?_, fun z => ?_⟩
    · rw [if_pos (show kt b n i = 36 from t0'.mp z)] at hQ
      exact hQ h f (Or.inl ⟨rfl, Rr, Kk⟩)
    · have k36 : ¬ kt b n i = 36 := fun y => z (t0'.mpr y)
      rw [if_neg k36] at hQ
      have pc := p_Cl (K := kt b n) (N := nmt b n) (A := A) (B := C) (cl := cl) (w := w) hK hi hA pC hw
      refine k_Cl hK hE3 kEs kSs pC Bb Rr Kk hi hw (fun h1 f1 T1 => ?_)
      have f01 := rpg_trans f f1
      generalize pCl (kt b n) (nmt b n) A C cl w i = x at pc T1 hQ
      rcases T1 with ⟨z1, R1, K1⟩ | ⟨z1, e1⟩
      · rw [if_neg (fun y => y z1)] at hQ
        obtain ⟨q1, q2, v, sg, q3, q4, q5, q6⟩ := pc.2 z1
        have el : x.2.2.1.length = cl.length + 1 := by rw [q3, List.length_append]; rfl
        refine ⟨fun _ => zX9_readText_66 ?_, fun y => absurd z1 y⟩
        exact k_text hK hE3 hA kEs kSs pC m x.2.2.1 x.2.2.2 x.2.1 (by omega) f01 (rpB_g Bb f1) R1 K1 q1 (by rw [q4]; exact q6) hQ
      · rw [if_pos z1] at hQ
        exact ⟨fun y => absurd y z1, fun _ => hQ h1 f01 (Or.inr ⟨z1, e1⟩)⟩
end RTX
