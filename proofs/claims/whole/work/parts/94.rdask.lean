/-! conditions: the pure reader's answers, and the class's -/
def rsA (E i : Nat) (x : Rs) : Prop := rsF E i x ∧ (x.1 = 0 → i < x.2.1 ∧ x.2.1 ≤ E ∧ x.2.2.length + i ≤ x.2.1 ∧ okS x.2.2 ∧ ∀ t, t ≤ 20 → dl x.2.2 (t, 0) = some (t + 1, 0))
def rsN (E i : Nat) (x : Rs) : Prop := rsF E i x ∧ (x.1 = 0 → i ≤ x.2.1 ∧ x.2.1 ≤ E ∧ x.2.2.length + i ≤ x.2.1 ∧ okS x.2.2 ∧ ∀ t, t ≤ 19 → dl x.2.2 (t + 1, 0) = some (t + 1, 0))
def rsE (E : Nat) (e : Bool) (i : Nat) (x : Rs) : Prop := rsF E i x ∧ (x.1 = 0 → i < x.2.1 ∧ x.2.1 ≤ E ∧ (x.2.2.length + i ≤ x.2.1 + if e = true then 1 else 0) ∧ okS x.2.2 ∧ ∀ t, t ≤ 10 → dl x.2.2 (if e = true then t + 1 else t, 0) = some (t + 1, 0))
theorem cm_r {k : Int} (h : k = 21 ∨ k = 22 ∨ k = 23 ∨ k = 24 ∨ k = 33 ∨ k = 34) : 10 ≤ (cmc k).1 ∧ (cmc k).1 ≤ 15 ∧ 10000 + k = cwp (cmc k) := by
  rcases h with z | z | z | z | z | z <;> subst z <;> decide
section RDA
variable {g : xG} {b : Nat → Int} {n E r : Nat}
theorem p_Ask {K : Nat → Int} {S : Nat → Nat → Rs} (hK : K E = 36) (hS : ∀ o i, i ≤ E → rsL E o (-1) i (S o i)) : ∀ (m o i : Nat), i ≤ E → E < i + m → rsA E i (pAsk K S m o i)
  | 0, o, i, h1, h2 => by omega
  | m + 1, o, i, h1, h2 => by
    unfold pAsk
    by_cases k1 : K i = 18
    · rw [if_pos k1]
      have e0 := lt_E hK h1 k1 (by decide)
      by_cases k2 : 8 ≤ o
      · rw [if_pos k2]; exact ⟨rsF_1 (Nat.le_refl _) h1 (by decide), fun z => absurd z (show (3 : Int) ≠ 0 by decide)⟩
      rw [if_neg k2]
      have h3 := p_Ask hK hS m (o + 1) (i + 1) (by omega) (by omega)
      generalize pAsk K S m (o + 1) (i + 1) = x at h3
      by_cases z1 : x.1 = 0
      · rw [bnd_0 z1]
        obtain ⟨a1, a2, a3, a4, a5⟩ := h3.2 z1
        exact ⟨rsF_0, fun _ => ⟨by dsimp only; omega, a2, by dsimp only; rw [List.length_append]; show _ + 1 + _ ≤ _; omega, okS_app a4 (okS_1 (Or.inr (Or.inr (Or.inr (Or.inr (by decide)))))), fun t ht => dl_ap (a5 t ht) (dl_1 (dS_not (by omega)))⟩⟩
      · rw [bnd_f z1]; exact ⟨rsF_up h3.1 (by omega), fun z => absurd z z1⟩
    · rw [if_neg k1]
      have h3 := hS o i h1
      generalize S o i = x at h3
      by_cases z1 : x.1 = 0
      · rw [bnd_0 z1]
        obtain ⟨a1, a2, a3, a4, a5⟩ := h3.2 z1
        rw [if_pos rfl] at a3
        by_cases k2 : K x.2.1 = 21 ∨ K x.2.1 = 22 ∨ K x.2.1 = 23 ∨ K x.2.1 = 24 ∨ K x.2.1 = 33 ∨ K x.2.1 = 34
        · rw [if_pos k2]
          have e0 := lt_E hK a2 (rfl : K x.2.1 = K x.2.1) (by omega)
          have h4 := hS o (x.2.1 + 1) (by omega)
          generalize S o (x.2.1 + 1) = y at h4
          by_cases z2 : y.1 = 0
          · rw [bnd_0 z2]
            obtain ⟨b1, b2, b3, b4, b5⟩ := h4.2 z2
            rw [if_pos rfl] at b3
            have cr := cm_r k2
            refine ⟨rsF_0, fun _ => ⟨by dsimp only; omega, b2, by dsimp only; rw [List.length_append, List.length_append]; show _ + _ + 1 + _ ≤ _; omega, okS_app (okS_app a4 b4) (okS_1 (Or.inr (Or.inr (Or.inr (Or.inl ⟨cr.1, cr.2.1⟩))))), fun t ht => ?_⟩⟩
            have q1 := a5 t 0 (by omega)
            have q2 := b5 t 1 (by omega)
            rw [if_pos rfl] at q1 q2
            exact dl_ap (dl_ap q1 q2) (dl_1 (dS_cmp ⟨cr.1, by omega⟩))
          · rw [bnd_f z2]; exact ⟨rsF_up h4.1 (by omega), fun z => absurd z z2⟩
        · rw [if_neg k2]; exact ⟨rsF_1 (by omega) a2 (by decide), fun z => absurd z (show (1 : Int) ≠ 0 by decide)⟩
      · rw [bnd_f z1]; exact ⟨h3.1, fun z => absurd z z1⟩
theorem p_And {K : Nat → Int} {A : Nat → Rs} (hK : K E = 36) (hA : ∀ i, i ≤ E → rsA E i (A i)) : ∀ (m i : Nat), i ≤ E → E < i + m → rsN E i (pAnd K A m i)
  | 0, i, h1, h2 => by omega
  | m + 1, i, h1, h2 => by
    unfold pAnd
    by_cases k1 : K i = 16
    · rw [if_pos k1]
      have e0 := lt_E hK h1 k1 (by decide)
      have h3 := hA (i + 1) (by omega)
      generalize A (i + 1) = x at h3
      by_cases z1 : x.1 = 0
      · rw [bnd_0 z1]
        obtain ⟨a1, a2, a3, a4, a5⟩ := h3.2 z1
        have h4 := p_And hK hA m x.2.1 a2 (by omega)
        generalize pAnd K A m x.2.1 = y at h4
        by_cases z2 : y.1 = 0
        · rw [bnd_0 z2]
          obtain ⟨b1, b2, b3, b4, b5⟩ := h4.2 z2
          exact ⟨rsF_0, fun _ => ⟨by dsimp only; omega, b2, by dsimp only; rw [List.length_append, List.length_append]; show _ + 1 + _ + _ ≤ _; omega, okS_app (okS_app a4 (okS_1 (Or.inr (Or.inr (Or.inr (Or.inr (by decide))))))) b4, fun t ht => dl_ap (dl_ap (a5 (t + 1) (by omega)) (dl_1 (dS_log (Or.inl rfl)))) (b5 t ht)⟩⟩
        · rw [bnd_f z2]; exact ⟨rsF_up h4.1 (by omega), fun z => absurd z z2⟩
      · rw [bnd_f z1]; exact ⟨rsF_up h3.1 (by omega), fun z => absurd z z1⟩
    · rw [if_neg k1]; exact ⟨rsF_0, fun _ => ⟨Nat.le_refl _, h1, by show 0 + i ≤ i; omega, okS_0, fun t _ => rfl⟩⟩
theorem p_Eit {K : Nat → Int} {A B : Nat → Rs} (hK : K E = 36) (hA : ∀ i, i ≤ E → rsA E i (A i)) (hB : ∀ i, i ≤ E → rsN E i (B i)) : ∀ (m : Nat) (e : Bool) (i : Nat), i ≤ E → E < i + m → rsE E e i (pEit K A B m e i)
  | 0, e, i, h1, h2 => by omega
  | m + 1, e, i, h1, h2 => by
    unfold pEit
    have h3 := hA i h1
    generalize A i = x at h3
    by_cases z1 : x.1 = 0
    · rw [bnd_0 z1]
      obtain ⟨a1, a2, a3, a4, a5⟩ := h3.2 z1
      have h4 := hB x.2.1 a2
      generalize B x.2.1 = y at h4
      by_cases z2 : y.1 = 0
      · rw [bnd_0 z2]
        obtain ⟨b1, b2, b3, b4, b5⟩ := h4.2 z2
        have jl : (orp e).length = if e = true then 1 else 0 := by cases e <;> rfl
        have jk : okS (orp e) := by
          cases e
          · exact okS_0
          · exact okS_1 (Or.inr (Or.inr (Or.inr (Or.inr (by decide)))))
        have jd : ∀ t, t ≤ 10 → dl (x.2.2 ++ y.2.2 ++ orp e) (if e = true then t + 1 else t, 0) = some (t + 1, 0) := by
          intro t ht
          cases e
          · show dl (x.2.2 ++ y.2.2 ++ []) (t, 0) = _
            rw [List.append_nil]
            exact dl_ap (a5 t (by omega)) (b5 t (by omega))
          · show dl (x.2.2 ++ y.2.2 ++ [(22, 0)]) (t + 1, 0) = _
            exact dl_ap (dl_ap (a5 (t + 1) (by omega)) (b5 (t + 1) (by omega))) (dl_1 (dS_log (Or.inr rfl)))
        by_cases k1 : K y.2.1 = 17
        · rw [if_pos k1]
          have e0 := lt_E hK b2 k1 (by decide)
          have h5 := p_Eit hK hA hB m true (y.2.1 + 1) (by omega) (by omega)
          generalize pEit K A B m true (y.2.1 + 1) = u at h5
          by_cases z3 : u.1 = 0
          · rw [bnd_0 z3]
            obtain ⟨c1, c2, c3, c4, c5⟩ := h5.2 z3
            rw [if_pos rfl] at c3
            refine ⟨rsF_0, fun _ => ⟨by dsimp only; omega, c2, by dsimp only; rw [List.length_append, List.length_append, List.length_append, jl]; omega, okS_app (okS_app (okS_app a4 b4) jk) c4, fun t ht => ?_⟩⟩
            have c6 := c5 t ht
            rw [if_pos rfl] at c6
            exact dl_ap (jd t ht) c6
          · rw [bnd_f z3]; exact ⟨rsF_up h5.1 (by omega), fun z => absurd z z3⟩
        · rw [if_neg k1]
          exact ⟨rsF_0, fun _ => ⟨by dsimp only; omega, b2, by dsimp only; rw [List.length_append, List.length_append, jl]; omega, okS_app (okS_app a4 b4) jk, jd⟩⟩
      · rw [bnd_f z2]; exact ⟨rsF_up h4.1 (by omega), fun z => absurd z z2⟩
    · rw [bnd_f z1]; exact ⟨h3.1, fun z => absurd z z1⟩
def jA (g : xG) (b : Nat → Int) (n E r o i : Nat) (x : Rs) : Prop := ∀ (D : Nat) (h : xH) (w : List (Int × Int)) (Q : xH → Prop), 29 ≤ D + 3 * o → rdC b n E r h → rdW E r h i w → (∀ h1, rdf r h h1 → rdR b n E r h1 x.1 x.2.1 (w ++ x.2.2) → Q h1) → zSv g D mX4_readAsk [xr 74, xi (o : Int)] h Q
theorem c_Ask {S : Nat → Nat → Rs} (hK : kt b n E = 36) (hS : ∀ o i, i ≤ E → rsL E o (-1) i (S o i)) (jSs : ∀ o i, o ≤ 8 → i ≤ E → jS g b n E r o i (S o i)) : ∀ (m o i : Nat), o ≤ 8 → i ≤ E → E < i + m → jA g b n E r o i (pAsk (kt b n) S m o i)
  | 0, o, i, ho, h1, h2 => by omega
  | m + 1, o, i, ho, h1, h2 => by
    intro D h w Q hD C W hQ
    obtain ⟨D, rfl⟩ : ∃ D', D = D' + 1 + 1 := ⟨D - 2, by omega⟩
    unfold pAsk at hQ
    have hw := W.2.2.2.2.1
    refine eX4_readAsk (zX4_readAsk_0 (s_token C W.1 h1 ⟨fun k1 => zX4_readAsk_39 ?_, fun k1 => ⟨fun k2 => zX4_readAsk_21 ?_, fun k2 => ?_⟩⟩))
    · rw [if_neg k1] at hQ
      have p1 := hS o i h1
      have j1 := jSs o i ho h1
      generalize S o i = x at j1 p1 hQ
      refine j1 (D + 1) h w _ (by omega) C W (fun h1 f1 R1 => ?_)
      have C1 := rdC_f C f1
      rcases R1 with ⟨z1, W1⟩ | ⟨z1, F1⟩
      · rw [bnd_0 z1] at hQ
        obtain ⟨a1, a2, a3, -, -⟩ := p1.2 z1
        rw [if_pos rfl] at a3
        have lw : (w ++ x.2.2).length = w.length + x.2.2.length := List.length_append
        have yes : kt b n x.2.1 = 21 ∨ kt b n x.2.1 = 22 ∨ kt b n x.2.1 = 23 ∨ kt b n x.2.1 = 24 ∨ kt b n x.2.1 = 33 ∨ kt b n x.2.1 = 34 → zJ g (D + 1 + 1) 49 0 0 78 [xr 74, xi (o : Int), xi (kt b n x.2.1)] [] h1 (x_qv Q) := by
          intro k2
          rw [if_pos k2] at hQ
          have e0 := lt_E (K := kt b n) hK a2 (rfl : kt b n x.2.1 = kt b n x.2.1) (by omega)
          refine zX4_readAsk_78 (s_pass C1 W1 (by omega) (fun h2 f2 W2 => ?_))
          have p2 := hS o (x.2.1 + 1) (by omega)
          have j2 := jSs o (x.2.1 + 1) ho (by omega)
          generalize S o (x.2.1 + 1) = y at j2 p2 hQ
          have C2 := rdC_f C1 f2
          refine j2 (D + 1) h2 (w ++ x.2.2) _ (by omega) C2 W2 (fun h3 f3 R3 => ?_)
          have C3 := rdC_f C2 f3
          have f03 := rdf_trans (rdf_trans f1 f2) f3
          rcases R3 with ⟨z2, W3⟩ | ⟨z2, F3⟩
          · rw [bnd_0 z2] at hQ
            obtain ⟨b1, b2, b3, -, -⟩ := p2.2 z2
            rw [if_pos rfl] at b3
            have ly : (w ++ x.2.2 ++ y.2.2).length = w.length + x.2.2.length + y.2.2.length := by rw [List.length_append, lw]
            refine s_emit C3 W3 (by omega) (cm_r k2).2.2 (by omega) (fun h4 f4 W4 => hQ h4 (rdf_trans f03 f4) (rdR_0 ?_))
            dsimp only
            rw [show w ++ (x.2.2 ++ y.2.2 ++ [cmc (kt b n x.2.1)]) = w ++ x.2.2 ++ y.2.2 ++ [cmc (kt b n x.2.1)] by simp [List.append_assoc]]
            exact W4
          · rw [bnd_f z2] at hQ
            exact s_emitF C3 F3 (fun h4 f4 F4 => hQ h4 (rdf_trans f03 f4) (rdR_f F4))
        refine s_token C1 W1.1 W1.2.2.2.1 (s_win (fun v hv => ⟨fun q => yes (by omega), fun q => ⟨fun q2 => yes (by omega), fun q2 => ⟨fun q3 => yes (by omega), fun q3 => ?_⟩⟩⟩))
        rw [if_neg (by omega)] at hQ
        exact s_fail C1 W1 (by decide) (fun h2 f2 F2 => hQ h2 (rdf_trans f1 f2) (rdR_f F2))
      · rw [bnd_f z1] at hQ
        have no : ∀ {a2 : Int}, zJ g (D + 1 + 1) 49 0 0 78 [xr 74, xi (o : Int), xi a2] [] h1 (x_qv Q) := fun {a2} => zX4_readAsk_78 (s_passF (rdF_n F1) (s_sumF (rdF_n F1) (s_emitF C1 F1 (fun h2 f2 F2 => hQ h2 (rdf_trans f1 f2) (rdR_f F2)))))
        exact s_token C1 F1.1 F1.2.2.2.2 (s_win (fun v hv => ⟨fun q => no, fun q => ⟨fun q2 => no, fun q2 => ⟨fun q3 => no, fun q3 => s_failF (rdF_n F1) (hQ h1 f1 (rdR_f F1))⟩⟩⟩))
    · rw [if_pos k1, if_neg (by omega)] at hQ
      have e0 := lt_E (K := kt b n) hK h1 k1 (by decide)
      refine s_pass C W (by rw [k1]; decide) (fun h1 f1 W1 => ?_)
      rw [x32_id (by omega) (by omega), show (o : Int) + 1 = ((o + 1 : Nat) : Int) by omega]
      have p1 := p_Ask hK hS m (o + 1) (i + 1) (by omega) (by omega)
      have j1 := c_Ask hK hS jSs m (o + 1) (i + 1) (by omega) (by omega) (by omega)
      generalize pAsk (kt b n) S m (o + 1) (i + 1) = x at j1 p1 hQ
      have C1 := rdC_f C f1
      refine j1 (D + 1) h1 w _ (by omega) C1 W1 (fun h2 f2 R2 => ?_)
      have C2 := rdC_f C1 f2
      have f02 := rdf_trans f1 f2
      rcases R2 with ⟨z1, W2⟩ | ⟨z1, F2⟩
      · rw [bnd_0 z1] at hQ
        obtain ⟨a1, a2, a3, -, -⟩ := p1.2 z1
        have lw : (w ++ x.2.2).length = w.length + x.2.2.length := List.length_append
        refine s_emit C2 W2 (by decide) (x := (20, 0)) (by decide) (by omega) (fun h3 f3 W3 => hQ h3 (rdf_trans f02 f3) (rdR_0 ?_))
        dsimp only
        rw [← List.append_assoc]; exact W3
      · rw [bnd_f z1] at hQ
        exact s_emitF C2 F2 (fun h3 f3 F3 => hQ h3 (rdf_trans f02 f3) (rdR_f F3))
    · rw [if_pos k1, if_pos (by omega)] at hQ
      exact s_fail C W (by decide) (fun h1 f1 F1 => hQ h1 f1 (rdR_f F1))
def jN (g : xG) (b : Nat → Int) (n E r i : Nat) (x : Rs) : Prop := ∀ (D : Nat) (h : xH) (w : List (Int × Int)) (Q : xH → Prop) (a2 : Int) (q : Nat) (w1 : xV), 30 ≤ D → rdC b n E r h → rdW E r h i w → 2 * q ≤ i → (∀ h1, rdf r h h1 → rdR b n E r h1 x.1 x.2.1 (w ++ x.2.2) → zJ g D 48 0 0 73 [xr 74, xu, xi a2, xu] [] h1 (x_qv Q)) → zJ g D 48 0 0 29 [xr 74, w1, xi a2, xi (q : Int)] [] h (x_qv Q)
theorem f_29 {D : Nat} {a2 a3 f : Int} {i : Nat} {w1 : xV} {h : xH} {Q : xH → Prop} (C : rdC b n E r h) (F : rdF b n E h f i) (kk : zJ g (D + 1) 48 0 0 73 [xr 74, xu, xi a2, xu] [] h (x_qv Q)) : zJ g (D + 1) 48 0 0 29 [xr 74, w1, xi a2, xi a3] [] h (x_qv Q) := by
  have k2 : ∀ {w1 w3 : xV}, zJ g (D + 1) 48 0 0 73 [xr 74, w1, xi a2, w3] [] h (x_qv Q) := fun {w1 w3} => zj_mask [true, false, true, false] kk
  exact zX4_readEither_29 ⟨fun _ => k2, fun _ => s_token C F.1 F.2.2.2.2 ⟨fun _ => k2, fun _ => ⟨fun _ => k2, fun z => absurd z (rdF_n F)⟩⟩⟩
theorem f_73 {D : Nat} {f : Int} {p i : Nat} {w1 w3 : xV} {h : xH} {Q : xH → Prop} (hp : p ≤ 300) (C : rdC b n E r h) (F : rdF b n E h f i) (hQ : ∀ h1, rdf r h h1 → rdF b n E h1 f i → Q h1) : zJ g (D + 2) 48 0 0 73 [xr 74, w1, xi (p : Int), w3] [] h (x_qv Q) := by
  have k4 : ∀ {h1 : xH} {a1 p2 : Int} {w3 : xV}, rdf r h h1 → rdF b n E h1 f i → zJ g (D + 2) 48 0 0 4 [xr 74, xi a1, xi p2, w3] [] h1 (x_qv Q) := fun f1 F1 => zX4_readEither_4 ⟨fun _ => zX4_readEither_112 (hQ _ f1 F1), fun _ => ⟨fun _ => zX4_readEither_112 (hQ _ f1 F1), fun _ => ⟨fun _ => zX4_readEither_112 (hQ _ f1 F1), fun z => absurd z (rdF_n F1)⟩⟩⟩
  have k97 : ∀ {h1 : xH} {s0 : Int} {w1 w3 : xV}, rdf r h h1 → rdF b n E h1 f i → zJ g (D + 2) 48 0 0 97 [xr 74, w1, xi (p : Int), w3] [xi s0] h1 (x_qv Q) := fun f1 F1 => zX4_readEither_97 ⟨fun _ => zX4_readEither_106 (k4 f1 F1), fun _ => s_passF (rdF_n F1) (k4 f1 F1)⟩
  have k83 : ∀ {h1 : xH} {w1 w3 : xV}, rdf r h h1 → rdF b n E h1 f i → zJ g (D + 2) 48 0 0 83 [xr 74, w1, xi (p : Int), w3] [] h1 (x_qv Q) := fun f1 F1 => zX4_readEither_83 (s_token (rdC_f C f1) F1.1 F1.2.2.2.2 ⟨fun _ => zX4_readEither_96 (k97 f1 F1), fun _ => k97 f1 F1⟩)
  exact zX4_readEither_73 ⟨fun _ => k83 (rdf_refl h) F, fun _ => s_emitF C F (fun h1 f1 F1 => k83 f1 F1)⟩
theorem c_And {A : Nat → Rs} (hK : kt b n E = 36) (hA : ∀ i, i ≤ E → rsA E i (A i)) (jAs : ∀ i, i ≤ E → jA g b n E r 0 i (A i)) : ∀ (m i : Nat), i ≤ E → E < i + m → jN g b n E r i (pAnd (kt b n) A m i)
  | 0, i, h1, h2 => by omega
  | m + 1, i, h1, h2 => by
    intro D h w Q a2 q w1 hD C W hq hQ
    obtain ⟨D, rfl⟩ : ∃ D', D = D' + 1 + 1 := ⟨D - 2, by omega⟩
    have hw := W.2.2.2.2.1
    have e3 := (rd_E C).2.1
    unfold pAnd at hQ
    refine zX4_readEither_29 ⟨fun z => by omega, fun _ => s_token C W.1 h1 ⟨fun k1 => ?_, fun k1 => ⟨fun z => absurd W.2.1 z, fun _ => ?_⟩⟩⟩
    · rw [if_neg k1] at hQ
      exact zj_mask [true, false, true, false] (hQ h (rdf_refl h) (rdR_0 (by dsimp only; rw [List.append_nil]; exact W)))
    · rw [if_pos k1] at hQ
      have e0 := lt_E (K := kt b n) hK h1 k1 (by decide)
      refine s_pass C W (by rw [k1]; decide) (fun h1 f1 W1 => ?_)
      have p1 := hA (i + 1) (by omega)
      have j1 := jAs (i + 1) (by omega)
      generalize A (i + 1) = x at j1 p1 hQ
      have C1 := rdC_f C f1
      refine j1 (D + 1) h1 w _ (by omega) C1 W1 (fun h2 f2 R2 => ?_)
      have C2 := rdC_f C1 f2
      have f02 := rdf_trans f1 f2
      rcases R2 with ⟨z1, W2⟩ | ⟨z1, F2⟩
      · rw [bnd_0 z1] at hQ
        obtain ⟨a1, a3, a5, -, -⟩ := p1.2 z1
        have lw : (w ++ x.2.2).length = w.length + x.2.2.length := List.length_append
        refine s_emit C2 W2 (by decide) (x := (21, 0)) (by decide) (by omega) (fun h3 f3 W3 => ?_)
        have j2 := c_And hK hA jAs m x.2.1 a3 (by omega)
        generalize pAnd (kt b n) A m x.2.1 = y at j2 hQ
        rw [x32_id (by omega) (by omega), show (q : Int) + 1 = ((q + 1 : Nat) : Int) by omega]
        refine j2 (D + 1 + 1) h3 (w ++ x.2.2 ++ [(21, 0)]) Q a2 (q + 1) _ hD (rdC_f C2 f3) W3 (by omega) (fun h4 f4 R4 => ?_)
        have f04 := rdf_trans (rdf_trans f02 f3) f4
        rcases R4 with ⟨z2, W4⟩ | ⟨z2, F4⟩
        · rw [bnd_0 z2] at hQ
          refine hQ h4 f04 (rdR_0 ?_)
          dsimp only
          rw [show w ++ (x.2.2 ++ [(21, 0)] ++ y.2.2) = w ++ x.2.2 ++ [(21, 0)] ++ y.2.2 by simp [List.append_assoc]]
          exact W4
        · rw [bnd_f z2] at hQ
          exact hQ h4 f04 (rdR_f F4)
      · rw [bnd_f z1] at hQ
        refine s_emitF C2 F2 (fun h3 f3 F3 => ?_)
        exact f_29 (rdC_f C2 f3) F3 (hQ h3 (rdf_trans f02 f3) (rdR_f F3))
theorem c_Eit {A B : Nat → Rs} (hK : kt b n E = 36) (hA : ∀ i, i ≤ E → rsA E i (A i)) (hB : ∀ i, i ≤ E → rsN E i (B i)) (jAs : ∀ i, i ≤ E → jA g b n E r 0 i (A i)) (jBs : ∀ i, i ≤ E → jN g b n E r i (B i)) : ∀ (m : Nat) (e : Bool) (i : Nat), i ≤ E → E < i + m → ∀ (D : Nat) (h : xH) (w : List (Int × Int)) (Q : xH → Prop) (p : Nat) (w3 : xV), 30 ≤ D → rdC b n E r h → rdW E r h i w → 2 * p ≤ i → (e = true ↔ 0 < p) → (e = true → w.length + 1 ≤ i) → (∀ h1, rdf r h h1 → rdR b n E r h1 (pEit (kt b n) A B m e i).1 (pEit (kt b n) A B m e i).2.1 (w ++ (pEit (kt b n) A B m e i).2.2) → Q h1) → zJ g D 48 0 0 4 [xr 74, xi 1, xi (p : Int), w3] [] h (x_qv Q)
  | 0, e, i, h1, h2 => by omega
  | m + 1, e, i, h1, h2 => by
    intro D h w Q p w3 hD C W hp he hw1 hQ
    obtain ⟨D, rfl⟩ : ∃ D', D = D' + 2 := ⟨D - 2, by omega⟩
    have hw := W.2.2.2.2.1
    have e3 := (rd_E C).2.1
    unfold pEit at hQ
    refine zX4_readEither_4 ⟨fun z => by omega, fun _ => ⟨fun z => absurd z (by decide), fun _ => ⟨fun z => absurd W.2.1 z, fun _ => ?_⟩⟩⟩
    have p1 := hA i h1
    have j1 := jAs i h1
    generalize A i = x at j1 p1 hQ
    refine j1 (D + 1) h w _ (by omega) C W (fun h1 f1 R1 => ?_)
    have C1 := rdC_f C f1
    rcases R1 with ⟨z1, W1⟩ | ⟨z1, F1⟩
    · rw [bnd_0 z1] at hQ
      obtain ⟨a1, a2, a3, -, -⟩ := p1.2 z1
      have lw : (w ++ x.2.2).length = w.length + x.2.2.length := List.length_append
      have p2 := hB x.2.1 a2
      have j2 := jBs x.2.1 a2
      generalize B x.2.1 = y at j2 p2 hQ
      refine j2 (D + 2) h1 (w ++ x.2.2) Q p 0 _ hD C1 W1 (by omega) (fun h2 f2 R2 => ?_)
      have C2 := rdC_f C1 f2
      have f02 := rdf_trans f1 f2
      rcases R2 with ⟨z2, W2⟩ | ⟨z2, F2⟩
      · rw [bnd_0 z2] at hQ
        obtain ⟨b1, b2, b3, -, -⟩ := p2.2 z2
        have ly : (w ++ x.2.2 ++ y.2.2).length = w.length + x.2.2.length + y.2.2.length := by rw [List.length_append, lw]
        have k83 : ∀ {h3 : xH} {w1 w3 : xV}, rdf r h h3 → rdC b n E r h3 → rdW E r h3 y.2.1 (w ++ (x.2.2 ++ y.2.2 ++ orp e)) → zJ g (D + 2) 48 0 0 83 [xr 74, w1, xi (p : Int), w3] [] h3 (x_qv Q) := by
          intro h3 w1 w3 f3 C3 W3
          have l3 := W3.2.2.2.2.1
          refine zX4_readEither_83 (s_token C3 W3.1 W3.2.2.2.1 ⟨fun k1 => zX4_readEither_96 (zX4_readEither_97 ⟨fun _ => zX4_readEither_106 ?_, fun z => absurd rfl z⟩), fun k1 => zX4_readEither_97 ⟨fun z => absurd z (by decide), fun _ => ?_⟩⟩)
          · rw [if_neg k1] at hQ
            exact zX4_readEither_4 ⟨fun _ => zX4_readEither_112 (hQ h3 f3 (rdR_0 W3)), fun _ => ⟨fun _ => zX4_readEither_112 (hQ h3 f3 (rdR_0 W3)), fun z => absurd rfl z⟩⟩
          · rw [if_pos k1] at hQ
            have e0 := lt_E (K := kt b n) hK b2 k1 (by decide)
            refine s_pass C3 W3 (by rw [k1]; decide) (fun h4 f4 W4 => ?_)
            rw [x32_id (by omega) (by omega), show (p : Int) + 1 = ((p + 1 : Nat) : Int) by omega]
            have j3 := c_Eit hK hA hB jAs jBs m true (y.2.1 + 1) (by omega) (by omega)
            generalize pEit (kt b n) A B m true (y.2.1 + 1) = u at j3 hQ
            refine j3 (D + 2) h4 (w ++ (x.2.2 ++ y.2.2 ++ orp e)) Q (p + 1) _ hD (rdC_f C3 f4) W4 (by omega) ⟨fun _ => by omega, fun _ => rfl⟩ (fun _ => by omega) (fun h5 f5 R5 => ?_)
            have f05 := rdf_trans (rdf_trans f3 f4) f5
            rcases R5 with ⟨z3, W5⟩ | ⟨z3, F5⟩
            · rw [bnd_0 z3] at hQ
              refine hQ h5 f05 (rdR_0 ?_)
              dsimp only
              rw [← List.append_assoc]; exact W5
            · rw [bnd_f z3] at hQ
              exact hQ h5 f05 (rdR_f F5)
        refine zX4_readEither_73 ⟨fun k1 => ?_, fun k1 => ?_⟩
        · have ef : e = false := by
            cases q : e
            · rfl
            · have := he.mp q; omega
          have je : orp e = [] := by rw [ef]; rfl
          rw [je, List.append_nil, ← List.append_assoc] at k83
          exact k83 f02 C2 W2
        · have et : e = true := he.mpr (by omega)
          have je : orp e = [(22, 0)] := by rw [et]; rfl
          have hw1 := hw1 et
          rw [je, show w ++ (x.2.2 ++ y.2.2 ++ [(22, 0)]) = w ++ x.2.2 ++ y.2.2 ++ [(22, 0)] by simp [List.append_assoc]] at k83
          refine s_emit C2 W2 (by decide) (x := (22, 0)) (by decide) (by omega) (fun h3 f3 W3 => ?_)
          exact k83 (rdf_trans f02 f3) (rdC_f C2 f3) W3
      · rw [bnd_f z2] at hQ
        exact f_73 (by omega) C2 F2 (fun h3 f3 F3 => hQ h3 (rdf_trans f02 f3) (rdR_f F3))
    · rw [bnd_f z1] at hQ
      exact f_29 C1 F1 (f_73 (by omega) C1 F1 (fun h3 f3 F3 => hQ h3 (rdf_trans f1 f3) (rdR_f F3)))
end RDA
