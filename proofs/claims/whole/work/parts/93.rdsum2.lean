/-! products and sums -/
section RD2
variable {g : xG} {b : Nat → Int} {n E r : Nat}
def jP (g : xG) (b : Nat → Int) (n E r o i : Nat) (x : Rs) : Prop := ∀ (D : Nat) (h : xH) (w : List (Int × Int)) (Q : xH → Prop) (a2 a4 : Int) (q : Nat) (w3 w6 : xV), 28 ≤ D + 3 * o → rdC b n E r h → rdW E r h i w → 2 * q ≤ i → (∀ h1, rdf r h h1 → rdR b n E r h1 x.1 x.2.1 (w ++ x.2.2) → zJ g D 50 0 0 90 [xr 74, xi (o : Int), xi a2, xu, xi a4, xu, xu] [] h1 (x_qv Q)) → zJ g D 50 0 0 34 [xr 74, xi (o : Int), xi a2, w3, xi a4, xi (q : Int), w6] [] h (x_qv Q)
def jL (g : xG) (b : Nat → Int) (n E r o : Nat) (j : Int) (i : Nat) (x : Rs) : Prop := ∀ (D : Nat) (h : xH) (w : List (Int × Int)) (Q : xH → Prop) (p : Nat) (w5 w6 : xV), 28 ≤ D + 3 * o → rdC b n E r h → rdW E r h i w → 2 * p ≤ i → (j ≠ -1 → w.length + 1 ≤ i) → (∀ h1, rdf r h h1 → rdR b n E r h1 x.1 x.2.1 (w ++ x.2.2) → Q h1) → zJ g D 50 0 0 7 [xr 74, xi (o : Int), xi j, xi 1, xi (p : Int), w5, w6] [] h (x_qv Q)
theorem f_34 {D : Nat} {o a2 a4 q f : Int} {i : Nat} {w3 w6 : xV} {h : xH} {Q : xH → Prop} (C : rdC b n E r h) (F : rdF b n E h f i) (kk : zJ g (D + 1) 50 0 0 90 [xr 74, xi o, xi a2, xu, xi a4, xu, xu] [] h (x_qv Q)) : zJ g (D + 1) 50 0 0 34 [xr 74, xi o, xi a2, w3, xi a4, xi q, w6] [] h (x_qv Q) := by
  have k2 : ∀ {w3 w5 w6 : xV}, zJ g (D + 1) 50 0 0 90 [xr 74, xi o, xi a2, w3, xi a4, w5, w6] [] h (x_qv Q) := fun {w3 w5 w6} => zj_mask [true, true, true, false, true, false, false] kk
  exact zX4_readSum_34 ⟨fun _ => k2, fun _ => s_token C F.1 F.2.2.2.2 (s_win (fun v hv => ⟨fun _ => k2, fun _ => ⟨fun _ => k2, fun z => absurd z (rdF_n F)⟩⟩))⟩
theorem f_90 {D : Nat} {o a2 f : Int} {p i : Nat} {w3 w5 w6 : xV} {h : xH} {Q : xH → Prop} (hp : p ≤ 300) (C : rdC b n E r h) (F : rdF b n E h f i) (hQ : ∀ h1, rdf r h h1 → rdF b n E h1 f i → Q h1) : zJ g (D + 2) 50 0 0 90 [xr 74, xi o, xi a2, w3, xi (p : Int), w5, w6] [] h (x_qv Q) := by
  have k7 : ∀ {h1 : xH} {j a3 p2 : Int} {w5 w6 : xV}, rdf r h h1 → rdF b n E h1 f i → zJ g (D + 2) 50 0 0 7 [xr 74, xi o, xi j, xi a3, xi p2, w5, w6] [] h1 (x_qv Q) := fun f1 F1 => zX4_readSum_7 ⟨fun _ => zX4_readSum_128 (hQ _ f1 F1), fun _ => ⟨fun _ => zX4_readSum_128 (hQ _ f1 F1), fun _ => ⟨fun _ => zX4_readSum_128 (hQ _ f1 F1), fun z => absurd z (rdF_n F1)⟩⟩⟩
  have k100 : ∀ {h1 : xH} {w2 w3 w5 w6 : xV}, rdf r h h1 → rdF b n E h1 f i → zJ g (D + 2) 50 0 0 100 [xr 74, xi o, w2, w3, xi (p : Int), w5, w6] [] h1 (x_qv Q) := fun f1 F1 => zX4_readSum_100 (s_token (rdC_f C f1) F1.1 F1.2.2.2.2 (s_win (fun v hv => ⟨fun _ => zX4_readSum_122 (k7 f1 F1), fun _ => s_passF (rdF_n F1) (k7 f1 F1)⟩)))
  exact zX4_readSum_90 ⟨fun _ => k100 (rdf_refl h) F, fun _ => s_emitF C F (fun h1 f1 F1 => k100 f1 F1)⟩
theorem c_Prd {O P : Nat → Nat → Rs} {o i : Nat} (ho : o ≤ 8) (hO : ∀ i', i < i' → i' ≤ E → jO g b n E r o i' (O o i') ∧ rsO E o i' (O o i')) (hP : ∀ i', i < i' → i' ≤ E → jP g b n E r o i' (P o i') ∧ rsP E o i' (P o i')) : jP g b n E r o i (pPrd (kt b n) O P o i) := by
  intro D h w Q a2 a4 q w3 w6 hD C W hq hQ
  obtain ⟨D, rfl⟩ : ∃ D', D = D' + 1 + 1 := ⟨D - 2, by omega⟩
  have hE := W.2.2.2.1
  have e3 := (rd_E C).2.1
  unfold pPrd at hQ
  have no : ¬ (kt b n i = 27 ∨ kt b n i = 28) → ∀ {w3 w5 w6 : xV}, zJ g (D + 1 + 1) 50 0 0 90 [xr 74, xi (o : Int), xi a2, w3, xi a4, w5, w6] [] h (x_qv Q) := by
    intro k1 w3 w5 w6
    rw [if_neg k1] at hQ
    exact zj_mask [true, true, true, false, true, false, false] (hQ h (rdf_refl h) (rdR_0 (by dsimp only; rw [List.append_nil]; exact W)))
  refine zX4_readSum_34 ⟨fun z => by omega, fun _ => s_token C W.1 hE (s_win (fun v hv => ⟨fun z => no (by omega), fun z => ⟨fun y => absurd W.2.1 y, fun _ => s_token C W.1 hE ?_⟩⟩))⟩
  have k1 : kt b n i = 27 ∨ kt b n i = 28 := by omega
  rw [if_pos k1] at hQ
  have e0 := lt_E (K := kt b n) (rd_E C).1 hE (rfl : kt b n i = kt b n i) (by omega)
  refine s_pass C W (by omega) (fun h1 f1 W1 => ?_)
  have C1 := rdC_f C f1
  obtain ⟨j1, p1⟩ := hO (i + 1) (by omega) (by omega)
  generalize O o (i + 1) = x at j1 p1 hQ
  refine j1 (D + 1) h1 w _ (by omega) C1 W1 (fun h2 f2 R2 => ?_)
  have C2 := rdC_f C1 f2
  have f02 := rdf_trans f1 f2
  rcases R2 with ⟨z1, W2⟩ | ⟨z1, F2⟩
  · rw [bnd_0 z1] at hQ
    obtain ⟨a1, a3, a5, -, -⟩ := p1.2 z1
    have lw : (w ++ x.2.2).length = w.length + x.2.2.length := List.length_append
    have := W.2.2.2.2.1
    refine s_emit C2 W2 (by omega) (cw_op (k := kt b n i) (by omega)) (by omega) (fun h3 f3 W3 => ?_)
    have C3 := rdC_f C2 f3
    obtain ⟨j2, p2⟩ := hP x.2.1 (by omega) a3
    generalize P o x.2.1 = y at j2 p2 hQ
    rw [x32_id (by omega) (by omega), show (q : Int) + 1 = ((q + 1 : Nat) : Int) by omega]
    refine j2 (D + 1 + 1) h3 (w ++ x.2.2 ++ [opc (kt b n i)]) Q a2 a4 (q + 1) _ _ hD C3 W3 (by omega) (fun h4 f4 R4 => ?_)
    have f04 := rdf_trans (rdf_trans f02 f3) f4
    rcases R4 with ⟨z2, W4⟩ | ⟨z2, F4⟩
    · rw [bnd_0 z2] at hQ
      refine hQ h4 f04 (rdR_0 ?_)
      dsimp only
      rw [show w ++ (x.2.2 ++ [opc (kt b n i)] ++ y.2.2) = w ++ x.2.2 ++ [opc (kt b n i)] ++ y.2.2 by simp [List.append_assoc]]
      exact W4
    · rw [bnd_f z2] at hQ
      exact hQ h4 f04 (rdR_f F4)
  · rw [bnd_f z1] at hQ
    refine s_emitF C2 F2 (fun h3 f3 F3 => ?_)
    exact f_34 (rdC_f C2 f3) F3 (hQ h3 (rdf_trans f02 f3) (rdR_f F3))
theorem c_Sml {O P : Nat → Nat → Rs} {L : Nat → Int → Nat → Rs} {o i : Nat} {j : Int} (ho : o ≤ 8) (hj : j = -1 ∨ j = 25 ∨ j = 26) (hO : jO g b n E r o i (O o i) ∧ rsO E o i (O o i)) (hP : ∀ i', i < i' → i' ≤ E → jP g b n E r o i' (P o i') ∧ rsP E o i' (P o i')) (hL : ∀ i' j', i < i' → i' ≤ E → j' = 25 ∨ j' = 26 → jL g b n E r o j' i' (L o j' i')) : jL g b n E r o j i (pSml (kt b n) O P L o j i) := by
  intro D h w Q p w5 w6 hD C W hp hw hQ
  obtain ⟨D, rfl⟩ : ∃ D', D = D' + 2 := ⟨D - 2, by omega⟩
  have hE := W.2.2.2.1
  have e3 := (rd_E C).2.1
  unfold pSml at hQ
  refine zX4_readSum_7 ⟨fun z => by omega, fun _ => ⟨fun z => absurd z (by decide), fun _ => ⟨fun z => absurd W.2.1 z, fun _ => ?_⟩⟩⟩
  obtain ⟨j1, p1⟩ := hO
  generalize O o i = x at j1 p1 hQ
  refine j1 (D + 1) h w _ (by omega) C W (fun h1 f1 R1 => ?_)
  have C1 := rdC_f C f1
  rcases R1 with ⟨z1, W1⟩ | ⟨z1, F1⟩
  · rw [bnd_0 z1] at hQ
    obtain ⟨a1, a2, a3, -, -⟩ := p1.2 z1
    have lw : (w ++ x.2.2).length = w.length + x.2.2.length := List.length_append
    obtain ⟨j2, p2⟩ := hP x.2.1 (by omega) a2
    generalize P o x.2.1 = y at j2 p2 hQ
    refine j2 (D + 2) h1 (w ++ x.2.2) Q j p 0 _ _ hD C1 W1 (by omega) (fun h2 f2 R2 => ?_)
    have C2 := rdC_f C1 f2
    have f02 := rdf_trans f1 f2
    rcases R2 with ⟨z2, W2⟩ | ⟨z2, F2⟩
    · rw [bnd_0 z2] at hQ
      obtain ⟨b1, b2, b3, -, -⟩ := p2.2 z2
      have ly : (w ++ x.2.2 ++ y.2.2).length = w.length + x.2.2.length + y.2.2.length := by rw [List.length_append, lw]
      have k100 : ∀ {h3 : xH} {w2 w3 w5 w6 : xV}, rdf r h h3 → rdC b n E r h3 → rdW E r h3 y.2.1 (w ++ (x.2.2 ++ y.2.2 ++ jop j)) → (w ++ (x.2.2 ++ y.2.2 ++ jop j)).length ≤ y.2.1 → zJ g (D + 2) 50 0 0 100 [xr 74, xi (o : Int), w2, w3, xi (p : Int), w5, w6] [] h3 (x_qv Q) := by
        intro h3 w2 w3 w5 w6 f3 C3 W3 l3
        refine zX4_readSum_100 (s_token C3 W3.1 W3.2.2.2.1 (s_win (fun v hv => ⟨fun z => zX4_readSum_122 ?_, fun z => ?_⟩)))
        · have k1 : ¬ (kt b n y.2.1 = 25 ∨ kt b n y.2.1 = 26) := by omega
          rw [if_neg k1] at hQ
          refine zX4_readSum_7 ⟨fun _ => zX4_readSum_128 (hQ h3 f3 (rdR_0 W3)), fun _ => ⟨fun _ => zX4_readSum_128 (hQ h3 f3 (rdR_0 W3)), fun y2 => absurd (by omega) y2⟩⟩
        · have k1 : kt b n y.2.1 = 25 ∨ kt b n y.2.1 = 26 := by omega
          rw [if_pos k1] at hQ
          have e0 := lt_E (K := kt b n) (rd_E C).1 b2 (rfl : kt b n y.2.1 = kt b n y.2.1) (by omega)
          refine s_pass C3 W3 (by omega) (fun h4 f4 W4 => ?_)
          have j3 := hL (y.2.1 + 1) (kt b n y.2.1) (by omega) (by omega) k1
          generalize L o (kt b n y.2.1) (y.2.1 + 1) = u at j3 hQ
          rw [x32_id (by omega) (by omega), show (p : Int) + 1 = ((p + 1 : Nat) : Int) by omega, show v = 1 by omega]
          refine j3 (D + 2) h4 (w ++ (x.2.2 ++ y.2.2 ++ jop j)) Q (p + 1) _ _ hD (rdC_f C3 f4) W4 (by omega) (fun _ => by omega) (fun h5 f5 R5 => ?_)
          have f05 := rdf_trans (rdf_trans f3 f4) f5
          rcases R5 with ⟨z3, W5⟩ | ⟨z3, F5⟩
          · rw [bnd_0 z3] at hQ
            refine hQ h5 f05 (rdR_0 ?_)
            dsimp only
            rw [← List.append_assoc]; exact W5
          · rw [bnd_f z3] at hQ
            exact hQ h5 f05 (rdR_f F5)
      have := W.2.2.2.2.1
      refine zX4_readSum_90 ⟨fun k1 => ?_, fun k1 => ?_⟩
      · have je : jop j = [] := by unfold jop; rw [if_pos k1]
        rw [je, List.append_nil] at k100
        rw [← List.append_assoc] at k100
        exact k100 f02 C2 W2 (by omega)
      · have je : jop j = [opc j] := by unfold jop; rw [if_neg k1]
        have hw := hw k1
        rw [je, show w ++ (x.2.2 ++ y.2.2 ++ [opc j]) = w ++ x.2.2 ++ y.2.2 ++ [opc j] by simp [List.append_assoc]] at k100
        refine s_emit C2 W2 (by omega) (cw_op (k := j) (by omega)) (by omega) (fun h3 f3 W3 => ?_)
        exact k100 (rdf_trans f02 f3) (rdC_f C2 f3) W3 (by rw [List.length_append, ly]; show _ + 1 ≤ _; omega)
    · rw [bnd_f z2] at hQ
      exact f_90 (by omega) C2 F2 (fun h3 f3 F3 => hQ h3 (rdf_trans f02 f3) (rdR_f F3))
  · rw [bnd_f z1] at hQ
    exact f_34 C1 F1 (f_90 (by omega) C1 F1 (fun h3 f3 F3 => hQ h3 (rdf_trans f1 f3) (rdR_f F3)))
theorem jS_of {o i : Nat} {x : Rs} (ho : o ≤ 8) (hL : jL g b n E r o (-1) i x) : jS g b n E r o i x := by
  intro D h w Q hD C W hQ
  obtain ⟨D, rfl⟩ : ∃ D', D = D' + 1 := ⟨D - 1, by omega⟩
  exact eX4_readSum (zX4_readSum_0 (hL (D + 1) h w Q 0 _ _ hD C W (by omega) (fun z => absurd rfl z) hQ))
/-- ones, products, sums of the class are the pure reader's -/
theorem c_pp (hK : kt b n E = 36) (hN : ∀ i, 0 ≤ nmt b n i) : ∀ (m i : Nat), i ≤ E → E < i + m → ∀ o, o ≤ 8 → jO g b n E r o i ((pp (kt b n) (nmt b n) m).1 o i) ∧ jP g b n E r o i ((pp (kt b n) (nmt b n) m).2.1 o i) ∧ ∀ j, (j = -1 ∨ j = 25 ∨ j = 26) → jL g b n E r o j i ((pp (kt b n) (nmt b n) m).2.2 o j i)
  | 0, i, h1, h2 => by omega
  | m + 1, i, h1, h2 => by
    intro o ho
    have ih := c_pp hK hN m
    have pk := pp_ok (K := kt b n) (N := nmt b n) (E := E) hK hN m
    have pk1 := pp_ok (K := kt b n) (N := nmt b n) (E := E) hK hN (m + 1)
    have a : ∀ i, i ≤ E → E < i + (m + 1) → jO g b n E r o i ((pp (kt b n) (nmt b n) (m + 1)).1 o i) := fun i h1 h2 => c_One ho (fun i' q1 q2 q3 => ⟨(ih i' q2 (by omega) (o + 1) (by omega)).1, (pk i' q2 (by omega) (o + 1)).1⟩) (fun i' q1 q2 q3 => ⟨jS_of (by omega) ((ih i' q2 (by omega) (o + 1) (by omega)).2.2 (-1) (Or.inl rfl)), (pk i' q2 (by omega) (o + 1)).2.2 (-1) (Or.inl rfl)⟩)
    have c : ∀ i, i ≤ E → E < i + (m + 1) → jP g b n E r o i ((pp (kt b n) (nmt b n) (m + 1)).2.1 o i) := fun i h1 h2 => c_Prd ho (fun i' q1 q2 => ⟨(ih i' q2 (by omega) o ho).1, (pk i' q2 (by omega) o).1⟩) (fun i' q1 q2 => ⟨(ih i' q2 (by omega) o ho).2.1, (pk i' q2 (by omega) o).2.1⟩)
    exact ⟨a i h1 h2, c i h1 h2, fun j hj => c_Sml ho hj ⟨a i h1 h2, (pk1 i h1 h2 o).1⟩ (fun i' q1 q2 => ⟨c i' q2 (by omega), (pk1 i' q2 (by omega) o).2.1⟩) (fun i' j' q1 q2 q3 => (ih i' q2 (by omega) o ho).2.2 j' (Or.inr q3))⟩
end RD2
