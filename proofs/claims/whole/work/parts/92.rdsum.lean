/-! the class reads sums as the pure reader does -/
theorem cw_op {k : Int} (h : k = 25 ∨ k = 26 ∨ k = 27 ∨ k = 28) : 10000 + k = cwp (opc k) := by rcases h with z | z | z | z <;> subst z <;> decide
theorem cw_mm {k : Int} (h : k = 19 ∨ k = 20) : 10000 + k = cwp (k - 12, 0) := by rcases h with z | z <;> subst z <;> decide
theorem cw_nm {k : Int} (h : k = 0 ∨ (10 ≤ k ∧ k ≤ 15)) : 10000 + k = cwp (1, nmv k) := by
  rcases (show k = 0 ∨ k = 10 ∨ k = 11 ∨ k = 12 ∨ k = 13 ∨ k = 14 ∨ k = 15 by omega) with z | z | z | z | z | z | z <;> subst z <;> decide
section RDS
variable {g : xG} {b : Nat → Int} {n E r : Nat}
abbrev nmt (b : Nat → Int) (n i : Nat) : Int := nb b n (ps b n i)
def jO (g : xG) (b : Nat → Int) (n E r o i : Nat) (x : Rs) : Prop := ∀ (D : Nat) (h : xH) (w : List (Int × Int)) (Q : xH → Prop), 27 ≤ D + 3 * o → rdC b n E r h → rdW E r h i w → (∀ h1, rdf r h h1 → rdR b n E r h1 x.1 x.2.1 (w ++ x.2.2) → Q h1) → zSv g D mX4_readOne [xr 74, xi (o : Int)] h Q
def jB (g : xG) (b : Nat → Int) (n E r o : Nat) (pr : Int) (i : Nat) (x : Rs) : Prop := ∀ (D : Nat) (h : xH) (w : List (Int × Int)) (Q : xH → Prop), 26 ≤ D + 3 * o → rdC b n E r h → rdW E r h i w → (pr ≠ -1 → w.length + 1 ≤ i) → (∀ h1, rdf r h h1 → rdR b n E r h1 x.1 x.2.1 (w ++ x.2.2) → Q h1) → zSv g D mX4_readBrackets [xr 74, xi (o : Int), xi pr] h Q
def jS (g : xG) (b : Nat → Int) (n E r o i : Nat) (x : Rs) : Prop := ∀ (D : Nat) (h : xH) (w : List (Int × Int)) (Q : xH → Prop), 28 ≤ D + 3 * o → rdC b n E r h → rdW E r h i w → (∀ h1, rdf r h h1 → rdR b n E r h1 x.1 x.2.1 (w ++ x.2.2) → Q h1) → zSv g D mX4_readSum [xr 74, xi (o : Int)] h Q
theorem s_sumF {D : Nat} {o : Int} {h : xH} {Q : xH → Prop} (hf : h.2 74 3 ≠ 0) (hQ : Q h) : zSv g (D + 1) mX4_readSum [xr 74, xi o] h Q :=
  eX4_readSum (zX4_readSum_0 (zX4_readSum_7 ⟨fun _ => zX4_readSum_128 hQ, fun _ => ⟨fun z => absurd z (by decide), fun _ => ⟨fun _ => zX4_readSum_128 hQ, fun z => absurd z hf⟩⟩⟩))
theorem rdR_f {h1 : xH} {f : Int} {i : Nat} {w : List (Int × Int)} (F : rdF b n E h1 f i) : rdR b n E r h1 f i w := Or.inr ⟨F.2.2.1, F⟩
theorem rdR_0 {h1 : xH} {i : Nat} {w : List (Int × Int)} (W : rdW E r h1 i w) : rdR b n E r h1 0 i w := Or.inl ⟨rfl, W⟩
theorem rdF_n {h1 : xH} {f : Int} {i : Nat} (F : rdF b n E h1 f i) : h1.2 74 3 ≠ 0 := by rw [F.2.1]; exact F.2.2.1
theorem c_Br {S : Nat → Nat → Rs} {o i : Nat} {pr : Int} (ho : o ≤ 8) (hp : pr = -1 ∨ pr = 19 ∨ pr = 20) (hS : ∀ i', i < i' → i' ≤ E → o < 8 → jS g b n E r (o + 1) i' (S (o + 1) i') ∧ rsL E (o + 1) (-1) i' (S (o + 1) i')) : jB g b n E r o pr i (pBr (kt b n) S o pr i) := by
  intro D h w Q hD C W hw hQ
  obtain ⟨D, rfl⟩ : ∃ D', D = D' + 1 + 1 := ⟨D - 2, by omega⟩
  unfold pBr at hQ
  refine eX4_readBrackets (zX4_readBrackets_0 (s_token C W.1 W.2.2.2.1 ⟨fun k1 => ?_, fun k1 => ?_⟩))
  rotate_left
  · rw [if_pos k1] at hQ
    exact s_fail C W (by decide) (fun h1 f1 F1 => hQ h1 f1 (rdR_f F1))
  rw [if_neg (fun z => z k1)] at hQ
  refine zX4_readBrackets_17 ⟨fun k2 => ?_, fun k2 => ?_⟩
  rotate_left
  · rw [if_pos (by omega)] at hQ
    exact s_fail C W (by decide) (fun h1 f1 F1 => hQ h1 f1 (rdR_f F1))
  rw [if_neg (by omega)] at hQ
  have hE := W.2.2.2.1
  have e0 := lt_E (K := kt b n) (rd_E C).1 hE k1 (by decide)
  refine zX4_readBrackets_31 (s_pass C W (by rw [k1]; decide) (fun h1 f1 W1 => ?_))
  rw [x32_id (by omega) (by omega), show (o : Int) + 1 = ((o + 1 : Nat) : Int) by omega]
  have C1 := rdC_f C f1
  obtain ⟨j1, p1⟩ := hS (i + 1) (by omega) (by omega) (by omega)
  generalize S (o + 1) (i + 1) = x at j1 p1 hQ
  refine j1 (D + 1) h1 w _ (by omega) C1 W1 (fun h2 f2 R2 => ?_)
  have C2 := rdC_f C1 f2
  have f02 := rdf_trans f1 f2
  rcases R2 with ⟨z1, W2⟩ | ⟨z1, F2⟩
  · rw [bnd_0 z1] at hQ
    obtain ⟨a1, a2, a3, -, -⟩ := p1.2 z1
    rw [if_pos rfl] at a3
    have lw : (w ++ x.2.2).length = w.length + x.2.2.length := List.length_append
    refine ⟨fun k3 => zX4_readBrackets_65 ?_, fun k3 => ?_⟩
    · rw [if_pos k3] at hQ
      refine s_expect C2 W2 (by decide) (fun k4 h3 f3 W3 => ?_) (fun k4 h3 f3 F3 => ?_)
      · rw [if_pos k4] at hQ
        exact hQ h3 (rdf_trans f02 f3) (rdR_0 W3)
      · rw [if_neg k4] at hQ
        exact hQ h3 (rdf_trans f02 f3) (rdR_f F3)
    · rw [if_neg k3] at hQ
      have pr2 : pr = 19 ∨ pr = 20 := by omega
      refine s_expect C2 W2 (by decide) (fun k4 h3 f3 W3 => ?_) (fun k4 h3 f3 F3 => ?_)
      · rw [if_neg (fun z => z k4)] at hQ
        have e1 := lt_E (K := kt b n) (rd_E C).1 a2 k4 (by decide)
        have C3 := rdC_f C2 f3
        obtain ⟨j2, p2⟩ := hS (x.2.1 + 1) (by omega) (by omega) (by omega)
        generalize S (o + 1) (x.2.1 + 1) = y at j2 p2 hQ
        refine j2 (D + 1) h3 (w ++ x.2.2) _ (by omega) C3 W3 (fun h4 f4 R4 => ?_)
        have C4 := rdC_f C3 f4
        have f04 := rdf_trans (rdf_trans f02 f3) f4
        rcases R4 with ⟨z2, W4⟩ | ⟨z2, F4⟩
        · rw [bnd_0 z2] at hQ
          obtain ⟨b1, b2, b3, -, -⟩ := p2.2 z2
          rw [if_pos rfl] at b3
          have ly : (w ++ x.2.2 ++ y.2.2).length = w.length + x.2.2.length + y.2.2.length := by rw [List.length_append, lw]
          have hw := hw k3
          refine s_emit C4 W4 (by omega) (cw_mm pr2) (by omega) (fun h5 f5 W5 => ?_)
          refine s_expect (rdC_f C4 f5) W5 (by decide) (fun k5 h6 f6 W6 => ?_) (fun k5 h6 f6 F6 => ?_)
          · rw [if_pos k5] at hQ
            refine hQ h6 (rdf_trans (rdf_trans f04 f5) f6) (rdR_0 ?_)
            have e : w ++ (x.2.2 ++ y.2.2 ++ [(pr - 12, 0)]) = w ++ x.2.2 ++ y.2.2 ++ [(pr - 12, 0)] := by simp [List.append_assoc]
            dsimp only
            rw [e]; exact W6
          · rw [if_neg k5] at hQ
            exact hQ h6 (rdf_trans (rdf_trans f04 f5) f6) (rdR_f F6)
        · rw [bnd_f z2] at hQ
          refine s_emitF C4 F4 (fun h5 f5 F5 => ?_)
          exact s_expectF (rdC_f C4 f5) F5.1 F5.2.2.2.2 (rdF_n F5) (hQ h5 (rdf_trans f04 f5) (rdR_f F5))
      · rw [if_pos k4] at hQ
        have C3 := rdC_f C2 f3
        refine s_sumF (rdF_n F3) (s_emitF C3 F3 (fun h5 f5 F5 => ?_))
        exact s_expectF (rdC_f C3 f5) F5.1 F5.2.2.2.2 (rdF_n F5) (hQ h5 (rdf_trans (rdf_trans f02 f3) f5) (rdR_f F5))
  · rw [bnd_f z1] at hQ
    refine ⟨fun k3 => zX4_readBrackets_65 (s_expectF C2 F2.1 F2.2.2.2.2 (rdF_n F2) (hQ h2 f02 (rdR_f F2))), fun k3 => s_expectF C2 F2.1 F2.2.2.2.2 (rdF_n F2) (s_sumF (rdF_n F2) (s_emitF C2 F2 (fun h5 f5 F5 => ?_)))⟩
    exact s_expectF (rdC_f C2 f5) F5.1 F5.2.2.2.2 (rdF_n F5) (hQ h5 (rdf_trans f02 f5) (rdR_f F5))
theorem c_One {O S : Nat → Nat → Rs} {o i : Nat} (ho : o ≤ 8) (hO : ∀ i', i < i' → i' ≤ E → o < 8 → jO g b n E r (o + 1) i' (O (o + 1) i') ∧ rsO E (o + 1) i' (O (o + 1) i')) (hS : ∀ i', i < i' → i' ≤ E → o < 8 → jS g b n E r (o + 1) i' (S (o + 1) i') ∧ rsL E (o + 1) (-1) i' (S (o + 1) i')) : jO g b n E r o i (pOne (kt b n) (nmt b n) O S o i) := by
  intro D h w Q hD C W hQ
  obtain ⟨D, rfl⟩ : ∃ D', D = D' + 1 + 1 := ⟨D - 2, by omega⟩
  have e2 : (h.2 74 2).toNat = r := by rw [C.2.2.2.2.2.2.2.2.1]; omega
  have hE := W.2.2.2.1
  have nn := nb_r (b := b) (n := n) (q := ps b n i) C.2.2.1 (ps_b C.2.2.1 i).1
  unfold pOne at hQ
  refine eX4_readOne (zX4_readOne_0 (s_token C W.1 hE ⟨fun k1 => zX4_readOne_44 ?_, fun k1 => s_number C W.1 hE k1 ?_⟩))
  · rw [if_neg k1] at hQ
    -- a name
    have name : (kt b n i = 0 ∨ (10 ≤ kt b n i ∧ kt b n i ≤ 15)) → zSv g (D + 1) mX4_emit [xr 74, xi (kt b n i)] h (fun h2 => zSv g (D + 1) mX4_pass [xr 74] h2 (fun h3 => Q h3)) := by
      intro k2
      rw [if_pos k2] at hQ
      have v0 := cw_nm k2
      refine eX4_emit (zX4_emit_0 ?_)
      rw [e2, x32_id (by omega) (by omega)]
      refine ⟨(rd_is C).1, s_dput C W v0 (Or.inr (by omega)) (fun h1 f1 d74 d3 dj => ?_)⟩
      have k36 : kt b n i ≠ 36 := by omega
      have e0 := lt_E (K := kt b n) (rd_E C).1 hE (rfl : kt b n i = kt b n i) k36
      have C1 := rdC_f C f1
      obtain ⟨k1', k2', k3'⟩ := rd_E C1
      refine eX4_pass (zX4_pass_0 ⟨fun z => absurd (by rw [d74]; exact W.2.1) z, fun _ => ?_⟩)
      rw [d74, W.1, x32_id (by omega) (by omega), C1.1.1]
      refine ⟨fun z => by omega, fun _ => hQ _ (rdf_trans f1 (rdf_74 C.2.2.2.1 (by decide) (by decide))) (rdR_0 ⟨?_, ?_, ?_, by dsimp only; omega, ?_, ?_, fun j hj => ?_⟩)⟩ <;> dsimp only
      · rw [x_up_eq]; omega
      · rw [x_up_j (by decide), d74]; exact W.2.1
      · rw [x_up_j (by decide), d74]; exact W.2.2.1
      · rw [List.length_append]; show w.length + 1 ≤ _; have := W.2.2.2.2.1; omega
      · rw [x_up_r (by have := C.2.2.2.1; omega), d3, List.length_append]; rfl
      · rw [x_up_r (by have := C.2.2.2.1; omega)]
        rw [List.length_append] at hj
        exact dj j hj
    have br : ∀ {D' : Nat} {h1 : xH} {i1 : Nat} {pr : Int}, 26 ≤ D' + 3 * o → i ≤ i1 → rdC b n E r h1 → rdW E r h1 i1 w → pr = -1 ∨ pr = 19 ∨ pr = 20 → (pr ≠ -1 → w.length + 1 ≤ i1) → rdf r h h1 → (∀ h2, rdf r h h2 → rdR b n E r h2 (pBr (kt b n) S o pr i1).1 (pBr (kt b n) S o pr i1).2.1 (w ++ (pBr (kt b n) S o pr i1).2.2) → Q h2) → zSv g D' mX4_readBrackets [xr 74, xi o, xi pr] h1 (fun h2 => Q h2) := by
      intro D' h1 i1 pr d1 d2 C1 W1 hp hw f1 hq
      exact c_Br ho hp (fun i' q1 q2 q3 => hS i' (by omega) q2 q3) D' h1 w _ d1 C1 W1 hw (fun h2 f2 R2 => hq h2 (rdf_trans f1 f2) R2)
    refine ⟨fun k2 => zX4_readOne_59 (name (Or.inl k2)), fun k2 => s_win (fun v hv => ⟨fun q => zX4_readOne_71 ?_, fun q => name (Or.inr (by omega))⟩)⟩
    have k3 : ¬ (kt b n i = 0 ∨ (10 ≤ kt b n i ∧ kt b n i ≤ 15)) := by omega
    rw [if_neg k3] at hQ
    have mm : kt b n i = 19 ∨ kt b n i = 20 → zSv g (D + 1) mX4_pass [xr 74] h (fun h1 => zSv g (D + 1) mX4_readBrackets [xr 74, xi o, xi (kt b n i)] h1 (fun h2 => Q h2)) := by
      intro k4
      rw [if_pos k4] at hQ
      refine s_pass C W (by omega) (fun h1 f1 W1 => ?_)
      exact br (by omega) (Nat.le_succ i) (rdC_f C f1) W1 (by omega) (fun _ => by have := W.2.2.2.2.1; omega) f1 hQ
    refine ⟨fun k4 => zX4_readOne_83 (mm (Or.inl k4)), fun k4 => ⟨fun k5 => zX4_readOne_96 ?_, fun k5 => mm (Or.inr k5)⟩⟩
    rw [if_neg (by omega)] at hQ
    refine ⟨fun k6 => zX4_readOne_111 ?_, fun k6 => ?_⟩
    · rw [if_pos k6] at hQ
      have e0 := lt_E (K := kt b n) (rd_E C).1 hE k6 (by decide)
      refine ⟨fun k7 => zX4_readOne_125 (s_pass C W (by rw [k6]; decide) (fun h1 f1 W1 => ?_)), fun k7 => ?_⟩
      · rw [if_neg (by omega)] at hQ
        rw [x32_id (by omega) (by omega), show (o : Int) + 1 = ((o + 1 : Nat) : Int) by omega]
        obtain ⟨j1, p1⟩ := hO (i + 1) (by omega) (by omega) (by omega)
        generalize O (o + 1) (i + 1) = x at j1 p1 hQ
        have C1 := rdC_f C f1
        refine j1 (D + 1) h1 w _ (by omega) C1 W1 (fun h2 f2 R2 => ?_)
        have C2 := rdC_f C1 f2
        have f02 := rdf_trans f1 f2
        rcases R2 with ⟨z1, W2⟩ | ⟨z1, F2⟩
        · rw [bnd_0 z1] at hQ
          obtain ⟨a1, a2, a3, -, -⟩ := p1.2 z1
          have lw : (w ++ x.2.2).length = w.length + x.2.2.length := List.length_append
          have := W.2.2.2.2.1
          refine s_emit C2 W2 (by decide) (x := (2, 0)) (by decide) (by omega) (fun h3 f3 W3 => hQ h3 (rdf_trans f02 f3) (rdR_0 ?_))
          dsimp only
          rw [← List.append_assoc]; exact W3
        · rw [bnd_f z1] at hQ
          exact s_emitF C2 F2 (fun h3 f3 F3 => hQ h3 (rdf_trans f02 f3) (rdR_f F3))
      · rw [if_pos (by omega)] at hQ
        exact s_fail C W (by decide) (fun h1 f1 F1 => hQ h1 f1 (rdR_f F1))
    · rw [if_neg k6] at hQ
      exact br (by omega) (Nat.le_refl i) C W (Or.inl rfl) (fun z => absurd rfl z) (rdf_refl h) hQ
  · rw [if_pos k1] at hQ
    have e0 := lt_E (K := kt b n) (rd_E C).1 hE k1 (by decide)
    refine ⟨fun k2 => zX4_readOne_26 (s_number C W.1 hE k1 ?_), fun k2 => ?_⟩
    · rw [if_neg (by show ¬ 9999 < nb b n (ps b n i); omega)] at hQ
      rw [e2]
      refine ⟨(rd_is C).1, s_dput C W (x := (0, nb b n (ps b n i))) rfl (Or.inr (by rw [k1]; decide)) (fun h1 f1 d74 d3 dj => ?_)⟩
      have C1 := rdC_f C f1
      obtain ⟨k1', k2', k3'⟩ := rd_E C1
      refine eX4_pass (zX4_pass_0 ⟨fun z => absurd (by rw [d74]; exact W.2.1) z, fun _ => ?_⟩)
      rw [d74, W.1, x32_id (by omega) (by omega), C1.1.1]
      refine ⟨fun z => by omega, fun _ => hQ _ (rdf_trans f1 (rdf_74 C.2.2.2.1 (by decide) (by decide))) (rdR_0 ⟨?_, ?_, ?_, by dsimp only; omega, ?_, ?_, fun j hj => ?_⟩)⟩ <;> dsimp only
      · rw [x_up_eq]; omega
      · rw [x_up_j (by decide), d74]; exact W.2.1
      · rw [x_up_j (by decide), d74]; exact W.2.2.1
      · rw [List.length_append]; show w.length + 1 ≤ _; have := W.2.2.2.2.1; omega
      · rw [x_up_r (by have := C.2.2.2.1; omega), d3, List.length_append]; rfl
      · rw [x_up_r (by have := C.2.2.2.1; omega)]
        rw [List.length_append] at hj
        exact dj j hj
    · rw [if_pos (by show 9999 < nb b n (ps b n i); omega)] at hQ
      refine s_fail C W (by decide) (fun h1 f1 F1 => ?_)
      have C1 := rdC_f C f1
      have e3 : (h1.2 74 2).toNat = r := by rw [C1.2.2.2.2.2.2.2.2.1]; omega
      refine s_number C1 F1.1 hE k1 ?_
      rw [e3]
      exact ⟨(rd_is C1).1, s_dputF C1 (fun h2 f2 d74 => s_passF (by rw [d74]; exact rdF_n F1) (hQ h2 (rdf_trans f1 f2) (rdR_f (rdF_74 F1 d74))))⟩
end RDS
