/-! products and sums of the reference -/
def isV (V : List Int) : Prop := V = [] ∨ V = [5] ∨ V = [6]
def isJ (J : List Int) : Prop := J = [] ∨ J = [3] ∨ J = [4]
def jpl (j : Int) : List Int := if j = -1 then [] else [j - 22]
def pm (U : List Int) : List (Int × Int) := U.map (fun u => (u, 0))
theorem jpl_J {j : Int} (h : j = -1 ∨ j = 25 ∨ j = 26) : isJ (jpl j) ∧ pm (jpl j) = jop j := by
  rcases h with z | z | z <;> subst z
  · exact ⟨Or.inl rfl, rfl⟩
  · exact ⟨Or.inr (Or.inl rfl), rfl⟩
  · exact ⟨Or.inr (Or.inr rfl), rfl⟩
theorem isV_r {V : List Int} (h : isV V) : V.length ≤ 1 ∧ ∀ u ∈ V, 5 ≤ u ∧ u < 40 := by
  rcases h with z | z | z <;> subst z
  · exact ⟨by decide, fun u hu => by cases hu⟩
  · exact ⟨by decide, fun u hu => by rw [List.mem_singleton.mp hu]; decide⟩
  · exact ⟨by decide, fun u hu => by rw [List.mem_singleton.mp hu]; decide⟩
theorem isJ_r {J : List Int} (h : isJ J) : J.length ≤ 1 ∧ (∀ u ∈ J, 3 ≤ u ∧ u < 5) := by
  rcases h with z | z | z <;> subst z
  · exact ⟨by decide, fun u hu => by cases hu⟩
  · exact ⟨by decide, fun u hu => by rw [List.mem_singleton.mp hu]; decide⟩
  · exact ⟨by decide, fun u hu => by rw [List.mem_singleton.mp hu]; decide⟩
theorem J_hd {J P0 : List Int} (h : isJ J) (h40 : hd40 P0) : ∀ x P', J ++ P0 = x :: P' → 40 ≤ x ∨ x < 5 := by
  rcases h with z | z | z <;> subst z
  · exact fun x P' e => Or.inl (h40 x P' e)
  · exact fun x P' e => by injection e with e1 e2; omega
  · exact fun x P' e => by injection e with e1 e2; omega
theorem J_hd2 {J P0 : List Int} (h : isJ J) (h40 : hd40 P0) : hd2 (J ++ P0) := by
  rcases h with z | z | z <;> subst z
  · exact fun x P' e => by have := h40 x P' e; omega
  · exact fun x P' e => by injection e with e1 e2; omega
  · exact fun x P' e => by injection e with e1 e2; omega
def kP (g : xG) (b : Nat → Int) (n t0 o i : Nat) (x : Rs) : Prop := ∀ (D : Nat) (h : xH) (w : List (Int × Int)) (V J P0 : List Int) (Q : Int → xH → Prop), o ≤ 8 → P0.length ≤ 3 * o → hd40 P0 → isJ J → isV V → rpB b n t0 h → rpS b n t0 h i w (V ++ (J ++ P0)) o 1 → w.length + (V.length + (J.length + P0.length)) ≤ i → i ≤ 300 → (x.1 ≠ 0 → ∀ h1, rpf t0 h h1 → h1.2 95 9 = (ps b n x.2.1 : Int) → Q x.1 h1) → (x.1 = 0 → ∀ (h1 : xH) (w' : List (Int × Int)) (V' : List Int), rpf t0 h h1 → isV V' → w' ++ pm V' = w ++ pm V ++ x.2.2 → ¬ (kt b n x.2.1 = 27 ∨ kt b n x.2.1 = 28) → rpS b n t0 h1 x.2.1 w' (V' ++ (J ++ P0)) o 1 → Hd g D h1 Q) → Hd g D h Q
def kL (g : xG) (b : Nat → Int) (n t0 o : Nat) (j : Int) (i : Nat) (x : Rs) : Prop := ∀ (D : Nat) (h : xH) (w : List (Int × Int)) (P0 : List Int) (Q : Int → xH → Prop), o ≤ 8 → P0.length ≤ 3 * o → hd40 P0 → rpB b n t0 h → rpS b n t0 h i w (jpl j ++ P0) o 0 → w.length + ((jpl j).length + P0.length) ≤ i → i ≤ 300 → (x.1 ≠ 0 → ∀ h1, rpf t0 h h1 → h1.2 95 9 = (ps b n x.2.1 : Int) → Q x.1 h1) → (x.1 = 0 → ∀ (h1 : xH) (w' : List (Int × Int)) (U : List Int), rpf t0 h h1 → (∀ u ∈ U, 3 ≤ u ∧ u < 40) → U.length ≤ 2 → w' ++ pm U = w ++ x.2.2 → ¬ (25 ≤ kt b n x.2.1 ∧ kt b n x.2.1 ≤ 28) → rpS b n t0 h1 x.2.1 w' (U ++ P0) o 1 → Hd g D h1 Q) → Hd g D h Q
section RP3
variable {g : xG} {D : Nat} {b : Nat → Int} {n t0 E : Nat} {h : xH} {Q : Int → xH → Prop}
theorem pm_l {V : List Int} : (pm V).length = V.length := List.length_map _
theorem k_Prd {O P : Nat → Nat → Rs} {o i : Nat} (hK : kt b n E = 36) (hE3 : E ≤ 300) (hi : i ≤ E) (hO : ∀ i', i < i' → i' ≤ E → kO g b n t0 o i' (O o i') ∧ rsO E o i' (O o i')) (hP : ∀ i', i < i' → i' ≤ E → kP g b n t0 o i' (P o i') ∧ rsP E o i' (P o i')) : kP g b n t0 o i (pPrd (kt b n) O P o i) := by
  intro D h w V J P0 Q ho hl h40 hJ hV B R hw hi3 hf h0
  unfold pPrd at hf h0
  obtain ⟨v1, v2⟩ := isV_r hV
  obtain ⟨q1, q2⟩ := isJ_r hJ
  have lj : (J ++ P0).length = J.length + P0.length := List.length_append
  have lv : (V ++ (J ++ P0)).length = V.length + (J.length + P0.length) := by rw [List.length_append, lj]
  by_cases k1 : kt b n i = 27 ∨ kt b n i = 28
  · rw [if_pos k1] at hf h0
    have e0 := lt_E (K := kt b n) hK hi (rfl : kt b n i = kt b n i) (by omega)
    obtain ⟨-, -, -, -, -, -, t43, t45, t42, t47, -⟩ := tk_i (b := b) (n := n) (q := ps b n i)
    rw [← R.1.2.2.1] at t43 t45 t42 t47
    have ek : kt b n i = kd b n (ps b n i) := rfl
    -- behind the sign
    have go : ∀ {h1 : xH}, rpf t0 h h1 → rpB b n t0 h1 → rpS b n t0 h1 i (w ++ pm V) ((kt b n i - 22) :: (J ++ P0)) o 1 → ((0 : Int) = 0 ∨ (0 : Int) = 1) ∧ zSv g (D + 3) mX9_nextToken [xr 95] (h1.1, x_up h1.2 95 20 0) (fun h2 => zJ g (D + 5) 176 0 0 42 [xr 95, xu] [xi 0] h2 (x_qi Q)) := by
      intro h1 f1 B1 R1
      have f2 : rpf t0 h1 (h1.1, x_up h1.2 95 20 0) := rpf_95 (by decide)
      refine ⟨Or.inl rfl, r_nextS (rpB_f B1 f2) (rpS_95 R1) (fun h3 f3 R3 => hd_r0 ?_)⟩
      have f03 := rpf_trans (rpf_trans f1 f2) f3
      have B3 := rpB_f (rpB_f B1 f2) f3
      obtain ⟨j1, p1⟩ := hO (i + 1) (by omega) (by omega)
      generalize O o (i + 1) = x at j1 p1 hf h0
      have lw1 : (w ++ pm V).length = w.length + V.length := by rw [List.length_append, pm_l]
      refine j1 D h3 (w ++ pm V) ((kt b n i - 22) :: (J ++ P0)) 0 o Q rfl ho (by rw [List.length_cons, lj]; omega) (fun y P' e => by injection e with e1 e2; omega) B3 R3 (by rw [List.length_cons, lj, lw1]; omega) (by omega) (fun z1 h4 f4 e4 => ?_) (fun z1 h4 f4 R4 => ?_)
      · rw [bnd_f z1] at hf
        exact hf z1 h4 (rpf_trans f03 f4) e4
      rw [bnd_0 z1] at hf h0
      obtain ⟨a1, a2, a3, -, -⟩ := p1.2 z1
      have R4 : rpS b n t0 h4 x.2.1 (w ++ pm V ++ x.2.2) ([kt b n i - 22] ++ (J ++ P0)) o 1 := by
        have := R4
        rw [show w ++ pm V ++ x.2.2 ++ List.replicate 0 ((2 : Int), (0 : Int)) = w ++ pm V ++ x.2.2 from List.append_nil _] at this
        exact this
      obtain ⟨j2, p2⟩ := hP x.2.1 (by omega) a2
      generalize P o x.2.1 = y at j2 p2 hf h0
      have hv' : isV [kt b n i - 22] := by
        rcases k1 with k1 | k1
        · rw [k1]; exact Or.inr (Or.inl rfl)
        · rw [k1]; exact Or.inr (Or.inr rfl)
      have f04 := rpf_trans f03 f4
      refine j2 D h4 (w ++ pm V ++ x.2.2) [kt b n i - 22] J P0 Q ho hl h40 hJ hv' (rpB_f B3 f4) R4 (by rw [List.length_append, lw1]; show _ + (1 + _) ≤ _; omega) (by omega) (fun z2 h5 f5 e5 => ?_) (fun z2 h5 w' V' f5 hV5 he5 hk5 R5 => ?_)
      · rw [bnd_f z2] at hf
        exact hf z2 h5 (rpf_trans f04 f5) e5
      · rw [bnd_0 z2] at h0
        refine h0 rfl h5 w' V' (rpf_trans f04 f5) hV5 ?_ hk5 R5
        rw [he5]
        show w ++ pm V ++ x.2.2 ++ [(kt b n i - 22, 0)] ++ y.2.2 = w ++ pm V ++ (x.2.2 ++ [opc (kt b n i)] ++ y.2.2)
        unfold opc
        simp [List.append_assoc]
    have set : zSv g (D + 3) mX9_settle [xr 95, xi 5] h (fun h1 => (¬ h.2 95 10 = 42 → zJ g (D + 4) 175 0 0 73 [xr 95, xi (h.2 95 10), xu] [xr 95] h1 (x_qi (fun x1 h1 => zJ g (D + 5) 176 0 0 42 [xr 95, xu] [xi x1] h1 (x_qi Q)))) ∧ (h.2 95 10 = 42 → zSv g (D + 3) mX9_push [xr 95, xi 5] h1 (fun h2 => ((0 : Int) = 0 ∨ (0 : Int) = 1) ∧ zSv g (D + 3) mX9_nextToken [xr 95] (h2.1, x_up h2.2 95 20 0) (fun h3 => zJ g (D + 5) 176 0 0 42 [xr 95, xu] [xi 0] h3 (x_qi Q))))) := by
      refine r_settle (J_hd hJ h40) (by omega) (by omega) v2 B R (by omega) (fun h1 f1 R1 => ?_)
      have B1 := rpB_f B f1
      refine ⟨fun z => zX9_behindOne_73 (r_pushS R1 (by omega) (fun h2 f2 R2 => go (rpf_trans f1 f2) (rpB_f B1 f2) ?_)), fun z => r_pushS R1 (by omega) (fun h2 f2 R2 => go (rpf_trans f1 f2) (rpB_f B1 f2) ?_)⟩
      · have k28 : kt b n i = 28 := by
          rcases k1 with k1 | k1
          · exact absurd (t42.mpr k1) z
          · exact k1
        rw [k28]; exact R2
      · have k27 : kt b n i = 27 := t42.mp z
        rw [k27]; exact R2
    refine hd_1 R (by omega) (Or.inl (by omega)) (eX9_behindOne (zX9_behindOne_0 ⟨fun z => by have := t43.mp z; omega, fun _ => ⟨fun _ => zX9_behindOne_45 ⟨fun z => zX9_behindOne_57 set, fun z1 => ⟨fun z2 => ?_, fun z2 => zX9_behindOne_57 set⟩⟩, fun z => by have := t45.mp z; omega⟩⟩))
    exfalso
    rcases k1 with k1 | k1
    · exact z1 (t42.mpr k1)
    · exact z2 (t47.mpr k1)
  · rw [if_neg k1] at h0
    exact h0 rfl h w V (rpf_refl h) hV (List.append_nil _).symm k1 R
theorem k_Sml {O P : Nat → Nat → Rs} {L : Nat → Int → Nat → Rs} {o i : Nat} {j : Int} (hK : kt b n E = 36) (hE3 : E ≤ 300) (hi : i ≤ E) (hj : j = -1 ∨ j = 25 ∨ j = 26) (hO : kO g b n t0 o i (O o i) ∧ rsO E o i (O o i)) (hP : ∀ i', i < i' → i' ≤ E → kP g b n t0 o i' (P o i') ∧ rsP E o i' (P o i')) (hL : ∀ i' j', i < i' → i' ≤ E → j' = 25 ∨ j' = 26 → kL g b n t0 o j' i' (L o j' i')) : kL g b n t0 o j i (pSml (kt b n) O P L o j i) := by
  intro D h w P0 Q ho hl h40 B R hw hi3 hf h0
  obtain ⟨hJ, jm⟩ := jpl_J hj
  obtain ⟨q1, q2⟩ := isJ_r hJ
  have lj : (jpl j ++ P0).length = (jpl j).length + P0.length := List.length_append
  unfold pSml at hf h0
  obtain ⟨j1, p1⟩ := hO
  generalize O o i = x at j1 p1 hf h0
  refine j1 D h w (jpl j ++ P0) 0 o Q rfl ho (by omega) (J_hd2 hJ h40) B R (by omega) hi3 (fun z1 h1 f1 e1 => ?_) (fun z1 h1 f1 R1 => ?_)
  · rw [bnd_f z1] at hf
    exact hf z1 h1 f1 e1
  rw [bnd_0 z1] at hf h0
  obtain ⟨a1, a2, a3, -, -⟩ := p1.2 z1
  have R1 : rpS b n t0 h1 x.2.1 (w ++ x.2.2) ([] ++ (jpl j ++ P0)) o 1 := by
    have := R1
    rw [show w ++ x.2.2 ++ List.replicate 0 ((2 : Int), (0 : Int)) = w ++ x.2.2 from List.append_nil _] at this
    exact this
  have lw : (w ++ x.2.2).length = w.length + x.2.2.length := List.length_append
  have B1 := rpB_f B f1
  obtain ⟨j2, p2⟩ := hP x.2.1 (by omega) a2
  generalize P o x.2.1 = y at j2 p2 hf h0
  refine j2 D h1 (w ++ x.2.2) [] (jpl j) P0 Q ho hl h40 hJ (Or.inl rfl) B1 R1 (by rw [lw]; show _ + (0 + _) ≤ _; omega) (by omega) (fun z2 h2 f2 e2 => ?_) (fun z2 h2 w' V' f2 hV' he hk R2 => ?_)
  · rw [bnd_f z2] at hf
    exact hf z2 h2 (rpf_trans f1 f2) e2
  rw [bnd_0 z2] at hf h0
  obtain ⟨b1, b2, b3, -, -⟩ := p2.2 z2
  have he : w' ++ pm V' = w ++ x.2.2 ++ y.2.2 := by rw [he]; show w ++ x.2.2 ++ [] ++ y.2.2 = _; rw [List.append_nil]
  have f02 := rpf_trans f1 f2
  have B2 := rpB_f B1 f2
  obtain ⟨v1, v2⟩ := isV_r hV'
  have ly : (w ++ x.2.2 ++ y.2.2).length = w.length + x.2.2.length + y.2.2.length := by rw [List.length_append, lw]
  have ly' : w'.length + V'.length = w.length + x.2.2.length + y.2.2.length := by rw [← ly, ← he, List.length_append, pm_l]
  have hU : ∀ u ∈ V' ++ jpl j, 3 ≤ u ∧ u < 40 := fun u hu => by
    rcases List.mem_append.mp hu with z | z
    · have := v2 u z; omega
    · have := q2 u z; omega
  have lU : (V' ++ jpl j).length = V'.length + (jpl j).length := List.length_append
  have pmU : pm (V' ++ jpl j) = pm V' ++ jop j := by unfold pm; rw [List.map_append]; exact congrArg _ jm
  have e3 : w' ++ pm (V' ++ jpl j) = w ++ (x.2.2 ++ y.2.2 ++ jop j) := by rw [pmU, ← List.append_assoc, he]; simp [List.append_assoc]
  have R3 : rpS b n t0 h2 y.2.1 w' ((V' ++ jpl j) ++ P0) o 1 := by rw [List.append_assoc]; exact R2
  by_cases k1 : kt b n y.2.1 = 25 ∨ kt b n y.2.1 = 26
  · rw [if_pos k1] at hf h0
    have e0 := lt_E (K := kt b n) hK b2 (rfl : kt b n y.2.1 = kt b n y.2.1) (by omega)
    obtain ⟨-, -, -, -, -, -, t43, t45, -⟩ := tk_i (b := b) (n := n) (q := ps b n y.2.1)
    rw [← R3.1.2.2.1] at t43 t45
    have go : ∀ {h3 : xH}, rpf t0 h h3 → rpB b n t0 h3 → rpS b n t0 h3 y.2.1 (w ++ (x.2.2 ++ y.2.2 ++ jop j)) ((kt b n y.2.1 - 22) :: P0) o 1 → ((0 : Int) = 0 ∨ (0 : Int) = 1) ∧ zSv g (D + 3) mX9_nextToken [xr 95] (h3.1, x_up h3.2 95 20 0) (fun h4 => zJ g (D + 5) 176 0 0 42 [xr 95, xu] [xi 0] h4 (x_qi Q)) := by
      intro h3 f3 B3 R4
      have f4 : rpf t0 h3 (h3.1, x_up h3.2 95 20 0) := rpf_95 (by decide)
      refine ⟨Or.inl rfl, r_nextS (rpB_f B3 f4) (rpS_95 R4) (fun h5 f5 R5 => hd_r0 ?_)⟩
      have f05 := rpf_trans (rpf_trans f3 f4) f5
      have B5 := rpB_f (rpB_f B3 f4) f5
      have j3 := hL (y.2.1 + 1) (kt b n y.2.1) (by omega) (by omega) k1
      generalize L o (kt b n y.2.1) (y.2.1 + 1) = u at j3 hf h0
      have je : jpl (kt b n y.2.1) = [kt b n y.2.1 - 22] := by unfold jpl; rw [if_neg (by omega)]
      refine j3 D h5 (w ++ (x.2.2 ++ y.2.2 ++ jop j)) P0 Q ho hl h40 B5 (by rw [je]; exact R5) (by rw [je, ← e3, List.length_append, pm_l, lU]; show _ + (1 + _) ≤ _; omega) (by omega) (fun z3 h6 f6 e6 => ?_) (fun z3 h6 w6 U6 f6 hU6 lU6 he6 hk6 R6 => ?_)
      · rw [bnd_f z3] at hf
        exact hf z3 h6 (rpf_trans f05 f6) e6
      · rw [bnd_0 z3] at h0
        refine h0 rfl h6 w6 U6 (rpf_trans f05 f6) hU6 lU6 ?_ hk6 R6
        dsimp only
        rw [he6, List.append_assoc]
    have set : zSv g (D + 3) mX9_settle [xr 95, xi 3] h2 (fun h3 => (¬ h2.2 95 10 = 43 → zJ g (D + 4) 175 0 0 33 [xr 95, xi (h2.2 95 10), xu] [xr 95] h3 (x_qi (fun x1 h1 => zJ g (D + 5) 176 0 0 42 [xr 95, xu] [xi x1] h1 (x_qi Q)))) ∧ (h2.2 95 10 = 43 → zSv g (D + 3) mX9_push [xr 95, xi 3] h3 (fun h4 => ((0 : Int) = 0 ∨ (0 : Int) = 1) ∧ zSv g (D + 3) mX9_nextToken [xr 95] (h4.1, x_up h4.2 95 20 0) (fun h5 => zJ g (D + 5) 176 0 0 42 [xr 95, xu] [xi 0] h5 (x_qi Q))))) := by
      refine r_settle (fun x P' e => Or.inl (h40 x P' e)) (by omega) (by omega) hU B2 R3 (by omega) (fun h3 f3 R4 => ?_)
      have B3 := rpB_f B2 f3
      have R4 : rpS b n t0 h3 y.2.1 (w ++ (x.2.2 ++ y.2.2 ++ jop j)) P0 o 1 := by rw [← e3]; exact R4
      refine ⟨fun z => zX9_behindOne_33 (r_pushS R4 (by omega) (fun h4 f4 R5 => go (rpf_trans (rpf_trans f02 f3) f4) (rpB_f B3 f4) ?_)), fun z => r_pushS R4 (by omega) (fun h4 f4 R5 => go (rpf_trans (rpf_trans f02 f3) f4) (rpB_f B3 f4) ?_)⟩
      · have k26 : kt b n y.2.1 = 26 := by
          rcases k1 with k1 | k1
          · exact absurd (t43.mpr k1) z
          · exact k1
        rw [k26]; exact R5
      · have k25 : kt b n y.2.1 = 25 := t43.mp z
        rw [k25]; exact R5
    refine hd_1 R3 (by rw [List.length_append]; omega) (Or.inl (by omega)) (eX9_behindOne (zX9_behindOne_0 ⟨fun z => zX9_behindOne_17 set, fun z1 => ⟨fun z2 => ?_, fun z2 => zX9_behindOne_17 set⟩⟩))
    exfalso
    rcases k1 with k1 | k1
    · exact z1 (t43.mpr k1)
    · exact z2 (t45.mpr k1)
  · rw [if_neg k1] at h0
    exact h0 rfl h2 w' (V' ++ jpl j) f02 hU (by omega) e3 (by show ¬ (25 ≤ kt b n y.2.1 ∧ kt b n y.2.1 ≤ 28); omega) R3
theorem kS_of {o i : Nat} {x : Rs} (hL : kL g b n t0 o (-1) i x) : kS g b n t0 o i x := by
  intro D h w P0 Q ho hl h40 B R hw hi3 hf h0
  exact hL D h w P0 Q ho hl h40 B R (by show _ + (0 + _) ≤ _; omega) hi3 hf h0
/-- ones, products, sums of the reference are the pure reader's -/
theorem k_pp (hK : kt b n E = 36) (hE3 : E ≤ 300) (hN : ∀ i, 0 ≤ nmt b n i) : ∀ (m i : Nat), i ≤ E → E < i + m → ∀ o, kO g b n t0 o i ((pp (kt b n) (nmt b n) m).1 o i) ∧ kP g b n t0 o i ((pp (kt b n) (nmt b n) m).2.1 o i) ∧ ∀ j, (j = -1 ∨ j = 25 ∨ j = 26) → kL g b n t0 o j i ((pp (kt b n) (nmt b n) m).2.2 o j i)
  | 0, i, h1, h2 => by omega
  | m + 1, i, h1, h2 => by
    intro o
    have ih := k_pp hK hE3 hN m
    have pk := pp_ok (K := kt b n) (N := nmt b n) (E := E) hK hN m
    have pk1 := pp_ok (K := kt b n) (N := nmt b n) (E := E) hK hN (m + 1)
    have a : ∀ i, i ≤ E → E < i + (m + 1) → kO g b n t0 o i ((pp (kt b n) (nmt b n) (m + 1)).1 o i) := fun i h1 h2 => k_One hK hE3 h1 (fun i' q1 q2 q3 => ⟨(ih i' q2 (by omega) (o + 1)).1, (pk i' q2 (by omega) (o + 1)).1⟩) (fun i' q1 q2 q3 => ⟨kS_of ((ih i' q2 (by omega) (o + 1)).2.2 (-1) (Or.inl rfl)), (pk i' q2 (by omega) (o + 1)).2.2 (-1) (Or.inl rfl)⟩)
    have c : ∀ i, i ≤ E → E < i + (m + 1) → kP g b n t0 o i ((pp (kt b n) (nmt b n) (m + 1)).2.1 o i) := fun i h1 h2 => k_Prd hK hE3 h1 (fun i' q1 q2 => ⟨(ih i' q2 (by omega) o).1, (pk i' q2 (by omega) o).1⟩) (fun i' q1 q2 => ⟨(ih i' q2 (by omega) o).2.1, (pk i' q2 (by omega) o).2.1⟩)
    exact ⟨a i h1 h2, c i h1 h2, fun j hj => k_Sml hK hE3 h1 hj ⟨a i h1 h2, (pk1 i h1 h2 o).1⟩ (fun i' q1 q2 => ⟨c i' q2 (by omega), (pk1 i' q2 (by omega) o).2.1⟩) (fun i' j' q1 q2 q3 => (ih i' q2 (by omega) o).2.2 j' (Or.inr q3))⟩
end RP3
