/-! brackets and ones of the reference -/
section RP2
variable {g : xG} {D : Nat} {b : Nat → Int} {n t0 E : Nat} {h : xH} {Q : Int → xH → Prop}
theorem k_160 {i o1 c : Nat} {w : List (Int × Int)} {P0 : List Int} {op : Int} (es : List (Int × Int)) (B : rpB b n t0 h) (S : rpS b n t0 h i w (op :: (List.replicate c 2 ++ P0)) (o1 + c + 1) 1) (ho : o1 + c ≤ 8) (hp : (op = 40 ∧ es = []) ∨ (op = 43 ∧ es = [(7, 0)]) ∨ (op = 44 ∧ es = [(8, 0)])) (h2 : hd2 P0) (hl : P0.length ≤ 50) (hw : w.length + 1 + c ≤ 310) (kk : ∀ h1, rpf t0 h h1 → rpS b n t0 h1 (i + 1) (w ++ es ++ List.replicate c (2, 0)) P0 o1 1 → Hd g D h1 Q) : zJ g (D + 4) 175 0 0 160 [xr 95, xu, xi op] [] h (x_qi (fun x1 h1 => zJ g (D + 5) 176 0 0 42 [xr 95, xu] [xi x1] h1 (x_qi Q))) := by
  have s5 : h.2 95 18 = ((List.replicate c 2 ++ P0 : List Int).length : Int) + 1 := S.2.2.2.2.1
  have s7 := S.2.2.2.2.2.2.1
  have l2 : (List.replicate c 2 ++ P0 : List Int).length = c + P0.length := by rw [List.length_append, List.length_replicate]
  have S1 := rpS_pop S
  have S2 := rpS_19 (o2 := o1 + c) S1
  have f1 : rpf t0 h (h.1, x_up h.2 95 18 ((List.replicate c 2 ++ P0 : List Int).length : Int)) := rpf_95 (by decide)
  have f2 := rpf_trans f1 (rpf_95 (j := 19) (v := ((o1 + c : Nat) : Int)) (by decide))
  have B2 := rpB_f B f2
  -- whole, next token
  have fin : ∀ {h3 : xH}, rpf t0 h h3 → rpB b n t0 h3 → rpS b n t0 h3 i (w ++ es) (List.replicate c 2 ++ P0) (o1 + c) 1 → (w ++ es).length + c ≤ 310 → zSv g (D + 3) mX9_whole [xr 95] h3 (fun h4 => zSv g (D + 3) mX9_nextToken [xr 95] h4 (fun h5 => zJ g (D + 5) 176 0 0 42 [xr 95, xu] [xi 0] h5 (x_qi Q))) := by
    intro h3 f3 B3 S3 l3
    refine r_wholeS B3 S3 h2 l3 (by omega) (by omega) (by omega) (fun h4 f4 S4 => ?_)
    exact r_nextS (rpB_f B3 f4) S4 (fun h5 f5 S5 => hd_r0 (kk h5 (rpf_trans (rpf_trans f3 f4) f5) S5))
  refine zX9_behindOne_160 ?_
  rw [s5, x32_id (x := ((List.replicate c 2 ++ P0 : List Int).length : Int) + 1 - 1) (by omega) (by omega), show ((List.replicate c 2 ++ P0 : List Int).length : Int) + 1 - 1 = ((List.replicate c 2 ++ P0 : List Int).length : Int) by omega, x_up_j (show 19 ≠ 18 by decide), s7, x32_id (by omega) (by omega), show ((o1 + c + 1 : Nat) : Int) - 1 = ((o1 + c : Nat) : Int) by omega]
  refine ⟨fun z => zX9_behindOne_204 ?_, fun z => ⟨fun z2 => zX9_behindOne_198 ?_, fun z2 => ?_⟩⟩
  · have he : es = [] := by rcases hp with y | y | y; · exact y.2
                            · omega
                            · omega
    rw [he, List.append_nil] at fin
    exact fin f2 B2 S2 (by omega)
  · have he : es = [(8, 0)] := by rcases hp with y | y | y; · omega
                                  · omega
                                  · exact y.2
    rw [he] at fin
    exact r_emitS B2 S2 (by omega) (fun h3 f3 S3 => fin (rpf_trans f2 f3) (rpB_f B2 f3) S3 (by rw [List.length_append]; exact hw))
  · have he : es = [(7, 0)] := by rcases hp with y | y | y; · omega
                                  · exact y.2
                                  · omega
    rw [he] at fin
    exact r_emitS B2 S2 (by omega) (fun h3 f3 S3 => fin (rpf_trans f2 f3) (rpB_f B2 f3) S3 (by rw [List.length_append]; exact hw))
/-- a bracket that is open -/
theorem k_Br {S : Nat → Nat → Rs} {i o1 c : Nat} {w : List (Int × Int)} {P0 : List Int} {op pr : Int} (hS : ∀ i', i < i' → i' ≤ E → kS g b n t0 (o1 + c + 1) i' (S (o1 + c + 1) i') ∧ rsL E (o1 + c + 1) (-1) i' (S (o1 + c + 1) i')) (hK : kt b n E = 36) (hE3 : E ≤ 300) (hi : i ≤ E) (k29 : kt b n i = 29) (ho : o1 + c < 8) (hp : (pr = -1 ∧ op = 40) ∨ (pr = 19 ∧ op = 41) ∨ (pr = 20 ∧ op = 42)) (B : rpB b n t0 h) (R : rpS b n t0 h (i + 1) w (op :: (List.replicate c 2 ++ P0)) (o1 + c + 1) 0) (hl : P0.length ≤ 3 * o1 + 2) (h2 : hd2 P0) (hw : w.length + (c + P0.length) ≤ i)
    (hf : (pBr (kt b n) S (o1 + c) pr i).1 ≠ 0 → ∀ h1, rpf t0 h h1 → h1.2 95 9 = (ps b n (pBr (kt b n) S (o1 + c) pr i).2.1 : Int) → Q (pBr (kt b n) S (o1 + c) pr i).1 h1)
    (h0 : (pBr (kt b n) S (o1 + c) pr i).1 = 0 → ∀ h1, rpf t0 h h1 → rpS b n t0 h1 (pBr (kt b n) S (o1 + c) pr i).2.1 (w ++ (pBr (kt b n) S (o1 + c) pr i).2.2 ++ List.replicate c (2, 0)) P0 o1 1 → Hd g D h1 Q) : Hd g D h Q := by
  unfold pBr at hf h0
  rw [if_neg (fun z => z k29), if_neg (by omega)] at hf h0
  have e0 := lt_E (K := kt b n) hK hi k29 (by decide)
  have l2 : (List.replicate c 2 ++ P0 : List Int).length = c + P0.length := by rw [List.length_append, List.length_replicate]
  have lp : ∀ q : Int, (q :: (List.replicate c 2 ++ P0) : List Int).length = c + P0.length + 1 := fun q => by rw [List.length_cons, l2]
  have h40 : ∀ q : Int, 40 ≤ q → hd40 (q :: (List.replicate c 2 ++ P0)) := fun q hq x P' e => by injection e with e1 e2; omega
  obtain ⟨j1, p1⟩ := hS (i + 1) (by omega) (by omega)
  generalize S (o1 + c + 1) (i + 1) = x at j1 p1 hf h0
  refine j1 D h w _ Q (by omega) (by rw [lp]; omega) (h40 op (by omega)) B R (by rw [lp]; omega) (by omega) (fun z1 h1 f1 e1 => ?_) (fun z1 h1 w' U f1 hU lU he hg S1 => ?_)
  · rw [bnd_f z1] at hf
    exact hf z1 h1 f1 e1
  rw [bnd_0 z1] at hf h0
  obtain ⟨a1, a2, a3, -, -⟩ := p1.2 z1
  rw [if_pos rfl] at a3
  have lw : (w ++ x.2.2).length = w.length + x.2.2.length := List.length_append
  have lw' : w'.length + U.length = w.length + x.2.2.length := by rw [← lw, ← he, List.length_append, List.length_map]
  have B1 := rpB_f B f1
  refine hd_b B1 S1 (by omega) hU (by omega) (by omega) (by omega) hg he (fun k31 o41 h3 f3 S3 => ?_) (fun k30 o40 h3 f3 S3 => ?_) (fun y31 y30 h3 f3 e3 => ?_)
  · -- the second sum
    have pr1 : ¬ pr = -1 := by omega
    rw [if_neg pr1, if_neg (fun z => z k31)] at hf h0
    have e1 := lt_E (K := kt b n) hK a2 k31 (by decide)
    obtain ⟨j2, p2⟩ := hS (x.2.1 + 1) (by omega) (by omega)
    generalize S (o1 + c + 1) (x.2.1 + 1) = y at j2 p2 hf h0
    have f03 := rpf_trans f1 f3
    have B3 := rpB_f B1 f3
    refine j2 D h3 (w ++ x.2.2) _ Q (by omega) (by rw [lp]; omega) (h40 (op + 2) (by omega)) B3 S3 (by rw [lp, lw]; omega) (by omega) (fun z2 h4 f4 e4 => ?_) (fun z2 h4 w2 U2 f4 hU2 lU2 he2 hg2 S4 => ?_)
    · rw [bnd_f z2] at hf
      exact hf z2 h4 (rpf_trans f03 f4) e4
    rw [bnd_0 z2] at hf h0
    obtain ⟨b1, b2, b3, -, -⟩ := p2.2 z2
    rw [if_pos rfl] at b3
    have ly : (w ++ x.2.2 ++ y.2.2).length = w.length + x.2.2.length + y.2.2.length := by rw [List.length_append, lw]
    have ly' : w2.length + U2.length = w.length + x.2.2.length + y.2.2.length := by rw [← ly, ← he2, List.length_append, List.length_map]
    have f04 := rpf_trans f03 f4
    have B4 := rpB_f B3 f4
    refine hd_b B4 S4 (by omega) hU2 (by omega) (by omega) (by omega) hg2 he2 (fun q1 q2 => by omega) (fun k30 o43 h5 f5 S5 => ?_) (fun y31 y30 h5 f5 e5 => ?_)
    · rw [if_pos k30] at h0
      refine k_160 [(pr - 12, 0)] (rpB_f B4 f5) S5 (by omega) ?_ h2 (by omega) (by omega) (fun h6 f6 S6 => h0 rfl h6 (rpf_trans (rpf_trans f04 f5) f6) ?_)
      · rcases hp with q | q | q
        · omega
        · right; left; exact ⟨by omega, by rw [q.1]; rfl⟩
        · right; right; exact ⟨by omega, by rw [q.1]; rfl⟩
      · dsimp only
        rw [show w ++ (x.2.2 ++ y.2.2 ++ [(pr - 12, 0)]) = w ++ x.2.2 ++ y.2.2 ++ [(pr - 12, 0)] by simp [List.append_assoc]]
        exact S6
    · have k30 : ¬ kt b n y.2.1 = 30 := fun z => by have := y30 z; omega
      rw [if_neg k30] at hf
      exact hf (show (1 : Int) ≠ 0 by decide) h5 (rpf_trans f04 f5) e5
  · -- shut
    have pr1 : pr = -1 := by omega
    rw [if_pos pr1, if_pos k30] at h0
    refine k_160 [] (rpB_f B1 f3) S3 (by omega) (Or.inl ⟨by omega, rfl⟩) h2 (by omega) (by omega) (fun h6 f6 S6 => h0 rfl h6 (rpf_trans (rpf_trans f1 f3) f6) ?_)
    rw [List.append_nil] at S6
    exact S6
  · by_cases pr1 : pr = -1
    · have k30 : ¬ kt b n x.2.1 = 30 := fun z => by have := y30 z; omega
      rw [if_pos pr1, if_neg k30] at hf
      exact hf (show (1 : Int) ≠ 0 by decide) h3 (rpf_trans f1 f3) e3
    · have k31 : kt b n x.2.1 ≠ 31 := fun z => y31 z (by omega)
      rw [if_neg pr1, if_pos k31] at hf
      exact hf (show (1 : Int) ≠ 0 by decide) h3 (rpf_trans f1 f3) e3
theorem k_One {O S : Nat → Nat → Rs} {o i : Nat} (hK : kt b n E = 36) (hE3 : E ≤ 300) (hi : i ≤ E) (hO : ∀ i', i < i' → i' ≤ E → o < 8 → kO g b n t0 (o + 1) i' (O (o + 1) i') ∧ rsO E (o + 1) i' (O (o + 1) i')) (hS : ∀ i', i < i' → i' ≤ E → o < 8 → kS g b n t0 (o + 1) i' (S (o + 1) i') ∧ rsL E (o + 1) (-1) i' (S (o + 1) i')) : kO g b n t0 o i (pOne (kt b n) (nmt b n) O S o i) := by
  intro D h w P0 c o1 Q eo ho hl h2 B R hw hi3 hf h0
  subst eo
  have s7 : h.2 95 19 = ((o1 + c : Nat) : Int) := R.2.2.2.2.2.2.1
  obtain ⟨-, t1, t40, -, -, -, -, t45, -⟩ := tk_i (b := b) (n := n) (q := ps b n i)
  rw [← R.1.2.2.1] at t1 t40 t45
  have ek : kt b n i = kd b n (ps b n i) := rfl
  have l2 : (List.replicate c 2 ++ P0 : List Int).length = c + P0.length := by rw [List.length_append, List.length_replicate]
  have nn := nb_r (b := b) (n := n) (q := ps b n i) B.1.2.2.1 (ps_b B.1.2.2.1 i).1
  unfold pOne at hf h0
  -- a number or a name: it is put, the next token, whole
  have put : ∀ {x v : Int}, kt b n i ≠ 36 → (∀ h1, rpf t0 h h1 → rpS b n t0 h1 (i + 1) (w ++ [(x, v)] ++ List.replicate c (2, 0)) P0 o1 1 → Hd g D h1 Q) → zSv g (D + 3) mX9_emit [xr 95, xi x, xi v] h (fun h1 => zSv g (D + 3) mX9_nextToken [xr 95] h1 (fun h2 => zSv g (D + 3) mX9_whole [xr 95] h2 (fun h3 => zJ g (D + 5) 176 0 0 42 [xr 95, xu] [xi 0] h3 (x_qi Q)))) := by
    intro x v k36 hq
    refine r_emitS B R (by omega) (fun h1 f1 R1 => ?_)
    refine r_nextS (rpB_f B f1) R1 (fun h3 f3 R3 => ?_)
    refine r_wholeS (rpB_f (rpB_f B f1) f3) R3 h2 (by rw [List.length_append]; show w.length + 1 + c ≤ 310; omega) (by omega) (by omega) (by omega) (fun h4 f4 R4 => hd_r0 (hq h4 (rpf_trans (rpf_trans f1 f3) f4) R4))
  -- what opens
  have opn : ∀ {h1 : xH} {i1 : Nat} {q : Int}, i1 ≤ 300 → w.length + (c + P0.length) ≤ i1 → rpf t0 h h1 → rpB b n t0 h1 → rpS b n t0 h1 i1 w (List.replicate c 2 ++ P0) (o1 + c) 0 → (8 ≤ o1 + c → Q 3 h1) → (o1 + c < 8 → ∀ h2, rpf t0 h h2 → rpB b n t0 h2 → rpS b n t0 h2 (i1 + 1) w (q :: (List.replicate c 2 ++ P0)) (o1 + c + 1) 0 → Hd g D h2 Q) → zJ g (D + 4) 172 0 0 163 [xr 95, xi q] [] h1 (x_qi (fun x1 h1 => zJ g (D + 5) 176 0 0 42 [xr 95, xu] [xi x1] h1 (x_qi Q))) := by
    intro h1 i1 q hi1 hw1 f1 B1 R1 q3 q0
    have s7 : h1.2 95 19 = ((o1 + c : Nat) : Int) := R1.2.2.2.2.2.2.1
    refine zX9_beginOne_163 ⟨fun z => zX9_beginOne_174 ?_, fun z => hd_rf (by decide) (q3 (by omega))⟩
    rw [s7, x32_id (by omega) (by omega), show ((o1 + c : Nat) : Int) + 1 = ((o1 + c + 1 : Nat) : Int) by omega]
    have f2 : rpf t0 h1 (h1.1, x_up h1.2 95 19 ((o1 + c + 1 : Nat) : Int)) := rpf_95 (by decide)
    refine r_pushS (rpS_19 (o2 := o1 + c + 1) R1) (by omega) (fun h3 f3 R3 => ?_)
    have B3 := rpB_f (rpB_f B1 f2) f3
    exact r_nextS B3 R3 (fun h4 f4 R4 => hd_r0 (q0 (by omega) h4 (rpf_trans (rpf_trans (rpf_trans f1 f2) f3) f4) (rpB_f B3 f4) R4))
  refine hd_0 R.2.2.2.2.2.2.2 (eX9_beginOne (zX9_beginOne_0 ⟨fun z => zX9_beginOne_39 ?_, fun z => ?_⟩))
  · have k1 : ¬ kt b n i = 35 := fun y => z (t1.mpr y)
    rw [if_neg k1] at hf h0
    refine r_nameOf R.1 (fun k2 => ?_) (fun k2 => ⟨fun _ => zX9_beginOne_65 ?_, fun y => absurd y (by decide)⟩)
    · rw [if_pos k2] at h0
      have nv : 0 ≤ nmv (kt b n i) ∧ nmv (kt b n i) ≤ 6 := by
        unfold nmv
        split
        · omega
        · split <;> omega
      refine ⟨fun y => by omega, fun _ => r_nameOf R.1 (fun _ => put (by omega) (fun h1 f1 R1 => h0 rfl h1 f1 R1)) (fun y => absurd k2 y)⟩
    rw [if_neg k2] at hf h0
    -- min and max
    have mm : ∀ {q : Int}, (kt b n i = 19 ∧ q = 41) ∨ (kt b n i = 20 ∧ q = 42) → zJ g (D + 4) 172 0 0 135 [xr 95, xu] [xi q] h (x_qi (fun x1 h1 => zJ g (D + 5) 176 0 0 42 [xr 95, xu] [xi x1] h1 (x_qi Q))) := by
      intro q hq
      have k3 : kt b n i = 19 ∨ kt b n i = 20 := by omega
      rw [if_pos k3] at hf h0
      have e0 := lt_E (K := kt b n) hK hi (rfl : kt b n i = kt b n i) (by omega)
      refine zX9_beginOne_135 ⟨fun _ => zX9_beginOne_142 ⟨fun y => by omega, fun _ => r_nextS B R (fun h1 f1 R1 => ?_)⟩, fun y => by omega⟩
      have B1 := rpB_f B f1
      have t40' := (tk_i (b := b) (n := n) (q := ps b n (i + 1))).2.2.1
      rw [← R1.1.2.2.1] at t40'
      refine ⟨fun y => opn (by omega) (by omega) f1 B1 R1 (fun o8 => ?_) (fun o8 h3 f3 B3 R3 => ?_), fun y => ?_⟩
      · unfold pBr at hf
        rw [if_neg (fun x => x (t40'.mp y)), if_pos o8] at hf
        exact hf (show (3 : Int) ≠ 0 by decide) h1 f1 R1.1.2.1
      · exact k_Br (fun i' q1 q2 => hS i' (by omega) q2 o8) hK hE3 (by omega) (t40'.mp y) o8 (by omega) B3 R3 hl h2 (by omega) (fun z1 h4 f4 e4 => hf z1 h4 (rpf_trans f3 f4) e4) (fun z1 h4 f4 R4 => h0 z1 h4 (rpf_trans f3 f4) R4)
      · unfold pBr at hf
        rw [if_pos (fun x => y (t40'.mpr x))] at hf
        exact hd_rf (by decide) (hf (show (1 : Int) ≠ 0 by decide) h1 f1 R1.1.2.1)
    refine r_w3 (by decide) (by decide) (by decide) (r_isWord (w := 19) R.1 (by decide) (by decide) (fun k3 => ⟨fun y => absurd y (by decide), fun _ => mm (Or.inl ⟨k3, rfl⟩)⟩) (fun k3 => ⟨fun _ => zX9_beginOne_86 ?_, fun y => absurd rfl y⟩))
    refine r_w3 (by decide) (by decide) (by decide) (r_isWord (w := 20) R.1 (by decide) (by decide) (fun k4 => ⟨fun y => absurd y (by decide), fun _ => mm (Or.inr ⟨k4, rfl⟩)⟩) (fun k4 => ⟨fun _ => zX9_beginOne_107 ?_, fun y => absurd rfl y⟩))
    have k3 : kt b n i ≠ 19 := k3
    have k4 : kt b n i ≠ 20 := k4
    rw [if_neg (by omega)] at hf h0
    refine ⟨fun y40 => zX9_beginOne_121 ⟨fun y45 => zX9_beginOne_134 (zX9_beginOne_135 ⟨fun y => absurd rfl y, fun _ => ?_⟩), fun y45 => zX9_beginOne_135 ⟨fun _ => zX9_beginOne_142 ⟨fun _ => ?_, fun y => absurd y (by decide)⟩, fun y => absurd y (by decide)⟩⟩, fun y40 => zX9_beginOne_135 ⟨fun _ => zX9_beginOne_142 ⟨fun _ => ?_, fun y => absurd y (by decide)⟩, fun y => absurd y (by decide)⟩⟩
    · have k5 : ¬ kt b n i = 26 := fun x => y45 (t45.mpr x)
      have k6 : kt b n i ≠ 29 := fun x => y40 (t40.mpr x)
      rw [if_neg k5] at hf
      unfold pBr at hf
      rw [if_pos k6] at hf
      exact hd_rf (by decide) (hf (show (1 : Int) ≠ 0 by decide) h (rpf_refl h) R.1.2.1)
    · have k5 : kt b n i = 26 := t45.mp y45
      rw [if_pos k5] at hf h0
      have e0 := lt_E (K := kt b n) hK hi k5 (by decide)
      refine opn (by omega) (by omega) (rpf_refl h) B R (fun o8 => ?_) (fun o8 h3 f3 B3 R3 => ?_)
      · rw [if_pos o8] at hf
        exact hf (show (3 : Int) ≠ 0 by decide) h (rpf_refl h) R.1.2.1
      · rw [if_neg (by omega)] at hf h0
        obtain ⟨j1, p1⟩ := hO (i + 1) (by omega) (by omega) o8
        generalize O (o1 + c + 1) (i + 1) = x at j1 p1 hf h0
        refine j1 D h3 w P0 (c + 1) o1 Q (by omega) (by omega) hl h2 B3 R3 (by omega) (by omega) (fun z1 h4 f4 e4 => ?_) (fun z1 h4 f4 R4 => ?_)
        · rw [bnd_f z1] at hf
          exact hf z1 h4 (rpf_trans f3 f4) e4
        · rw [bnd_0 z1] at h0
          refine h0 rfl h4 (rpf_trans f3 f4) ?_
          dsimp only
          rw [show w ++ (x.2.2 ++ [(2, 0)]) ++ List.replicate c (2, 0) = w ++ x.2.2 ++ List.replicate (c + 1) (2, 0) by rw [List.replicate_succ]; simp [List.append_assoc]]
          exact R4
    · have k5 : ¬ kt b n i = 26 := by have := t40.mp y40; omega
      rw [if_neg k5] at hf h0
      refine opn (by omega) (by omega) (rpf_refl h) B R (fun o8 => ?_) (fun o8 h3 f3 B3 R3 => ?_)
      · unfold pBr at hf
        rw [if_neg (fun x => x (t40.mp y40)), if_pos o8] at hf
        exact hf (show (3 : Int) ≠ 0 by decide) h (rpf_refl h) R.1.2.1
      · exact k_Br (fun i' q1 q2 => hS i' (by omega) q2 o8) hK hE3 hi (t40.mp y40) o8 (Or.inl ⟨rfl, rfl⟩) B3 R3 hl h2 (by omega) (fun z1 h4 f4 e4 => hf z1 h4 (rpf_trans f3 f4) e4) (fun z1 h4 f4 R4 => h0 z1 h4 (rpf_trans f3 f4) R4)
  · have k1 : kt b n i = 35 := t1.mp z
    rw [if_pos k1] at hf h0
    have dg : isDg (b (ps b n i)) = true := by
      have e1 : tc b n (ps b n i) = 1 := by rw [← R.1.2.2.1]; exact z
      unfold tc at e1
      split at e1
      · omega
      · split at e1
        · assumption
        · split at e1
          · omega
          · rename_i x1 x2 x3
            have q1 : isLt (b (ps b n i)) = false := by
              cases x : isLt (b (ps b n i))
              · rfl
              · exact absurd x x3
            have q2 : isDg (b (ps b n i)) = false := by
              cases x : isDg (b (ps b n i))
              · rfl
              · exact absurd x x2
            exact absurd e1 (tk_s (c := b (ps b n i)) (d := b (ps b n i + 1)) q1 q2).1.2.1
    have e11 := R.1.2.2.2.1 dg
    rw [← e11] at nn
    refine ⟨fun z2 => zX9_beginOne_20 ?_, fun z2 => hd_rf (by decide) ?_⟩
    · have ev : nmt b n i = h.2 95 11 := by show nb b n (ps b n i) = _; omega
      rw [if_neg (by rw [ev]; omega), ev] at h0
      exact put (by omega) (fun h1 f1 R1 => h0 rfl h1 f1 R1)
    · rw [if_pos (by show 9999 < nb b n (ps b n i); omega)] at hf
      exact hf (show (2 : Int) ≠ 0 by decide) h (rpf_refl h) R.1.2.1
end RP2
