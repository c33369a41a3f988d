/-! conditions of the reference -/
section RPA
variable {g : xG} {b : Nat → Int} {n t0 E : Nat}
theorem l_not {D : Nat} {i o : Nat} {Q : Int → xH → Prop} {h0 : xH} : ∀ (m k : Nat) (w : List (Int × Int)) {h : xH} {w2 w3 : xV}, k + m = o → o ≤ 8 → rpf t0 h0 h → rpB b n t0 h → rpS b n t0 h i w [] 0 1 → w.length + m ≤ 310 → (∀ h1, rpf t0 h0 h1 → rpS b n t0 h1 i (w ++ List.replicate m (20, 0)) [] 0 1 → Q 0 h1) → zJ g (D + 1) 178 0 0 105 [xr 95, xi (o : Int), w2, w3, xi (k : Int)] [] h (x_qi Q)
  | 0, k, w, h, w2, w3, e, ho, f, B, R, hl, hQ => by
    refine zX9_ask_105 ⟨fun _ => zX9_ask_124 (hQ h f ?_), fun z => by omega⟩
    rw [show w ++ List.replicate 0 ((20 : Int), (0 : Int)) = w from List.append_nil w]; exact R
  | m + 1, k, w, h, w2, w3, e, ho, f, B, R, hl, hQ => by
    refine zX9_ask_105 ⟨fun z => by omega, fun _ => r_emitS B R (by omega) (fun h1 f1 R1 => ?_)⟩
    rw [x32_id (by omega) (by omega), show (k : Int) + 1 = ((k + 1 : Nat) : Int) by omega]
    refine l_not m (k + 1) (w ++ [(20, 0)]) (by omega) ho (rpf_trans f f1) (rpB_f B f1) R1 (by rw [List.length_append]; show w.length + 1 + m ≤ 310; omega) (fun h2 f2 R2 => hQ h2 f2 ?_)
    rw [show w ++ List.replicate (m + 1) ((20 : Int), (0 : Int)) = w ++ [(20, 0)] ++ List.replicate m (20, 0) by rw [List.append_assoc]; rfl]
    exact R2
theorem k_Ask {S : Nat → Nat → Rs} (hK : kt b n E = 36) (hE3 : E ≤ 300) (hS : ∀ o i, i ≤ E → rsL E o (-1) i (S o i)) (kSs : ∀ o i, i ≤ E → kS g b n t0 o i (S o i)) : ∀ (m o i : Nat), o ≤ 8 → i ≤ E → E < i + m → ∀ (D : Nat) (h : xH) (w : List (Int × Int)) (Q : Int → xH → Prop) (w2 w3 w4 : xV), rpB b n t0 h → rpS0 b n t0 h i w o → w.length + o ≤ i → ((pAsk (kt b n) S m o i).1 ≠ 0 → ∀ h1, rpf t0 h h1 → h1.2 95 9 = (ps b n (pAsk (kt b n) S m o i).2.1 : Int) → Q (pAsk (kt b n) S m o i).1 h1) → ((pAsk (kt b n) S m o i).1 = 0 → ∀ h1, rpf t0 h h1 → rpS b n t0 h1 (pAsk (kt b n) S m o i).2.1 (w ++ (pAsk (kt b n) S m o i).2.2 ++ List.replicate o (20, 0)) [] 0 1 → Q 0 h1) → zJ g (D + 6) 178 0 0 2 [xr 95, xi (o : Int), w2, w3, w4] [] h (x_qi Q)
  | 0, o, i, ho, h1, h2 => by omega
  | m + 1, o, i, ho, hi, h2 => by
    intro D h w Q w2 w3 w4 B R hw hf h0
    have s7 := R.2.2.2.2
    unfold pAsk at hf h0
    refine zX9_ask_2 (r_w3 (by decide) (by decide) (by decide) (r_isWord (w := 18) R.1 (by decide) (by decide) (fun k1 => ⟨fun z => absurd z (by decide), fun _ => ⟨fun z => zX9_ask_29 ?_, fun z => ?_⟩⟩) (fun k1 => ⟨fun _ => zX9_ask_49 ?_, fun z => absurd rfl z⟩)))
    · have k1 : kt b n i = 18 := k1
      have o8 : ¬ 8 ≤ o := by omega
      rw [if_pos k1, if_neg o8] at hf h0
      have e0 := lt_E (K := kt b n) hK hi k1 (by decide)
      rw [s7, x32_id (by omega) (by omega), show (o : Int) + 1 = ((o + 1 : Nat) : Int) by omega]
      have f1 : rpf t0 h (h.1, x_up h.2 95 19 ((o + 1 : Nat) : Int)) := rpf_95 (by decide)
      refine r_nextZ (rpB_f B f1) (rpS0_19 (o2 := o + 1) R) (fun h3 f3 R3 => ?_)
      have f03 := rpf_trans f1 f3
      refine k_Ask hK hE3 hS kSs m (o + 1) (i + 1) (by omega) (by omega) (by omega) D h3 w Q _ _ _ (rpB_f (rpB_f B f1) f3) R3 (by omega) (fun z1 h4 f4 e4 => ?_) (fun z1 h4 f4 R4 => ?_)
      · rw [bnd_f z1] at hf
        exact hf z1 h4 (rpf_trans f03 f4) e4
      · rw [bnd_0 z1] at h0
        refine h0 rfl h4 (rpf_trans f03 f4) ?_
        dsimp only
        rw [List.replicate_succ] at R4
        rw [show w ++ ((pAsk (kt b n) S m (o + 1) (i + 1)).2.2 ++ [(20, 0)]) ++ List.replicate o (20, 0) = w ++ (pAsk (kt b n) S m (o + 1) (i + 1)).2.2 ++ (20, 0) :: List.replicate o (20, 0) by simp [List.append_assoc]]
        exact R4
    · have k1 : kt b n i = 18 := k1
      rw [if_pos k1, if_pos (by omega)] at hf
      exact hf (show (3 : Int) ≠ 0 by decide) h (rpf_refl h) R.1.2.1
    · have k1 : ¬ kt b n i = 18 := k1
      rw [if_neg k1] at hf h0
      have p1 := hS o i hi
      have j1 := kSs o i hi
      generalize S o i = x at j1 p1 hf h0
      have hx : x.1 = 0 → x.2.2.length + i ≤ x.2.1 ∧ x.2.1 ≤ 300 := fun z => by
        obtain ⟨a1, a2, a3, -, -⟩ := p1.2 z
        rw [if_pos rfl] at a3
        omega
      refine r_summed0 j1 ho B R (by omega) (by omega) hx (fun z1 h1 f1 e1 => ⟨fun z => absurd z z1, fun _ => ?_⟩) (fun z1 h1 f1 R1 => ⟨fun _ => zX9_ask_60 ?_, fun z => absurd rfl z⟩)
      · rw [bnd_f z1] at hf
        exact hf z1 h1 f1 e1
      rw [bnd_0 z1] at hf h0
      obtain ⟨a1, a2, a3, -, -⟩ := p1.2 z1
      rw [if_pos rfl] at a3
      have B1 := rpB_f B f1
      have lw : (w ++ x.2.2).length = w.length + x.2.2.length := List.length_append
      refine r_compareOf R1.1 (fun k2 => ⟨fun _ => zX9_ask_71 ?_, fun z => by have := (cm_r k2).1; omega⟩) (fun k2 => ⟨fun z => absurd z (by decide), fun _ => ?_⟩)
      · rw [if_pos k2] at hf h0
        have cr := cm_r k2
        have e0 := lt_E (K := kt b n) hK a2 (rfl : kt b n x.2.1 = kt b n x.2.1) (by omega)
        refine r_nextS B1 R1 (fun h3 f3 R3 => ?_)
        have p2 := hS o (x.2.1 + 1) (by omega)
        have j2 := kSs o (x.2.1 + 1) (by omega)
        generalize S o (x.2.1 + 1) = y at j2 p2 hf h0
        have hy : y.1 = 0 → y.2.2.length + (x.2.1 + 1) ≤ y.2.1 ∧ y.2.1 ≤ 300 := fun z => by
          obtain ⟨b1, b2, b3, -, -⟩ := p2.2 z
          rw [if_pos rfl] at b3
          omega
        have B3 := rpB_f B1 f3
        have f03 := rpf_trans f1 f3
        refine r_summed0 j2 ho B3 (rpS0_of R3) (by omega) (by omega) hy (fun z2 h4 f4 e4 => ⟨fun z => absurd z z2, fun _ => ?_⟩) (fun z2 h4 f4 R4 => ⟨fun _ => zX9_ask_86 ?_, fun z => absurd rfl z⟩)
        · rw [bnd_f z2] at hf
          exact hf z2 h4 (rpf_trans f03 f4) e4
        rw [bnd_0 z2] at h0
        have hy := hy z2
        have ly : (w ++ x.2.2 ++ y.2.2).length = w.length + x.2.2.length + y.2.2.length := by rw [List.length_append, lw]
        have B4 := rpB_f B3 f4
        have f04 := rpf_trans f03 f4
        refine r_emitS B4 R4 (by omega) (fun h5 f5 R5 => ?_)
        have s7' := R5.2.2.2.2.2.2.1
        rw [s7', x32_id (by omega) (by omega), show (o : Int) - o = ((0 : Nat) : Int) by omega]
        have f6 : rpf t0 h5 (h5.1, x_up h5.2 95 19 ((0 : Nat) : Int)) := rpf_95 (by decide)
        refine l_not (h0 := h) o 0 (w ++ x.2.2 ++ y.2.2 ++ [((cmc (kt b n x.2.1)).1, 0)]) (by omega) ho (rpf_trans (rpf_trans f04 f5) f6) (rpB_f (rpB_f B4 f5) f6) (rpS_19 (o2 := 0) R5) (by rw [List.length_append, ly]; show _ + 1 + _ ≤ _; omega) (fun h7 f7 R7 => h0 rfl h7 f7 ?_)
        dsimp only
        rw [show w ++ (x.2.2 ++ y.2.2 ++ [cmc (kt b n x.2.1)]) = w ++ x.2.2 ++ y.2.2 ++ [((cmc (kt b n x.2.1)).1, 0)] by simp [List.append_assoc]; rfl]
        exact R7
      · rw [if_neg k2] at hf
        exact hf (show (1 : Int) ≠ 0 by decide) h1 f1 R1.1.2.1
def kA (g : xG) (b : Nat → Int) (n t0 i : Nat) (x : Rs) : Prop := ∀ (D : Nat) (h : xH) (w : List (Int × Int)) (Q : Int → xH → Prop), rpB b n t0 h → rpS0 b n t0 h i w 0 → w.length ≤ i → (x.1 ≠ 0 → ∀ h1, rpf t0 h h1 → h1.2 95 9 = (ps b n x.2.1 : Int) → Q x.1 h1) → (x.1 = 0 → ∀ h1, rpf t0 h h1 → rpS b n t0 h1 x.2.1 (w ++ x.2.2) [] 0 1 → Q 0 h1) → zSi g (D + 6) mX9_ask [xr 95] h Q
theorem kA_of {S : Nat → Nat → Rs} {m i : Nat} (hK : kt b n E = 36) (hE3 : E ≤ 300) (hS : ∀ o i, i ≤ E → rsL E o (-1) i (S o i)) (kSs : ∀ o i, i ≤ E → kS g b n t0 o i (S o i)) (hi : i ≤ E) (hm : E < i + m) : kA g b n t0 i (pAsk (kt b n) S m 0 i) := by
  intro D h w Q B R hw hf h0
  refine eX9_ask (zX9_ask_0 (k_Ask hK hE3 hS kSs m 0 i (by omega) hi hm D h w Q _ _ _ B R (by omega) hf (fun z h1 f1 R1 => h0 z h1 f1 ?_)))
  rw [show w ++ (pAsk (kt b n) S m 0 i).2.2 ++ List.replicate 0 ((20 : Int), (0 : Int)) = w ++ (pAsk (kt b n) S m 0 i).2.2 from List.append_nil _] at R1
  exact R1
theorem k_And {A : Nat → Rs} (hK : kt b n E = 36) (hE3 : E ≤ 300) (hA : ∀ i, i ≤ E → rsA E i (A i)) (kAs : ∀ i, i ≤ E → kA g b n t0 i (A i)) : ∀ (m i : Nat), i ≤ E → E < i + m → ∀ (D : Nat) (h : xH) (w : List (Int × Int)) (a2 : Int) (Q : Int → xH → Prop) (w1 w3 w4 w5 : xV), rpB b n t0 h → rpS b n t0 h i w [] 0 1 → w.length ≤ i → ((pAnd (kt b n) A m i).1 ≠ 0 → ∀ h1, rpf t0 h h1 → h1.2 95 9 = (ps b n (pAnd (kt b n) A m i).2.1 : Int) → Q (pAnd (kt b n) A m i).1 h1) → ((pAnd (kt b n) A m i).1 = 0 → ∀ (h1 : xH) (w1 w3 w4 w5 : xV), rpf t0 h h1 → kt b n (pAnd (kt b n) A m i).2.1 ≠ 16 → rpS b n t0 h1 (pAnd (kt b n) A m i).2.1 (w ++ (pAnd (kt b n) A m i).2.2) [] 0 1 → zJ g (D + 7) 179 0 0 35 [xr 95, w1, xi a2, w3, w4, w5] [] h1 (x_qi Q)) → zJ g (D + 7) 179 0 0 35 [xr 95, w1, xi a2, w3, w4, w5] [] h (x_qi Q)
  | 0, i, h1, h2 => by omega
  | m + 1, i, hi, h2 => by
    intro D h w a2 Q w1 w3 w4 w5 B R hw hf h0
    unfold pAnd at hf h0
    by_cases k1 : kt b n i = 16
    · rw [if_pos k1] at hf h0
      have e0 := lt_E (K := kt b n) hK hi k1 (by decide)
      -- and it goes on
      have go : ∀ {s0 : Int} {w3 w4 w5 : xV}, zJ g (D + 7) 179 0 0 73 [xr 95, xi 1, xi a2, w3, w4, w5] [xi s0] h (x_qi Q) := by
        intro s0 w3 w4 w5
        refine zX9_either_73 ⟨fun _ => zX9_either_93 ⟨fun _ => zX9_either_102 (zX9_either_107 ⟨fun z => absurd z (by decide), fun _ => ?_⟩), fun z => absurd z (by decide)⟩, fun z => absurd z (by decide)⟩
        refine r_nextS B R (fun h1 f1 R1 => ?_)
        have B1 := rpB_f B f1
        have p1 := hA (i + 1) (by omega)
        have j1 := kAs (i + 1) (by omega)
        generalize A (i + 1) = x at j1 p1 hf h0
        refine zX9_either_6 ⟨fun z => absurd z (by decide), fun _ => j1 D h1 w _ B1 (rpS0_of R1) (by omega) (fun z1 h3 f3 e3 => ⟨fun z => absurd z z1, fun _ => ?_⟩) (fun z1 h3 f3 R3 => ⟨fun _ => zX9_either_24 ⟨fun z => absurd z (by decide), fun _ => ?_⟩, fun z => absurd rfl z⟩)⟩
        · rw [bnd_f z1] at hf
          exact hf z1 h3 (rpf_trans f1 f3) e3
        rw [bnd_0 z1] at hf h0
        obtain ⟨a1, a3, a4, -, -⟩ := p1.2 z1
        have lw : (w ++ x.2.2).length = w.length + x.2.2.length := List.length_append
        have B3 := rpB_f B1 f3
        refine r_emitS B3 R3 (by omega) (fun h4 f4 R4 => ?_)
        have f04 := rpf_trans (rpf_trans f1 f3) f4
        refine k_And hK hE3 hA kAs m x.2.1 a3 (by omega) D h4 (w ++ x.2.2 ++ [(21, 0)]) a2 Q _ _ _ _ (rpB_f B3 f4) R4 (by rw [List.length_append, lw]; show _ + 1 ≤ _; omega) (fun z2 h5 f5 e5 => ?_) (fun z2 h5 u1 u3 u4 u5 f5 k5 R5 => ?_)
        · rw [bnd_f z2] at hf
          exact hf z2 h5 (rpf_trans f04 f5) e5
        · rw [bnd_0 z2] at h0
          refine h0 rfl h5 u1 u3 u4 u5 (rpf_trans f04 f5) k5 ?_
          dsimp only
          rw [show w ++ (x.2.2 ++ [(21, 0)] ++ (pAnd (kt b n) A m x.2.1).2.2) = w ++ x.2.2 ++ [(21, 0)] ++ (pAnd (kt b n) A m x.2.1).2.2 by simp [List.append_assoc]]
          exact R5
      refine zX9_either_35 (r_w3 (by decide) (by decide) (by decide) (r_isWord (w := 16) R.1 (by decide) (by decide) (fun _ => ⟨fun _ => zX9_either_72 go, fun _ => ⟨fun _ => zX9_either_72 go, fun _ => go⟩⟩) (fun z => absurd k1 z)))
    · rw [if_neg k1] at h0
      exact h0 rfl h w1 w3 w4 w5 (rpf_refl h) k1 (by dsimp only; rw [List.append_nil]; exact R)
theorem k_Eit {A C : Nat → Rs} (hK : kt b n E = 36) (hE3 : E ≤ 300) (hA : ∀ i, i ≤ E → rsA E i (A i)) (hC : ∀ i, i ≤ E → rsN E i (C i)) (kAs : ∀ i, i ≤ E → kA g b n t0 i (A i))
    (kNs : ∀ i, i ≤ E → ∀ (D : Nat) (h : xH) (w : List (Int × Int)) (a2 : Int) (Q : Int → xH → Prop) (w1 w3 w4 w5 : xV), rpB b n t0 h → rpS b n t0 h i w [] 0 1 → w.length ≤ i → ((C i).1 ≠ 0 → ∀ h1, rpf t0 h h1 → h1.2 95 9 = (ps b n (C i).2.1 : Int) → Q (C i).1 h1) → ((C i).1 = 0 → ∀ (h1 : xH) (w1 w3 w4 w5 : xV), rpf t0 h h1 → kt b n (C i).2.1 ≠ 16 → rpS b n t0 h1 (C i).2.1 (w ++ (C i).2.2) [] 0 1 → zJ g (D + 7) 179 0 0 35 [xr 95, w1, xi a2, w3, w4, w5] [] h1 (x_qi Q)) → zJ g (D + 7) 179 0 0 35 [xr 95, w1, xi a2, w3, w4, w5] [] h (x_qi Q)) :
    ∀ (m : Nat) (e : Bool) (i : Nat), i ≤ E → E < i + m → ∀ (D : Nat) (h : xH) (w : List (Int × Int)) (Q : Int → xH → Prop) (w4 w5 : xV), rpB b n t0 h → rpS0 b n t0 h i w 0 → (w.length + if e = true then 1 else 0) ≤ i → ((pEit (kt b n) A C m e i).1 ≠ 0 → ∀ h1, rpf t0 h h1 → h1.2 95 9 = (ps b n (pEit (kt b n) A C m e i).2.1 : Int) → Q (pEit (kt b n) A C m e i).1 h1) → ((pEit (kt b n) A C m e i).1 = 0 → ∀ h1, rpf t0 h h1 → rpS b n t0 h1 (pEit (kt b n) A C m e i).2.1 (w ++ (pEit (kt b n) A C m e i).2.2) [] 0 1 → Q 0 h1) → zJ g (D + 7) 179 0 0 6 [xr 95, xi 0, xi (if e = true then 1 else 0), xi 1, w4, w5] [] h (x_qi Q)
  | 0, e, i, h1, h2 => by omega
  | m + 1, e, i, hi, h2 => by
    intro D h w Q w4 w5 B R hw hf h0
    unfold pEit at hf h0
    have p1 := hA i hi
    have j1 := kAs i hi
    have hw0 : w.length ≤ i := by omega
    generalize A i = x at j1 p1 hf h0
    refine zX9_either_6 ⟨fun z => absurd z (by decide), fun _ => j1 D h w _ B R hw0 (fun z1 h1 f1 e1 => ⟨fun z => absurd z z1, fun _ => ?_⟩) (fun z1 h1 f1 R1 => ⟨fun _ => zX9_either_24 ⟨fun _ => ?_, fun z => absurd rfl z⟩, fun z => absurd rfl z⟩)⟩
    · rw [bnd_f z1] at hf
      exact hf z1 h1 f1 e1
    rw [bnd_0 z1] at hf h0
    obtain ⟨a1, a2, a3, -, -⟩ := p1.2 z1
    have lw : (w ++ x.2.2).length = w.length + x.2.2.length := List.length_append
    have B1 := rpB_f B f1
    have p2 := hC x.2.1 a2
    have j2 := kNs x.2.1 a2
    generalize C x.2.1 = y at j2 p2 hf h0
    refine j2 D h1 (w ++ x.2.2) _ Q _ _ _ _ B1 R1 (by omega) (fun z2 h3 f3 e3 => ?_) (fun z2 h3 u1 u3 u4 u5 f3 k16 R3 => ?_)
    · rw [bnd_f z2] at hf
      exact hf z2 h3 (rpf_trans f1 f3) e3
    rw [bnd_0 z2] at hf h0
    obtain ⟨b1, b2, b3, -, -⟩ := p2.2 z2
    have ly : (w ++ x.2.2 ++ y.2.2).length = w.length + x.2.2.length + y.2.2.length := by rw [List.length_append, lw]
    have B3 := rpB_f B1 f3
    have f03 := rpf_trans f1 f3
    have c17 := tk_c (w := 17) (v := 28530) R3.1 (by decide) (by decide)
    -- behind {and}: the or
    have k93 : ∀ {h4 : xH} {a2 : Int} {w3 w4 : xV} {nx : Bool}, (nx = true ↔ kt b n y.2.1 = 17) → rpf t0 h h4 → rpB b n t0 h4 → rpS b n t0 h4 y.2.1 (w ++ (x.2.2 ++ y.2.2 ++ orp e)) [] 0 1 → zJ g (D + 7) 179 0 0 90 [xr 95, xi 0, xi a2, w3, w4, xi (if nx = true then 1 else 0)] [] h4 (x_qi Q) := by
      intro h4 a2 w3 w4 nx hn f4 B4 R4
      refine zX9_either_90 (zX9_either_93 ⟨fun z => absurd rfl z, fun _ => ⟨fun z => ?_, fun z => ?_⟩⟩)
      · have k17 : ¬ kt b n y.2.1 = 17 := fun q => by rw [if_pos (hn.mpr q)] at z; exact absurd z (by decide)
        rw [if_neg k17] at h0
        exact zX9_either_106 (zX9_either_107 ⟨fun _ => zX9_either_116 (zX9_either_6 ⟨fun _ => zX9_either_119 (h0 rfl h4 f4 R4), fun q => absurd rfl q⟩), fun q => absurd rfl q⟩)
      · have nt : nx = true := by
          cases nx
          · exact absurd rfl z
          · rfl
        have k17 := hn.mp nt
        rw [if_pos k17] at hf h0
        have e0 := lt_E (K := kt b n) hK b2 k17 (by decide)
        subst nt
        refine zX9_either_102 (zX9_either_107 ⟨fun q => absurd q (by decide), fun _ => r_nextS B4 R4 (fun h5 f5 R5 => ?_)⟩)
        have B5 := rpB_f B4 f5
        have f05 := rpf_trans f4 f5
        have l5 : (w ++ (x.2.2 ++ y.2.2 ++ orp e)).length ≤ y.2.1 := by
          rw [List.length_append, List.length_append, List.length_append]
          have : (orp e).length = if e = true then 1 else 0 := by cases e <;> rfl
          rw [this]; omega
        refine k_Eit hK hE3 hA hC kAs kNs m true (y.2.1 + 1) (by omega) (by omega) D h5 (w ++ (x.2.2 ++ y.2.2 ++ orp e)) Q _ _ B5 (rpS0_of R5) (by rw [if_pos rfl]; omega) (fun z3 h6 f6 e6 => ?_) (fun z3 h6 f6 R6 => ?_)
        · rw [bnd_f z3] at hf
          exact hf z3 h6 (rpf_trans f05 f6) e6
        · rw [bnd_0 z3] at h0
          refine h0 rfl h6 (rpf_trans f05 f6) ?_
          dsimp only
          rw [← List.append_assoc]; exact R6
    have k73 : ∀ {w3 w4 w5 : xV} {nx : Bool}, (nx = true ↔ kt b n y.2.1 = 17) → zJ g (D + 7) 179 0 0 73 [xr 95, xi 0, xi (if e = true then 1 else 0), w3, w4, w5] [xi (if nx = true then 1 else 0)] h3 (x_qi Q) := by
      intro w3 w4 w5 nx hn
      refine zX9_either_73 ⟨fun z => absurd rfl z, fun _ => ⟨fun z => ?_, fun z => ?_⟩⟩
      · have ef : e = false := by
          cases e
          · rfl
          · exact absurd z (by decide)
        subst ef
        refine k93 hn f03 B3 ?_
        rw [show x.2.2 ++ y.2.2 ++ orp false = x.2.2 ++ y.2.2 from List.append_nil _, ← List.append_assoc]
        exact R3
      · have et : e = true := by
          cases e
          · exact absurd rfl z
          · rfl
        subst et
        refine r_emitS B3 R3 (by rw [if_pos rfl] at hw; omega) (fun h4 f4 R4 => k93 hn (rpf_trans f03 f4) (rpB_f B3 f4) ?_)
        rw [show w ++ (x.2.2 ++ y.2.2 ++ orp true) = w ++ x.2.2 ++ y.2.2 ++ [(22, 0)] by simp [orp, List.append_assoc]]
        exact R4
    refine zX9_either_35 (r_w3 (by decide) (by decide) (by decide) (r_isWord (w := 16) R3.1 (by decide) (by decide) (fun z => absurd z k16) (fun _ => ⟨fun q => zX9_either_72 (k73 (nx := false) ⟨fun z => absurd z (by decide), fun z => absurd (c17.mp z).1 q⟩), fun q => ⟨fun q2 => zX9_either_72 (k73 (nx := false) ⟨fun z => absurd z (by decide), fun z => absurd (c17.mp z).2 q2⟩), fun q2 => k73 (nx := true) ⟨fun _ => c17.mpr ⟨q, q2⟩, fun _ => rfl⟩⟩⟩)))
end RPA
