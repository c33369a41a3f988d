/-! the reference's reader: its state, its small steps -/
def plH (C : Nat → Int) : List Int → Prop
  | [] => True
  | x :: P => C P.length = x ∧ plH C P
theorem plH_congr {C C' : Nat → Int} : ∀ P : List Int, (∀ j, j < P.length → C' j = C j) → plH C P → plH C' P
  | [], _, _ => trivial
  | x :: P, h, k => ⟨by rw [h P.length (by show _ < P.length + 1; omega)]; exact k.1, plH_congr P (fun j hj => h j (by show _ < P.length + 1; omega)) k.2⟩
theorem plH_mem {C : Nat → Int} : ∀ P : List Int, plH C P → (∀ j, j < P.length → C j ∈ P) ∧ ∀ x ∈ P, ∃ j, j < P.length ∧ C j = x
  | [], _ => ⟨fun j hj => absurd hj (Nat.not_lt_zero j), fun x hx => by cases hx⟩
  | y :: P, k => by
    obtain ⟨i1, i2⟩ := plH_mem P k.2
    refine ⟨fun j hj => ?_, fun x hx => ?_⟩
    · by_cases e : j = P.length
      · subst e; rw [k.1]; exact List.mem_cons_self
      · exact List.mem_cons_of_mem _ (i1 j (by have : j < P.length + 1 := hj; omega))
    · rcases List.mem_cons.mp hx with z | z
      · exact ⟨P.length, by show _ < P.length + 1; omega, by rw [z]; exact k.1⟩
      · obtain ⟨j, j1, j2⟩ := i2 x z
        exact ⟨j, by show _ < P.length + 1; omega, j2⟩
/-- token i, steps w, pile P (its top first), o open, whole or not -/
def rpS (b : Nat → Int) (n t0 : Nat) (h : xH) (i : Nat) (w : List (Int × Int)) (P : List Int) (o : Nat) (wh : Int) : Prop := rS h b n i ∧ h.2 95 13 = (t0 : Int) ∧ h.2 95 15 = (w.length : Int) ∧ (∀ j, j < w.length → h.2 96 (t0 + 250 + 2 * j) = (gl w j).1 ∧ h.2 96 (t0 + 250 + 2 * j + 1) = (gl w j).2) ∧ h.2 95 18 = (P.length : Int) ∧ plH (h.2 101) P ∧ h.2 95 19 = (o : Int) ∧ h.2 95 20 = wh
/-- what stays -/
def rpB (b : Nat → Int) (n t0 : Nat) (h : xH) : Prop := rB8 h b n ∧ 2000 ≤ t0 ∧ t0 + 900 ≤ 11000
def rpf (t0 : Nat) (h h' : xH) : Prop := h'.1 = h.1 ∧ (∀ q, q ≠ 95 → q ≠ 96 → q ≠ 101 → h'.2 q = h.2 q) ∧ (∀ j, ¬ ((8 ≤ j ∧ j ≤ 12) ∨ j = 15 ∨ (18 ≤ j ∧ j ≤ 20)) → h'.2 95 j = h.2 95 j) ∧ ∀ a, ¬ (t0 + 250 ≤ a ∧ a < t0 + 900) → h'.2 96 a = h.2 96 a
theorem rpf_refl {t0 : Nat} (h : xH) : rpf t0 h h := ⟨rfl, fun _ _ _ _ => rfl, fun _ _ => rfl, fun _ _ => rfl⟩
theorem rpf_trans {t0 : Nat} {h h1 h2 : xH} (a : rpf t0 h h1) (c : rpf t0 h1 h2) : rpf t0 h h2 := ⟨c.1.trans a.1, fun q q1 q2 q3 => (c.2.1 q q1 q2 q3).trans (a.2.1 q q1 q2 q3), fun j hj => (c.2.2.1 j hj).trans (a.2.2.1 j hj), fun x hx => (c.2.2.2 x hx).trans (a.2.2.2 x hx)⟩
theorem rpf_N {t0 : Nat} {h h1 : xH} (f : fN h h1) : rpf t0 h h1 := ⟨f.1, fun q q1 _ _ => f.2.1 q q1, fun j hj => f.2.2 j (by omega) (by omega) (by omega) (by omega) (by omega), fun a _ => by rw [f.2.1 96 (by decide)]⟩
theorem rpf_95 {t0 j : Nat} {v : Int} {h : xH} (hj : (8 ≤ j ∧ j ≤ 12) ∨ j = 15 ∨ (18 ≤ j ∧ j ≤ 20)) : rpf t0 h (h.1, x_up h.2 95 j v) := ⟨rfl, fun q q1 _ _ => by dsimp only; rw [x_up_r q1], fun k hk => by dsimp only; rw [x_up_j (by omega)], fun a _ => by dsimp only; rw [x_up_r (by decide)]⟩
theorem rQ_c {h h1 : xH} {b : Nat → Int} {n q : Nat} (e : ∀ j, 8 ≤ j → j ≤ 12 → h1.2 95 j = h.2 95 j) (S : rQ h b n q) : rQ h1 b n q := by
  unfold rQ
  rw [e 8 (by decide) (by decide), e 9 (by decide) (by decide), e 10 (by decide) (by decide), e 11 (by decide) (by decide), e 12 (by decide) (by decide)]
  exact S
section RPS
variable {g : xG} {D : Nat} {b : Nat → Int} {n t0 : Nat} {h : xH}
theorem rpB_f {h1 : xH} (B : rpB b n t0 h) (f : rpf t0 h h1) : rpB b n t0 h1 := by
  obtain ⟨⟨z1, z2, z3, z4⟩, b2, b3⟩ := B
  exact ⟨⟨by rw [f.2.2.1 5 (by omega)]; exact z1, z2, z3, fun p hp => by rw [f.2.1 100 (by decide) (by decide) (by decide)]; exact z4 p hp⟩, b2, b3⟩
theorem r_nextS {i o : Nat} {w : List (Int × Int)} {P : List Int} {wh : Int} {Q : xH → Prop} (B : rpB b n t0 h) (S : rpS b n t0 h i w P o wh) (hQ : ∀ h1, rpf t0 h h1 → rpS b n t0 h1 (i + 1) w P o wh → Q h1) : zSv g (D + 2) mX9_nextToken [xr 95] h Q := by
  obtain ⟨s1, s2, s3, s4, s5, s6, s7, s8⟩ := S
  refine r_next B.1 s1 (fun h1 f1 S1 => hQ h1 (rpf_N f1) ⟨S1, ?_, ?_, ?_, ?_, ?_, ?_, ?_⟩)
  · rw [f1.2.2 13 (by decide) (by decide) (by decide) (by decide) (by decide)]; exact s2
  · rw [f1.2.2 15 (by decide) (by decide) (by decide) (by decide) (by decide)]; exact s3
  · rw [f1.2.1 96 (by decide)]; exact s4
  · rw [f1.2.2 18 (by decide) (by decide) (by decide) (by decide) (by decide)]; exact s5
  · rw [f1.2.1 101 (by decide)]; exact s6
  · rw [f1.2.2 19 (by decide) (by decide) (by decide) (by decide) (by decide)]; exact s7
  · rw [f1.2.2 20 (by decide) (by decide) (by decide) (by decide) (by decide)]; exact s8
theorem r_emitS {i o : Nat} {w : List (Int × Int)} {P : List Int} {wh x v : Int} {Q : xH → Prop} (B : rpB b n t0 h) (S : rpS b n t0 h i w P o wh) (hl : w.length ≤ 310) (hQ : ∀ h1, rpf t0 h h1 → rpS b n t0 h1 i (w ++ [(x, v)]) P o wh → Q h1) : zSv g D mX9_emit [xr 95, xi x, xi v] h Q := by
  obtain ⟨s1, s2, s3, s4, s5, s6, s7, s8⟩ := S
  obtain ⟨-, b2, b3⟩ := B
  have e1 : x32 ((x32 ((h.2 95 13) + 250)) + (x32 (2 * (h.2 95 15)))) = ((t0 + 250 + 2 * w.length : Nat) : Int) := by
    rw [s2, s3, x32_id (x := (t0 : Int) + 250) (by omega) (by omega), x32_id (x := 2 * (w.length : Int)) (by omega) (by omega), x32_id (by omega) (by omega)]; omega
  have u : ∀ (a : Nat) (y : Int), x_up h.2 96 a y 95 = h.2 95 := fun a y => x_up_r (by decide)
  have u2 : ∀ (a a2 : Nat) (y y2 : Int), x_up (x_up h.2 96 a y) 96 a2 y2 95 = h.2 95 := fun a a2 y y2 => by rw [x_up_r (by decide), u]
  refine eX9_emit (zX9_emit_0 ?_)
  rw [u, u2, e1, s3, show (((t0 + 250 + 2 * w.length : Nat) : Int)).toNat = t0 + 250 + 2 * w.length by omega, x32_id (x := ((t0 + 250 + 2 * w.length : Nat) : Int) + 1) (by omega) (by omega), x32_id (x := (w.length : Int) + 1) (by omega) (by omega), show (((t0 + 250 + 2 * w.length : Nat) : Int) + 1).toNat = t0 + 250 + 2 * w.length + 1 by omega]
  refine ⟨by omega, by omega, hQ _ ⟨rfl, fun q q1 q2 q3 => ?_, fun j hj => ?_, fun a ha => ?_⟩ ⟨?_, ?_, ?_, fun j hj => ?_, ?_, ?_, ?_, ?_⟩⟩ <;> (try dsimp only)
  · rw [x_up_r q1, x_up_r q2, x_up_r q2]
  · rw [x_up_j (by omega), u2]
  · rw [x_up_r (by decide), x_up_j (by omega), x_up_j (by omega)]
  · exact rQ_c (fun j j1 j2 => by dsimp only; rw [x_up_j (by omega), u2]) s1
  · rw [x_up_j (by decide), u2]; exact s2
  · rw [x_up_eq, List.length_append]; rfl
  · rw [x_up_r (by decide)]
    by_cases e : j = w.length
    · subst e
      rw [gl_r, x_up_eq, x_up_j (by omega), x_up_eq]
      exact ⟨rfl, rfl⟩
    · have hj2 : j < w.length := by rw [List.length_append] at hj; have : j < w.length + 1 := hj; omega
      rw [gl_l hj2, x_up_j (by omega), x_up_j (by omega), x_up_j (by omega), x_up_j (by omega)]
      exact s4 j hj2
  · rw [x_up_j (by decide), u2]; exact s5
  · rw [x_up_r (by decide), x_up_r (by decide), x_up_r (by decide)]; exact s6
  · rw [x_up_j (by decide), u2]; exact s7
  · rw [x_up_j (by decide), u2]; exact s8
/-- a field of the reader other than the token's changes -/
theorem rpS_95 {i o : Nat} {w : List (Int × Int)} {P : List Int} {wh v : Int} (S : rpS b n t0 h i w P o wh) : rpS b n t0 (h.1, x_up h.2 95 20 v) i w P o v := by
  obtain ⟨s1, s2, s3, s4, s5, s6, s7, s8⟩ := S
  refine ⟨?_, ?_, ?_, fun j hj => ?_, ?_, ?_, ?_, ?_⟩ <;> (try dsimp only)
  · exact rQ_c (fun j j1 j2 => by dsimp only; rw [x_up_j (by omega)]) s1
  · rw [x_up_j (by decide)]; exact s2
  · rw [x_up_j (by decide)]; exact s3
  · rw [x_up_r (by decide)]; exact s4 j hj
  · rw [x_up_j (by decide)]; exact s5
  · rw [x_up_r (by decide)]; exact s6
  · rw [x_up_j (by decide)]; exact s7
  · rw [x_up_eq]
theorem rpS_19 {i o o2 : Nat} {w : List (Int × Int)} {P : List Int} {wh : Int} (S : rpS b n t0 h i w P o wh) : rpS b n t0 (h.1, x_up h.2 95 19 (o2 : Int)) i w P o2 wh := by
  obtain ⟨s1, s2, s3, s4, s5, s6, s7, s8⟩ := S
  refine ⟨?_, ?_, ?_, fun j hj => ?_, ?_, ?_, ?_, ?_⟩ <;> (try dsimp only)
  · exact rQ_c (fun j j1 j2 => by dsimp only; rw [x_up_j (by omega)]) s1
  · rw [x_up_j (by decide)]; exact s2
  · rw [x_up_j (by decide)]; exact s3
  · rw [x_up_r (by decide)]; exact s4 j hj
  · rw [x_up_j (by decide)]; exact s5
  · rw [x_up_r (by decide)]; exact s6
  · rw [x_up_eq]
  · rw [x_up_j (by decide)]; exact s8
theorem rpS_pop {i o : Nat} {w : List (Int × Int)} {x : Int} {P : List Int} {wh : Int} (S : rpS b n t0 h i w (x :: P) o wh) : rpS b n t0 (h.1, x_up h.2 95 18 (P.length : Int)) i w P o wh := by
  obtain ⟨s1, s2, s3, s4, s5, s6, s7, s8⟩ := S
  refine ⟨?_, ?_, ?_, fun j hj => ?_, ?_, ?_, ?_, ?_⟩ <;> (try dsimp only)
  · exact rQ_c (fun j j1 j2 => by dsimp only; rw [x_up_j (by omega)]) s1
  · rw [x_up_j (by decide)]; exact s2
  · rw [x_up_j (by decide)]; exact s3
  · rw [x_up_r (by decide)]; exact s4 j hj
  · rw [x_up_eq]
  · rw [x_up_r (by decide)]; exact s6.2
  · rw [x_up_j (by decide)]; exact s7
  · rw [x_up_j (by decide)]; exact s8
theorem r_pushS {i o : Nat} {w : List (Int × Int)} {P : List Int} {wh x : Int} {Q : xH → Prop} (S : rpS b n t0 h i w P o wh) (hl : P.length ≤ 100) (hQ : ∀ h1, rpf t0 h h1 → rpS b n t0 h1 i w (x :: P) o wh → Q h1) : zSv g D mX9_push [xr 95, xi x] h Q := by
  obtain ⟨s1, s2, s3, s4, s5, s6, s7, s8⟩ := S
  refine eX9_push (zX9_push_0 ?_)
  rw [x_up_r (show 95 ≠ 101 by decide), s5, x32_id (by omega) (by omega), show ((P.length : Int)).toNat = P.length by omega]
  refine ⟨by omega, hQ _ ⟨rfl, fun q q1 q2 q3 => ?_, fun j hj => ?_, fun a ha => ?_⟩ ⟨?_, ?_, ?_, fun j hj => ?_, ?_, ?_, ?_, ?_⟩⟩ <;> (try dsimp only)
  · rw [x_up_r q1, x_up_r q3]
  · rw [x_up_j (by omega), x_up_r (by decide)]
  · rw [x_up_r (by decide), x_up_r (by decide)]
  · exact rQ_c (fun j j1 j2 => by dsimp only; rw [x_up_j (by omega), x_up_r (by decide)]) s1
  · rw [x_up_j (by decide), x_up_r (by decide)]; exact s2
  · rw [x_up_j (by decide), x_up_r (by decide)]; exact s3
  · rw [x_up_r (by decide), x_up_r (by decide)]; exact s4 j hj
  · rw [x_up_eq]; rfl
  · rw [x_up_r (by decide)]
    refine ⟨x_up_eq, plH_congr P (fun j hj => ?_) s6⟩
    rw [x_up_j (by omega)]
  · rw [x_up_j (by decide), x_up_r (by decide)]; exact s7
  · rw [x_up_j (by decide), x_up_r (by decide)]; exact s8
theorem l_whole {i o : Nat} {P : List Int} {Q : xH → Prop} {h0 : xH} (ho : o ≤ 100) (hP : ∀ x P', P = x :: P' → x ≠ 2) (hl2 : P.length ≤ 60) : ∀ (c : Nat) (w : List (Int × Int)) {h : xH}, c ≤ 30 → rpf t0 h0 h → rpB b n t0 h → rpS b n t0 h i w (List.replicate c 2 ++ P) (o + c) 1 → w.length + c ≤ 310 → (∀ h1, rpf t0 h0 h1 → rpS b n t0 h1 i (w ++ List.replicate c (2, 0)) P o 1 → Q h1) → zJ g (D + 1) 169 0 0 5 [xr 95] [] h (x_qv Q)
  | 0, w, h, hc, f, B, S, hl, hQ => by
    have S : rpS b n t0 h i w P o 1 := S
    have hq : Q h := hQ h f (by rw [show w ++ List.replicate 0 ((2 : Int), (0 : Int)) = w from List.append_nil w]; exact S)
    have s5 := S.2.2.2.2.1
    have s6 := S.2.2.2.2.2.1
    refine zX9_whole_5 ⟨fun _ => zX9_whole_56 hq, fun z => ?_⟩
    cases P with
    | nil => rw [s5] at z; exact absurd z (by decide)
    | cons x P' =>
      have l1 : ((x :: P').length : Int) = (P'.length : Int) + 1 := rfl
      have hl3 : P'.length + 1 ≤ 60 := hl2
      rw [s5, l1, x32_id (by omega) (by omega), show ((P'.length : Int) + 1 - 1).toNat = P'.length by omega, s6.1]
      exact ⟨by omega, fun _ => zX9_whole_56 hq, fun z2 => absurd z2 (hP x P' rfl)⟩
  | c + 1, w, h, hc, f, B, S, hl, hQ => by
    have S : rpS b n t0 h i w (2 :: (List.replicate c 2 ++ P)) (o + (c + 1)) 1 := S
    have s5 := S.2.2.2.2.1
    have s6 := S.2.2.2.2.2.1
    have s7 := S.2.2.2.2.2.2.1
    have l1 : ((2 :: (List.replicate c 2 ++ P) : List Int).length : Int) = ((List.replicate c 2 ++ P : List Int).length : Int) + 1 := rfl
    have l2 : (List.replicate c 2 ++ P : List Int).length = c + P.length := by rw [List.length_append, List.length_replicate]
    rw [l1] at s5
    refine zX9_whole_5 ⟨fun z => by omega, fun z => ?_⟩
    rw [s5, x32_id (x := ((List.replicate c 2 ++ P : List Int).length : Int) + 1 - 1) (by omega) (by omega), show ((List.replicate c 2 ++ P : List Int).length : Int) + 1 - 1 = ((List.replicate c 2 ++ P : List Int).length : Int) by omega, show (((List.replicate c 2 ++ P : List Int).length : Int)).toNat = (List.replicate c 2 ++ P : List Int).length by omega, s6.1, x_up_j (show 19 ≠ 18 by decide), s7, x32_id (by omega) (by omega), show ((o + (c + 1) : Nat) : Int) - 1 = ((o + c : Nat) : Int) by omega]
    refine ⟨by omega, fun z2 => absurd rfl z2, fun _ => ?_⟩
    have S1 := rpS_pop S
    have S2 := rpS_19 (o2 := o + c) S1
    have f1 : rpf t0 h (h.1, x_up h.2 95 18 ((List.replicate c 2 ++ P : List Int).length : Int)) := rpf_95 (by decide)
    have f2 := rpf_trans f1 (rpf_95 (j := 19) (v := ((o + c : Nat) : Int)) (by decide))
    refine r_emitS (rpB_f B f2) S2 (by omega) (fun h1 f3 S3 => ?_)
    refine l_whole ho hP hl2 c (w ++ [(2, 0)]) (by omega) (rpf_trans f (rpf_trans f2 f3)) (rpB_f (rpB_f B f2) f3) S3 (by rw [List.length_append]; show w.length + 1 + c ≤ 310; omega) (fun h2 f4 S4 => hQ h2 f4 ?_)
    rw [show w ++ List.replicate (c + 1) ((2 : Int), (0 : Int)) = w ++ [(2, 0)] ++ List.replicate c (2, 0) by rw [List.append_assoc]; rfl]
    exact S4
theorem r_wholeS {i o c : Nat} {w : List (Int × Int)} {P : List Int} {wh : Int} {Q : xH → Prop} (B : rpB b n t0 h) (S : rpS b n t0 h i w (List.replicate c 2 ++ P) (o + c) wh) (hP : ∀ x P', P = x :: P' → x ≠ 2) (hl : w.length + c ≤ 310) (hc : c ≤ 30) (ho : o ≤ 100) (hl2 : P.length ≤ 60) (hQ : ∀ h1, rpf t0 h h1 → rpS b n t0 h1 i (w ++ List.replicate c (2, 0)) P o 1 → Q h1) : zSv g (D + 1) mX9_whole [xr 95] h Q := by
  refine eX9_whole (zX9_whole_0 ⟨Or.inr rfl, ?_⟩)
  have f1 : rpf t0 h (h.1, x_up h.2 95 20 1) := rpf_95 (by decide)
  exact l_whole ho hP hl2 c w hc f1 (rpB_f B f1) (rpS_95 S) hl hQ
theorem r_settleS {i o : Nat} {P : List Int} {wh a : Int} {Q : xH → Prop} {h0 : xH} (hP : ∀ x P', P = x :: P' → 40 ≤ x ∨ x < a) (hl2 : P.length ≤ 60) : ∀ (U : List Int) (w : List (Int × Int)) {h : xH}, U.length ≤ 30 → (∀ u ∈ U, a ≤ u ∧ u < 40) → rpf t0 h0 h → rpB b n t0 h → rpS b n t0 h i w (U ++ P) o wh → w.length + U.length ≤ 310 → (∀ h1, rpf t0 h0 h1 → rpS b n t0 h1 i (w ++ U.map (fun u => (u, 0))) P o wh → Q h1) → zJ g (D + 1) 170 0 0 0 [xr 95, xi a] [] h (x_qv Q)
  | [], w, h, hc, hU, f, B, S, hl, hQ => by
    have S : rpS b n t0 h i w P o wh := S
    have hq : Q h := hQ h f (by rw [show w ++ List.map (fun u : Int => (u, (0 : Int))) [] = w from List.append_nil w]; exact S)
    have s5 := S.2.2.2.2.1
    have s6 := S.2.2.2.2.2.1
    refine zX9_settle_0 ⟨fun _ => zX9_settle_65 hq, fun z => ?_⟩
    cases P with
    | nil => rw [s5] at z; exact absurd z (by decide)
    | cons x P' =>
      have l1 : ((x :: P').length : Int) = (P'.length : Int) + 1 := rfl
      have hl3 : P'.length + 1 ≤ 60 := hl2
      rw [s5, l1, x32_id (by omega) (by omega), show ((P'.length : Int) + 1 - 1).toNat = P'.length by omega, s6.1]
      have := hP x P' rfl
      exact ⟨by omega, fun _ => zX9_settle_65 hq, fun z2 => ⟨by omega, fun _ => zX9_settle_65 hq, fun z3 => by omega⟩⟩
  | u :: U, w, h, hc, hU, f, B, S, hl, hQ => by
    have S : rpS b n t0 h i w (u :: (U ++ P)) o wh := S
    have hu := hU u List.mem_cons_self
    have s5 := S.2.2.2.2.1
    have s6 := S.2.2.2.2.2.1
    have l1 : ((u :: (U ++ P) : List Int).length : Int) = ((U ++ P : List Int).length : Int) + 1 := rfl
    have l2 : (U ++ P : List Int).length = U.length + P.length := List.length_append
    have hc : U.length + 1 ≤ 30 := hc
    have hl : w.length + (U.length + 1) ≤ 310 := hl
    rw [l1] at s5
    refine zX9_settle_0 ⟨fun z => by omega, fun z => ?_⟩
    rw [s5, x32_id (x := ((U ++ P : List Int).length : Int) + 1 - 1) (by omega) (by omega), show ((U ++ P : List Int).length : Int) + 1 - 1 = ((U ++ P : List Int).length : Int) by omega, x_up_eq, show (((U ++ P : List Int).length : Int)).toNat = (U ++ P : List Int).length by omega, x_up_r (show 101 ≠ 95 by decide), s6.1]
    refine ⟨by omega, fun z2 => by omega, fun _ => ⟨by omega, fun z2 => by omega, fun _ => ⟨by omega, ?_⟩⟩⟩
    have S1 := rpS_pop S
    have f1 : rpf t0 h (h.1, x_up h.2 95 18 ((U ++ P : List Int).length : Int)) := rpf_95 (by decide)
    refine r_emitS (rpB_f B f1) S1 (by omega) (fun h1 f3 S3 => ?_)
    refine r_settleS hP hl2 U (w ++ [(u, 0)]) (by omega) (fun x hx => hU x (List.mem_cons_of_mem _ hx)) (rpf_trans f (rpf_trans f1 f3)) (rpB_f (rpB_f B f1) f3) S3 (by rw [List.length_append]; show w.length + 1 + U.length ≤ 310; omega) (fun h2 f4 S4 => hQ h2 f4 ?_)
    rw [show w ++ List.map (fun u : Int => (u, (0 : Int))) (u :: U) = w ++ [(u, 0)] ++ List.map (fun u => (u, 0)) U by rw [List.append_assoc]; rfl]
    exact S4
theorem r_settle {i o : Nat} {P U : List Int} {wh a : Int} {w : List (Int × Int)} {Q : xH → Prop} (hP : ∀ x P', P = x :: P' → 40 ≤ x ∨ x < a) (hl2 : P.length ≤ 60) (hc : U.length ≤ 30) (hU : ∀ u ∈ U, a ≤ u ∧ u < 40) (B : rpB b n t0 h) (S : rpS b n t0 h i w (U ++ P) o wh) (hl : w.length + U.length ≤ 310) (hQ : ∀ h1, rpf t0 h h1 → rpS b n t0 h1 i (w ++ U.map (fun u => (u, 0))) P o wh → Q h1) : zSv g (D + 1) mX9_settle [xr 95, xi a] h Q :=
  eX9_settle (r_settleS hP hl2 U w hc hU (rpf_refl h) B S hl hQ)
theorem l_hasParen {P : List Int} {Q : Int → xH → Prop} (hl : P.length ≤ 100) (s5 : h.2 95 18 = (P.length : Int)) (s6 : plH (h.2 101) P) (h1 : (∃ x ∈ P, 40 ≤ x) → Q 1 h) (h0 : ¬ (∃ x ∈ P, 40 ≤ x) → Q 0 h) : ∀ (m j : Nat), j + m = P.length → (∀ k, k < j → h.2 101 k < 40) → zJ g D 173 0 0 2 [xr 95, xi (j : Int)] [] h (x_qi Q)
  | 0, j, e, hk => by
    refine zX9_hasParen_2 ⟨fun _ => zX9_hasParen_29 ⟨Or.inl rfl, h0 ?_⟩, fun z => by omega⟩
    rintro ⟨x, hx, hx2⟩
    obtain ⟨k, k1, k2⟩ := (plH_mem P s6).2 x hx
    have := hk k (by omega)
    omega
  | m + 1, j, e, hk => by
    refine zX9_hasParen_2 ⟨fun z => by omega, fun z => ⟨by omega, fun z2 => zX9_hasParen_23 ?_, fun z2 => ⟨Or.inr rfl, h1 ⟨_, (plH_mem P s6).1 j (by omega), ?_⟩⟩⟩⟩
    · rw [show ((j : Int)).toNat = j by omega] at z2
      rw [x32_id (by omega) (by omega), show (j : Int) + 1 = ((j + 1 : Nat) : Int) by omega]
      refine l_hasParen hl s5 s6 h1 h0 m (j + 1) (by omega) (fun k hk2 => ?_)
      by_cases y : k = j
      · subst y; exact z2
      · exact hk k (by omega)
    · rw [show ((j : Int)).toNat = j by omega] at z2; exact z2
/-- whether the sum goes on -/
theorem r_goesOn {i o : Nat} {w : List (Int × Int)} {P : List Int} {wh : Int} {Q : Int → xH → Prop} (S : rpS b n t0 h i w P o wh) (hl : P.length ≤ 100) (h1 : ((25 ≤ kt b n i ∧ kt b n i ≤ 28) ∨ ((kt b n i = 30 ∨ kt b n i = 31) ∧ ∃ x ∈ P, 40 ≤ x)) → Q 1 h) (h0 : ¬ ((25 ≤ kt b n i ∧ kt b n i ≤ 28) ∨ ((kt b n i = 30 ∨ kt b n i = 31) ∧ ∃ x ∈ P, 40 ≤ x)) → Q 0 h) : zSi g (D + 1) mX9_goesOn [xr 95] h Q := by
  obtain ⟨-, -, -, t41, t44, -, t43, t45, t42, t47, -⟩ := tk_i (b := b) (n := n) (q := ps b n i)
  rw [← S.1.2.2.1] at t41 t44 t43 t45 t42 t47
  have e : kt b n i = kd b n (ps b n i) := rfl
  have hp : (kt b n i = 30 ∨ kt b n i = 31) → zJ g (D + 1) 174 0 0 54 [xr 95] [] h (x_qi Q) := by
    intro k
    refine zX9_goesOn_54 (eX9_hasParen (zX9_hasParen_0 (l_hasParen hl S.2.2.2.2.1 S.2.2.2.2.2.1 (fun y => ⟨fun z => absurd z (by decide), fun _ => ⟨Or.inr rfl, h1 (Or.inr ⟨k, y⟩)⟩⟩) (fun y => ⟨fun _ => zX9_goesOn_65 ⟨Or.inl rfl, h0 (fun z => ?_)⟩, fun z => absurd rfl z⟩) P.length 0 (by omega) (fun k hk => by omega))))
    rcases z with z | z
    · omega
    · exact y z.2
  refine eX9_goesOn (zX9_goesOn_0 ⟨fun z => zX9_goesOn_61 ⟨Or.inr rfl, h1 (Or.inl (by have := t43.mp z; omega))⟩, fun z1 => ⟨fun z => zX9_goesOn_61 ⟨Or.inr rfl, h1 (Or.inl (by have := t45.mp z; omega))⟩, fun z2 => ⟨fun z => zX9_goesOn_61 ⟨Or.inr rfl, h1 (Or.inl (by have := t42.mp z; omega))⟩, fun z3 => ⟨fun z => zX9_goesOn_61 ⟨Or.inr rfl, h1 (Or.inl (by have := t47.mp z; omega))⟩, fun z4 => ⟨fun z => hp (Or.inr (t44.mp z)), fun z5 => ⟨fun z6 => zX9_goesOn_65 ⟨Or.inl rfl, h0 (fun y => ?_)⟩, fun z => hp (Or.inl (t41.mp z))⟩⟩⟩⟩⟩⟩)
  rcases y with y | y
  · rcases (show kd b n (ps b n i) = 25 ∨ kd b n (ps b n i) = 26 ∨ kd b n (ps b n i) = 27 ∨ kd b n (ps b n i) = 28 by omega) with q | q | q | q
    · exact z1 (t43.mpr q)
    · exact z2 (t45.mpr q)
    · exact z3 (t42.mpr q)
    · exact z4 (t47.mpr q)
  · rcases y.1 with q | q
    · exact z6 (t41.mpr q)
    · exact z5 (t44.mpr q)
end RPS
