/-! a text that was read is what a text must be; a text more -/
theorem dRun_cong {c c' : Nat → Int} {s : Nat} : ∀ m : Nat, (∀ j, j < m → c (s + j) = c' (s + j)) → dRun c s m = dRun c' s m
  | 0, _ => rfl
  | m + 1, e => by
    unfold dRun
    rw [dRun_cong m (fun j hj => e j (by omega)), e m (by omega)]
theorem dRun_tk {c : Nat → Int} {s : Nat} {sg : List (Int × Int)} : ∀ m : Nat, m ≤ sg.length → (∀ j, j < m → c (s + j) = (gl sg j).1) → dRun c s m = dl (sg.take m) (0, 0)
  | 0, _, _ => rfl
  | m + 1, hm, e => by
    unfold dRun
    rw [dRun_tk m (by omega) (fun j hj => e j (by omega)), e m (by omega), List.take_succ, dl_app]
    have hx : sg[m]? = some (gl sg m) := by
      unfold gl
      rw [List.getD_eq_getElem?_getD, List.getElem?_eq_getElem (by omega)]
      rfl
    rw [hx]
    cases dl (List.take m sg) (0, 0) with
    | none => rfl
    | some t =>
      show dStep (gl sg m).1 t = (dStep (gl sg m).1 t).bind (dl [])
      cases dStep (gl sg m).1 t <;> rfl
theorem dRun_dl {c : Nat → Int} {s : Nat} {sg : List (Int × Int)} (e : ∀ j, j < sg.length → c (s + j) = (gl sg j).1) : dRun c s sg.length = dl sg (0, 0) := by
  rw [dRun_tk sg.length (Nat.le_refl _) e, List.take_length]
theorem gl_a {w s : List (Int × Int)} {j : Nat} : gl (w ++ s) (w.length + j) = gl s j := by
  unfold gl
  rw [List.getD_eq_getElem?_getD, List.getD_eq_getElem?_getD, List.getElem?_append_right (by omega), show w.length + j - w.length = j by omega]
def tOK (cl : List Cl) (w : List (Int × Int)) : Prop := cl.length ≤ 20 ∧ okS w ∧ ∀ c, c < cl.length → (0 ≤ (gc cl c).1 ∧ (gc cl c).1 ≤ 9) ∧ tlr (gc cl c).1 (gc cl c).2.1 ∧ (gc cl c).2.2.1 ≤ (gc cl c).2.2.2 ∧ (gc cl c).2.2.2 ≤ w.length ∧ ((gc cl c).1 ≤ 2 → dRun (fun j => (gl w j).1) (gc cl c).2.2.1 ((gc cl c).2.2.2 - (gc cl c).2.2.1) = some (1, 0)) ∧ (3 ≤ (gc cl c).1 → (gc cl c).1 ≤ 5 → dRun (fun j => (gl w j).1) (gc cl c).2.2.1 ((gc cl c).2.2.2 - (gc cl c).2.2.1) = some (0, 1))
theorem tOK_0 : tOK [] [] := ⟨by decide, okS_0, fun c hc => absurd hc (Nat.not_lt_zero c)⟩
theorem tOK_a {cl : List Cl} {w sg : List (Int × Int)} {k v : Int} (q : tOK cl w) (hc : cl.length < 20) (cg : clg k v sg) : tOK (cl ++ [(k, v, w.length, w.length + sg.length)]) (w ++ sg) := by
  obtain ⟨q1, q2, q3⟩ := q
  obtain ⟨g1, g2, g3, g4, g5⟩ := cg
  have lw : (w ++ sg).length = w.length + sg.length := List.length_append
  have dg : dRun (fun j => (gl (w ++ sg) j).1) w.length sg.length = dl sg (0, 0) := dRun_dl (fun j _ => by rw [gl_a])
  refine ⟨by rw [List.length_append]; exact hc, okS_app q2 g3, fun c hc2 => ?_⟩
  rw [List.length_append] at hc2
  by_cases y : c = cl.length
  · subst y
    rw [gc_r]
    dsimp only
    rw [show w.length + sg.length - w.length = sg.length by omega, dg, lw]
    exact ⟨g1, g2, by omega, Nat.le_refl _, g4, g5⟩
  · have hc3 : c < cl.length := by have : c < cl.length + 1 := hc2; omega
    rw [gc_l hc3]
    obtain ⟨p1, p2, p3, p4, p5, p6⟩ := q3 c hc3
    have e : dRun (fun j => (gl (w ++ sg) j).1) (gc cl c).2.2.1 ((gc cl c).2.2.2 - (gc cl c).2.2.1) = dRun (fun j => (gl w j).1) (gc cl c).2.2.1 ((gc cl c).2.2.2 - (gc cl c).2.2.1) := dRun_cong _ (fun j hj => by rw [gl_l (by omega)])
    rw [e, lw]
    exact ⟨p1, p2, p3, by omega, p5, p6⟩
theorem p_Tx {K N : Nat → Int} {E : Nat} {A C : Nat → Rs} (hK : K E = 36) (hA : ∀ i, i ≤ E → rsE E false i (A i)) (hC : ∀ i, i ≤ E → rsL E 0 (-1) i (C i)) : ∀ (m : Nat) (cl : List Cl) (w : List (Int × Int)) (i : Nat), 21 ≤ cl.length + m → tOK cl w → w.length ≤ i → i ≤ E → ((pTx K N A C m cl w i).1 ≠ 0 → (pTx K N A C m cl w i).2.1 ≤ E ∧ 1 ≤ (pTx K N A C m cl w i).1 ∧ (pTx K N A C m cl w i).1 ≤ 5) ∧ ((pTx K N A C m cl w i).1 = 0 → tOK (pTx K N A C m cl w i).2.2.1 (pTx K N A C m cl w i).2.2.2 ∧ (pTx K N A C m cl w i).2.2.2.length ≤ E)
  | 0, cl, w, i, e, q, hw, hi => by have := q.1; omega
  | m + 1, cl, w, i, e, q, hw, hi => by
    unfold pTx
    by_cases k1 : K i = 36
    · rw [if_pos k1]; exact ⟨fun z => absurd rfl z, fun _ => ⟨q, by dsimp only; omega⟩⟩
    rw [if_neg k1]
    have pc := p_Cl (K := K) (N := N) (A := A) (B := C) (cl := cl) (w := w) hK hi hA hC hw
    generalize pCl K N A C cl w i = x at pc
    by_cases z1 : x.1 ≠ 0
    · rw [if_pos z1]; exact ⟨fun _ => pc.1 z1, fun z => absurd z z1⟩
    · rw [if_neg z1]
      obtain ⟨q1, q2, v, sg, q3, q4, q5, q6⟩ := pc.2 (by omega)
      have el : x.2.2.1.length = cl.length + 1 := by rw [q3, List.length_append]; rfl
      refine p_Tx hK hA hC m x.2.2.1 x.2.2.2 x.2.1 (by omega) ?_ (by rw [q4]; exact q6) q1
      rw [q3, q4]
      exact tOK_a q q2 q5
theorem getE_app {K X : List (Nat × Nat)} {j : Nat} {v : Nat × Nat} (e : K[j]? = some v) : (K ++ X)[j]? = some v := by
  rw [List.getElem?_append_left (List.getElem?_eq_some_iff.mp e).1]; exact e
theorem pActB_app {K X : List (Nat × Nat)} {c0 c1 c2 c3 : Nat → Int} {r : Nat} {T : Nat → Int} (q : pActB K c0 c1 c2 c3 r T) : pActB (K ++ X) c0 c1 c2 c3 r T := by
  obtain ⟨N, a0, a1, a2, a3, a4, a5⟩ := q
  exact ⟨N, a0, getE_app a1, getE_app a2, getE_app a3, getE_app a4, a5⟩
theorem t_tx : ∀ t, t < 12 → t ≠ 9 → (t_b t + t_s t * t_m t ≤ 2000 ∨ 11000 ≤ t_b t) ∧ 20 ≤ t_b t ∧ t_z t ≠ 6 ∧ t_z t < 20 := by decide +kernel
theorem pM_tx {A A' : Nat → Int} {k0 : Nat} (m : pM A) (h6 : A 6 = (k0 : Int)) (hk : k0 < 10) (hA : ∀ k, ¬ (2000 + 900 * k0 ≤ k ∧ k < 2900 + 900 * k0) → k ≠ 6 → A' k = A k) (h6' : A' 6 = A 6 ∨ A' 6 = A 6 + 1) : pM A' := by
  obtain ⟨⟨s0, s6, s14, s15, s16, s17, sz⟩, ⟨b1, b2, b3⟩, rk⟩ := m
  have lo : ∀ k, k < 2000 → k ≠ 6 → A' k = A k := fun k k1 k2 => hA k (by omega) k2
  have hi : ∀ k, 11000 ≤ k → A' k = A k := fun k k1 => hA k (by omega) (by omega)
  refine ⟨⟨by rw [lo 0 (by decide) (by decide)]; exact s0, by omega, by rw [lo 14 (by decide) (by decide)]; exact s14, by rw [lo 15 (by decide) (by decide)]; exact s15, by rw [lo 16 (by decide) (by decide)]; exact s16, by rw [lo 17 (by decide) (by decide)]; exact s17, fun t ht h9 => ?_⟩, ⟨fun i a c => ?_, fun i a c => ?_, fun i a c => ?_⟩, fun t ht h9 i hi2 => ?_⟩
  · have := t_tx t ht h9
    rw [lo _ (by omega) this.2.2.1]; exact sz t ht h9
  · rw [lo 2 (by decide) (by decide)] at a; rw [lo _ (by omega) (by omega)]; exact b1 i a c
  · rw [lo 8 (by decide) (by decide)] at a; rw [hi _ (by omega)]; exact b2 i a c
  · rw [lo 12 (by decide) (by decide)] at a; rw [hi _ (by omega), hi _ (by omega)]; exact b3 i a c
  · have tt := t_tx t ht h9
    rw [lo _ (by omega) tt.2.2.1] at hi2
    have sm := sz t ht h9
    have mi : t_s t * i + t_s t ≤ t_s t * t_m t := by
      have := Nat.mul_le_mul_left (t_s t) (show i + 1 ≤ t_m t by omega)
      rw [Nat.mul_add, Nat.mul_one] at this
      exact this
    refine rok_mono ht (fun k k1 k2 => ?_) (by rw [lo 0 (by decide) (by decide)]; exact Int.le_refl _) (by rw [lo 1 (by decide) (by decide)]; exact Int.le_refl _) (by rw [lo 2 (by decide) (by decide)]; exact Int.le_refl _) (by rw [lo 3 (by decide) (by decide)]; exact Int.le_refl _) (by rw [lo 4 (by decide) (by decide)]; exact Int.le_refl _) (by omega) (by rw [lo 8 (by decide) (by decide)]; exact Int.le_refl _) (rk t ht h9 i hi2)
    rcases tt.1 with z | z
    · exact lo k (by omega) (by omega)
    · exact hi k (by omega)
theorem inv_act {h h' : xH} {k0 : Nat} {K4 : List (Nat × Nat)} (I : zInv h) (h6 : h.2 96 6 = (k0 : Int)) (hk : k0 < 10) (l95 : 95 ≤ h.1.length) (e1 : h'.1 = h.1 ++ K4)
    (eC : ∀ q, q < h.1.length + 16 → q ≠ 17 → q ≠ 42 → q ≠ 43 → q ≠ 45 → q ≠ 46 → q ≠ 47 → q ≠ 74 → q ≠ 95 → q ≠ 96 → q ≠ 101 → h'.2 q = h.2 q) (e17 : ∀ j, j ≠ 13 → h'.2 17 j = h.2 17 j) (e42 : ∀ j, j ≠ k0 → h'.2 42 j = h.2 42 j)
    (eA : ∀ k, ¬ (2000 + 900 * k0 ≤ k ∧ k < 2900 + 900 * k0) → k ≠ 6 → h'.2 96 k = h.2 96 k)
    (tp : h'.2 43 4 = 0 ∧ h'.2 95 5 = 0 ∧ h'.2 74 3 = h'.2 95 6 ∧ h'.2 74 4 = h'.2 95 7 ∧ (-1 ≤ h'.2 74 3 ∧ h'.2 74 3 ≤ 5) ∧ -1 ≤ h'.2 74 4 ∧ h'.2 74 4 ≤ 300)
    (cs : (h'.2 96 6 = (k0 : Int) ∧ h'.2 17 13 = (k0 : Int) ∧ h'.2 42 k0 = h.2 42 k0) ∨ (h'.2 96 6 = (k0 : Int) + 1 ∧ h'.2 17 13 = (k0 : Int) + 1 ∧ ∃ r : Nat, h'.2 42 k0 = (r : Int) ∧ 111 ≤ r ∧ h'.1[r - 16]? = some (0, 4) ∧ pActB h'.1 (h'.2 r) (h'.2 (r + 1)) (h'.2 (r + 2)) (h'.2 (r + 3)) r (tx (h'.2 96) k0))) : zInv h' := by
  obtain ⟨i1, i2, i3, i4, i5⟩ := I
  have e97 : h'.2 97 = h.2 97 := eC 97 (by omega) (by decide) (by decide) (by decide) (by decide) (by decide) (by decide) (by decide) (by decide) (by decide) (by decide)
  have e98 : h'.2 98 = h.2 98 := eC 98 (by omega) (by decide) (by decide) (by decide) (by decide) (by decide) (by decide) (by decide) (by decide) (by decide) (by decide)
  have e99 : h'.2 99 = h.2 99 := eC 99 (by omega) (by decide) (by decide) (by decide) (by decide) (by decide) (by decide) (by decide) (by decide) (by decide) (by decide)
  have m' : pM (h'.2 96) := pM_tx i1 h6 hk eA (by rcases cs with z | z; · left; omega
                                                  · right; omega)
  have hi : ∀ q, 111 ≤ q → q < h.1.length + 16 → h'.2 q = h.2 q := fun q q1 q2 => eC q q2 (by omega) (by omega) (by omega) (by omega) (by omega) (by omega) (by omega) (by omega) (by omega) (by omega)
  -- an old act
  have old : ∀ {r : Nat} {T : Nat → Int}, 111 ≤ r → pActB h.1 (h.2 r) (h.2 (r + 1)) (h.2 (r + 2)) (h.2 (r + 3)) r T → pActB h'.1 (h'.2 r) (h'.2 (r + 1)) (h'.2 (r + 2)) (h'.2 (r + 3)) r T := by
    intro r T hr q
    have l3 : r + 3 - 16 < h.1.length := by
      obtain ⟨N, a0, a1, a2, a3, a4, -⟩ := q
      exact (List.getElem?_eq_some_iff.mp a4).1
    rw [e1, hi r hr (by omega), hi (r + 1) (by omega) (by omega), hi (r + 2) (by omega) (by omega), hi (r + 3) (by omega) (by omega)]
    exact pActB_app q
  have lo : ∀ k, k < 2000 → k ≠ 6 → h'.2 96 k = h.2 96 k := fun k k1 k2 => eA k (by omega) k2
  have hb : ∀ k, 11000 ≤ k → h'.2 96 k = h.2 96 k := fun k k1 => eA k (by omega) (by omega)
  obtain ⟨⟨s0, s6, s14, s15, s16, s17, sz⟩, -, rk⟩ := i1
  obtain ⟨p1, p2, p3, p4, p5, p6⟩ := i3
  refine ⟨m', by rw [e97]; exact i2, ?_, ?_, ?_⟩
  · rw [e98]
    have tb1 : ∀ q, 18 ≤ q → q ≤ 41 → h'.2 q = h.2 q := fun q q1 q2 => eC q (by omega) (by omega) (by omega) (by omega) (by omega) (by omega) (by omega) (by omega) (by omega) (by omega) (by omega)
    refine ⟨fun t ht h9 => ?_, ?_, ?_, ?_, ?_, ?_⟩
    · have tt := t_tx t ht h9
      refine cT_frame (p1 t ht) ht (by rw [tb1 _ (by omega) (by omega)]) (fun j => by rw [tb1 _ (by omega) (by omega)]) (fun k k1 k2 => ?_) (lo _ (by omega) tt.2.2.1) (sz t ht h9).2 h9
      rcases tt.1 with z | z
      · exact lo k (by omega) (by omega)
      · exact hb k (by omega)
    · obtain ⟨q1, q2, q3, q4, q5, q6⟩ := p2
      refine ⟨?_, ?_, ?_, ?_, ?_, ?_⟩
      · rcases cs with z | z
        · rw [z.1, z.2.1]
        · rw [z.1, z.2.1]
      · rw [e17 14 (by decide), lo 0 (by decide) (by decide)]; exact q2
      · rw [e17 15 (by decide), lo 14 (by decide) (by decide)]; exact q3
      · rw [e17 16 (by decide), lo 15 (by decide) (by decide)]; exact q4
      · rw [e17 17 (by decide), lo 16 (by decide) (by decide)]; exact q5
      · rw [e17 18 (by decide), lo 17 (by decide) (by decide)]; exact q6
    · intro i hi2
      rw [lo 9 (by decide) (by decide)] at hi2
      have r7 : (0 ≤ h.2 96 (11610 + 3 * i) ∧ h.2 96 (11610 + 3 * i) < h.2 96 8) ∧ _ := rk 7 (by decide) (by decide) i hi2
      have z8 : 0 ≤ h.2 96 8 ∧ h.2 96 8 ≤ 80 := sz 6 (by decide) (by decide)
      have z3 : 0 ≤ h.2 96 3 ∧ h.2 96 3 ≤ 10 := sz 2 (by decide) (by decide)
      have r6 : (0 ≤ h.2 96 (11130 + 6 * (h.2 96 (11610 + 3 * i)).toNat) ∧ h.2 96 (11130 + 6 * (h.2 96 (11610 + 3 * i)).toNat) < h.2 96 3) ∧ _ := rk 6 (by decide) (by decide) (h.2 96 (11610 + 3 * i)).toNat (show (((h.2 96 (11610 + 3 * i)).toNat : Nat) : Int) < h.2 96 8 by omega)
      rw [tb1 (17 + 16) (by decide) (by decide), hb (11610 + 3 * i) (by omega), hb (11130 + 6 * (h.2 96 (11610 + 3 * i)).toNat) (by omega), lo (150 + 20 * (h.2 96 (11130 + 6 * (h.2 96 (11610 + 3 * i)).toNat)).toNat) (by omega) (by omega)]
      exact p3 i hi2
    · intro i hi2 k hk2
      rw [lo 12 (by decide) (by decide)] at hi2
      rw [hb (12651 + 100 * i) (by omega)] at hk2
      rw [tb1 (17 + 24) (by decide) (by decide), hb (12653 + 100 * i + k) (by omega), hb (12693 + 100 * i + (h.2 96 (12653 + 100 * i + k)).toNat) (by omega)]
      exact p4 i hi2 k hk2
    · unfold pFin
      rw [tb1 (17 + 19) (by decide) (by decide), tb1 (17 + 20) (by decide) (by decide), lo 8 (by decide) (by decide)]
      have ef : (fun i => if i < 80 then h'.2 96 (11134 + 6 * i) else 0) = (fun i => if i < 80 then h.2 96 (11134 + 6 * i) else 0) := by
        funext k
        rw [hb (11134 + 6 * k) (by omega)]
      rw [ef]
      exact p5
    · have oldi : ∀ i : Nat, i < k0 → ∃ r : Nat, h'.2 (17 + 25) i = (r : Int) ∧ 111 ≤ r ∧ pActB h'.1 (h'.2 r) (h'.2 (r + 1)) (h'.2 (r + 2)) (h'.2 (r + 3)) r (fun k => if k < 900 then h'.2 96 (2000 + 900 * i + k) else 0) := by
        intro i hi2
        obtain ⟨r, a1, a2, a3⟩ := p6.1 i (by rw [h6]; omega)
        refine ⟨r, by rw [e42 i (by omega)]; exact a1, a2, ?_⟩
        have et : (fun k => if k < 900 then h'.2 96 (2000 + 900 * i + k) else 0) = (fun k => if k < 900 then h.2 96 (2000 + 900 * i + k) else 0) := by
          funext k
          by_cases y : k < 900
          · rw [if_pos y, if_pos y, eA _ (by omega) (by omega)]
          · rw [if_neg y, if_neg y]
        rw [et]
        exact old a2 a3
      have a1' : ∀ i : Nat, i < 10 → i ≠ k0 → h'.2 (17 + 25) i = 0 ∨ ∃ r : Nat, h'.2 (17 + 25) i = (r : Int) ∧ 111 ≤ r ∧ h'.1[r - 16]? = some (0, 4) := by
        intro i hi2 y
        rw [show h'.2 (17 + 25) i = h.2 42 i from e42 i y]
        rcases p6.2 i hi2 with z | ⟨r, z1, z2, z3⟩
        · exact Or.inl z
        · exact Or.inr ⟨r, z1, z2, by rw [e1]; exact getE_app z3⟩
      rcases cs with z | ⟨z1, z2, r, z3, z4, z5, z6⟩
      · refine ⟨fun i hi2 => oldi i (by rw [z.1] at hi2; omega), fun i hi2 => ?_⟩
        by_cases y : i = k0
        · subst y
          rw [show h'.2 (17 + 25) i = h.2 42 i from z.2.2]
          rcases p6.2 i hi2 with y | ⟨r, y1, y2, y3⟩
          · exact Or.inl y
          · exact Or.inr ⟨r, y1, y2, by rw [e1]; exact getE_app y3⟩
        · exact a1' i hi2 y
      · refine ⟨fun i hi2 => ?_, fun i hi2 => ?_⟩
        · rw [z1] at hi2
          by_cases y : i = k0
          · subst y; exact ⟨r, z3, z4, z6⟩
          · exact oldi i (by omega)
        · by_cases y : i = k0
          · subst y; exact Or.inr ⟨r, z3, z4, z5⟩
          · exact a1' i hi2 y
  · rw [e97, e99]
    have tb2 : ∀ q, 48 ≤ q → q ≤ 73 → h'.2 q = h.2 q := fun q q1 q2 => eC q (by omega) (by omega) (by omega) (by omega) (by omega) (by omega) (by omega) (by omega) (by omega) (by omega) (by omega)
    obtain ⟨q1, q2, q3, q4, q5, q6⟩ := i4
    refine ⟨fun t ht => cT_congr ht (fun r a c => tb2 r a c) (q1 t ht), ?_, ?_, ?_, ?_, ?_⟩
    · unfold pSc; rw [tb2 48 (by decide) (by decide)]; exact q2
    · unfold pLk; rw [tb2 (48 + 16) (by decide) (by decide)]; exact q3
    · unfold pLt; rw [tb2 (48 + 24) (by decide) (by decide)]; exact q4
    · unfold pFin; rw [tb2 (48 + 19) (by decide) (by decide), tb2 (48 + 20) (by decide) (by decide)]; exact q5
    · refine ⟨fun i hi2 => ?_, fun i hi2 => ?_⟩
      · obtain ⟨r, a1, a2, a3⟩ := q6.1 i hi2
        exact ⟨r, by rw [tb2 (48 + 25) (by decide) (by decide)]; exact a1, a2, old a2 a3⟩
      · rw [tb2 (48 + 25) (by decide) (by decide)]
        rcases q6.2 i hi2 with y | ⟨r, y1, y2, y3⟩
        · exact Or.inl y
        · exact Or.inr ⟨r, y1, y2, by rw [e1]; exact getE_app y3⟩
  · obtain ⟨t1, t2, t3, t4, t5, t6⟩ := tp
    refine ⟨by rw [t1, t2], by rw [t1]; decide, fun i hi2 => ?_, t3, t4, t5, t6, ?_⟩
    · rw [t1] at hi2; omega
    · rw [eC 75 (by omega) (by decide) (by decide) (by decide) (by decide) (by decide) (by decide) (by decide) (by decide) (by decide) (by decide)]
      exact i5.2.2.2.2.2.2.2
