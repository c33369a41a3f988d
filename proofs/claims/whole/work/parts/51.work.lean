/-! what a clause comes to, in the reference -/
def nmR (h : xH) (nm : Nat → Int) : Prop := ∀ i, i < 7 → h.2 102 i = nm i
theorem r_clip {g : xG} {D : Nat} {h : xH} {x : Int} {Q : Int → xH → Prop} (hQ : Q (clip x) h) : zSl g D mX9_clip [xl x] h Q := by
  refine eX9_clip (zX9_clip_0 ⟨fun z => zX9_clip_14 ⟨fun y => zX9_clip_28 ?_, fun y => ?_⟩, fun z => ?_⟩)
  · rw [clip_id] at hQ
    · exact hQ
    · unfold x_cmp at y; repeat' split at y
      all_goals omega
    · unfold x_cmp at z; repeat' split at z
      all_goals omega
  · have : clip x = -1000000000 := by
      unfold x_cmp at y; repeat' split at y
      all_goals (unfold clip; omega)
    rw [this] at hQ; exact hQ
  · have : clip x = 1000000000 := by
      unfold x_cmp at z; repeat' split at z
      all_goals (unfold clip; omega)
    rw [this] at hQ; exact hQ
theorem r_two {g : xG} {D : Nat} {h : xH} {o x y : Int} {Q : Int → xH → Prop} (ho : 3 ≤ o ∧ o ≤ 8) (hx : -1000000000 ≤ x ∧ x ≤ 1000000000) (hy : -1000000000 ≤ y ∧ y ≤ 1000000000) (hQ : Q (two o x y) h) : zSl g (D + 1) mX9_two [xi o, xl x, xl y] h Q := by
  refine eX9_two (zX9_two_0 ⟨fun z => ?_, fun z => ?_, fun z => ?_, fun z => ?_, fun z => ?_, fun z => ?_, trivial⟩)
  · have : o = 8 := by omega
    subst this
    have e : two 8 x y = max x y := rfl
    rw [e] at hQ
    refine zX9_two_86 ⟨fun w => zX9_two_96 ?_, fun w => ?_⟩ <;> unfold x_cmp at w <;> repeat' split at w
    all_goals first | omega | (rw [show max x y = y by omega] at hQ; exact hQ) | (rw [show max x y = x by omega] at hQ; exact hQ)
  · subst z
    refine zX9_two_36 (r_clip ?_)
    rw [x64_id (by omega) (by omega)]; exact hQ
  · subst z
    refine zX9_two_43 (r_clip ?_)
    rw [x64_id (by omega) (by omega)]; exact hQ
  · subst z
    have := p_mul hx hy
    refine zX9_two_50 (r_clip ?_)
    rw [x64_id (by omega) (by omega)]; exact hQ
  · subst z
    have := p_div (y := y) hx
    have e : two 6 x y = if y = 0 then 0 else clip (x.tdiv y) := rfl
    rw [e] at hQ
    refine zX9_two_57 ⟨fun w => zX9_two_67 ⟨?_, r_clip ?_⟩, fun w => ?_⟩
    · intro q; subst q; exact w rfl
    · have : y ≠ 0 := by intro q; subst q; exact w rfl
      rw [if_neg this] at hQ
      rw [x64_id (by omega) (by omega)]; exact hQ
    · unfold x_cmp at w; repeat' split at w
      all_goals first | omega | (rw [if_pos (by omega)] at hQ; exact hQ)
  · subst z
    have e : two 7 x y = min x y := rfl
    rw [e] at hQ
    refine zX9_two_74 ⟨fun w => zX9_two_84 ?_, fun w => ?_⟩ <;> unfold x_cmp at w <;> repeat' split at w
    all_goals first | omega | (rw [show min x y = y by omega] at hQ; exact hQ) | (rw [show min x y = x by omega] at hQ; exact hQ)
theorem r_asked {g : xG} {D : Nat} {h : xH} {o x y : Int} {Q : Int → xH → Prop} (ho : 10 ≤ o ∧ o ≤ 15) (hQ : Q (askd o x y) h) : zSi g D mX9_isAsked [xi o, xl x, xl y] h Q := by
  have cm : (x_cmp x y = 1 ∧ y < x) ∨ (x_cmp x y = 0 ∧ x = y) ∨ (x_cmp x y = -1 ∧ x < y) := by
    unfold x_cmp; repeat' split
    all_goals omega
  have yes : ∀ {P : Prop}, askd o x y = 1 → (Q 1 h → P) → P := fun e f => f (by rw [e] at hQ; exact hQ)
  have no : ∀ {P : Prop}, askd o x y = 0 → (Q 0 h → P) → P := fun e f => f (by rw [e] at hQ; exact hQ)
  refine eX9_isAsked (zX9_isAsked_0 ⟨fun z => zX9_isAsked_20 ⟨fun z2 => zX9_isAsked_40 ⟨fun z3 => zX9_isAsked_60 ⟨fun z4 => zX9_isAsked_80 ⟨fun z5 => zX9_isAsked_100 ⟨fun w => zX9_isAsked_110 ⟨Or.inl rfl, ?_⟩, fun w => ⟨Or.inr rfl, ?_⟩⟩, fun z5 => ⟨fun w => zX9_isAsked_96 ⟨Or.inl rfl, ?_⟩, fun w => ⟨Or.inr rfl, ?_⟩⟩⟩, fun z4 => ⟨fun w => zX9_isAsked_76 ⟨Or.inl rfl, ?_⟩, fun w => ⟨Or.inr rfl, ?_⟩⟩⟩, fun z3 => ⟨fun w => zX9_isAsked_56 ⟨Or.inl rfl, ?_⟩, fun w => ⟨Or.inr rfl, ?_⟩⟩⟩, fun z2 => ⟨fun w => zX9_isAsked_36 ⟨Or.inl rfl, ?_⟩, fun w => ⟨Or.inr rfl, ?_⟩⟩⟩, fun z => ⟨fun w => zX9_isAsked_16 ⟨Or.inl rfl, ?_⟩, fun w => ⟨Or.inr rfl, ?_⟩⟩⟩)
  all_goals first
    | (refine no ?_ id; unfold askd; repeat' split
       all_goals first | rfl | omega)
    | (refine yes ?_ id; unfold askd; repeat' split
       all_goals first | rfl | omega)
theorem l_work {g : xG} {D : Nat} {h : xH} {t : Nat} {nm : Nat → Int} {Q : xH → Prop} (ht : t < 10) (hT : tokT (tx (h.2 96) t)) {i : Nat} (hi : (i : Int) < tx (h.2 96) t 0) (hk : tx (h.2 96) t (1 + 12 * i) ≤ 6) (hn : nm_ok nm) (hm : nmR h nm) (hQ : ∀ h', h'.1 = h.1 → (∀ r, r ≠ 103 → r ≠ 104 → h'.2 r = h.2 r) → (tx (h.2 96) t (1 + 12 * i) ≤ 3 → h'.2 104 0 = vC (tx (h.2 96) t) nm i) → (4 ≤ tx (h.2 96) t (1 + 12 * i) → h'.2 103 0 = vC (tx (h.2 96) t) nm i) → Q h') :
    ∀ (m n t0 v0 : Nat) {h' : xH} {w6 w7 : xV}, n + m = (tx (h.2 96) t (4 + 12 * i) - tx (h.2 96) t (3 + 12 * i)).toNat → h'.1 = h.1 → (∀ r, r ≠ 103 → r ≠ 104 → h'.2 r = h.2 r) → dRun (fun j => tx (h.2 96) t (250 + 2 * j)) (tx (h.2 96) t (3 + 12 * i)).toNat n = some (t0, v0) →
    (∀ j, j < t0 → h'.2 104 j = (eRun (fun j => tx (h.2 96) t (250 + 2 * j)) (fun j => tx (h.2 96) t (251 + 2 * j)) nm (tx (h.2 96) t (3 + 12 * i)).toNat n).2 j) → (∀ j, j < v0 → h'.2 103 j = (eRun (fun j => tx (h.2 96) t (250 + 2 * j)) (fun j => tx (h.2 96) t (251 + 2 * j)) nm (tx (h.2 96) t (3 + 12 * i)).toNat n).2 (t0 + j)) →
    zJ g (D + 2) 197 0 0 15 [xr 95, xi t, xi ((2000 + 900 * t + (1 + 12 * i) : Nat) : Int), xi v0, xi t0, xi (tx (h.2 96) t (3 + 12 * i) + n), w6, w7] [] h' (x_qv Q) := by
  obtain ⟨u1, u2, u3, u4, u5, u6⟩ := hT.2 i hi
  have hT0 := hT.1
  generalize eT : tx (h.2 96) t = T at *
  have hend : ∃ t0 v0, dRun (fun j => T (250 + 2 * j)) (T (3 + 12 * i)).toNat (T (4 + 12 * i) - T (3 + 12 * i)).toNat = some (t0, v0) ∧ (T (1 + 12 * i) ≤ 3 → t0 = 1 ∧ v0 = 0) ∧ (4 ≤ T (1 + 12 * i) → t0 = 0 ∧ v0 = 1) := by
    by_cases e : T (1 + 12 * i) ≤ 3
    · exact ⟨1, 0, u5 e, fun _ => ⟨rfl, rfl⟩, fun _ => by omega⟩
    · exact ⟨0, 1, u6 (by omega) hk, fun _ => by omega, fun _ => ⟨rfl, rfl⟩⟩
  have pre : ∀ (m n : Nat), n + m = (T (4 + 12 * i) - T (3 + 12 * i)).toNat → ∃ t0 v0, dRun (fun j => T (250 + 2 * j)) (T (3 + 12 * i)).toNat n = some (t0, v0) := by
    intro m
    induction m with
    | zero => intro n e; obtain ⟨t0, v0, z, -⟩ := hend; exact ⟨t0, v0, by rw [show n = (T (4 + 12 * i) - T (3 + 12 * i)).toNat by omega]; exact z⟩
    | succ m ih =>
      intro n e
      obtain ⟨t0, v0, z⟩ := ih (n + 1) (by omega)
      unfold dRun at z
      cases hd : dRun (fun j => T (250 + 2 * j)) (T (3 + 12 * i)).toNat n with
      | none => rw [hd] at z; cases z
      | some p => exact ⟨p.1, p.2, rfl⟩
  have cks : ∀ j, j < (T (4 + 12 * i) - T (3 + 12 * i)).toNat → cok (T (250 + 2 * ((T (3 + 12 * i)).toNat + j))) (T (251 + 2 * ((T (3 + 12 * i)).toNat + j))) := fun j hj => u4 _ (by omega) (by omega)
  have ec3 : ∀ h' : xH, (∀ r, r ≠ 103 → r ≠ 104 → h'.2 r = h.2 r) → h'.2 96 (2000 + 900 * t + (4 + 12 * i)) = T (4 + 12 * i) := fun h' e => by rw [e 96 (by decide) (by decide), ← eT, tx_at (by omega)]
  intro m
  induction m with
  | zero =>
    intro n t0 v0 h' w6 w7 e e1 e2 hd e3 e4
    refine zX9_work_15 ?_
    rw [x32_id (by omega) (by omega), show (((2000 + 900 * t + (1 + 12 * i) : Nat) : Int) + 3).toNat = 2000 + 900 * t + (4 + 12 * i) by omega, ec3 h' e2]
    refine ⟨by omega, fun z => zX9_work_343 (hQ h' e1 e2 (fun k3 => ?_) (fun k4 => ?_)), fun z => by omega⟩
    · obtain ⟨t9, v9, z0, z1, -⟩ := hend
      rw [show n = (T (4 + 12 * i) - T (3 + 12 * i)).toNat by omega] at hd e3
      rw [z0] at hd
      have := z1 k3
      injection hd with hd; injection hd with hd1 hd2
      exact e3 0 (by omega)
    · obtain ⟨t9, v9, z0, -, z1⟩ := hend
      rw [show n = (T (4 + 12 * i) - T (3 + 12 * i)).toNat by omega] at hd e4
      rw [z0] at hd
      have := z1 k4
      injection hd with hd; injection hd with hd1 hd2
      have := e4 0 (by omega)
      rw [show t0 + 0 = 0 by omega] at this
      exact this
  | succ m ih =>
    intro n t0 v0 h' w6 w7 e e1 e2 z0 e3 e4
    obtain ⟨t1, v1, z1⟩ := pre m (n + 1) (by omega)
    obtain ⟨i1, i2, i3, i4⟩ := e_ok (w := fun j => T (251 + 2 * j)) hn z0 (fun j hj => cks j (by omega))
    have dst : dStep (T (250 + 2 * ((T (3 + 12 * i)).toNat + n))) (t0, v0) = some (t1, v1) := by
      have z1' := z1
      unfold dRun at z1'; rw [z0] at z1'; exact z1'
    have dc := dStep_c dst
    have ck := cks n (by omega)
    have ihn := fun {h' : xH} {w6 w7 : xV} (a : h'.1 = h.1) (b : ∀ r, r ≠ 103 → r ≠ 104 → h'.2 r = h.2 r) => @ih (n + 1) t1 v1 h' w6 w7 (by omega) a b z1
    rw [show (eRun (fun j => T (250 + 2 * j)) (fun j => T (251 + 2 * j)) nm (T (3 + 12 * i)).toNat (n + 1)) = ((eRun (fun j => T (250 + 2 * j)) (fun j => T (251 + 2 * j)) nm (T (3 + 12 * i)).toNat n).1 - tk (T (250 + 2 * ((T (3 + 12 * i)).toNat + n))) + 1, e_up (eRun (fun j => T (250 + 2 * j)) (fun j => T (251 + 2 * j)) nm (T (3 + 12 * i)).toNat n).2 ((eRun (fun j => T (250 + 2 * j)) (fun j => T (251 + 2 * j)) nm (T (3 + 12 * i)).toNat n).1 - tk (T (250 + 2 * ((T (3 + 12 * i)).toNat + n)))) (eVal (T (250 + 2 * ((T (3 + 12 * i)).toNat + n))) (T (251 + 2 * ((T (3 + 12 * i)).toNat + n))) nm ((eRun (fun j => T (250 + 2 * j)) (fun j => T (251 + 2 * j)) nm (T (3 + 12 * i)).toNat n).2 ((eRun (fun j => T (250 + 2 * j)) (fun j => T (251 + 2 * j)) nm (T (3 + 12 * i)).toNat n).1 - tk (T (250 + 2 * ((T (3 + 12 * i)).toNat + n))))) ((eRun (fun j => T (250 + 2 * j)) (fun j => T (251 + 2 * j)) nm (T (3 + 12 * i)).toNat n).2 ((eRun (fun j => T (250 + 2 * j)) (fun j => T (251 + 2 * j)) nm (T (3 + 12 * i)).toNat n).1 - tk (T (250 + 2 * ((T (3 + 12 * i)).toNat + n))) + 1)))) from rfl] at ihn
    have co : h'.2 96 (2000 + 900 * t + (250 + 2 * ((T (3 + 12 * i)).toNat + n))) = T (250 + 2 * ((T (3 + 12 * i)).toNat + n)) := by have q := tx_at (A := h.2 96) (t := t) (k := 250 + 2 * ((T (3 + 12 * i)).toNat + n)) (by omega); rw [eT] at q; rw [e2 96 (by decide) (by decide)]; exact q.symm
    have cv : h'.2 96 (2000 + 900 * t + (251 + 2 * ((T (3 + 12 * i)).toNat + n))) = T (251 + 2 * ((T (3 + 12 * i)).toNat + n)) := by have q := tx_at (A := h.2 96) (t := t) (k := 251 + 2 * ((T (3 + 12 * i)).toNat + n)) (by omega); rw [eT] at q; rw [e2 96 (by decide) (by decide)]; exact q.symm
    have xc : (2000 + 900 * (t : Int) + 250 + 2 * (T (3 + 12 * i) + (n : Int))).toNat = 2000 + 900 * t + (250 + 2 * ((T (3 + 12 * i)).toNat + n)) := by omega
    have xv : (2000 + 900 * (t : Int) + 250 + 2 * (T (3 + 12 * i) + (n : Int)) + 1).toNat = 2000 + 900 * t + (251 + 2 * ((T (3 + 12 * i)).toNat + n)) := by omega
    refine zX9_work_15 ?_
    rw [x32_id (show -2147483648 ≤ ((2000 + 900 * t + (1 + 12 * i) : Nat) : Int) + 3 by omega) (by omega), show (((2000 + 900 * t + (1 + 12 * i) : Nat) : Int) + 3).toNat = 2000 + 900 * t + (4 + 12 * i) by omega, ec3 h' e2]
    rw [x32_id (show -2147483648 ≤ 900 * (t : Int) by omega) (by omega), x32_id (show -2147483648 ≤ 2000 + 900 * (t : Int) by omega) (by omega), x32_id (show -2147483648 ≤ 2000 + 900 * (t : Int) + 250 by omega) (by omega), x32_id (show -2147483648 ≤ 2 * (T (3 + 12 * i) + (n : Int)) by omega) (by omega), x32_id (show -2147483648 ≤ 2000 + 900 * (t : Int) + 250 + 2 * (T (3 + 12 * i) + (n : Int)) by omega) (by omega), x32_id (show -2147483648 ≤ 2000 + 900 * (t : Int) + 250 + 2 * (T (3 + 12 * i) + (n : Int)) + 1 by omega) (by omega), x32_id (show -2147483648 ≤ (v0 : Int) + 1 by omega) (by omega), x32_id (show -2147483648 ≤ T (3 + 12 * i) + (n : Int) + 1 by omega) (by omega)]
    rw [xc, xv, co, cv]
    have enx : T (3 + 12 * i) + (n : Int) + 1 = T (3 + 12 * i) + ((n + 1 : Nat) : Int) := by omega
    rw [enx]
    generalize eo : T (250 + 2 * ((T (3 + 12 * i)).toNat + n)) = o at *
    generalize ev : T (251 + 2 * ((T (3 + 12 * i)).toNat + n)) = x at *
    generalize (eRun (fun j => T (250 + 2 * j)) (fun j => T (251 + 2 * j)) nm (T (3 + 12 * i)).toNat n).2 = S at *
    rw [i1] at ihn
    clear co cv xc xv z0 z1 dst ih pre hend
    have o2 : ∀ (r j : Nat) (y : Int), r = 103 ∨ r = 104 → ∀ q, q ≠ 103 → q ≠ 104 → x_up h'.2 r j y q = h.2 q := fun r j y hr q q1 q2 => by rw [x_up_r (by omega)]; exact e2 q q1 q2
    refine ⟨by omega, fun z => by omega, fun z => ⟨by omega, by omega, fun w => zX9_work_117 ⟨fun w2 => zX9_work_143 ⟨fun w3 => zX9_work_183 ⟨fun w4 => zX9_work_225 ⟨fun w5 => zX9_work_261 ?_, fun w5 => ?_⟩, fun w4 => ?_⟩, fun w3 => ?_⟩, fun w2 => ?_⟩, fun w => ⟨fun w2 => zX9_work_102 ?_, fun w2 => ⟨by omega, ?_⟩⟩⟩⟩
    · -- and, or
      have k2 : tk o = 2 := by unfold tk; rw [if_neg (by omega), if_neg (by omega)]
      have d : v0 = 0 ∧ 2 ≤ t0 ∧ t1 = t0 - 1 ∧ v1 = 0 := by omega
      have oo : o = 21 ∨ o = 22 := by unfold cok at ck; omega
      have ex : ∀ {w6 w7 : xV} (y : Int), eVal o x nm (S (t0 - 2)) (S (t0 - 1)) = y → zJ g (D + 2) 197 0 0 15 [xr 95, xi t, xi ((2000 + 900 * t + (1 + 12 * i) : Nat) : Int), xi v0, xi ((t0 : Int) - 1), xi (T (3 + 12 * i) + ((n + 1 : Nat) : Int)), w6, w7] [] (h'.1, x_up h'.2 104 (t0 - 2) y) (x_qv Q) := by
        intro w6 w7 y hy
        have := ihn (h' := (h'.1, x_up h'.2 104 (t0 - 2) y)) (w6 := w6) (w7 := w7) e1 (o2 _ _ _ (Or.inr rfl)) (fun j hj => ?_) (fun j hj => by omega)
        · rw [show (v0 : Int) = (v1 : Int) by omega, show (t0 : Int) - 1 = (t1 : Int) by omega]; exact this
        · show x_up h'.2 104 (t0 - 2) y 104 j = e_up S (t0 + v0 - tk o) _ j
          unfold e_up
          rw [k2, show t0 + v0 - 2 = t0 - 2 by omega, show t0 - 2 + 1 = t0 - 1 by omega, hy]
          by_cases q : j = t0 - 2
          · rw [if_pos q, q, x_up_eq]
          · rw [if_neg q, x_up_j q]; exact e3 j (by omega)
      have b1 := i3 (t0 - 2) (by omega)
      have b2 := i3 (t0 - 1) (by omega)
      have s1 := e3 (t0 - 2) (by omega)
      have s2 := e3 (t0 - 1) (by omega)
      have x1 : ((t0 : Int) + -1).toNat = t0 - 1 := by omega
      have x2 : ((t0 : Int) + -1 - 1).toNat = t0 - 2 := by omega
      have x3 : (t0 : Int) + -1 = (t0 : Int) - 1 := by omega
      simp (disch := omega) only [x32_id]
      rw [x1, x2, s1, s2]
      refine ⟨fun q => zX9_work_309 ?_, fun q => ⟨by omega, fun q2 => zX9_work_305 ?_, fun q2 => ⟨by omega, fun q3 => zX9_work_305 ?_, fun q3 => ⟨by omega, by decide, ?_⟩⟩⟩⟩
      · simp (disch := omega) only [x32_id]
        rw [x1, x2, s1, s2]
        have o22 : o = 22 := by omega
        subst o22
        refine ⟨by omega, fun q2 => zX9_work_331 ?_, fun q2 => ⟨by omega, fun q3 => zX9_work_335 ?_, fun q3 => ⟨by omega, by decide, ?_⟩⟩⟩
        · simp (disch := omega) only [x32_id]
          rw [x2, enx, x3]
          exact ⟨by omega, by decide, ex 1 (by show max (S (t0 - 2)) (S (t0 - 1)) = 1; omega)⟩
        · simp (disch := omega) only [x32_id]
          rw [x2, enx, x3]
          exact ⟨by omega, by decide, ex 0 (by show max (S (t0 - 2)) (S (t0 - 1)) = 0; omega)⟩
        · rw [enx, x3]
          exact ex 1 (by show max (S (t0 - 2)) (S (t0 - 1)) = 1; omega)
      · subst q
        simp (disch := omega) only [x32_id]
        rw [x2, enx, x3]
        exact ⟨by omega, by decide, ex 0 (by show min (S (t0 - 2)) (S (t0 - 1)) = 0; omega)⟩
      · subst q
        simp (disch := omega) only [x32_id]
        rw [x2, enx, x3]
        exact ⟨by omega, by decide, ex 0 (by show min (S (t0 - 2)) (S (t0 - 1)) = 0; omega)⟩
      · subst q
        rw [enx, x3]
        exact ex 1 (by show min (S (t0 - 2)) (S (t0 - 1)) = 1; omega)
    · -- not
      subst w5
      have k2 : tk 20 = 1 := rfl
      have d : v0 = 0 ∧ 1 ≤ t0 ∧ t1 = t0 ∧ v1 = 0 := by omega
      have ex : ∀ {w6 w7 : xV} (y : Int), 1 - S (t0 - 1) = y → zJ g (D + 2) 197 0 0 15 [xr 95, xi t, xi ((2000 + 900 * t + (1 + 12 * i) : Nat) : Int), xi v0, xi t0, xi (T (3 + 12 * i) + ((n + 1 : Nat) : Int)), w6, w7] [] (h'.1, x_up h'.2 104 (t0 - 1) y) (x_qv Q) := by
        intro w6 w7 y hy
        have := ihn (h' := (h'.1, x_up h'.2 104 (t0 - 1) y)) (w6 := w6) (w7 := w7) e1 (o2 _ _ _ (Or.inr rfl)) (fun j hj => ?_) (fun j hj => by omega)
        · rw [show (v0 : Int) = (v1 : Int) by omega, show (t0 : Int) = (t1 : Int) by omega]; exact this
        · show x_up h'.2 104 (t0 - 1) y 104 j = e_up S (t0 + v0 - tk 20) (1 - S (t0 + v0 - tk 20)) j
          unfold e_up
          rw [k2, show t0 + v0 - 1 = t0 - 1 by omega, hy]
          by_cases q : j = t0 - 1
          · rw [if_pos q, q, x_up_eq]
          · rw [if_neg q, x_up_j q]; exact e3 j (by omega)
      have b2 := i3 (t0 - 1) (by omega)
      have s2 := e3 (t0 - 1) (by omega)
      simp (disch := omega) only [x32_id]
      rw [show ((t0 : Int) - 1).toNat = t0 - 1 by omega, s2, enx]
      refine ⟨by omega, fun q => zX9_work_256 ?_, fun q => ⟨by omega, by decide, ex 1 (by omega)⟩⟩
      simp (disch := omega) only [x32_id]
      rw [show ((t0 : Int) - 1).toNat = t0 - 1 by omega, enx]
      exact ⟨by omega, by decide, ex 0 (by omega)⟩
    · -- asked
      have k2 : tk o = 2 := by unfold tk; rw [if_neg (by omega), if_neg (by omega)]
      have d : v0 = 2 ∧ t1 = t0 + 1 ∧ v1 = 0 := by omega
      have s1 := e4 0 (by omega)
      have s2 := e4 1 (by omega)
      simp (disch := omega) only [x32_id]
      rw [show ((v0 : Int) + -2).toNat = 0 by omega, show ((v0 : Int) + -2 + 1).toNat = 1 by omega, s1, s2]
      refine ⟨by omega, by omega, r_asked (by unfold cok at ck; omega) ⟨by omega, askd_b _ _ _, ?_⟩⟩
      rw [show ((t0 : Int)).toNat = t0 by omega, show (v0 : Int) + -2 = (v1 : Int) by omega, show (t0 : Int) + 1 = (t1 : Int) by omega, enx]
      refine ihn e1 (o2 _ _ _ (Or.inr rfl)) (fun j hj => ?_) (fun j hj => by omega)
      show x_up h'.2 104 t0 (askd o (S (t0 + 0)) (S (t0 + 1))) 104 j = e_up S (t0 + v0 - tk o) (eVal o x nm (S (t0 + v0 - tk o)) (S (t0 + v0 - tk o + 1))) j
      unfold e_up
      rw [k2, show t0 + v0 - 2 = t0 by omega]
      by_cases q : j = t0
      · rw [if_pos q, q, x_up_eq]
        unfold eVal
        rw [if_neg (by omega), if_neg (by omega), if_neg (by omega), if_neg (by omega), if_pos w4, Nat.add_zero]
      · rw [if_neg q, x_up_j q]; exact e3 j (by omega)
    · -- two sums
      have k2 : tk o = 2 := by unfold tk; rw [if_neg (by omega), if_neg (by omega)]
      have d : 2 ≤ v0 ∧ t1 = t0 ∧ v1 = v0 - 1 := by omega
      have s1 := e4 (v0 - 2) (by omega)
      have s2 := e4 (v0 - 1) (by omega)
      have b1 := i4 (v0 - 2) (by omega)
      have b2 := i4 (v0 - 1) (by omega)
      simp (disch := omega) only [x32_id]
      rw [show ((v0 : Int) + -1 - 1).toNat = v0 - 2 by omega, show ((v0 : Int) + -1).toNat = v0 - 1 by omega, s1, s2]
      refine ⟨by omega, by omega, r_two (by unfold cok at ck; omega) b1 b2 ⟨by omega, ?_⟩⟩
      rw [show (v0 : Int) + -1 = (v1 : Int) by omega, show (t0 : Int) = (t1 : Int) by omega, enx]
      refine ihn e1 (o2 _ _ _ (Or.inl rfl)) (fun j hj => ?_) (fun j hj => ?_)
      · show x_up h'.2 103 (v0 - 2) (two o (S (t0 + (v0 - 2))) (S (t0 + (v0 - 1)))) 104 j = e_up S (t0 + v0 - tk o) _ j
        unfold e_up
        rw [x_up_r (by decide), if_neg (by omega)]; exact e3 j (by omega)
      · show x_up h'.2 103 (v0 - 2) (two o (S (t0 + (v0 - 2))) (S (t0 + (v0 - 1)))) 103 j = e_up S (t0 + v0 - tk o) (eVal o x nm (S (t0 + v0 - tk o)) (S (t0 + v0 - tk o + 1))) (t1 + j)
        unfold e_up
        rw [k2]
        by_cases q : j = v0 - 2
        · rw [if_pos (by omega), q, x_up_eq]
          unfold eVal
          rw [if_neg (by omega), if_neg (by omega), if_neg (by omega), if_pos w3, show t0 + (v0 - 2) = t0 + v0 - 2 by omega, show t0 + (v0 - 1) = t0 + v0 - 2 + 1 by omega]
        · rw [if_neg (by omega), x_up_j q, show t1 = t0 by omega]; exact e4 j (by omega)
    · -- minus
      subst w2
      have d : 1 ≤ v0 ∧ t1 = t0 ∧ v1 = v0 := by omega
      have s1 := e4 (v0 - 1) (by omega)
      have b1 := i4 (v0 - 1) (by omega)
      simp (disch := omega) only [x32_id]
      rw [show ((v0 : Int) - 1).toNat = v0 - 1 by omega, s1, x64_id (by omega) (by omega), enx]
      refine ⟨by omega, by omega, ?_⟩
      rw [show (v0 : Int) = (v1 : Int) by omega, show (t0 : Int) = (t1 : Int) by omega]
      refine ihn e1 (o2 _ _ _ (Or.inl rfl)) (fun j hj => ?_) (fun j hj => ?_)
      · show (_ : Int) = e_up S (t0 + v0 - 1) (-(S (t0 + v0 - 1))) j; dsimp only
        unfold e_up
        rw [x_up_r (by decide), if_neg (by omega)]; exact e3 j (by omega)
      · show x_up h'.2 103 (v0 - 1) (-(S (t0 + (v0 - 1)))) 103 j = e_up S (t0 + v0 - 1) (-(S (t0 + v0 - 1))) (t1 + j)
        unfold e_up
        by_cases q : j = v0 - 1
        · rw [if_pos (by omega), q, x_up_eq, show t0 + (v0 - 1) = t0 + v0 - 1 by omega]
        · rw [if_neg (by omega), x_up_j q, show t1 = t0 by omega]; exact e4 j (by omega)
    · -- a name
      have o1 : o = 1 := by unfold cok at ck; omega
      have hx : 0 ≤ x ∧ x ≤ 6 := by unfold cok at ck; omega
      have d : t0 + v0 < 60 ∧ t1 = t0 ∧ v1 = v0 + 1 := by omega
      subst o1
      rw [x32_id (show -2147483648 ≤ (v0 : Int) + 1 by omega) (by omega), x32_id (show -2147483648 ≤ T (3 + 12 * i) + (n : Int) + 1 by omega) (by omega), enx, show ((v0 : Int)).toNat = v0 by omega, e2 102 (by decide) (by decide), hm x.toNat (by omega)]
      refine ⟨by omega, by omega, ?_⟩
      rw [show (v0 : Int) + 1 = (v1 : Int) by omega, show (t0 : Int) = (t1 : Int) by omega]
      refine ihn e1 (o2 _ _ _ (Or.inl rfl)) (fun j hj => ?_) (fun j hj => ?_)
      · show (_ : Int) = e_up S (t0 + v0 - 0) (nm x.toNat) j; dsimp only
        unfold e_up
        rw [x_up_r (by decide), if_neg (by omega)]; exact e3 j (by omega)
      · show x_up h'.2 103 v0 (nm x.toNat) 103 j = e_up S (t0 + v0 - 0) (nm x.toNat) (t1 + j)
        unfold e_up
        by_cases q : j = v0
        · rw [if_pos (by omega), q, x_up_eq]
        · rw [if_neg (by omega), x_up_j q, show t1 = t0 by omega]; exact e4 j (by omega)
    · -- a number
      have d : t0 + v0 < 60 ∧ t1 = t0 ∧ v1 = v0 + 1 := by omega
      subst w2
      rw [show ((v0 : Int)).toNat = v0 by omega, show (v0 : Int) + 1 = (v1 : Int) by omega, show (t0 : Int) = (t1 : Int) by omega]
      refine ihn e1 (o2 _ _ _ (Or.inl rfl)) (fun j hj => ?_) (fun j hj => ?_)
      · show (_ : Int) = e_up S (t0 + v0 - 0) x j; dsimp only
        unfold e_up
        rw [x_up_r (by decide), if_neg (by omega)]; exact e3 j (by omega)
      · show x_up h'.2 103 v0 x 103 j = e_up S (t0 + v0 - 0) x (t1 + j)
        unfold e_up
        by_cases q : j = v0
        · rw [if_pos (by omega), q, x_up_eq]
        · rw [if_neg (by omega), x_up_j q, show t1 = t0 by omega]; exact e4 j (by omega)
theorem r_work {g : xG} {D : Nat} {h : xH} {t : Nat} {nm : Nat → Int} {Q : xH → Prop} (ht : t < 10) (hT : tokT (tx (h.2 96) t)) {i : Nat} (hi : (i : Int) < tx (h.2 96) t 0) (hk : tx (h.2 96) t (1 + 12 * i) ≤ 6) (hn : nm_ok nm) (hm : nmR h nm) (hQ : ∀ h', h'.1 = h.1 → (∀ r, r ≠ 103 → r ≠ 104 → h'.2 r = h.2 r) → (tx (h.2 96) t (1 + 12 * i) ≤ 3 → h'.2 104 0 = vC (tx (h.2 96) t) nm i) → (4 ≤ tx (h.2 96) t (1 + 12 * i) → h'.2 103 0 = vC (tx (h.2 96) t) nm i) → Q h') : zSv g (D + 2) mX9_work [xr 95, xi t, xi ((2000 + 900 * t + (1 + 12 * i) : Nat) : Int)] h Q := by
  obtain ⟨u1, u2, u3, u4, u5, u6⟩ := hT.2 i hi
  have hT0 := hT.1
  refine eX9_work (zX9_work_0 ?_)
  rw [x32_id (by omega) (by omega), show (((2000 + 900 * t + (1 + 12 * i) : Nat) : Int) + 2).toNat = 2000 + 900 * t + (3 + 12 * i) by omega, ← tx_at (A := h.2 96) (t := t) (k := 3 + 12 * i) (by omega)]
  have := l_work (g := g) (D := D) ht hT hi hk hn hm hQ (tx (h.2 96) t (4 + 12 * i) - tx (h.2 96) t (3 + 12 * i)).toNat 0 0 0 (h' := h) (w6 := xu) (w7 := xu) (by omega) rfl (fun _ _ _ => rfl) rfl (fun j hj => absurd hj (Nat.not_lt_zero j)) (fun j hj => absurd hj (Nat.not_lt_zero j))
  rw [show tx (h.2 96) t (3 + 12 * i) + ((0 : Nat) : Int) = tx (h.2 96) t (3 + 12 * i) by omega] at this
  exact ⟨by omega, this⟩
