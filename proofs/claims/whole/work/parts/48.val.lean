/-! what a clause comes to, in the class -/
def nO (A : Nat → Int) (bs k day d : Int) : Int := if aB A bs k day < 0 then d else tx A (aB A bs k day).toNat (2 + 12 * (fO (tx A (aB A bs k day).toNat) k).toNat)
theorem s_told {g : xG} {D : Nat} {h : xH} {bs : Int} {k : Nat} {day : Int} {Q : Int → xH → Prop} (b : zB h bs) (hk : 6 ≤ k ∧ k < 10) (hQ : Q (nO (h.2 96) bs k day (x_ltv 2 k)) h) : zSi g (D + 3) mX1_told [xr 75, xi k, xi day] h Q := by
  unfold nO at hQ
  refine eX1_told (zX1_told_0 (s_actFor b hk.2 (fun e => ?_) (fun t r e hl a hf => ?_)))
  · rw [e] at hQ
    refine ⟨fun _ => zX1_told_21 ⟨fun z => by omega, fun z => ⟨fun z2 => by omega, fun z2 => ⟨by omega, ?_⟩⟩⟩, fun z => absurd rfl z⟩
    rw [if_pos (by decide)] at hQ
    rw [show ((k : Int)).toNat = k by omega]
    exact hQ
  · have hr := a.2.1
    refine ⟨fun z => by omega, fun z => ⟨(aP_act a).1, s_firstOf a (by omega) ⟨(aP_act a).1, ?_⟩⟩⟩
    rw [e, if_neg (by omega), show ((t : Int)).toNat = t by omega] at hQ
    rcases fO_c (tx (h.2 96) t) k with c | ⟨i, c1, c2, c3⟩
    · omega
    · rw [c1] at hQ ⊢
      rw [show ((i : Int)).toNat = i by omega] at hQ
      exact s_numberAt a c2 (by omega) hQ
theorem cw_c {o v : Int} (h : cok o v) : (o = 0 ∧ cw o v = v ∧ 0 ≤ v ∧ v ≤ 9999) ∨ (o = 1 ∧ ((v = 0 ∧ cw o v = 10010) ∨ (v = 1 ∧ cw o v = 10011) ∨ (v = 2 ∧ cw o v = 10012) ∨ (v = 3 ∧ cw o v = 10013) ∨ (v = 4 ∧ cw o v = 10014) ∨ (v = 5 ∧ cw o v = 10000) ∨ (v = 6 ∧ cw o v = 10015))) ∨ (o = 2 ∧ cw o v = 10038) ∨ (o = 3 ∧ cw o v = 10025) ∨ (o = 4 ∧ cw o v = 10026) ∨ (o = 5 ∧ cw o v = 10027) ∨ (o = 6 ∧ cw o v = 10028) ∨ (o = 7 ∧ cw o v = 10019) ∨ (o = 8 ∧ cw o v = 10020) ∨ (o = 10 ∧ cw o v = 10021) ∨ (o = 11 ∧ cw o v = 10033) ∨ (o = 12 ∧ cw o v = 10022) ∨ (o = 13 ∧ cw o v = 10034) ∨ (o = 14 ∧ cw o v = 10023) ∨ (o = 15 ∧ cw o v = 10024) ∨ (o = 20 ∧ cw o v = 10018) ∨ (o = 21 ∧ cw o v = 10016) ∨ (o = 22 ∧ cw o v = 10017) := by
  rcases h with ⟨h1, h2⟩ | ⟨h1, h2⟩ | h1 | h1 | h1
  · left; subst h1; exact ⟨rfl, rfl, h2⟩
  · right; left; subst h1
    refine ⟨rfl, ?_⟩
    have : v = 0 ∨ v = 1 ∨ v = 2 ∨ v = 3 ∨ v = 4 ∨ v = 5 ∨ v = 6 := by omega
    rcases this with e | e | e | e | e | e | e <;> subst e <;> decide
  · have : o = 2 ∨ o = 3 ∨ o = 4 ∨ o = 5 ∨ o = 6 ∨ o = 7 ∨ o = 8 := by omega
    right; right
    rcases this with e | e | e | e | e | e | e <;> subst e <;> simp [cw]
  · have : o = 10 ∨ o = 11 ∨ o = 12 ∨ o = 13 ∨ o = 14 ∨ o = 15 := by omega
    right; right
    rcases this with e | e | e | e | e | e <;> subst e <;> simp [cw]
  · have : o = 20 ∨ o = 21 ∨ o = 22 := by omega
    right; right
    rcases this with e | e | e <;> subst e <;> simp [cw]
theorem s_taken {g : xG} {D : Nat} {h : xH} {o v : Int} {Q : Int → xH → Prop} (hc : cok o v) (hQ : Q (tk o : Int) h) : zSi g D mX1_takenBy [xi (cw o v - 10000)] h Q := by
  have c := cw_c hc
  refine eX1_takenBy (zX1_takenBy_0 ⟨fun z => zX1_takenBy_8 ⟨fun y => zX1_takenBy_20 ?_, fun y => ⟨fun w => zX1_takenBy_24 ?_, fun w => ?_⟩⟩, fun z => ?_⟩)
  · have e : tk o = 1 := by unfold tk; rw [if_neg (by omega), if_pos (by omega)]
    rw [e] at hQ; exact hQ
  · have e : tk o = 2 := by unfold tk; rw [if_neg (by omega), if_neg (by omega)]
    rw [e] at hQ; exact hQ
  · have e : tk o = 1 := by unfold tk; rw [if_neg (by omega), if_pos (by omega)]
    rw [e] at hQ; exact hQ
  · have e : tk o = 0 := by unfold tk; rw [if_pos (by omega)]
    rw [e] at hQ; exact hQ
/-- the bench's names -/
def nIx (i : Nat) : Nat := [10, 11, 12, 13, 14, 0, 15].getD i 0
def nmC (h : xH) (nm : Nat → Int) : Prop := ∀ i, i < 7 → h.2 76 (nIx i) = nm i
theorem p_mul {x y : Int} (hx : -1000000000 ≤ x ∧ x ≤ 1000000000) (hy : -1000000000 ≤ y ∧ y ≤ 1000000000) : -1000000000000000000 ≤ x * y ∧ x * y ≤ 1000000000000000000 := by
  have h1 : (x * y).natAbs ≤ 1000000000 * 1000000000 := by
    rw [Int.natAbs_mul]
    exact Nat.mul_le_mul (by omega) (by omega)
  omega
theorem p_div {x y : Int} (hx : -1000000000 ≤ x ∧ x ≤ 1000000000) : -1000000000 ≤ x.tdiv y ∧ x.tdiv y ≤ 1000000000 := by
  have h1 : (x.tdiv y).natAbs ≤ x.natAbs := by
    rw [Int.natAbs_tdiv]
    exact Nat.div_le_self _ _
  omega
theorem s_stepOf {g : xG} {D : Nat} {h : xH} {o v x y : Int} {nm : Nat → Int} {Q : Int → xH → Prop} (hc : cok o v) (ho : 1 ≤ o) (hm : nmC h nm) (hn : nm_ok nm) (hx : 2 ≤ o → -1000000000 ≤ x ∧ x ≤ 1000000000) (hy : tk o = 2 → -1000000000 ≤ y ∧ y ≤ 1000000000) (hxb : 20 ≤ o → x = 0 ∨ x = 1) (hyb : 21 ≤ o → y = 0 ∨ y = 1) (hQ : ∀ w, clip w = eVal o v nm x y → Q w h) : zSl g (D + 1) mX1_stepOf [xr 75, xi (cw o v - 10000), xl x, xl y] h Q := by
  have K : ∀ w e : Int, eVal o v nm x y = e → clip w = e → Q w h := fun w e h1 h2 => hQ w (by rw [h1, h2])
  have c := cw_c hc
  have t2 : 3 ≤ o → o ≠ 20 → tk o = 2 := fun a b => by unfold tk; rw [if_neg (by omega), if_neg (by omega)]
  refine eX1_stepOf (zX1_stepOf_0 ?_)
  refine ⟨fun z => ?_, fun z => ?_, fun z => ?_, fun z => ?_, fun z => ?_, fun z => ?_, fun z => ?_, fun z => ?_, fun z => ?_, fun z => ?_, fun z => ?_, fun z => ?_, fun z => ?_, fun z => ?_, fun z => by omega, fun z => by omega, fun z => by omega, fun z => by omega, fun z => ?_, fun z => ?_, fun z => by omega, fun z => by omega, fun z => by omega, fun z => ?_, trivial⟩
  · have o1 : o = 1 := by omega
    refine zX1_stepOf_248 ⟨fun y => by omega, fun y => ⟨fun w => by omega, fun w => ⟨⟨y, w⟩, ?_⟩⟩⟩
    have hv : 0 ≤ v ∧ v ≤ 6 := by omega
    have hi : (cw o v - 10000).toNat = nIx v.toNat := by
      rcases c with c | c | c
      · omega
      · rcases c.2 with c | c | c | c | c | c | c <;> rw [c.1, ← c.1, c.2, c.1] <;> rfl
      · omega
    rw [hi, hm v.toNat (by omega)]
    refine K _ (nm v.toNat) ?_ ?_
    · unfold eVal; rw [if_neg (by omega), if_pos o1]
    · have := hn v.toNat (by omega)
      exact clip_id this.1 this.2
  · have o1 : o = 21 := by omega
    subst o1
    refine zX1_stepOf_108 (K _ (min x y) rfl ?_)
    rcases hxb (by decide) with e | e <;> rcases hyb (by decide) with e2 | e2 <;> subst e <;> subst e2 <;> decide
  · have o1 : o = 22 := by omega
    subst o1
    refine zX1_stepOf_113 (K _ (max x y) rfl ?_)
    rcases hxb (by decide) with e | e <;> rcases hyb (by decide) with e2 | e2 <;> subst e <;> subst e2 <;> decide
  · have o1 : o = 20 := by omega
    subst o1
    refine zX1_stepOf_118 (K _ (1 - x) rfl ?_)
    rcases hxb (by decide) with e | e <;> subst e <;> decide
  · have o1 : o = 7 := by omega
    subst o1
    have := hx (by decide)
    have := hy rfl
    exact zX1_stepOf_200 (K _ (min x y) rfl (clip_id (by omega) (by omega)))
  · have o1 : o = 8 := by omega
    subst o1
    have := hx (by decide)
    have := hy rfl
    exact zX1_stepOf_207 (K _ (max x y) rfl (clip_id (by omega) (by omega)))
  · have o1 : o = 10 := by omega
    subst o1
    refine zX1_stepOf_122 ⟨fun w => zX1_stepOf_133 (K _ _ (show eVal 10 v nm x y = if x < y then 1 else 0 from rfl) ?_), fun w => K _ _ (show eVal 10 v nm x y = if x < y then 1 else 0 from rfl) ?_⟩ <;> unfold x_cmp at w <;> repeat' split at w
    all_goals first | omega | (rw [if_pos (by omega)]; decide) | (rw [if_neg (by omega)]; decide)
  · have o1 : o = 12 := by omega
    subst o1
    refine zX1_stepOf_148 ⟨fun w => zX1_stepOf_159 (K _ _ (show eVal 12 v nm x y = if y < x then 1 else 0 from rfl) ?_), fun w => K _ _ (show eVal 12 v nm x y = if y < x then 1 else 0 from rfl) ?_⟩ <;> unfold x_cmp at w <;> repeat' split at w
    all_goals first | omega | (rw [if_pos (by omega)]; decide) | (rw [if_neg (by omega)]; decide)
  · have o1 : o = 14 := by omega
    subst o1
    refine zX1_stepOf_174 ⟨fun w => zX1_stepOf_185 (K _ _ (show eVal 14 v nm x y = if x = y then 1 else 0 from rfl) ?_), fun w => K _ _ (show eVal 14 v nm x y = if x = y then 1 else 0 from rfl) ?_⟩ <;> unfold x_cmp at w <;> repeat' split at w
    all_goals first | omega | (rw [if_pos (by omega)]; decide) | (rw [if_neg (by omega)]; decide)
  · have o1 : o = 15 := by omega
    subst o1
    refine zX1_stepOf_187 ⟨fun w => zX1_stepOf_198 (K _ _ (show eVal 15 v nm x y = if x = y then 0 else 1 from rfl) ?_), fun w => K _ _ (show eVal 15 v nm x y = if x = y then 0 else 1 from rfl) ?_⟩ <;> unfold x_cmp at w <;> repeat' split at w
    all_goals first | omega | (rw [if_pos (by omega)]; decide) | (rw [if_neg (by omega)]; decide)
  · have o1 : o = 3 := by omega
    subst o1
    have := hx (by decide)
    have := hy rfl
    refine zX1_stepOf_217 (K _ (clip (x + y)) rfl ?_)
    rw [x64_id (by omega) (by omega)]
  · have o1 : o = 4 := by omega
    subst o1
    have := hx (by decide)
    have := hy rfl
    refine zX1_stepOf_222 (K _ (clip (x - y)) rfl ?_)
    rw [x64_id (by omega) (by omega)]
  · have o1 : o = 5 := by omega
    subst o1
    have := p_mul (hx (by decide)) (hy rfl)
    refine zX1_stepOf_227 (K _ (clip (x * y)) rfl ?_)
    rw [x64_id (by omega) (by omega)]
  · have o1 : o = 6 := by omega
    subst o1
    have := p_div (y := y) (hx (by decide))
    refine zX1_stepOf_232 ⟨fun w => zX1_stepOf_243 ?_, fun w => K _ _ (show eVal 6 v nm x y = if y = 0 then 0 else clip (x.tdiv y) from rfl) ?_⟩ <;> unfold x_cmp at w <;> repeat' split at w
    all_goals first
      | omega
      | (rw [if_pos (by omega)]; decide)
      | (refine ⟨by omega, K _ _ (show eVal 6 v nm x y = if y = 0 then 0 else clip (x.tdiv y) from rfl) ?_⟩; rw [if_neg (by omega), x64_id (by omega) (by omega)])
  · have o1 : o = 11 := by omega
    subst o1
    refine zX1_stepOf_135 ⟨fun w => zX1_stepOf_146 (K _ _ (show eVal 11 v nm x y = if x ≤ y then 1 else 0 from rfl) ?_), fun w => K _ _ (show eVal 11 v nm x y = if x ≤ y then 1 else 0 from rfl) ?_⟩ <;> unfold x_cmp at w <;> repeat' split at w
    all_goals first | omega | (rw [if_pos (by omega)]; decide) | (rw [if_neg (by omega)]; decide)
  · have o1 : o = 13 := by omega
    subst o1
    refine zX1_stepOf_161 ⟨fun w => zX1_stepOf_172 (K _ _ (show eVal 13 v nm x y = if y ≤ x then 1 else 0 from rfl) ?_), fun w => K _ _ (show eVal 13 v nm x y = if y ≤ x then 1 else 0 from rfl) ?_⟩ <;> unfold x_cmp at w <;> repeat' split at w
    all_goals first | omega | (rw [if_pos (by omega)]; decide) | (rw [if_neg (by omega)]; decide)
  · have o1 : o = 2 := by omega
    subst o1
    have := hx (by decide)
    refine zX1_stepOf_214 (K _ (-x) rfl ?_)
    rw [x64_id (by omega) (by omega)]
    exact clip_id (by omega) (by omega)
theorem aP_code {h : xH} {t r : Nat} (a : aP h t r) {i j : Nat} (hi : (i : Int) < tx (h.2 96) t 0) (h1 : tx (h.2 96) t (3 + 12 * i) ≤ (j : Int)) (h2 : (j : Int) < tx (h.2 96) t (4 + 12 * i)) : ∃ N : Nat, x_is h (r + 3) 10 N ∧ h.2 r 1 = ((r + 3 : Nat) : Int) ∧ j < N ∧ h.2 (r + 3) j = cw (tx (h.2 96) t (250 + 2 * j)) (tx (h.2 96) t (251 + 2 * j)) := by
  obtain ⟨-, -, N, k0, k1, k2, k3, k4, e0, e1, e2, e3, e4, e5, -, e6, e7, e8⟩ := a
  have := e7 i hi j h1 h2
  exact ⟨N, ⟨by omega, k4⟩, e1, this.1, this.2⟩
theorem s_stepAt {g : xG} {D : Nat} {h : xH} {t r : Nat} {Q : Int → xH → Prop} (a : aP h t r) {i j : Nat} (hi : (i : Int) < tx (h.2 96) t 0) (h1 : tx (h.2 96) t (3 + 12 * i) ≤ (j : Int)) (h2 : (j : Int) < tx (h.2 96) t (4 + 12 * i)) (hQ : Q (cw (tx (h.2 96) t (250 + 2 * j)) (tx (h.2 96) t (251 + 2 * j))) h) : zSi g D mX0_stepAt [xr r, xi j] h Q := by
  obtain ⟨N, n1, n2, n3, n4⟩ := aP_code a hi h1 h2
  have e : (h.2 r 1).toNat = r + 3 := by rw [n2]; omega
  refine eX0_stepAt (zX0_stepAt_0 ⟨fun z => by omega, fun z => ⟨(aP_act a).1, N, by rw [e]; exact n1, fun y => by omega, fun y => ⟨(aP_act a).1, ⟨N, by rw [e]; exact n1, by omega, by omega⟩, ?_⟩⟩⟩)
  rw [e, show ((j : Int)).toNat = j by omega, n4]
  exact hQ
theorem l_valueOf {g : xG} {D : Nat} {h : xH} {t r : Nat} {nm : Nat → Int} {Q : Int → xH → Prop} (a : aP h t r) {i : Nat} (hi : (i : Int) < tx (h.2 96) t 0) (hk : tx (h.2 96) t (1 + 12 * i) ≤ 6) (hn : nm_ok nm) (hm : nmC h nm) (hQ : ∀ h', h'.1 = h.1 → (∀ r, r ≠ 77 → h'.2 r = h.2 r) → Q (vC (tx (h.2 96) t) nm i) h') :
    ∀ (m n : Nat) {h' : xH} {w2 w6 w7 w8 w9 w10 w11 w12 w13 w14 : xV}, n + m = (tx (h.2 96) t (4 + 12 * i) - tx (h.2 96) t (3 + 12 * i)).toNat → h'.1 = h.1 → (∀ r, r ≠ 77 → h'.2 r = h.2 r) → (∀ j, j < (eRun (fun j => tx (h.2 96) t (250 + 2 * j)) (fun j => tx (h.2 96) t (251 + 2 * j)) nm (tx (h.2 96) t (3 + 12 * i)).toNat n).1 → h'.2 77 j = (eRun (fun j => tx (h.2 96) t (250 + 2 * j)) (fun j => tx (h.2 96) t (251 + 2 * j)) nm (tx (h.2 96) t (3 + 12 * i)).toNat n).2 j) →
    zJ g (D + 2) 20 0 0 24 [xr 75, xr r, w2, xi (tx (h.2 96) t (4 + 12 * i)), xi ((eRun (fun j => tx (h.2 96) t (250 + 2 * j)) (fun j => tx (h.2 96) t (251 + 2 * j)) nm (tx (h.2 96) t (3 + 12 * i)).toNat n).1 : Nat), xi (tx (h.2 96) t (3 + 12 * i) + n), w6, w7, w8, w9, w10, w11, w12, w13, w14] [] h' (x_ql2 Q) := by
  have hT := aP_T a
  obtain ⟨u1, u2, u3, u4, u5, u6⟩ := hT.2 i hi
  generalize eT : tx (h.2 96) t = T at *
  have hend : ∃ t0 v0, dRun (fun j => T (250 + 2 * j)) (T (3 + 12 * i)).toNat (T (4 + 12 * i) - T (3 + 12 * i)).toNat = some (t0, v0) ∧ 1 ≤ t0 + v0 := by
    by_cases e : T (1 + 12 * i) ≤ 3
    · exact ⟨1, 0, u5 e, by decide⟩
    · exact ⟨0, 1, u6 (by omega) hk, by decide⟩
  -- every step is sound
  have pre : ∀ (m n : Nat), n + m = (T (4 + 12 * i) - T (3 + 12 * i)).toNat → ∃ t0 v0, dRun (fun j => T (250 + 2 * j)) (T (3 + 12 * i)).toNat n = some (t0, v0) := by
    intro m
    induction m with
    | zero => intro n e; obtain ⟨t0, v0, z, -⟩ := hend; exact ⟨t0, v0, by rw [show n = (T (4 + 12 * i) - T (3 + 12 * i)).toNat by omega]; exact z⟩
    | succ m ih =>
      intro n e
      obtain ⟨t0, v0, z⟩ := ih (n + 1) (by omega)
      unfold dRun at z
      cases hd : dRun (fun j => T (250 + 2 * j)) (T (3 + 12 * i)).toNat n with
      | none => rw [hd] at z; cases z
      | some p => exact ⟨p.1, p.2, rfl⟩
  have cks : ∀ j, j < (T (4 + 12 * i) - T (3 + 12 * i)).toNat → cok (T (250 + 2 * ((T (3 + 12 * i)).toNat + j))) (T (251 + 2 * ((T (3 + 12 * i)).toNat + j))) := fun j hj => u4 _ (by omega) (by omega)
  intro m
  induction m with
  | zero =>
    intro n h' w2 w6 w7 w8 w9 w10 w11 w12 w13 w14 e e1 e2 e3
    refine zX1_valueOf_24 ⟨fun z => zX1_valueOf_178 ?_, fun z => by omega⟩
    obtain ⟨t0, v0, z0, z1⟩ := hend
    rw [show n = (T (4 + 12 * i) - T (3 + 12 * i)).toNat by omega] at e3
    obtain ⟨i1, -⟩ := e_ok (w := fun j => T (251 + 2 * j)) hn z0 (fun j hj => cks j (by omega))
    rw [e3 0 (by omega)]
    exact hQ h' e1 e2
  | succ m ih =>
    intro n h' w2 w6 w7 w8 w9 w10 w11 w12 w13 w14 e e1 e2 e3
    obtain ⟨t0, v0, z0⟩ := pre (m + 1) n e
    obtain ⟨t1, v1, z1⟩ := pre m (n + 1) (by omega)
    obtain ⟨i1, i2, i3, i4⟩ := e_ok (w := fun j => T (251 + 2 * j)) hn z0 (fun j hj => cks j (by omega))
    have dst : dStep (T (250 + 2 * ((T (3 + 12 * i)).toNat + n))) (t0, v0) = some (t1, v1) := by
      unfold dRun at z1; rw [z0] at z1; exact z1
    have dc := dStep_c dst
    have ck := cks n (by omega)
    have ihn := @ih (n + 1)
    rw [show (eRun (fun j => T (250 + 2 * j)) (fun j => T (251 + 2 * j)) nm (T (3 + 12 * i)).toNat (n + 1)) = ((eRun (fun j => T (250 + 2 * j)) (fun j => T (251 + 2 * j)) nm (T (3 + 12 * i)).toNat n).1 - tk (T (250 + 2 * ((T (3 + 12 * i)).toNat + n))) + 1, e_up (eRun (fun j => T (250 + 2 * j)) (fun j => T (251 + 2 * j)) nm (T (3 + 12 * i)).toNat n).2 ((eRun (fun j => T (250 + 2 * j)) (fun j => T (251 + 2 * j)) nm (T (3 + 12 * i)).toNat n).1 - tk (T (250 + 2 * ((T (3 + 12 * i)).toNat + n)))) (eVal (T (250 + 2 * ((T (3 + 12 * i)).toNat + n))) (T (251 + 2 * ((T (3 + 12 * i)).toNat + n))) nm ((eRun (fun j => T (250 + 2 * j)) (fun j => T (251 + 2 * j)) nm (T (3 + 12 * i)).toNat n).2 ((eRun (fun j => T (250 + 2 * j)) (fun j => T (251 + 2 * j)) nm (T (3 + 12 * i)).toNat n).1 - tk (T (250 + 2 * ((T (3 + 12 * i)).toNat + n))))) ((eRun (fun j => T (250 + 2 * j)) (fun j => T (251 + 2 * j)) nm (T (3 + 12 * i)).toNat n).2 ((eRun (fun j => T (250 + 2 * j)) (fun j => T (251 + 2 * j)) nm (T (3 + 12 * i)).toNat n).1 - tk (T (250 + 2 * ((T (3 + 12 * i)).toNat + n))) + 1)))) from rfl] at ihn
    have fb : fB h h' := ⟨e1, fun r _ _ r3 => e2 r r3, fun j _ => by rw [e2 75 (by decide)]⟩
    have a' := fB_aP fb a
    have e96 : tx (h'.2 96) t = T := by rw [fB_96 fb]; exact eT
    generalize eo : T (250 + 2 * ((T (3 + 12 * i)).toNat + n)) = o at *
    generalize ev : T (251 + 2 * ((T (3 + 12 * i)).toNat + n)) = x at *
    generalize (eRun (fun j => T (250 + 2 * j)) (fun j => T (251 + 2 * j)) nm (T (3 + 12 * i)).toNat n).2 = S at *
    rw [i1] at e3 ihn ⊢
    have sa : ∀ {Q2 : Int → xH → Prop}, Q2 (cw o x) h' → zSi g (D + 1) mX0_stepAt [xr r, xi (T (3 + 12 * i) + n)] h' Q2 := by
      intro Q2 hq
      have := s_stepAt (g := g) (D := D + 1) (Q := Q2) a' (i := i) (j := (T (3 + 12 * i)).toNat + n) (by rw [e96]; exact hi) (by rw [e96]; omega) (by rw [e96]; omega) (by rw [e96, eo, ev]; exact hq)
      rw [show (((T (3 + 12 * i)).toNat + n : Nat) : Int) = T (3 + 12 * i) + n by omega] at this
      exact this
    have cwb : 0 ≤ cw o x ∧ cw o x ≤ 10038 := by have := cw_c ck; omega
    have htk : tk o ≤ t0 + v0 ∧ (tk o = 0 ∨ tk o = 1 ∨ tk o = 2) ∧ (o ≤ 1 → tk o = 0) ∧ (tk o = 0 → o ≤ 1) := by
      unfold tk
      repeat' split
      all_goals omega
    have hlim : t0 + v0 - tk o < 60 := by omega
    refine zX1_valueOf_24 ⟨fun z => by omega, fun z => ⟨(aP_act a').1, sa ?_⟩⟩
    rw [x32_id (by omega) (by omega)]
    refine s_taken ck ?_
    rw [x32_id (by omega) (by omega)]
    refine ⟨fun y => by omega, fun y => ⟨fun y2 => zX1_valueOf_73 ?_, fun y2 => by omega⟩⟩
    have eMade : (((t0 + v0 : Nat) : Int) - (tk o : Int)).toNat = t0 + v0 - tk o := by omega
    -- the step's end
    have fin : ∀ {w2 w4 w6 w7 w9 w10 w11 w12 w13 w14 : xV} (y1 : Int), clip y1 = eVal o x nm (S (t0 + v0 - tk o)) (S (t0 + v0 - tk o + 1)) → zJ g (D + 2) 20 0 0 143 [xr 75, xr r, w2, xi (T (4 + 12 * i)), w4, xi (T (3 + 12 * i) + n), w6, w7, xi (((t0 + v0 : Nat) : Int) - (tk o : Int)), w9, w10, w11, w12, w13, w14] [xl y1] h' (x_ql2 Q) := by
      intro w2 w4 w6 w7 w9 w10 w11 w12 w13 w14 y1 hy1
      refine zX1_valueOf_143 ⟨⟨y, y2⟩, ?_⟩
      rw [x32_id (by omega) (by omega), x32_id (by omega) (by omega), eMade, show ((t0 + v0 : Nat) : Int) - (tk o : Int) + 1 = ((t0 + v0 - tk o + 1 : Nat) : Int) by omega, show T (3 + 12 * i) + (n : Int) + 1 = T (3 + 12 * i) + ((n + 1 : Nat) : Int) by omega]
      refine ihn (by omega) e1 (fun r hr => ?_) (fun j hj => ?_)
      · show x_up h'.2 77 _ _ r = _
        rw [x_up_r hr]; exact e2 r hr
      · show x_up h'.2 77 (t0 + v0 - tk o) (clip y1) 77 j = e_up S (t0 + v0 - tk o) _ j
        have hj : j < t0 + v0 - tk o + 1 := hj
        unfold e_up
        by_cases e : j = t0 + v0 - tk o
        · rw [if_pos e, e, x_up_eq, hy1]
        · rw [if_neg e, x_up_j e]; exact e3 j (by omega)
    have mid : ∀ {w2 w4 w7 w10 w11 w12 w13 w14 : xV} (y1 y0 : Int), (1 ≤ tk o → y1 = S (t0 + v0 - tk o)) → (tk o = 2 → y0 = S (t0 + v0 - tk o + 1)) → zJ g (D + 2) 20 0 0 113 [xr 75, xr r, w2, xi (T (4 + 12 * i)), w4, xi (T (3 + 12 * i) + n), xi (cw o x), w7, xi (((t0 + v0 : Nat) : Int) - (tk o : Int)), xl y1, w10, w11, w12, w13, w14] [xl y0] h' (x_ql2 Q) := by
      intro w2 w4 w7 w10 w11 w12 w13 w14 y1 y0 h1 h0
      have same : 1 ≤ o → eVal o x nm y1 y0 = eVal o x nm (S (t0 + v0 - tk o)) (S (t0 + v0 - tk o + 1)) := by
        intro o1
        by_cases e1 : tk o = 2
        · rw [h1 (by omega), h0 e1]
        · by_cases e2 : tk o = 1
          · rw [h1 (by omega)]
            have : o = 2 ∨ o = 20 := Classical.byContradiction fun q => by have n1 : ¬ o ≤ 1 := fun z => (by have := htk.2.2.1 z; omega); unfold tk at e2; rw [if_neg n1, if_neg q] at e2; omega
            rcases this with q | q <;> subst q <;> rfl
          · have : o = 1 := by omega
            subst this; rfl
      refine zX1_valueOf_113 ⟨fun q => zX1_valueOf_129 ?_, fun q => fin _ ?_⟩
      · rw [x32_id (by omega) (by omega)]
        have o1 : 1 ≤ o := by have := cw_c ck; omega
        have hm' : nmC h' nm := fun i hi => by rw [e2 76 (by decide)]; exact hm i hi
        refine s_stepOf ck o1 hm' hn (fun o2 => ?_) (fun o2 => ?_) (fun o2 => ?_) (fun o2 => ?_) (fun w hw => fin w (by rw [hw]; exact same o1))
        · rw [h1 (by omega)]
          by_cases lt : t0 + v0 - tk o < t0
          · have := i3 _ lt; omega
          · have := i4 (t0 + v0 - tk o - t0) (by omega)
            rw [show t0 + (t0 + v0 - tk o - t0) = t0 + v0 - tk o by omega] at this
            exact this
        · rw [h0 o2]
          by_cases lt : t0 + v0 - tk o + 1 < t0
          · have := i3 _ lt; omega
          · have := i4 (t0 + v0 - tk o + 1 - t0) (by omega)
            rw [show t0 + (t0 + v0 - tk o + 1 - t0) = t0 + v0 - tk o + 1 by omega] at this
            exact this
        · rw [h1 (by omega)]; exact i3 _ (by omega)
        · have k2 : tk o = 2 := by unfold tk; rw [if_neg (by omega), if_neg (by omega)]
          rw [h0 k2]; exact i3 _ (by omega)
      · have o0 : o = 0 := by have := cw_c ck; omega
        have c0 : cw o x = x ∧ 0 ≤ x ∧ x ≤ 9999 := by have := cw_c ck; omega
        rw [c0.1, clip_id (by omega) (by omega), o0]
        rfl
    refine ⟨⟨y, y2⟩, fun q => zX1_valueOf_112 (mid _ _ (fun q2 => ?_) (fun q2 => absurd (by omega) q)), fun q => ⟨fun q2 => ?_, fun q2 => ?_⟩⟩
    · rw [eMade]; exact e3 _ (by omega)
    · rw [x32_id (by omega) (by omega)] at q2; omega
    · rw [x32_id (by omega) (by omega)] at q2 ⊢
      refine ⟨by omega, mid _ _ (fun q3 => ?_) (fun q3 => ?_)⟩
      · rw [eMade]; exact e3 _ (by omega)
      · rw [show (((t0 + v0 : Nat) : Int) - (tk o : Int) + 1).toNat = t0 + v0 - tk o + 1 by omega]; exact e3 _ (by omega)
theorem s_valueOf {g : xG} {D : Nat} {h : xH} {t r : Nat} {nm : Nat → Int} {Q : Int → xH → Prop} (a : aP h t r) {i : Nat} (hi : (i : Int) < tx (h.2 96) t 0) (hk : tx (h.2 96) t (1 + 12 * i) ≤ 6) (hn : nm_ok nm) (hm : nmC h nm) (hQ : ∀ h', h'.1 = h.1 → (∀ r, r ≠ 77 → h'.2 r = h.2 r) → Q (vC (tx (h.2 96) t) nm i) h') : zSl g (D + 2) mX1_valueOf [xr 75, xr r, xi i] h Q := by
  obtain ⟨a1, a2, a3, a4⟩ := aP_act a
  have hT := aP_T a
  obtain ⟨u1, u2, u3, u4, u5, u6⟩ := hT.2 i hi
  obtain ⟨r0, r1, r2, r3⟩ := aP_row a hi
  have hT0 := hT.1
  have e : (h.2 r 0).toNat = r + 1 := by rw [a3]; simp
  refine eX1_valueOf (zX1_valueOf_0 ?_)
  rw [e]
  refine ⟨a1, a2.1, s_get a2 (by omega) (by omega) (by omega) (by omega) ?_⟩
  rw [e, show ((i : Int) * ((4 : Nat) : Int) + 3).toNat = i * 4 + 3 by omega, r3]
  refine ⟨a1, a2.1, s_get a2 (by omega) (by omega) (by omega) (by omega) ?_⟩
  rw [show ((i : Int) * ((4 : Nat) : Int) + 2).toNat = i * 4 + 2 by omega, r2]
  have := l_valueOf (g := g) (D := D) a hi hk hn hm hQ (tx (h.2 96) t (4 + 12 * i) - tx (h.2 96) t (3 + 12 * i)).toNat 0 (h' := h) (w2 := xi i) (w6 := xu) (w7 := xu) (w8 := xu) (w9 := xu) (w10 := xu) (w11 := xu) (w12 := xu) (w13 := xu) (w14 := xu) (by omega) rfl (fun _ _ => rfl) (fun j hj => by exact absurd hj (Nat.not_lt_zero j))
  rw [show tx (h.2 96) t (3 + 12 * i) + ((0 : Nat) : Int) = tx (h.2 96) t (3 + 12 * i) by omega] at this
  exact this
