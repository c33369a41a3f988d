/-! claim -/
def pdC (A : Nat → Int) (web : Int) (c : Nat) : Prop := A (12210 + 4 * c) = web ∧ A (12212 + 4 * c) ≠ -1 ∧ A (12213 + 4 * c) = -1
section CL
variable {g : xG} {D : Nat} {h : xH}
theorem claim_r {A : Nat → Int} (m : pM A) {c : Nat} (hc : (c : Int) < A 10) : (0 ≤ A (12210 + 4 * c) ∧ A (12210 + 4 * c) < A 4) ∧ (0 ≤ A (12211 + 4 * c) ∧ A (12211 + 4 * c) ≤ A 0) ∧ (-1 ≤ A (12212 + 4 * c) ∧ A (12212 + 4 * c) ≤ 1000000000) ∧ -1 ≤ A (12213 + 4 * c) ∧ A (12213 + 4 * c) ≤ A 0 := m.2.2 8 (by decide) (by decide) c hc
theorem l_paid {web : Int} {Q : Int → xH → Prop} (hs : zSh h) (I : zInv h) : ∀ (m c : Nat), (c : Int) + m = h.2 96 10 → (∀ v : Int, (v = 1 ∧ ∃ k : Nat, c ≤ k ∧ (k : Int) < h.2 96 10 ∧ pdC (h.2 96) web k) ∨ (v = 0 ∧ ¬ ∃ k : Nat, c ≤ k ∧ (k : Int) < h.2 96 10 ∧ pdC (h.2 96) web k) → Q v h) → zJ g (D + 2) 127 0 0 2 [xr 16, xi web, xi c] [] h (x_qi Q)
  | 0, c, e, hQ => by
    have hsz : h.2 34 3 = h.2 96 10 := ((I.2.2.1.1 8 (by decide)) (by decide)).1
    exact zX8_hasPaidClaim_2 ⟨fun _ => zX8_hasPaidClaim_48 ⟨Or.inl rfl, hQ 0 (Or.inr ⟨rfl, fun ⟨k, k1, k2, _⟩ => by omega⟩)⟩, fun z => by omega⟩
  | m + 1, c, e, hQ => by
    have hsz : h.2 34 3 = h.2 96 10 := ((I.2.2.1.1 8 (by decide)) (by decide)).1
    have R : pR h 34 35 80 4 := z_R hs rfl rfl rfl rfl rfl (by decide)
    have z := pM_z I.1
    have k0 : h.2 35 (c * 4) = h.2 96 (12210 + 4 * c) := ((I.2.2.1.1 8 (by decide)) (by decide)).2 c (show (c : Int) < h.2 96 10 by omega) (0, 0) (by decide)
    have next : ¬ pdC (h.2 96) web c → zJ g (D + 2) 127 0 0 42 [xr 16, xi web, xi c] [] h (x_qi Q) := by
      intro hno
      refine zX8_hasPaidClaim_42 ?_
      rw [x32_id (by omega) (by omega), show (c : Int) + 1 = ((c + 1 : Nat) : Int) by omega]
      refine l_paid hs I m (c + 1) (by omega) (fun v hv => hQ v ?_)
      rcases hv with ⟨p, k, k1, k2⟩ | ⟨p, q⟩
      · exact Or.inl ⟨p, k, by omega, k2⟩
      · refine Or.inr ⟨p, fun ⟨k, k1, k2⟩ => q ⟨k, ?_, k2⟩⟩
        by_cases ek : k = c
        · subst ek; exact absurd k2.2 hno
        · omega
    refine zX8_hasPaidClaim_2 ⟨fun q => by omega, fun q => s_get R (by omega) (by omega) (by omega) (by omega) ?_⟩
    rw [show ((c : Int) * ((4 : Nat) : Int) + 0).toNat = c * 4 by omega, k0]
    refine ⟨fun p => next (fun r => p r.1), fun p => s_standing hs I (by omega) (fun v hv => ⟨fun r => next (fun t => ?_), fun r => ⟨Or.inr rfl, hQ 1 (Or.inl ⟨rfl, c, by omega, by omega, p, ?_⟩)⟩⟩)⟩
    · rcases hv with q | q
      · omega
      · exact q.2 t.2
    · rcases hv with q | q
      · exact q.2
      · omega
theorem s_paid {web : Int} {Q : Int → xH → Prop} (hs : zSh h) (I : zInv h) (hQ : ∀ v : Int, (v = 1 ∧ ∃ k : Nat, (k : Int) < h.2 96 10 ∧ pdC (h.2 96) web k) ∨ (v = 0 ∧ ¬ ∃ k : Nat, (k : Int) < h.2 96 10 ∧ pdC (h.2 96) web k) → Q v h) : zSi g (D + 2) mX8_hasPaidClaim [xr 16, xi web] h Q := by
  have z := pM_z I.1
  refine eX8_hasPaidClaim (zX8_hasPaidClaim_0 (l_paid hs I (h.2 96 10).toNat 0 (by omega) (fun v hv => hQ v ?_)))
  rcases hv with ⟨p, k, k1, k2⟩ | ⟨p, q⟩
  · exact Or.inl ⟨p, k, k2⟩
  · exact Or.inr ⟨p, fun ⟨k, k2⟩ => q ⟨k, by omega, k2⟩⟩
theorem l_rpaid {web : Int} {Q : Int → xH → Prop} (mm : pM (h.2 96)) : ∀ (m c : Nat), (c : Int) + m = h.2 96 10 → (∀ v : Int, (v = 1 ∧ ∃ k : Nat, c ≤ k ∧ (k : Int) < h.2 96 10 ∧ pdC (h.2 96) web k) ∨ (v = 0 ∧ ¬ ∃ k : Nat, c ≤ k ∧ (k : Int) < h.2 96 10 ∧ pdC (h.2 96) web k) → Q v h) → zJ g D 213 0 0 2 [xr 95, xi web, xi c] [] h (x_qi Q)
  | 0, c, e, hQ => zX9_isPaid_2 ⟨fun _ => zX9_isPaid_71 ⟨Or.inl rfl, hQ 0 (Or.inr ⟨rfl, fun ⟨k, k1, k2, _⟩ => by omega⟩)⟩, fun z => by omega⟩
  | m + 1, c, e, hQ => by
    have z := pM_z mm
    have rk := claim_r mm (c := c) (by omega)
    have next : ¬ pdC (h.2 96) web c → zJ g D 213 0 0 65 [xr 95, xi web, xi c] [] h (x_qi Q) := by
      intro hno
      refine zX9_isPaid_65 ?_
      rw [x32_id (by omega) (by omega), show (c : Int) + 1 = ((c + 1 : Nat) : Int) by omega]
      refine l_rpaid mm m (c + 1) (by omega) (fun v hv => hQ v ?_)
      rcases hv with ⟨p, k, k1, k2⟩ | ⟨p, q⟩
      · exact Or.inl ⟨p, k, by omega, k2⟩
      · refine Or.inr ⟨p, fun ⟨k, k1, k2⟩ => q ⟨k, ?_, k2⟩⟩
        by_cases ek : k = c
        · subst ek; exact absurd k2.2 hno
        · omega
    refine zX9_isPaid_2 ?_
    simp (disch := omega) only [x32_id]
    rw [show (12210 + 4 * (c : Int)).toNat = 12210 + 4 * c by omega, show (12210 + 4 * (c : Int) + 2).toNat = 12212 + 4 * c by omega, show (12210 + 4 * (c : Int) + 3).toNat = 12213 + 4 * c by omega]
    refine ⟨fun q => by omega, fun q => ⟨by omega, fun p => next (fun r => p r.1), fun p => ⟨by omega, fun p2 => next (fun r => r.2.1 (by omega)), fun p2 => ⟨by omega, fun p3 => next (fun r => by have := r.2.2; omega), fun p3 => ⟨by decide, hQ 1 (Or.inl ⟨rfl, c, by omega, by omega, p, by omega, by omega⟩)⟩⟩⟩⟩⟩
theorem r_paid {web : Int} {Q : Int → xH → Prop} (mm : pM (h.2 96)) (hQ : ∀ v : Int, (v = 1 ∧ ∃ k : Nat, (k : Int) < h.2 96 10 ∧ pdC (h.2 96) web k) ∨ (v = 0 ∧ ¬ ∃ k : Nat, (k : Int) < h.2 96 10 ∧ pdC (h.2 96) web k) → Q v h) : zSi g D mX9_isPaid [xr 95, xi web] h Q := by
  have z := pM_z mm
  refine eX9_isPaid (zX9_isPaid_0 (l_rpaid mm (h.2 96 10).toNat 0 (by omega) (fun v hv => hQ v ?_)))
  rcases hv with ⟨p, k, k1, k2⟩ | ⟨p, q⟩
  · exact Or.inl ⟨p, k, k2⟩
  · exact Or.inr ⟨p, fun ⟨k, k2⟩ => q ⟨k, by omega, k2⟩⟩
theorem r_bountyLess {web x : Nat} {Q : Int → xH → Prop} (B : rB (h.2 96)) (hw : (web : Int) < h.2 96 4) (hx : mO (h.2 96) web (h.2 96 0) (h.2 96 0) = (x : Int)) (hQ : ∀ h', fR h h' → nmR h' (nm1 (h.2 96) (-1) web (h.2 96 0) x) → Q (aM (h.2 96) (-1) 4 (h.2 96 0) (nm1 (h.2 96) (-1) web (h.2 96 0) x) - aM (h.2 96) (-1) 3 (h.2 96 0) (nm1 (h.2 96) (-1) web (h.2 96 0) x)) h') : zSi g (D + 5) mX9_bountyLess [xr 95, xi web] h Q := by
  have hd := B.2.1
  refine eX9_bountyLess (zX9_bountyLess_0 (r_meas B (fun e => by omega) (fun x2 e hx2 => ?_)))
  have : x2 = x := by omega
  subst this
  have nb := nm1_b B (Or.inl rfl : (-1 : Int) = -1 ∨ _) hw hx2 hd
  refine r_name B hw hx2 hd (fun h1 f n1 => ?_)
  have e1 := fR_96 f
  rw [e1]
  refine r_sumOf (k := 4) (by rw [e1]; exact B.1) (by decide) nb.2.2.2 n1 (fun h2 g1 g2 => ?_)
  have f2 := fR_trans f (fR_of g1 g2)
  have e2 := fR_96 f2
  rw [e1, e2]
  have n2 : nmR h2 (nm1 (h.2 96) (-1) web (h.2 96 0) x2) := fun i hi => by rw [g2 102 (by decide) (by decide)]; exact n1 i hi
  refine r_sumOf (k := 3) (by rw [e2]; exact B.1) (by decide) nb.2.2.2 n2 (fun h3 g3 g4 => ?_)
  rw [e2]
  have b4 : 0 ≤ aM (h.2 96) (-1) 4 (h.2 96 0) (nm1 (h.2 96) (-1) web (h.2 96 0) x2) ∧ aM (h.2 96) (-1) 4 (h.2 96 0) (nm1 (h.2 96) (-1) web (h.2 96 0) x2) ≤ 1000000000 := aM_b (k := 4) B.1 (Or.inl rfl) (by decide) nb.2.2.2
  have b3 : 0 ≤ aM (h.2 96) (-1) 3 (h.2 96 0) (nm1 (h.2 96) (-1) web (h.2 96 0) x2) ∧ aM (h.2 96) (-1) 3 (h.2 96 0) (nm1 (h.2 96) (-1) web (h.2 96 0) x2) ≤ 1000000000 := aM_b (k := 3) B.1 (Or.inl rfl) (by decide) nb.2.2.2
  have := hQ h3 (fR_trans f2 (fR_of g3 g4)) (fun i hi => by rw [g4 102 (by decide) (by decide)]; exact n2 i hi)
  rw [x32_id]
  · exact this
  · show -2147483648 ≤ aM (h.2 96) (-1) 4 (h.2 96 0) (nm1 (h.2 96) (-1) web (h.2 96 0) x2) - aM (h.2 96) (-1) 3 (h.2 96 0) (nm1 (h.2 96) (-1) web (h.2 96 0) x2)
    omega
  · show aM (h.2 96) (-1) 4 (h.2 96 0) (nm1 (h.2 96) (-1) web (h.2 96 0) x2) - aM (h.2 96) (-1) 3 (h.2 96 0) (nm1 (h.2 96) (-1) web (h.2 96 0) x2) < 2147483648
    omega
end CL
/-- what lies behind the claims doesn't count -/
theorem pM_claim {A A' : Nat → Int} {n : Nat} (m : pM A) (hn : A 10 = (n : Int)) (E : ∀ k, ¬ (12210 + 4 * n ≤ k ∧ k < 12214 + 4 * n) → A' k = A k) (hl : n < 80) : pM A' := by
  obtain ⟨⟨s0, s6, s14, s15, s16, s17, sz⟩, ⟨b1, b2, b3⟩, rk⟩ := m
  have zz : ∀ t, t < 12 → t_z t < 20 := by
    intro t ht
    rcases (show t = 0 ∨ t = 1 ∨ t = 2 ∨ t = 3 ∨ t = 4 ∨ t = 5 ∨ t = 6 ∨ t = 7 ∨ t = 8 ∨ t = 9 ∨ t = 10 ∨ t = 11 by omega) with e | e | e | e | e | e | e | e | e | e | e | e <;> subst e <;> decide
  have lo : ∀ k, k < 20 → A' k = A k := fun k hk => E k (by omega)
  refine ⟨⟨by rw [lo 0 (by decide)]; exact s0, by rw [lo 6 (by decide)]; exact s6, by rw [lo 14 (by decide)]; exact s14, by rw [lo 15 (by decide)]; exact s15, by rw [lo 16 (by decide)]; exact s16, by rw [lo 17 (by decide)]; exact s17, fun t ht h9 => by rw [lo _ (zz t ht)]; exact sz t ht h9⟩, ⟨fun i a b => ?_, fun i a b => ?_, fun i a b => ?_⟩, fun t ht h9 i hi => ?_⟩
  · rw [lo 2 (by decide)] at a; rw [E _ (by omega)]; exact b1 i a b
  · rw [lo 8 (by decide)] at a; rw [E _ (by omega)]; exact b2 i a b
  · rw [lo 12 (by decide)] at a; rw [E _ (by omega), E _ (by omega)]; exact b3 i a b
  · rw [lo _ (zz t ht)] at hi
    have him : i < t_m t := by have := sz t ht h9; omega
    refine rok_mono ht (fun k k1 k2 => E k ?_) (by rw [lo 0 (by decide)]; exact Int.le_refl _) (by rw [lo 1 (by decide)]; exact Int.le_refl _) (by rw [lo 2 (by decide)]; exact Int.le_refl _) (by rw [lo 3 (by decide)]; exact Int.le_refl _) (by rw [lo 4 (by decide)]; exact Int.le_refl _) (by rw [lo 6 (by decide)]; exact Int.le_refl _) (by rw [lo 8 (by decide)]; exact Int.le_refl _) (rk t ht h9 i hi)
    by_cases e : t = 8
    · subst e
      have hi : (i : Int) < A 10 := hi
      have k2 : k < 12210 + 4 * i + 4 := k2
      omega
    · have d := t_dj t ht 8 (by decide) e
      have hm2 : t_s t * i + t_s t ≤ t_s t * t_m t := by
        have := Nat.mul_le_mul_left (t_s t) (show i + 1 ≤ t_m t by omega)
        rw [Nat.mul_add, Nat.mul_one] at this
        exact this
      have d1 : t_b t + t_s t * t_m t ≤ 12210 ∨ 12530 ≤ t_b t ∨ t = 9 ∨ (8 : Nat) = 9 := d.1
      omega
theorem op_claim {g : xG} {D : Nat} {h : xH} {a : Int} (I : zInv h) : zSi g (D + 8) mX8_claim [xr 16, xi a] h (fun x h1 => zSi g (D + 8) mX9_claim [xr 95, xi a] h1 (fun y h2 => x = y ∧ zInv h2)) := by
  refine zS_sh (fun hs => ?_)
  have Z := zB_of hs I
  have B := rB_inv I
  have z := pM_z I.1
  have hday : h.2 17 14 = h.2 96 0 := I.2.2.1.2.1.2.1
  have h6 := I.1.1.2.1
  obtain ⟨n, hn⟩ : ∃ n : Nat, h.2 96 10 = (n : Int) := ⟨(h.2 96 10).toNat, by omega⟩
  have hsz : h.2 34 3 = (n : Int) := by rw [← hn]; exact ((I.2.2.1.1 8 (by decide)) (by decide)).1
  have hsz4 : h.2 24 3 = h.2 96 4 := ((I.2.2.1.1 3 (by decide)) (by decide)).1
  have R : pR h 34 35 80 4 := z_R hs rfl rfl rfl rfl rfl (by decide)
  have R4 : pR h 24 25 50 1 := z_R hs rfl rfl rfl rfl rfl (by decide)
  have no : ¬ ((0 ≤ a ∧ a < h.2 96 4) ∧ n < 80) → zSi g (D + 8) mX9_claim [xr 95, xi a] h (fun y h2 => -1 = y ∧ zInv h2) := by
    intro hno
    exact eX9_claim (zX9_claim_0 (s_isWeb (by omega) (fun y hy => ⟨fun w => zX9_claim_20 ⟨rfl, I⟩, fun w => ⟨fun v => by omega, fun v => ⟨rfl, I⟩⟩⟩)))
  refine eX8_claim (zX8_claim_0 (s_has R4.1 (fun x hx => ⟨fun q => zX8_claim_27 (no (by omega)), fun q => s_isFull R.1 (fun x2 hx2 => ⟨fun q2 => zX8_claim_29 ?_, fun q2 => no (by have := R.2.2.1; omega)⟩)⟩)))
  have hfull : n < 80 := by have := R.2.2.1; omega
  obtain ⟨w, rfl⟩ : ∃ w : Nat, a = (w : Int) := ⟨a.toNat, by omega⟩
  have hw : (w : Int) < h.2 96 4 := by omega
  -- v: what is paid
  have main : ∀ {h1 : xH} (v : Int), fB h h1 → (((∃ k : Nat, (k : Int) < h.2 96 10 ∧ pdC (h.2 96) w k) ∨ ¬ hgs (h.2 96) w) → v = -1) → (∀ x : Nat, ¬ (∃ k : Nat, (k : Int) < h.2 96 10 ∧ pdC (h.2 96) w k) → hgs (h.2 96) w → mO (h.2 96) w (h.2 96 0) (h.2 96 0) = (x : Int) → v = max 0 (aM (h.2 96) (-1) 4 (h.2 96 0) (nm1 (h.2 96) (-1) w (h.2 96 0) x) - aM (h.2 96) (-1) 3 (h.2 96 0) (nm1 (h.2 96) (-1) w (h.2 96 0) x))) → -1 ≤ v → v ≤ 1000000000 → ∀ {w3 : xV}, zJ g (D + 8) 97 0 0 108 [xr 16, xi w, xi v, w3] [] h1 (x_qi (fun x h1 => zSi g (D + 8) mX9_claim [xr 95, xi w] h1 (fun y h2 => x = y ∧ zInv h2))) := by
    intro h1 v f v0 v1 vb1 vb2 w3
    have e96 := fB_96 f
    have Z1 := fB_zB f Z
    have hs1 := Z1.1
    have R1 : pR h1 34 35 80 4 := z_R hs1 rfl rfl rfl rfl rfl (by decide)
    have sz1 : h1.2 34 3 = (n : Int) := by rw [f.2.1 34 (by decide) (by decide) (by decide)]; exact hsz
    have day1 : h1.2 17 14 = h.2 96 0 := by rw [f.2.1 17 (by decide) (by decide) (by decide)]; exact hday
    refine zX8_claim_108 ?_
    rw [day1]
    refine s_add R1 sz1 hfull (by decide) (by decide) (fun h2 hs2 e1 e2 => ?_)
    have R2 : pR h2 34 35 80 4 := z_R hs2 rfl rfl rfl rfl rfl (by decide)
    refine s_set R2 (by omega) (by omega) (by omega) (by omega) (fun h3 hs3 e3 => ?_)
    rw [show ((n : Int) * ((4 : Nat) : Int) + 3).toNat = n * 4 + 3 by omega] at e3
    have f1 : h3.1 = h.1 := by rw [e3]; show h2.1 = h.1; rw [e1, f.1]
    have f2 : h3.2 = x_up h2.2 35 (n * 4 + 3) (-1) := by rw [e3]
    clear e3
    have e396 : h3.2 96 = h.2 96 := by rw [f2, x_up_r (by decide), e2, p_add_o (by decide) (by decide)]; exact e96
    refine eX9_claim (zX9_claim_0 (s_isWeb (by rw [e396]; omega) (fun y hy => ⟨fun q => by rw [e396] at hy; omega, fun q => ⟨fun p => zX9_claim_22 ?_, fun p => by rw [e396] at p; omega⟩⟩)))
    simp (disch := omega) only [e396, hn, x32_id, x_up_j]
    rw [show (12210 + 4 * (n : Int)).toNat = 12210 + 4 * n by omega, show (12210 + 4 * (n : Int) + 1).toNat = 12211 + 4 * n by omega, show (12210 + 4 * (n : Int) + 2).toNat = 12212 + 4 * n by omega, show (12210 + 4 * (n : Int) + 3).toNat = 12213 + 4 * n by omega]
    refine ⟨by omega, by omega, by omega, by omega, ?_⟩
    generalize hC : x_up (x_up (x_up (x_up h3.2 96 (12210 + 4 * n) w) 96 (12211 + 4 * n) (h.2 96 0)) 96 (12212 + 4 * n) (-1)) 96 (12213 + 4 * n) (-1) = C
    have hu : ∀ k, C 96 k = if k = 12213 + 4 * n then -1 else if k = 12212 + 4 * n then -1 else if k = 12211 + 4 * n then h.2 96 0 else if k = 12210 + 4 * n then (w : Int) else h.2 96 k := by
      intro k
      rw [← hC, x_up_k, x_up_k, x_up_k, x_up_k, e396]
    have E : ∀ k, ¬ (12210 + 4 * n ≤ k ∧ k < 12214 + 4 * n) → C 96 k = h.2 96 k := fun k hk => by rw [hu, if_neg (by omega), if_neg (by omega), if_neg (by omega), if_neg (by omega)]
    have Cr : ∀ r, r ≠ 96 → C r = h3.2 r := fun r hr => by rw [← hC, x_up_r hr, x_up_r hr, x_up_r hr, x_up_r hr]
    have M3 : pM (C 96) := pM_claim I.1 hn E hfull
    have E0 : C 96 0 = h.2 96 0 := E 0 (by omega)
    have B3 : rB (C 96) := rB_of M3 (fun t ht => by rw [E 6 (by omega)] at ht; rw [tx_cong (fun k a b => E k (by omega)) (by omega)]; exact B.1.2.2.2 t ht)
    have S : sA (h.2 96) (C 96) (-1) (-1) (h.2 96 0) := sA_refl B.1 (fun k a b => E k (by omega)) (E 7 (by omega))
    have gl : hgs (C 96) w ↔ hgs (h.2 96) w := hgs_cong I.1 B (fun k hk => E k (by omega))
    have pl : (∃ k : Nat, (k : Int) < C 96 10 ∧ pdC (C 96) w k) ↔ ∃ k : Nat, (k : Int) < h.2 96 10 ∧ pdC (h.2 96) w k := by
      constructor
      · rintro ⟨k, k1, k2⟩
        rw [E 10 (by omega)] at k1
        unfold pdC at k2
        rw [E _ (by omega), E _ (by omega), E _ (by omega)] at k2
        exact ⟨k, k1, k2⟩
      · rintro ⟨k, k1, k2⟩
        refine ⟨k, by rw [E 10 (by omega)]; exact k1, ?_⟩
        unfold pdC
        rw [E _ (by omega), E _ (by omega), E _ (by omega)]
        exact k2
    -- the end
    have fin : ∀ {hf : xH} {w1 w2 w3 : xV}, hf.1 = h.1 → (∀ r, r ≠ 96 → r ≠ 102 → r ≠ 103 → r ≠ 104 → hf.2 r = C r) → (∀ k, hf.2 96 k = if k = 12212 + 4 * n then v else C 96 k) → zJ g (D + 8) 215 0 0 114 [xr 95, w1, w2, w3] [] hf (x_qi (fun y h2 => (n : Int) = y ∧ zInv h2)) := by
      intro hf w1 w2 w3 q1 q2 q3
      refine zX9_claim_114 ?_
      have q10 : hf.2 96 10 = (n : Int) := by rw [q3, if_neg (by omega), E 10 (by omega), hn]
      rw [q10, x_up_eq, x32_id (show -2147483648 ≤ (n : Int) + 1 by omega) (by omega), x32_id (by omega) (by omega)]
      refine ⟨by omega, ?_⟩
      have hb : ∀ r, r ≠ 96 → r ≠ 102 → r ≠ 103 → r ≠ 104 → x_up hf.2 96 10 ((n : Int) + 1) r = h3.2 r := fun r r1 r2 r3 r4 => by rw [x_up_r r1, q2 r r1 r2 r3 r4, Cr r r1]
      have hv : ∀ k, x_up hf.2 96 10 ((n : Int) + 1) 96 k = if k = 10 then (n : Int) + 1 else if k = 12212 + 4 * n then v else C 96 k := fun k => by rw [x_up_k, q3]
      generalize x_up hf.2 96 10 ((n : Int) + 1) = G at hb hv
      have g0 : G 96 (12210 + 4 * n) = (w : Int) := by rw [hv, if_neg (by omega), if_neg (by omega), hu, if_neg (by omega), if_neg (by omega), if_neg (by omega), if_pos rfl]
      have g1 : G 96 (12211 + 4 * n) = h.2 96 0 := by rw [hv, if_neg (by omega), if_neg (by omega), hu, if_neg (by omega), if_neg (by omega), if_pos rfl]
      have g2 : G 96 (12212 + 4 * n) = v := by rw [hv, if_neg (by omega), if_pos rfl]
      have g3 : G 96 (12213 + 4 * n) = -1 := by rw [hv, if_neg (by omega), if_neg (by omega), hu, if_pos rfl]
      have go : ∀ k, k ≠ 10 → ¬ (12210 + 4 * n ≤ k ∧ k < 12214 + 4 * n) → G 96 k = h.2 96 k := fun k k1 k2 => by rw [hv, if_neg k1, if_neg (by omega), E k k2]
      have c34 : ∀ r, r ≠ 35 → r ≠ 34 → r ≠ 75 → r ≠ 76 → r ≠ 77 → h3.2 r = h.2 r := fun r r1 r2 r3 r4 r5 => by rw [f2, x_up_r r1, e2, p_add_o r2 r1]; exact f.2.1 r r3 r4 r5
      refine inv_addS (t0 := 8) (n := n) I (by decide) q1 ?_ (fun r r0 r1 r2 r3 => ?_) hn hfull ?_ (fun j hj => ?_) ?_ (fun k k1 k2 => ?_) (fun p hp => ?_) ?_
      · show G 75 3 = _
        rw [hb 75 (by decide) (by decide) (by decide) (by decide), f2, x_up_r (by decide), e2, p_add_o (by decide) (by decide)]
        exact f.2.2 3 (by decide)
      · show G r = _
        rw [hb r r3 (by omega) (by omega) (by omega)]
        exact c34 r r2 r1 (by omega) (by omega) (by omega)
      · show G 34 3 = _
        rw [hb 34 (by decide) (by decide) (by decide) (by decide), f2, x_up_r (by decide), e2]; exact p_add_z
      · show G 35 j = h.2 35 j
        have hj : j < n * 4 := hj
        rw [hb 35 (by decide) (by decide) (by decide) (by decide), f2, x_up_j (by omega), e2, p_add_lt (by decide) hj, f.2.1 35 (by decide) (by decide) (by decide)]
      · show G 96 10 = _
        rw [hv, if_pos rfl]
      · show G 96 k = h.2 96 k
        have k2 : ¬ (12210 + 4 * n ≤ k ∧ k < 12210 + 4 * n + 4) := k2
        exact go k k1 (by omega)
      · show G 35 (n * 4 + p.1) = G 96 (12210 + 4 * n + p.2)
        have hp : p = (0, 0) ∨ p = (1, 1) ∨ p = (2, 2) ∨ p = (3, 3) := by simpa [t_p] using hp
        rw [hb 35 (by decide) (by decide) (by decide) (by decide), f2]
        rcases hp with e | e | e | e <;> subst e
        · rw [x_up_j (by omega), e2, p_add_at (by decide) (by decide)]; show (w : Int) = G 96 (12210 + 4 * n); exact g0.symm
        · rw [x_up_j (by omega), e2, p_add_at (by decide) (by decide)]; show h.2 96 0 = G 96 (12210 + 4 * n + 1); rw [show 12210 + 4 * n + 1 = 12211 + 4 * n by omega]; exact g1.symm
        · rw [x_up_j (by omega), e2, p_add_at (by decide) (by decide)]; show v = G 96 (12210 + 4 * n + 2); rw [show 12210 + 4 * n + 2 = 12212 + 4 * n by omega]; exact g2.symm
        · rw [x_up_eq]; show -1 = G 96 (12210 + 4 * n + 3); rw [show 12210 + 4 * n + 3 = 12213 + 4 * n by omega]; exact g3.symm
      · show (0 ≤ G 96 (12210 + 4 * n) ∧ G 96 (12210 + 4 * n) < G 96 4) ∧ (0 ≤ G 96 (12211 + 4 * n) ∧ G 96 (12211 + 4 * n) ≤ G 96 0) ∧ (-1 ≤ G 96 (12212 + 4 * n) ∧ G 96 (12212 + 4 * n) ≤ 1000000000) ∧ -1 ≤ G 96 (12213 + 4 * n) ∧ G 96 (12213 + 4 * n) ≤ G 96 0
        rw [g0, g1, g2, g3, go 4 (by omega) (by omega), go 0 (by omega) (by omega)]
        omega
    have same : v = -1 → ∀ k, C 96 k = if k = 12212 + 4 * n then v else C 96 k := by
      intro ev k
      by_cases e : k = 12212 + 4 * n
      · rw [if_pos e, e, hu, if_neg (by omega), if_pos rfl, ev]
      · rw [if_neg e]
    have G1 := r_hgs (g := g) (D := D + 1) (h := (h3.1, C)) (web := (w : Int)) (Q := fun x1 h1 => (x1 = 0 → zJ g (D + 8) 215 0 0 114 [xr 95, xi w, xi (12210 + 4 * (n : Int)), xu] [] h1 (x_qi (fun y h2 => (n : Int) = y ∧ zInv h2))) ∧ (¬ x1 = 0 → zSi g (D + 7) mX9_isPaid [xr 95, xi w] h1 (fun x2 h2 => (¬ x2 = 0 → zJ g (D + 8) 215 0 0 114 [xr 95, xi w, xi (12210 + 4 * (n : Int)), xu] [] h2 (x_qi (fun y h2 => (n : Int) = y ∧ zInv h2))) ∧ (x2 = 0 → zSi g (D + 7) mX9_bountyLess [xr 95, xi w] h2 (fun x3 h3 => (0 ≤ x3 → zJ g (D + 8) 215 0 0 112 [xr 95, xi w, xi (12210 + 4 * (n : Int)), xi x3] [xi (12210 + 4 * (n : Int) + 2), xr 96] h3 (x_qi (fun y h2 => (n : Int) = y ∧ zInv h2))) ∧ (x3 < 0 → zJ g (D + 8) 215 0 0 113 [xr 95, xi w, xi (12210 + 4 * (n : Int)), xi x3] [xi 0, xi (12210 + 4 * (n : Int) + 2), xr 96] h3 (x_qi (fun y h2 => (n : Int) = y ∧ zInv h2)))))))) M3 B3 (fun u h4 f4 hu4 => ?_)
    · exact G1
    · have e4 : h4.2 96 = C 96 := fR_96 f4
      have r4 : ∀ r, r ≠ 96 → r ≠ 102 → r ≠ 103 → r ≠ 104 → h4.2 r = C r := fun r _ r2 r3 r4 => f4.2 r r2 r3 r4
      have keep : v = -1 → ∀ k, h4.2 96 k = if k = 12212 + 4 * n then v else C 96 k := fun ev k => by rw [e4]; exact same ev k
      have M4 : pM (h4.2 96) := by rw [e4]; exact M3
      have B4 : rB (h4.2 96) := by rw [e4]; exact B3
      refine ⟨fun t => fin (f4.1.trans f1) r4 (keep (v0 (Or.inr ?_))), fun t => r_paid M4 (fun u2 hu2 => ⟨fun t2 => fin (f4.1.trans f1) r4 (keep (v0 (Or.inl ?_))), fun t2 => ?_⟩)⟩
      · rcases hu4 with q | q
        · omega
        · exact fun r => q.2 (gl.mpr r)
      · rcases hu2 with q | q
        · rw [e4] at q; exact pl.mp q.2
        · omega
      · have hg : hgs (h.2 96) w := by
          rcases hu4 with q | q
          · exact gl.mp q.2
          · omega
        have hp : ¬ ∃ k : Nat, (k : Int) < h.2 96 10 ∧ pdC (h.2 96) w k := by
          rcases hu2 with q | q
          · omega
          · rw [e4] at q; exact fun r => q.2 (pl.mpr r)
        obtain ⟨x, hx, hx5⟩ := hgs_meas I.1 hg
        have vv := v1 x hp hg hx
        have mx : mO (h4.2 96) w (h4.2 96 0) (h4.2 96 0) = (x : Int) := by
          rw [e4, E0, mO_cong (A := h.2 96) (fun k a b => E k (by omega)) (E 5 (by omega)) (by omega)]; exact hx
        refine r_bountyLess B4 (by rw [e4, E 4 (by omega)]; exact hw) mx (fun h5 f5 n5 => ?_)
        have ea : nm1 (h4.2 96) (-1) w (h4.2 96 0) x = nm1 (h.2 96) (-1) w (h.2 96 0) x := by rw [e4, E0]; exact (nm1_cong B (Or.inl rfl) (fun k a b => E k (by omega)) S hw hx5).1
        have e44 : aM (C 96) (-1) 4 (h.2 96 0) (nm1 (h.2 96) (-1) w (h.2 96 0) x) = aM (h.2 96) (-1) 4 (h.2 96 0) (nm1 (h.2 96) (-1) w (h.2 96 0) x) := aM_cong (k := 4) B.1 (Or.inl rfl) (fun k a b => E k (by omega)) S (by decide)
        have e43 : aM (C 96) (-1) 3 (h.2 96 0) (nm1 (h.2 96) (-1) w (h.2 96 0) x) = aM (h.2 96) (-1) 3 (h.2 96 0) (nm1 (h.2 96) (-1) w (h.2 96 0) x) := aM_cong (k := 3) B.1 (Or.inl rfl) (fun k a b => E k (by omega)) S (by decide)
        rw [ea, e4, E0, e44, e43]
        have e5 : h5.2 96 = C 96 := (fR_96 f5).trans e4
        have put : ∀ {u : Int} {w1 w2 w3 : xV}, u = v → zJ g (D + 8) 215 0 0 113 [xr 95, w1, w2, w3] [xi u, xi (12210 + 4 * (n : Int) + 2), xr 96] h5 (x_qi (fun y h2 => (n : Int) = y ∧ zInv h2)) := by
          intro u w1 w2 w3 eu
          subst eu
          refine zX9_claim_113 ⟨by omega, ?_⟩
          rw [show (12210 + 4 * (n : Int) + 2).toNat = 12212 + 4 * n by omega]
          refine fin ((f5.1.trans f4.1).trans f1) (fun r r1 r2 r3 r4' => ?_) (fun k => ?_)
          · show x_up h5.2 96 _ _ r = _
            rw [x_up_r r1, f5.2 r r2 r3 r4']; exact r4 r r1 r2 r3 r4'
          · show x_up h5.2 96 (12212 + 4 * n) u 96 k = _
            rw [x_up_k, e5]
        exact ⟨fun t3 => zX9_claim_112 (put (by rw [vv]; omega)), fun t3 => put (by rw [vv]; omega)⟩
  refine s_paid hs I (fun v hv => ⟨fun q3 => main (-1) (fB_refl h) (fun _ => rfl) (fun x p => ?_) (by omega) (by omega), fun q3 => s_hgs Z (fun v2 h1 f hv2 => ⟨fun q4 => main (-1) f (fun _ => rfl) (fun x p pg => ?_) (by omega) (by omega), fun q4 => ?_⟩)⟩)
  · rcases hv with r | r
    · exact absurd r.2 p
    · omega
  · rcases hv2 with r | r
    · omega
    · exact absurd pg r.2
  · have e96 := fB_96 f
    have Z1 := fB_zB f Z
    have hg : hgs (h.2 96) w := by
      rcases hv2 with r | r
      · exact r.2
      · omega
    have np : ¬ ∃ k : Nat, (k : Int) < h.2 96 10 ∧ pdC (h.2 96) w k := by
      rcases hv with r | r
      · omega
      · exact r.2
    obtain ⟨x, hx, hx5⟩ := hgs_meas I.1 hg
    have day1 : ∀ {h' : xH}, fB h h' → h'.2 17 14 = h.2 96 0 := fun f' => by rw [f'.2.1 17 (by decide) (by decide) (by decide)]; exact hday
    have nb := nm1_b B (Or.inl rfl : (-1 : Int) = -1 ∨ _) hw hx5 B.2.1
    rw [day1 f]
    refine s_weigh Z1 (by rw [e96]; exact hw) B.2.1 (fun e => by rw [e96] at e; omega) (fun x2 h2 e hx2 f2 n2 s2 => ⟨fun p => absurd p (by decide), fun _ => ?_⟩)
    rw [e96] at e hx2 n2
    have : x2 = x := by omega
    subst this
    have g2 := fB_trans f f2
    rw [day1 g2]
    refine s_amount (k := 4) (fB_zB g2 Z) (by decide) nb.2.2.2 n2 (fun h3 k1 k2 => ?_)
    have g3 := fB_trans g2 (fB_of77 k1 k2)
    rw [day1 g3, fB_96 g2]
    refine s_amount (k := 3) (fB_zB g3 Z) (by decide) nb.2.2.2 (fun i hi => by rw [k2 76 (by decide)]; exact n2 i hi) (fun h4 k3 k4 => ?_)
    have g4 := fB_trans g3 (fB_of77 k3 k4)
    rw [fB_96 g3]
    have b4 : 0 ≤ aM (h.2 96) (-1) 4 (h.2 96 0) (nm1 (h.2 96) (-1) w (h.2 96 0) x2) ∧ aM (h.2 96) (-1) 4 (h.2 96 0) (nm1 (h.2 96) (-1) w (h.2 96 0) x2) ≤ 1000000000 := aM_b (k := 4) B.1 (Or.inl rfl) (by decide) nb.2.2.2
    have b3 : 0 ≤ aM (h.2 96) (-1) 3 (h.2 96 0) (nm1 (h.2 96) (-1) w (h.2 96 0) x2) ∧ aM (h.2 96) (-1) 3 (h.2 96 0) (nm1 (h.2 96) (-1) w (h.2 96 0) x2) ≤ 1000000000 := aM_b (k := 3) B.1 (Or.inl rfl) (by decide) nb.2.2.2
    rw [show ((4 : Nat) : Int) = 4 from rfl, show ((3 : Nat) : Int) = 3 from rfl, x32_id (show -2147483648 ≤ aM (h.2 96) (-1) 4 (h.2 96 0) (nm1 (h.2 96) (-1) w (h.2 96 0) x2) - aM (h.2 96) (-1) 3 (h.2 96 0) (nm1 (h.2 96) (-1) w (h.2 96 0) x2) by omega) (by omega)]
    refine main _ g4 (fun p => ?_) (fun x3 _ _ h3' => ?_) (by omega) (by omega)
    · rcases p with p | p
      · exact absurd p np
      · exact absurd hg p
    · have : x3 = x2 := by omega
      subst this; rfl
