/-! seals: forged, good -/
def fl (A : Nat → Int) (die : Nat) (day : Int) : Nat → Int
  | 0 => 0
  | k + 1 => if 0 ≤ A (151 + 20 * die + k) ∧ A (151 + 20 * die + k) ≤ day then x_or (fl A die day k) (x_shl 1 (k : Int)) else fl A die day k
def fgd (A : Nat → Int) (s : Nat) : Prop := A (11133 + 6 * s) ≠ fl A (A (11130 + 6 * s)).toNat (A (11132 + 6 * s)) 16
def good (A : Nat → Int) (s : Nat) : Prop := ¬ fgd A s ∧ ∃ x : Nat, mO A (A (11131 + 6 * s)) (A (11132 + 6 * s)) (A 0) = (x : Int) ∧ cF A (-1) 1 (A (11132 + 6 * s)) (nm1 A (-1) (A (11131 + 6 * s)).toNat (A (11132 + 6 * s)) x) false = -1
def hgs (A : Nat → Int) (web : Int) : Prop := ∃ s : Nat, (s : Int) < A 8 ∧ A (11131 + 6 * s) = web ∧ good A s
section SE
variable {g : xG} {D : Nat} {h : xH}
theorem seal_r {A : Nat → Int} (m : pM A) {s : Nat} (hs : (s : Int) < A 8) : (0 ≤ A (11130 + 6 * s) ∧ A (11130 + 6 * s) < A 3) ∧ (0 ≤ A (11131 + 6 * s) ∧ A (11131 + 6 * s) < A 4) ∧ (0 ≤ A (11132 + 6 * s) ∧ A (11132 + 6 * s) ≤ A 0) ∧ (0 ≤ A (11133 + 6 * s) ∧ A (11133 + 6 * s) ≤ 65535) ∧ 0 ≤ A (11134 + 6 * s) ∧ A (11134 + 6 * s) ≤ 1 := m.2.2 6 (by decide) (by decide) s hs
theorem die_r {A : Nat → Int} (m : pM A) {d : Nat} (hd : (d : Int) < A 3) : (0 ≤ A (150 + 20 * d) ∧ A (150 + 20 * d) < A 2) ∧ ∀ k, k < 16 → -1 ≤ A (151 + 20 * d + k) ∧ A (151 + 20 * d + k) ≤ A 0 := m.2.2 2 (by decide) (by decide) d hd
theorem pM_z {A : Nat → Int} (m : pM A) : (0 ≤ A 0 ∧ A 0 ≤ 999) ∧ (0 ≤ A 1 ∧ A 1 ≤ 6) ∧ (0 ≤ A 2 ∧ A 2 ≤ 30) ∧ (0 ≤ A 3 ∧ A 3 ≤ 10) ∧ (0 ≤ A 4 ∧ A 4 ≤ 50) ∧ (0 ≤ A 5 ∧ A 5 ≤ 200) ∧ (0 ≤ A 8 ∧ A 8 ≤ 80) ∧ (0 ≤ A 9 ∧ A 9 ≤ 200) ∧ (0 ≤ A 10 ∧ A 10 ≤ 80) ∧ (0 ≤ A 11 ∧ A 11 ≤ 40) ∧ (0 ≤ A 12 ∧ A 12 ≤ 10) := by
  have sz := m.1.2.2.2.2.2.2
  exact ⟨m.1.1, sz 0 (by decide) (by decide), sz 1 (by decide) (by decide), sz 2 (by decide) (by decide), sz 3 (by decide) (by decide), sz 4 (by decide) (by decide), sz 6 (by decide) (by decide), sz 7 (by decide) (by decide), sz 8 (by decide) (by decide), sz 10 (by decide) (by decide), sz 11 (by decide) (by decide)⟩
theorem zB_seal {bs : Int} (b : zB h bs) {s : Nat} (hs : (s : Int) < h.2 96 8) : h.2 31 (s * 5) = h.2 96 (11130 + 6 * s) ∧ h.2 31 (s * 5 + 1) = h.2 96 (11131 + 6 * s) ∧ h.2 31 (s * 5 + 2) = h.2 96 (11132 + 6 * s) ∧ h.2 31 (s * 5 + 3) = h.2 96 (11133 + 6 * s) ∧ h.2 31 (s * 5 + 4) = h.2 96 (11134 + 6 * s) := by
  have c := ((b.2.2.1.1 6 (by decide)) (by decide)).2 s hs
  refine ⟨c (0, 0) (by decide), ?_, ?_, ?_, ?_⟩
  · rw [show 11131 + 6 * s = 11130 + 6 * s + 1 by omega]; exact c (1, 1) (by decide)
  · rw [show 11132 + 6 * s = 11130 + 6 * s + 2 by omega]; exact c (2, 2) (by decide)
  · rw [show 11133 + 6 * s = 11130 + 6 * s + 3 by omega]; exact c (3, 3) (by decide)
  · rw [show 11134 + 6 * s = 11130 + 6 * s + 4 by omega]; exact c (4, 4) (by decide)
theorem t2_mem {j : Nat} (hj : j < 16) : (1 + j, 1 + j) ∈ t_p 2 := by
  have : j = 0 ∨ j = 1 ∨ j = 2 ∨ j = 3 ∨ j = 4 ∨ j = 5 ∨ j = 6 ∨ j = 7 ∨ j = 8 ∨ j = 9 ∨ j = 10 ∨ j = 11 ∨ j = 12 ∨ j = 13 ∨ j = 14 ∨ j = 15 := by omega
  rcases this with e | e | e | e | e | e | e | e | e | e | e | e | e | e | e | e <;> subst e <;> decide
theorem l_forged {bs : Int} {s d : Nat} {Q : Int → xH → Prop} (b : zB h bs) (hs : (s : Int) < h.2 96 8) (hd : (d : Int) < h.2 96 3) {day : Int} (hQ : ∀ v : Int, (v = 1 ∧ h.2 96 (11133 + 6 * s) ≠ fl (h.2 96) d day 16) ∨ (v = 0 ∧ h.2 96 (11133 + 6 * s) = fl (h.2 96) d day 16) → Q v h) : ∀ (m k : Nat) {w6 : xV}, k + m = 16 → zJ g (D + 1) 123 0 0 32 [xr 16, xi s, xi d, xi day, xi (fl (h.2 96) d day k), xi k, w6] [] h (x_qi Q)
  | 0, k, w6, e => by
    have : k = 16 := by omega
    subst this
    have R : pR h 30 31 80 5 := z_R b.1 rfl rfl rfl rfl rfl (by decide)
    have z := pM_z b.2.1
    refine zX8_isForged_32 ⟨fun _ => zX8_isForged_83 (s_get R (by omega) (by omega) (by omega) (by omega) ?_), fun z => by omega⟩
    rw [show ((s : Int) * ((5 : Nat) : Int) + 3).toNat = s * 5 + 3 by omega, (zB_seal b hs).2.2.2.1]
    exact ⟨fun q => zX8_isForged_104 ⟨Or.inl rfl, hQ 0 (Or.inr ⟨rfl, q.symm⟩)⟩, fun q => ⟨Or.inr rfl, hQ 1 (Or.inl ⟨rfl, fun p => q p.symm⟩)⟩⟩
  | m + 1, k, w6, e => by
    have R : pR h 22 23 10 17 := z_R b.1 rfl rfl rfl rfl rfl (by decide)
    have z := pM_z b.2.1
    have rk := (die_r b.2.1 hd).2 k (by omega)
    have c : h.2 23 (d * 17 + (1 + k)) = h.2 96 (151 + 20 * d + k) := by
      rw [show 151 + 20 * d + k = 150 + 20 * d + (1 + k) by omega]
      exact ((b.2.2.1.1 2 (by decide)) (by decide)).2 d hd (1 + k, 1 + k) (t2_mem (by omega))
    have ih := fun {w6 : xV} => @l_forged bs s d Q b hs hd day hQ m (k + 1) w6 (by omega)
    refine zX8_isForged_32 ⟨fun z => by omega, fun z => ?_⟩
    rw [x32_id (show -2147483648 ≤ (k : Int) + 1 by omega) (by omega), show (k : Int) + 1 = ((k + 1 : Nat) : Int) by omega, x32_id (by omega) (by omega)]
    refine s_get R (by omega) (by omega) (by omega) (by omega) ?_
    rw [show ((d : Int) * ((17 : Nat) : Int) + (1 + (k : Int))).toNat = d * 17 + (1 + k) by omega, c]
    have no : ∀ {w6 : xV}, ¬ (0 ≤ h.2 96 (151 + 20 * d + k) ∧ h.2 96 (151 + 20 * d + k) ≤ day) → zJ g (D + 1) 123 0 0 77 [xr 16, xi s, xi d, xi day, xi (fl (h.2 96) d day k), xi k, w6] [] h (x_qi Q) := by
      intro w6 hno
      have em : fl (h.2 96) d day (k + 1) = fl (h.2 96) d day k := if_neg hno
      rw [em] at ih
      refine zX8_isForged_77 ?_
      rw [x32_id (by omega) (by omega), show (k : Int) + 1 = ((k + 1 : Nat) : Int) by omega]
      exact ih
    refine ⟨fun q => no (by omega), fun q => ⟨fun p => no (by omega), fun p => ?_⟩⟩
    have em : fl (h.2 96) d day (k + 1) = x_or (fl (h.2 96) d day k) (x_shl 1 (k : Int)) := if_pos ⟨by omega, p⟩
    rw [em] at ih
    exact ih
theorem s_isForged {bs : Int} {s : Nat} {Q : Int → xH → Prop} (b : zB h bs) (hs : (s : Int) < h.2 96 8) (hQ : ∀ v : Int, (v = 1 ∧ fgd (h.2 96) s) ∨ (v = 0 ∧ ¬ fgd (h.2 96) s) → Q v h) : zSi g (D + 1) mX8_isForged [xr 16, xi s] h Q := by
  have R : pR h 30 31 80 5 := z_R b.1 rfl rfl rfl rfl rfl (by decide)
  have z := pM_z b.2.1
  have rk := seal_r b.2.1 hs
  obtain ⟨c0, c1, c2, c3, c4⟩ := zB_seal b hs
  refine eX8_isForged (zX8_isForged_0 (s_get R (by omega) (by omega) (by omega) (by omega) (s_get R (by omega) (by omega) (by omega) (by omega) ?_)))
  rw [show ((s : Int) * ((5 : Nat) : Int) + 0).toNat = s * 5 by omega, show ((s : Int) * ((5 : Nat) : Int) + 2).toNat = s * 5 + 2 by omega, c0, c2]
  obtain ⟨d, hd⟩ : ∃ d : Nat, h.2 96 (11130 + 6 * s) = (d : Int) := ⟨(h.2 96 (11130 + 6 * s)).toNat, by omega⟩
  have ed : (h.2 96 (11130 + 6 * s)).toNat = d := by omega
  rw [hd]
  refine l_forged b hs (by omega) (fun v hv => hQ v ?_) 16 0 rfl
  unfold fgd
  rw [ed]
  rcases hv with ⟨p, q⟩ | ⟨p, q⟩
  · exact Or.inl ⟨p, q⟩
  · exact Or.inr ⟨p, fun r => r q⟩
theorem s_isGood {s : Nat} {Q : Int → xH → Prop} (b : zB h (-1)) (hs : (s : Int) < h.2 96 8) (hQ : ∀ (v : Int) (h' : xH), fB h h' → (v = 1 ∧ good (h.2 96) s) ∨ (v = 0 ∧ ¬ good (h.2 96) s) → Q v h') : zSi g (D + 6) mX8_isGood [xr 16, xi s] h Q := by
  have R : pR h 30 31 80 5 := z_R b.1 rfl rfl rfl rfl rfl (by decide)
  have z := pM_z b.2.1
  have rk := seal_r b.2.1 hs
  have B := rB_zB b
  have hday : h.2 17 14 = h.2 96 0 := b.2.2.1.2.1.2.1
  obtain ⟨c0, c1, c2, c3, c4⟩ := zB_seal b hs
  refine eX8_isGood (zX8_isGood_0 (s_get R (by omega) (by omega) (by omega) (by omega) (s_get R (by omega) (by omega) (by omega) (by omega) (s_isForged b hs (fun v hv => ⟨fun q => zX8_isGood_71 ⟨Or.inl rfl, hQ 0 h (fB_refl h) (Or.inr ⟨rfl, fun p => ?_⟩)⟩, fun q => ?_⟩)))))
  · rcases hv with r | r
    · exact p.1 r.2
    · omega
  rw [show ((s : Int) * ((5 : Nat) : Int) + 1).toNat = s * 5 + 1 by omega, show ((s : Int) * ((5 : Nat) : Int) + 2).toNat = s * 5 + 2 by omega, c1, c2, hday]
  have nf : ¬ fgd (h.2 96) s := by
    rcases hv with r | r
    · omega
    · exact r.2
  obtain ⟨w, hw⟩ : ∃ w : Nat, h.2 96 (11131 + 6 * s) = (w : Int) := ⟨(h.2 96 (11131 + 6 * s)).toNat, by omega⟩
  have ew : (h.2 96 (11131 + 6 * s)).toNat = w := by omega
  have hwl : (w : Int) < h.2 96 4 := by omega
  rw [hw]
  have hdd : 0 ≤ h.2 96 (11132 + 6 * s) ∧ h.2 96 (11132 + 6 * s) ≤ 999 := by omega
  refine s_weigh b hwl hdd (fun e => ⟨fun _ => zX8_isGood_71 ⟨Or.inl rfl, hQ 0 h (fB_refl h) (Or.inr ⟨rfl, fun p => ?_⟩)⟩, fun p => absurd rfl p⟩) (fun x h1 e hx f n1 s1 => ⟨fun p => absurd p (by decide), fun _ => ?_⟩)
  · obtain ⟨-, x, p1, -⟩ := p
    rw [hw] at p1
    omega
  · have nb := nm1_b B (Or.inl rfl : (-1 : Int) = -1 ∨ _) hwl hx hdd
    refine s_firstClause (k := 1) (so := false) (fB_zB f b) (by decide) nb.2.2.2 n1 (fun h2 g1 g2 => ?_)
    have f2 := fB_trans f (fB_of77 g1 g2)
    rw [fB_96 f]
    refine ⟨fun p => zX8_isGood_71 ⟨Or.inl rfl, hQ 0 h2 f2 (Or.inr ⟨rfl, fun r => ?_⟩)⟩, fun p => ⟨Or.inr rfl, hQ 1 h2 f2 (Or.inl ⟨rfl, nf, x, ?_, ?_⟩)⟩⟩
    · obtain ⟨-, x2, p1, p2⟩ := r
      rw [hw] at p1
      have : x2 = x := by omega
      subst this
      rw [ew] at p2
      exact p p2
    · rw [hw]; exact e
    · rw [ew]; exact p
theorem l_hgs {web : Int} {Q : Int → xH → Prop} (b : zB h (-1)) : ∀ (m s : Nat) {h' : xH}, (s : Int) + m = h.2 96 8 → fB h h' → (∀ (v : Int) (h2 : xH), fB h h2 → (v = 1 ∧ ∃ k : Nat, s ≤ k ∧ (k : Int) < h.2 96 8 ∧ h.2 96 (11131 + 6 * k) = web ∧ good (h.2 96) k) ∨ (v = 0 ∧ ¬ ∃ k : Nat, s ≤ k ∧ (k : Int) < h.2 96 8 ∧ h.2 96 (11131 + 6 * k) = web ∧ good (h.2 96) k) → Q v h2) → zJ g (D + 7) 125 0 0 2 [xr 16, xi web, xi s] [] h' (x_qi Q)
  | 0, s, h', e, f, hQ => by
    have b' := fB_zB f b
    have hsz : h'.2 30 3 = h'.2 96 8 := ((b'.2.2.1.1 6 (by decide)) (by decide)).1
    rw [fB_96 f] at hsz
    exact zX8_hasGoodSeal_2 ⟨fun _ => zX8_hasGoodSeal_48 ⟨Or.inl rfl, hQ 0 h' f (Or.inr ⟨rfl, fun ⟨k, k1, k2, _⟩ => by omega⟩)⟩, fun z => by omega⟩
  | m + 1, s, h', e, f, hQ => by
    have b' := fB_zB f b
    have e96 := fB_96 f
    have hsz : h'.2 30 3 = h'.2 96 8 := ((b'.2.2.1.1 6 (by decide)) (by decide)).1
    rw [e96] at hsz
    have R : pR h' 30 31 80 5 := z_R b'.1 rfl rfl rfl rfl rfl (by decide)
    have z := pM_z b.2.1
    have next : ∀ {h2 : xH}, fB h h2 → ¬ (h.2 96 (11131 + 6 * s) = web ∧ good (h.2 96) s) → zJ g (D + 7) 125 0 0 42 [xr 16, xi web, xi s] [] h2 (x_qi Q) := by
      intro h2 f2 hno
      refine zX8_hasGoodSeal_42 ?_
      rw [x32_id (by omega) (by omega), show (s : Int) + 1 = ((s + 1 : Nat) : Int) by omega]
      refine l_hgs b m (s + 1) (by omega) f2 (fun v h3 f3 hv => hQ v h3 f3 ?_)
      rcases hv with ⟨p, k, k1, k2⟩ | ⟨p, q⟩
      · exact Or.inl ⟨p, k, by omega, k2⟩
      · refine Or.inr ⟨p, fun ⟨k, k1, k2⟩ => q ⟨k, ?_, k2⟩⟩
        by_cases ek : k = s
        · subst ek; exact absurd k2.2 hno
        · omega
    refine zX8_hasGoodSeal_2 ⟨fun q => by omega, fun q => s_get R (by omega) (by omega) (by omega) (by omega) ?_⟩
    rw [show ((s : Int) * ((5 : Nat) : Int) + 1).toNat = s * 5 + 1 by omega, (zB_seal b' (by rw [e96]; omega)).2.1, e96]
    refine ⟨fun p => next f (fun r => p r.1), fun p => s_isGood b' (by rw [e96]; omega) (fun v h2 f2 hv => ?_)⟩
    rw [e96] at hv
    refine ⟨fun r => next (fB_trans f f2) (fun t => ?_), fun r => ⟨Or.inr rfl, hQ 1 h2 (fB_trans f f2) (Or.inl ⟨rfl, s, by omega, by omega, p, ?_⟩)⟩⟩
    · rcases hv with q | q
      · omega
      · exact q.2 t.2
    · rcases hv with q | q
      · exact q.2
      · omega
theorem s_hgs {web : Int} {Q : Int → xH → Prop} (b : zB h (-1)) (hQ : ∀ (v : Int) (h2 : xH), fB h h2 → (v = 1 ∧ hgs (h.2 96) web) ∨ (v = 0 ∧ ¬ hgs (h.2 96) web) → Q v h2) : zSi g (D + 7) mX8_hasGoodSeal [xr 16, xi web] h Q := by
  have z := pM_z b.2.1
  refine eX8_hasGoodSeal (zX8_hasGoodSeal_0 (l_hgs b (h.2 96 8).toNat 0 (by omega) (fB_refl h) (fun v h2 f2 hv => hQ v h2 f2 ?_)))
  rcases hv with ⟨p, k, k1, k2⟩ | ⟨p, q⟩
  · exact Or.inl ⟨p, k, k2⟩
  · exact Or.inr ⟨p, fun ⟨k, k2⟩ => q ⟨k, by omega, k2⟩⟩
/-! the reference's -/
theorem r_sealAt {s c : Nat} {Q : Int → xH → Prop} (hs : s < 80) (hc : c < 6) (hQ : Q (h.2 96 (11130 + c + 6 * s)) h) : zSi g D mX9_sealAt [xr 95, xi s, xi c] h Q := by
  refine eX9_sealAt (zX9_sealAt_0 ?_)
  simp (disch := omega) only [x32_id]
  rw [show (11130 + 6 * (s : Int) + (c : Int)).toNat = 11130 + c + 6 * s by omega]
  exact ⟨by omega, hQ⟩
theorem l_flaws {d : Nat} {day : Int} {Q : Int → xH → Prop} (hd : d < 10) (hQ : Q (fl (h.2 96) d day 16) h) : ∀ (m k : Nat), k + m = 16 → zJ g (D + 1) 150 0 0 5 [xr 95, xi d, xi day, xi (fl (h.2 96) d day k), xi k] [] h (x_qi Q)
  | 0, k, e => by
    have : k = 16 := by omega
    subst this
    exact zX9_flawsOf_5 ⟨fun _ => zX9_flawsOf_51 hQ, fun z => by omega⟩
  | m + 1, k, e => by
    have ih := l_flaws (day := day) hd hQ m (k + 1) (by omega)
    refine zX9_flawsOf_5 ⟨fun z => by omega, fun z => ?_⟩
    have q1 : x32 (x32 (x32 (150 + x32 (20 * (d : Int))) + 1) + (k : Int)) = ((151 + 20 * d + k : Nat) : Int) := by
      rw [x32_id (show -2147483648 ≤ 20 * (d : Int) by omega) (by omega), x32_id (show -2147483648 ≤ 150 + 20 * (d : Int) by omega) (by omega), x32_id (show -2147483648 ≤ 150 + 20 * (d : Int) + 1 by omega) (by omega), x32_id (by omega) (by omega)]; omega
    have ek : x32 ((k : Int) + 1) = ((k + 1 : Nat) : Int) := by rw [x32_id (by omega) (by omega)]; omega
    rw [q1, ek, show (((151 + 20 * d + k : Nat) : Int)).toNat = 151 + 20 * d + k by omega]
    clear q1
    refine ⟨by omega, s_in (fun v hv => ⟨fun q => zX9_flawsOf_45 ?_, fun q => ?_⟩)⟩
    · rw [ek]
      clear ek
      have em : fl (h.2 96) d day (k + 1) = fl (h.2 96) d day k := if_neg (by omega)
      rw [em] at ih
      exact ih
    · clear ek
      have em : fl (h.2 96) d day (k + 1) = x_or (fl (h.2 96) d day k) (x_shl 1 (k : Int)) := if_pos (by omega)
      rw [em] at ih
      exact ih
theorem r_isForged {s : Nat} {Q : Int → xH → Prop} (m : pM (h.2 96)) (hs : (s : Int) < h.2 96 8) (hQ : ∀ v : Int, (v = 1 ∧ fgd (h.2 96) s) ∨ (v = 0 ∧ ¬ fgd (h.2 96) s) → Q v h) : zSi g (D + 2) mX9_isForged [xr 95, xi s] h Q := by
  have z := pM_z m
  have rk := seal_r m hs
  obtain ⟨d, hd⟩ : ∃ d : Nat, h.2 96 (11130 + 6 * s) = (d : Int) := ⟨(h.2 96 (11130 + 6 * s)).toNat, by omega⟩
  have ed : (h.2 96 (11130 + 6 * s)).toNat = d := by omega
  refine eX9_isForged (zX9_isForged_0 (r_sealAt (c := 3) (by omega) (by decide) (r_sealAt (c := 0) (by omega) (by decide) (r_sealAt (c := 2) (by omega) (by decide) ?_))))
  rw [show 11130 + 0 + 6 * s = 11130 + 6 * s by omega, hd]
  refine eX9_flawsOf (zX9_flawsOf_0 (l_flaws (by omega) ⟨fun q => zX9_isForged_29 ⟨Or.inl rfl, hQ 0 (Or.inr ⟨rfl, fun p => p ?_⟩)⟩, fun q => ⟨Or.inr rfl, hQ 1 (Or.inl ⟨rfl, fun p => q ?_⟩)⟩⟩ 16 0 rfl))
  · rw [ed]; exact q
  · rw [ed] at p; exact p
theorem r_isGood {s : Nat} {Q : Int → xH → Prop} (m : pM (h.2 96)) (B : rB (h.2 96)) (hs : (s : Int) < h.2 96 8) (hQ : ∀ (v : Int) (h' : xH), fR h h' → (v = 1 ∧ good (h.2 96) s) ∨ (v = 0 ∧ ¬ good (h.2 96) s) → Q v h') : zSi g (D + 5) mX9_isGood [xr 95, xi s] h Q := by
  have z := pM_z m
  have rk := seal_r m hs
  obtain ⟨w, hw⟩ : ∃ w : Nat, h.2 96 (11131 + 6 * s) = (w : Int) := ⟨(h.2 96 (11131 + 6 * s)).toNat, by omega⟩
  have ew : (h.2 96 (11131 + 6 * s)).toNat = w := by omega
  have hwl : (w : Int) < h.2 96 4 := by omega
  have hdd : 0 ≤ h.2 96 (11132 + 6 * s) ∧ h.2 96 (11132 + 6 * s) ≤ 999 := by omega
  refine eX9_isGood (zX9_isGood_0 (r_sealAt (c := 2) (by omega) (by decide) (r_sealAt (c := 1) (by omega) (by decide) ?_)))
  rw [show 11130 + 1 + 6 * s = 11131 + 6 * s by omega, show 11130 + 2 + 6 * s = 11132 + 6 * s by omega, hw]
  refine r_meas B (fun e => r_isForged m hs (fun v hv => ⟨fun q => zX9_isGood_41 ⟨Or.inl rfl, hQ 0 h (fR_refl h) (Or.inr ⟨rfl, fun p => ?_⟩)⟩, fun q => ⟨fun p => absurd p (by decide), fun _ => ⟨Or.inl rfl, hQ 0 h (fR_refl h) (Or.inr ⟨rfl, fun p => ?_⟩)⟩⟩⟩)) (fun x e hx => r_isForged m hs (fun v hv => ⟨fun q => zX9_isGood_41 ⟨Or.inl rfl, hQ 0 h (fR_refl h) (Or.inr ⟨rfl, fun p => ?_⟩)⟩, fun q => ⟨fun p => zX9_isGood_43 ?_, fun p => by omega⟩⟩))
  · rcases hv with r | r
    · exact p.1 r.2
    · omega
  · obtain ⟨-, x, p1, -⟩ := p
    rw [hw] at p1
    omega
  · rcases hv with r | r
    · exact p.1 r.2
    · omega
  · have nf : ¬ fgd (h.2 96) s := by
      rcases hv with r | r
      · omega
      · exact r.2
    have nb := nm1_b B (Or.inl rfl : (-1 : Int) = -1 ∨ _) hwl hx hdd
    refine r_name B hwl hx hdd (fun h1 f n1 => r_lacks (by rw [fR_96 f]; exact B.1) nb.2.2.2 n1 (fun h2 g1 g2 => ?_))
    have f2 := fR_trans f (fR_of g1 g2)
    rw [fR_96 f]
    have cb : cF (h.2 96) (-1) 1 (h.2 96 (11132 + 6 * s)) (nm1 (h.2 96) (-1) w (h.2 96 (11132 + 6 * s)) x) false = -1 ∨ 0 ≤ cF (h.2 96) (-1) 1 (h.2 96 (11132 + 6 * s)) (nm1 (h.2 96) (-1) w (h.2 96 (11132 + 6 * s)) x) false := by
      unfold cF
      split
      · exact Or.inl rfl
      · rcases fC_c (T := tx (h.2 96) (aB (h.2 96) (-1) 1 (h.2 96 (11132 + 6 * s))).toNat) (nm := nm1 (h.2 96) (-1) w (h.2 96 (11132 + 6 * s)) x) (k := 1) (so := false) with c | ⟨i, c1, _⟩
        · exact Or.inl c
        · exact Or.inr (by omega)
    refine ⟨fun r => zX9_isGood_63 ⟨Or.inl rfl, hQ 0 h2 f2 (Or.inr ⟨rfl, fun t => ?_⟩)⟩, fun r => ⟨Or.inr rfl, hQ 1 h2 f2 (Or.inl ⟨rfl, nf, x, ?_, ?_⟩)⟩⟩
    · obtain ⟨-, x2, p1, p2⟩ := t
      rw [hw] at p1
      have : x2 = x := by omega
      subst this
      rw [ew] at p2
      omega
    · rw [hw]; exact e
    · rw [ew]; omega
theorem l_rhgs {web : Int} {Q : Int → xH → Prop} (mm : pM (h.2 96)) (B : rB (h.2 96)) : ∀ (m s : Nat) {h' : xH}, (s : Int) + m = h.2 96 8 → fR h h' → (∀ (v : Int) (h2 : xH), fR h h2 → (v = 1 ∧ ∃ k : Nat, s ≤ k ∧ (k : Int) < h.2 96 8 ∧ h.2 96 (11131 + 6 * k) = web ∧ good (h.2 96) k) ∨ (v = 0 ∧ ¬ ∃ k : Nat, s ≤ k ∧ (k : Int) < h.2 96 8 ∧ h.2 96 (11131 + 6 * k) = web ∧ good (h.2 96) k) → Q v h2) → zJ g (D + 6) 212 0 0 2 [xr 95, xi web, xi s] [] h' (x_qi Q)
  | 0, s, h', e, f, hQ => by
    have e96 := fR_96 f
    refine zX9_hasGoodSeal_2 ?_
    rw [e96]
    exact ⟨fun _ => zX9_hasGoodSeal_39 ⟨Or.inl rfl, hQ 0 h' f (Or.inr ⟨rfl, fun ⟨k, k1, k2, _⟩ => by omega⟩)⟩, fun z => by omega⟩
  | m + 1, s, h', e, f, hQ => by
    have e96 := fR_96 f
    have z := pM_z mm
    have next : ∀ {h2 : xH}, fR h h2 → ¬ (h.2 96 (11131 + 6 * s) = web ∧ good (h.2 96) s) → zJ g (D + 6) 212 0 0 33 [xr 95, xi web, xi s] [] h2 (x_qi Q) := by
      intro h2 f2 hno
      refine zX9_hasGoodSeal_33 ?_
      rw [x32_id (by omega) (by omega), show (s : Int) + 1 = ((s + 1 : Nat) : Int) by omega]
      refine l_rhgs mm B m (s + 1) (by omega) f2 (fun v h3 f3 hv => hQ v h3 f3 ?_)
      rcases hv with ⟨p, k, k1, k2⟩ | ⟨p, q⟩
      · exact Or.inl ⟨p, k, by omega, k2⟩
      · refine Or.inr ⟨p, fun ⟨k, k1, k2⟩ => q ⟨k, ?_, k2⟩⟩
        by_cases ek : k = s
        · subst ek; exact absurd k2.2 hno
        · omega
    refine zX9_hasGoodSeal_2 ?_
    rw [e96]
    refine ⟨fun q => by omega, fun q => r_sealAt (c := 1) (by omega) (by decide) ?_⟩
    rw [e96, show 11130 + 1 + 6 * s = 11131 + 6 * s by omega]
    refine ⟨fun p => next f (fun r => p r.1), fun p => r_isGood (by rw [e96]; exact mm) (by rw [e96]; exact B) (by rw [e96]; omega) (fun v h2 f2 hv => ?_)⟩
    rw [e96] at hv
    refine ⟨fun r => next (fR_trans f f2) (fun t => ?_), fun r => ⟨Or.inr rfl, hQ 1 h2 (fR_trans f f2) (Or.inl ⟨rfl, s, by omega, by omega, p, ?_⟩)⟩⟩
    · rcases hv with q | q
      · omega
      · exact q.2 t.2
    · rcases hv with q | q
      · exact q.2
      · omega
theorem r_hgs {web : Int} {Q : Int → xH → Prop} (mm : pM (h.2 96)) (B : rB (h.2 96)) (hQ : ∀ (v : Int) (h2 : xH), fR h h2 → (v = 1 ∧ hgs (h.2 96) web) ∨ (v = 0 ∧ ¬ hgs (h.2 96) web) → Q v h2) : zSi g (D + 6) mX9_hasGoodSeal [xr 95, xi web] h Q := by
  have z := pM_z mm
  refine eX9_hasGoodSeal (zX9_hasGoodSeal_0 (l_rhgs mm B (h.2 96 8).toNat 0 (by omega) (fR_refl h) (fun v h2 f2 hv => hQ v h2 f2 ?_)))
  rcases hv with ⟨p, k, k1, k2⟩ | ⟨p, q⟩
  · exact Or.inl ⟨p, k, k2⟩
  · exact Or.inr ⟨p, fun ⟨k, k2⟩ => q ⟨k, by omega, k2⟩⟩
end SE
