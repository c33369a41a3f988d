/-! about, claimOf -/
theorem op_about {g : xG} {D : Nat} {h : xH} {a : Int} (I : zInv h) : zSi g (D + 3) mX8_about [xr 16, xi a] h (fun x h1 => zSi g (D + 3) mX9_about [xr 95, xi a] h1 (fun y h2 => x = y ∧ zInv h2)) := by
  have q := I.2.2.1.2.1
  have c := I.2.2.1.1
  have M : ∀ v : Int, ((a = 13 ∧ v = h.2 95 5) ∨ (((0 ≤ a ∧ a ≤ 12) ∨ a = 14) ∧ v = h.2 96 a.toNat) ∨ (¬ (0 ≤ a ∧ a ≤ 14) ∧ v = -1)) → zSi g (D + 3) mX9_about [xr 95, xi a] h (fun y h2 => v = y ∧ zInv h2) := by
    intro v hv
    refine eX9_about (zX9_about_0 ⟨fun z => zX9_about_13 (s_in (fun y hy => ⟨fun w => zX9_about_29 ⟨by omega, ?_, I⟩, fun w => ⟨fun u => zX9_about_38 ⟨?_, I⟩, fun u => ⟨by omega, ?_, I⟩⟩⟩)), fun z => ⟨?_, I⟩⟩)
    · rcases hv with e | e | e
      · omega
      · exact e.2
      · omega
    · rcases hv with e | e | e
      · omega
      · omega
      · exact e.2
    · rcases hv with e | e | e
      · omega
      · exact e.2
      · omega
    · rcases hv with e | e | e
      · exact e.2
      · omega
      · omega
  refine eX8_about (zX8_about_0 ⟨fun z => zX8_about_229 (M _ (Or.inr (Or.inr ⟨by omega, rfl⟩))), fun z => zX8_about_76 (M _ ?_), fun z => zX8_about_84 (M _ ?_), fun z => zX8_about_95 (M _ ?_), fun z => zX8_about_106 (M _ ?_), fun z => zX8_about_117 (M _ ?_), fun z => zX8_about_128 (M _ ?_), fun z => zX8_about_139 (M _ ?_), fun z => zX8_about_147 (M _ ?_), fun z => zX8_about_158 (M _ ?_), fun z => zX8_about_169 (M _ ?_), fun z => zX8_about_180 (M _ ?_), fun z => zX8_about_191 (M _ ?_), fun z => zX8_about_202 (M _ ?_), fun z => zX8_about_213 (M _ (Or.inl ⟨z, I.2.2.2.2.1⟩)), fun z => zX8_about_221 (M _ ?_), trivial⟩)
  · exact Or.inr (Or.inl ⟨by omega, by rw [z]; exact q.2.1⟩)
  · exact Or.inr (Or.inl ⟨by omega, by rw [z]; exact ((c 0 (by decide)) (by decide)).1⟩)
  · exact Or.inr (Or.inl ⟨by omega, by rw [z]; exact ((c 1 (by decide)) (by decide)).1⟩)
  · exact Or.inr (Or.inl ⟨by omega, by rw [z]; exact ((c 2 (by decide)) (by decide)).1⟩)
  · exact Or.inr (Or.inl ⟨by omega, by rw [z]; exact ((c 3 (by decide)) (by decide)).1⟩)
  · exact Or.inr (Or.inl ⟨by omega, by rw [z]; exact ((c 4 (by decide)) (by decide)).1⟩)
  · exact Or.inr (Or.inl ⟨by omega, by rw [z]; exact q.1⟩)
  · exact Or.inr (Or.inl ⟨by omega, by rw [z]; exact ((c 5 (by decide)) (by decide)).1⟩)
  · exact Or.inr (Or.inl ⟨by omega, by rw [z]; exact ((c 6 (by decide)) (by decide)).1⟩)
  · exact Or.inr (Or.inl ⟨by omega, by rw [z]; exact ((c 7 (by decide)) (by decide)).1⟩)
  · exact Or.inr (Or.inl ⟨by omega, by rw [z]; exact ((c 8 (by decide)) (by decide)).1⟩)
  · exact Or.inr (Or.inl ⟨by omega, by rw [z]; exact ((c 10 (by decide)) (by decide)).1⟩)
  · exact Or.inr (Or.inl ⟨by omega, by rw [z]; exact ((c 11 (by decide)) (by decide)).1⟩)
  · exact Or.inr (Or.inl ⟨by omega, by rw [z]; exact q.2.2.1⟩)
theorem op_claimOf {g : xG} {D : Nat} {h : xH} {a b : Int} (I : zInv h) : zSi g (D + 3) mX8_claimOf [xr 16, xi a, xi b] h (fun x h1 => zSi g (D + 3) mX9_claimOf [xr 95, xi a, xi b] h1 (fun y h2 => x = y ∧ zInv h2)) := by
  refine zS_sh (fun hs => ?_)
  have hz : 0 ≤ h.2 96 10 ∧ h.2 96 10 ≤ 80 := I.1.1.2.2.2.2.2.2 8 (by decide) (by decide)
  have c8 := (I.2.2.1.1 8 (by decide)) (by decide)
  have hsz : h.2 34 3 = h.2 96 10 := c8.1
  have R : pR h 34 35 80 4 := z_R hs rfl rfl rfl rfl rfl (by decide)
  have M : ∀ v : Int, (((0 ≤ a ∧ a < h.2 96 10) ∧ (0 ≤ b ∧ b ≤ 3)) → v = h.2 96 (12210 + 4 * a + b).toNat) → (¬ ((0 ≤ a ∧ a < h.2 96 10) ∧ (0 ≤ b ∧ b ≤ 3)) → v = -1) → zSi g (D + 3) mX9_claimOf [xr 95, xi a, xi b] h (fun y h2 => v = y ∧ zInv h2) := by
    intro v v1 v2
    refine eX9_claimOf (zX9_claimOf_0 ?_)
    rw [x32_id (by omega) (by omega)]
    refine s_in (fun y hy => ⟨fun w => zX9_claimOf_43 ⟨v2 (by omega), I⟩, fun w => s_in (fun y2 hy2 => ⟨fun w2 => zX9_claimOf_43 ⟨v2 (by omega), I⟩, fun w2 => ?_⟩)⟩)
    rw [x32_id (show -2147483648 ≤ 4 * a by omega) (by omega), x32_id (show -2147483648 ≤ 12210 + 4 * a by omega) (by omega), x32_id (show -2147483648 ≤ 12210 + 4 * a + b by omega) (by omega)]
    exact ⟨by omega, v1 (by omega), I⟩
  refine eX8_claimOf (zX8_claimOf_0 (s_has R.1 (fun x hx => ⟨fun z => zX8_claimOf_23 (M _ (fun y => by omega) (fun _ => rfl)), fun z => s_win (fun x2 hx2 => ⟨fun z2 => zX8_claimOf_25 ?_, fun z2 => M _ (fun y => by omega) (fun _ => rfl)⟩)⟩)))
  refine s_get R (by omega) (by omega) (by omega) (by omega) (M _ (fun _ => ?_) (fun y => by omega))
  obtain ⟨i, hi⟩ : ∃ i : Nat, a = (i : Int) := ⟨a.toNat, by omega⟩
  obtain ⟨j, hj⟩ : ∃ j : Nat, b = (j : Int) := ⟨b.toNat, by omega⟩
  subst hi; subst hj
  have hj4 : j = 0 ∨ j = 1 ∨ j = 2 ∨ j = 3 := by omega
  have key := c8.2 i (show (i : Int) < h.2 96 10 by omega) (j, j) (by rcases hj4 with e | e | e | e <;> subst e <;> decide)
  have e1 : ((i : Int) * ((4 : Nat) : Int) + (j : Int)).toNat = i * 4 + j := p_nat
  have e2 : (12210 + 4 * (i : Int) + (j : Int)).toNat = 12210 + 4 * i + j := by omega
  rw [e1, e2]
  exact key
