/-! book -/
def cs (A : Nat → Int) (w : Int) (c : Nat) : Int := if A (12212 + 4 * c) ≠ -1 ∧ (A (12213 + 4 * c) = -1 ↔ w = 0) then A (12212 + 4 * c) else 0
theorem sg_s (f : Nat → Int) (n : Nat) : sg f (n + 1) = sg f n + f n := rfl
theorem sg_b2 {f : Nat → Int} {B : Int} : ∀ {n : Nat}, (∀ j, j < n → 0 ≤ f j ∧ f j ≤ B) → 0 ≤ sg f n ∧ sg f n ≤ B * n
  | 0, _ => by show (0 : Int) ≤ 0 ∧ (0 : Int) ≤ B * 0; omega
  | n + 1, h => by
    have ih := sg_b2 (n := n) (fun j hj => h j (by omega))
    have hn := h n (by omega)
    rw [sg_s]
    have e : B * ((n + 1 : Nat) : Int) = B * n + B := by rw [show ((n + 1 : Nat) : Int) = (n : Int) + 1 by omega, Int.mul_add, Int.mul_one]
    rw [e]
    omega
section BK
variable {g : xG} {D : Nat} {h : xH}
theorem cs_b {A : Nat → Int} (m : pM A) {w : Int} {n : Nat} (hn : (n : Int) ≤ A 10) : 0 ≤ sg (cs A w) n ∧ sg (cs A w) n ≤ 80000000000 := by
  have z := pM_z m
  have := sg_b2 (f := cs A w) (B := 1000000000) (n := n) (fun j hj => by
    have := claim_r m (c := j) (by omega)
    unfold cs
    split <;> omega)
  omega
theorem l_sc {w : Int} {Q : Int → xH → Prop} (hw : w = 0 ∨ w = 1) (hs : zSh h) (I : zInv h) (hQ : Q (sg (cs (h.2 96) w) (h.2 96 10).toNat) h) : ∀ (m c : Nat) {w3 : xV}, (c : Int) + m = h.2 96 10 → zJ g (D + 2) 128 0 0 5 [xr 16, xi (1 - w), xl (sg (cs (h.2 96) w) c), w3, xi c] [] h (x_ql2 Q)
  | 0, c, w3, e => by
    have hsz : h.2 34 3 = h.2 96 10 := ((I.2.2.1.1 8 (by decide)) (by decide)).1
    rw [show (h.2 96 10).toNat = c by omega] at hQ
    exact zX8_sumOfClaims_5 ⟨fun _ => zX8_sumOfClaims_70 hQ, fun z => by omega⟩
  | m + 1, c, w3, e => by
    have hsz : h.2 34 3 = h.2 96 10 := ((I.2.2.1.1 8 (by decide)) (by decide)).1
    have R : pR h 34 35 80 4 := z_R hs rfl rfl rfl rfl rfl (by decide)
    have z := pM_z I.1
    have k2 : h.2 35 (c * 4 + 2) = h.2 96 (12212 + 4 * c) := by
      rw [show 12212 + 4 * c = 12210 + 4 * c + 2 by omega]
      exact ((I.2.2.1.1 8 (by decide)) (by decide)).2 c (show (c : Int) < h.2 96 10 by omega) (2, 2) (by decide)
    have rk := claim_r I.1 (c := c) (by omega)
    have sb := cs_b (w := w) I.1 (n := c) (by omega)
    have ih := fun {w3 : xV} => @l_sc w Q hw hs I hQ m (c + 1) w3 (by omega)
    have next : ¬ (h.2 96 (12212 + 4 * c) ≠ -1 ∧ (h.2 96 (12213 + 4 * c) = -1 ↔ w = 0)) → ∀ {w3 : xV}, zJ g (D + 2) 128 0 0 64 [xr 16, xi (1 - w), xl (sg (cs (h.2 96) w) c), w3, xi c] [] h (x_ql2 Q) := by
      intro hno w3
      refine zX8_sumOfClaims_64 ?_
      rw [x32_id (by omega) (by omega), show (c : Int) + 1 = ((c + 1 : Nat) : Int) by omega]
      rw [sg_s, show cs (h.2 96) w c = 0 from if_neg hno, Int.add_zero] at ih
      exact ih
    refine zX8_sumOfClaims_5 ⟨fun q => by omega, fun q => s_get R (by omega) (by omega) (by omega) (by omega) ?_⟩
    rw [show ((c : Int) * ((4 : Nat) : Int) + 2).toNat = c * 4 + 2 by omega, k2]
    refine ⟨fun p => next (fun r => r.1 p), fun p => s_standing hs I (by omega) (fun v hv => ⟨fun r => next (fun t => ?_), fun r => s_get R (by omega) (by omega) (by omega) (by omega) ?_⟩)⟩
    · have t2 := t.2
      by_cases u : h.2 96 (12213 + 4 * c) = -1
      · have := t2.mp u; omega
      · have : ¬ w = 0 := fun y => u (t2.mpr y)
        omega
    · rw [show ((c : Int) * ((4 : Nat) : Int) + 2).toNat = c * 4 + 2 by omega, k2]
      have hy : h.2 96 (12212 + 4 * c) ≠ -1 ∧ (h.2 96 (12213 + 4 * c) = -1 ↔ w = 0) := ⟨p, ⟨fun u => by omega, fun u => by omega⟩⟩
      rw [x32_id (by omega) (by omega), x64_id (by omega) (by omega), show (c : Int) + 1 = ((c + 1 : Nat) : Int) by omega]
      rw [sg_s, show cs (h.2 96) w c = h.2 96 (12212 + 4 * c) from if_pos hy] at ih
      exact ih
theorem l_rsc {w : Int} {Q : Int → xH → Prop} (hw : w = 0 ∨ w = 1) (mm : pM (h.2 96)) (hQ : Q (sg (cs (h.2 96) w) (h.2 96 10).toNat) h) : ∀ (m c : Nat) {w3 w5 : xV}, (c : Int) + m = h.2 96 10 → zJ g (D + 1) 219 0 0 5 [xr 95, xi w, xl (sg (cs (h.2 96) w) c), w3, xi c, w5] [] h (x_ql2 Q)
  | 0, c, w3, w5, e => by
    rw [show (h.2 96 10).toNat = c by omega] at hQ
    exact zX9_book_5 ⟨fun _ => zX9_book_97 ⟨fun _ => zX9_book_106 hQ, fun u => ⟨fun u2 => by omega, fun u2 => hQ⟩⟩, fun z => by omega⟩
  | m + 1, c, w3, w5, e => by
    have z := pM_z mm
    have rk := claim_r mm (c := c) (by omega)
    have sb := cs_b (w := w) mm (n := c) (by omega)
    have ih := fun {w3 w5 : xV} => @l_rsc w Q hw mm hQ m (c + 1) w3 w5 (by omega)
    have next : ¬ (h.2 96 (12212 + 4 * c) ≠ -1 ∧ (h.2 96 (12213 + 4 * c) = -1 ↔ w = 0)) → ∀ {w3 w5 : xV}, zJ g (D + 1) 219 0 0 91 [xr 95, xi w, xl (sg (cs (h.2 96) w) c), w3, xi c, w5] [] h (x_ql2 Q) := by
      intro hno w3 w5
      refine zX9_book_91 ?_
      rw [x32_id (by omega) (by omega), show (c : Int) + 1 = ((c + 1 : Nat) : Int) by omega]
      rw [sg_s, show cs (h.2 96) w c = 0 from if_neg hno, Int.add_zero] at ih
      exact ih
    have last : ∀ (s0 : Int), (s0 = 1 ∧ ¬ h.2 96 (12213 + 4 * c) = -1) ∨ (s0 = 0 ∧ h.2 96 (12213 + 4 * c) = -1) → h.2 96 (12212 + 4 * c) ≠ -1 → ∀ {w3 : xV}, zJ g (D + 1) 219 0 0 65 [xr 95, xi w, xl (sg (cs (h.2 96) w) c), w3, xi c, xi (12210 + 4 * (c : Int))] [xi s0] h (x_ql2 Q) := by
      intro s0 hs0 hp w3
      have yes : (h.2 96 (12213 + 4 * c) = -1 ↔ w = 0) → (0 ≤ x32 (12210 + 4 * (c : Int) + 2) ∧ x32 (12210 + 4 * (c : Int) + 2) < 13700) ∧ zJ g (D + 1) 219 0 0 5 [xr 95, xi w, xl (x64 (sg (cs (h.2 96) w) c + h.2 96 (x32 (12210 + 4 * (c : Int) + 2)).toNat)), xu, xi (x32 ((c : Int) + 1)), xi (12210 + 4 * (c : Int))] [] h (x_ql2 Q) := by
        intro hy
        rw [x32_id (show -2147483648 ≤ 12210 + 4 * (c : Int) + 2 by omega) (by omega), show (12210 + 4 * (c : Int) + 2).toNat = 12212 + 4 * c by omega, x32_id (by omega) (by omega), x64_id (by omega) (by omega), show (c : Int) + 1 = ((c + 1 : Nat) : Int) by omega]
        rw [sg_s, show cs (h.2 96) w c = h.2 96 (12212 + 4 * c) from if_pos ⟨hp, hy⟩] at ih
        exact ⟨by omega, ih⟩
      refine zX9_book_65 ⟨fun u => zX9_book_74 (zX9_book_75 ⟨fun u2 => next (fun t => ?_), fun u2 => yes ?_⟩), fun u => zX9_book_75 ⟨fun u2 => next (fun t => ?_), fun u2 => yes ?_⟩⟩
      · have t2 := t.2
        have w0 : w = 0 := by omega
        have := t2.mpr w0
        omega
      · constructor
        · intro _; omega
        · intro _; omega
      · have t2 := t.2
        have : ¬ h.2 96 (12213 + 4 * c) = -1 := fun y => by have := t2.mp y; omega
        omega
      · constructor
        · intro _; omega
        · intro _; omega
    refine zX9_book_5 ⟨fun q => by omega, fun q => s_in (fun v hv => ⟨fun u => by omega, fun u => ?_⟩)⟩
    rw [x32_id (show -2147483648 ≤ 4 * (c : Int) by omega) (by omega), x32_id (show -2147483648 ≤ 12210 + 4 * (c : Int) by omega) (by omega), x32_id (show -2147483648 ≤ 12210 + 4 * (c : Int) + 2 by omega) (by omega), x32_id (show -2147483648 ≤ 12210 + 4 * (c : Int) + 3 by omega) (by omega), show (12210 + 4 * (c : Int) + 2).toNat = 12212 + 4 * c by omega, show (12210 + 4 * (c : Int) + 3).toNat = 12213 + 4 * c by omega]
    exact ⟨by omega, fun p => next (by omega), fun p => ⟨by omega, fun p2 => zX9_book_64 (last 0 (Or.inr ⟨rfl, by omega⟩) (by omega)), fun p2 => last 1 (Or.inl ⟨rfl, by omega⟩) (by omega)⟩⟩
/-- what a person (-1: all) has of fine j's parts -/
def fp (c1 : Nat → Int) (p : Int) (j : Nat) : Int := (if p = -1 ∨ c1 (j * 6) = p then c1 (j * 6 + 3) else 0) + (if p = -1 ∨ c1 (j * 6 + 1) = p then c1 (j * 6 + 4) else 0) + (if p = -1 ∨ c1 (j * 6 + 2) = p then c1 (j * 6 + 5) else 0)
theorem fin_b {L : Nat} {A E : Nat → Int} (m : pM A) (F : pFin h L A E) : ∃ q : Nat, h.2 (L + 19) 3 = (q : Int) ∧ q ≤ 80 ∧ (∀ j, j < q → ∀ c, c < 3 → 0 ≤ h.2 (L + 20) (j * 6 + 3 + c) ∧ h.2 (L + 20) (j * 6 + 3 + c) ≤ 1000000000) ∧ E 0 = sg (fp (h.2 (L + 20)) (-1)) q ∧ ∀ p : Nat, p < 30 → E (1 + p) = sg (fp (h.2 (L + 20)) p) q := by
  obtain ⟨q, q1, q2, q3, q4, q5⟩ := F
  have z := pM_z m
  have sb := sg_b2 (f := fun i => if i < 80 then A (11134 + 6 * i) else 0) (B := 1) (n := (A 8).toNat) (fun j hj => by
    try dsimp only
    rw [if_pos (by omega)]
    have := seal_r m (s := j) (by omega)
    omega)
  refine ⟨q, q1, by omega, q3, ?_, fun p hp => ?_⟩
  · rw [q4]
    refine sg_congr (fun j hj => ?_)
    unfold fp
    simp only [true_or, if_true]
  · rw [q5 p hp]
    refine sg_congr (fun j hj => ?_)
    have : ¬ (p : Int) = -1 := by omega
    unfold fp
    simp only [this, false_or]
theorem l_sf {q : Nat} {p : Int} {Q : Int → xH → Prop} (hs : zSh h) (hq : h.2 36 3 = (q : Int)) (q80 : q ≤ 80) (hb : ∀ j, j < q → ∀ c, c < 3 → 0 ≤ h.2 37 (j * 6 + 3 + c) ∧ h.2 37 (j * 6 + 3 + c) ≤ 1000000000) (hQ : Q (sg (fp (h.2 37) p) q) h) : ∀ (m j : Nat) {w3 w5 : xV}, j + m = q → zJ g (D + 1) 129 0 0 5 [xr 16, xi p, xl (sg (fp (h.2 37) p) j), w3, xi j, w5] [] h (x_ql2 Q)
  | 0, j, w3, w5, e => by
    have : j = q := by omega
    subst this
    exact zX8_sumOfFines_5 ⟨fun _ => zX8_sumOfFines_86 hQ, fun z => by omega⟩
  | m + 1, j, w3, w5, e => by
    have R : pR h 36 37 80 6 := z_R hs rfl rfl rfl rfl rfl (by decide)
    have b0 := hb j (by omega) 0 (by decide)
    have b1 := hb j (by omega) 1 (by decide)
    have b2 := hb j (by omega) 2 (by decide)
    rw [Nat.add_zero] at b0
    rw [show j * 6 + 3 + 1 = j * 6 + 4 by omega] at b1
    rw [show j * 6 + 3 + 2 = j * 6 + 5 by omega] at b2
    have sb := sg_b2 (f := fp (h.2 37) p) (B := 3000000000) (n := j) (fun i hi => by
      have c0 := hb i (by omega) 0 (by decide)
      have c1 := hb i (by omega) 1 (by decide)
      have c2 := hb i (by omega) 2 (by decide)
      rw [Nat.add_zero] at c0
      rw [show i * 6 + 3 + 1 = i * 6 + 4 by omega] at c1
      rw [show i * 6 + 3 + 2 = i * 6 + 5 by omega] at c2
      unfold fp
      repeat' split
      all_goals omega)
    have ih := fun {w3 w5 : xV} => @l_sf q p Q hs hq q80 hb hQ m (j + 1) w3 w5 (by omega)
    rw [sg_s] at ih
    generalize sg (fp (h.2 37) p) j = s0 at sb ih
    -- one sharer
    have one : ∀ (c : Nat) (s1 : Int), c < 3 → -1000000000000 ≤ s1 → s1 ≤ 1000000000000 → (∀ {w3 : xV}, zJ g (D + 1) 129 0 0 23 [xr 16, xi p, xl (s1 + (if p = -1 ∨ h.2 37 (j * 6 + c) = p then h.2 37 (j * 6 + 3 + c) else 0)), w3, xi j, xi ((c + 1 : Nat) : Int)] [] h (x_ql2 Q)) → ∀ {w3 : xV}, zJ g (D + 1) 129 0 0 23 [xr 16, xi p, xl s1, w3, xi j, xi (c : Int)] [] h (x_ql2 Q) := by
      intro c s1 hc l1 l2 k w3
      have bc := hb j (by omega) c hc
      have yes : (p = -1 ∨ h.2 37 (j * 6 + c) = p) → ∀ {w3 : xV}, zJ g (D + 1) 129 0 0 54 [xr 16, xi p, xl s1, w3, xi j, xi (c : Int)] [] h (x_ql2 Q) := by
        intro hy w3
        refine zX8_sumOfFines_54 ?_
        rw [x32_id (by omega) (by omega)]
        refine s_get R (by omega) (by omega) (by omega) (by omega) ?_
        rw [show ((j : Int) * ((6 : Nat) : Int) + (3 + (c : Int))).toNat = j * 6 + 3 + c by omega, x64_id (by omega) (by omega), x32_id (by omega) (by omega), show (c : Int) + 1 = ((c + 1 : Nat) : Int) by omega]
        rw [if_pos hy] at k
        exact k
      refine zX8_sumOfFines_23 ⟨fun z => by omega, fun z => ⟨fun y => yes (Or.inl y), fun y => ?_⟩⟩
      rw [x32_id (by omega) (by omega), show (0 : Int) + (c : Int) = (c : Int) by omega]
      refine s_get R (by omega) (by omega) (by omega) (by omega) ?_
      rw [show ((j : Int) * ((6 : Nat) : Int) + (c : Int)).toNat = j * 6 + c by omega]
      refine ⟨fun u => zX8_sumOfFines_74 ?_, fun u => yes (Or.inr u)⟩
      rw [x32_id (by omega) (by omega), show (c : Int) + 1 = ((c + 1 : Nat) : Int) by omega]
      rw [if_neg (by omega), Int.add_zero] at k
      exact k
    have t0 : ∀ (u : Int) (P : Prop) [Decidable P], 0 ≤ u ∧ u ≤ 1000000000 → 0 ≤ (if P then u else 0) ∧ (if P then u else 0) ≤ 1000000000 := by
      intro u P _ hu; split <;> omega
    have u0 := t0 (h.2 37 (j * 6 + 3)) (p = -1 ∨ h.2 37 (j * 6) = p) b0
    have u1 := t0 (h.2 37 (j * 6 + 4)) (p = -1 ∨ h.2 37 (j * 6 + 1) = p) b1
    refine zX8_sumOfFines_5 ⟨fun z => by omega, fun z => ?_⟩
    refine one 0 s0 (by decide) (by omega) (by omega) (one 1 _ (by decide) ?_ ?_ (one 2 _ (by decide) ?_ ?_ ?_))
    · show -1000000000000 ≤ s0 + (if p = -1 ∨ h.2 37 (j * 6) = p then h.2 37 (j * 6 + 3) else 0); omega
    · show s0 + (if p = -1 ∨ h.2 37 (j * 6) = p then h.2 37 (j * 6 + 3) else 0) ≤ 1000000000000; omega
    · show -1000000000000 ≤ s0 + (if p = -1 ∨ h.2 37 (j * 6) = p then h.2 37 (j * 6 + 3) else 0) + (if p = -1 ∨ h.2 37 (j * 6 + 1) = p then h.2 37 (j * 6 + 4) else 0); omega
    · show s0 + (if p = -1 ∨ h.2 37 (j * 6) = p then h.2 37 (j * 6 + 3) else 0) + (if p = -1 ∨ h.2 37 (j * 6 + 1) = p then h.2 37 (j * 6 + 4) else 0) ≤ 1000000000000; omega
    · intro w3
      refine zX8_sumOfFines_23 ⟨fun _ => zX8_sumOfFines_80 ?_, fun z => absurd z (by decide)⟩
      rw [x32_id (by omega) (by omega), show (j : Int) + 1 = ((j + 1 : Nat) : Int) by omega]
      have e2 : s0 + fp (h.2 37) p j = s0 + (if p = -1 ∨ h.2 37 (j * 6) = p then h.2 37 (j * 6 + 3) else 0) + (if p = -1 ∨ h.2 37 (j * 6 + 1) = p then h.2 37 (j * 6 + 4) else 0) + (if p = -1 ∨ h.2 37 (j * 6 + 2) = p then h.2 37 (j * 6 + 5) else 0) := by unfold fp; omega
      rw [e2] at ih
      exact ih
end BK
theorem op_book {g : xG} {D : Nat} {h : xH} {a : Int} (ha : -2147483648 ≤ a ∧ a < 2147483648) (I : zInv h) : zSl g (D + 3) mX8_book [xr 16, xi a] h (fun x h1 => zSl g (D + 3) mX9_book [xr 95, xi a] h1 (fun y h2 => x = y ∧ zInv h2)) := by
  refine zS_sh (fun hs => ?_)
  have z := pM_z I.1
  have hsz : h.2 20 3 = h.2 96 2 := ((I.2.2.1.1 1 (by decide)) (by decide)).1
  have R : pR h 20 21 30 3 := z_R hs rfl rfl rfl rfl rfl (by decide)
  obtain ⟨q, q1, q2, q3, q4, q5⟩ := fin_b I.1 I.2.2.1.2.2.2.2.1
  have q1 : h.2 36 3 = (q : Int) := q1
  -- the reference, where no claims are summed
  have go : ∀ {Q : Int → xH → Prop}, ¬ (a = 0 ∨ a = 1) → (∀ {w2 w3 w4 w5 : xV}, zJ g (D + 3) 219 0 0 108 [xr 95, xi a, w2, w3, w4, w5] [] h (x_ql2 Q)) → zSl g (D + 3) mX9_book [xr 95, xi a] h Q := by
    intro Q hno k
    have l97 : ∀ {b2 : Int} {w3 w4 w5 : xV}, zJ g (D + 3) 219 0 0 97 [xr 95, xi a, xl b2, w3, w4, w5] [] h (x_ql2 Q) := fun {_ _ _ _} => zX9_book_97 ⟨fun u => by omega, fun u => ⟨fun u2 => k, fun u2 => by omega⟩⟩
    exact eX9_book (zX9_book_0 (zX9_book_5 ⟨fun _ => l97, fun _ => s_in (fun v hv => ⟨fun u => l97, fun u => by omega⟩)⟩))
  refine eX8_book (zX8_book_0 ⟨fun e => zX8_book_9 ⟨fun u => absurd e u, fun _ => ?_⟩, fun e => ⟨fun e1 => zX8_book_23 ⟨fun e2 => zX8_book_34 ⟨fun e3 => zX8_book_57 ?_, fun e3 => ?_⟩, fun e2 => ?_⟩, fun e1 => zX8_book_9 ⟨fun _ => zX8_book_18 ?_, fun u => absurd u e⟩⟩⟩)
  · subst e
    exact eX8_sumOfClaims (zX8_sumOfClaims_0 (l_sc (w := 0) (Or.inl rfl) hs I (eX9_book (zX9_book_0 (l_rsc (w := 0) (Or.inl rfl) I.1 ⟨rfl, I⟩ (h.2 96 10).toNat 0 (by omega)))) (h.2 96 10).toNat 0 (by omega)))
  · refine go (by omega) (fun {_ _ _ _} => zX9_book_108 ⟨fun u => zX9_book_122 ?_, fun u => absurd u e2⟩)
    rw [x32_id (by omega) (by omega)]
    exact s_in (fun v hv => ⟨fun u2 => zX9_book_152 ⟨rfl, I⟩, fun u2 => by omega⟩)
  · have ex : x32 (a - 10) = a - 10 := x32_id (by omega) (by omega)
    rw [ex]
    have k61 := @zX8_book_61 g (D + 2) a h
    rw [ex] at k61
    clear ex
    refine s_has R.1 (fun x hx => ⟨fun u => k61 ?_, fun u => ?_⟩)
    · obtain ⟨p, hp⟩ : ∃ p : Nat, a = 10 + (p : Int) := ⟨(a - 10).toNat, by omega⟩
      subst hp
      rw [show 10 + (p : Int) - 10 = (p : Int) by omega]
      refine eX8_sumOfFines (zX8_sumOfFines_0 (l_sf hs q1 q2 q3 ?_ q 0 (by omega)))
      refine go (by omega) (fun {_ _ _ _} => zX9_book_108 ⟨fun u => zX9_book_122 ?_, fun u => absurd u e2⟩)
      rw [x32_id (by omega) (by omega)]
      refine s_in (fun v hv => ⟨fun u2 => by omega, fun u2 => ?_⟩)
      rw [x32_id (by omega) (by omega), show (10 + (p : Int) - 9).toNat = 1 + p by omega, q5 p (by omega)]
      exact ⟨by omega, rfl, I⟩
    · refine go (by omega) (fun {_ _ _ _} => zX9_book_108 ⟨fun u => zX9_book_122 ?_, fun u => absurd u e2⟩)
      rw [x32_id (by omega) (by omega)]
      exact s_in (fun v hv => ⟨fun u2 => zX9_book_152 ⟨rfl, I⟩, fun u2 => by omega⟩)
  · subst e2
    refine eX8_sumOfFines (zX8_sumOfFines_0 (l_sf hs q1 q2 q3 ?_ q 0 (by omega)))
    refine go (by omega) (fun {_ _ _ _} => zX9_book_108 ⟨fun u => absurd rfl u, fun _ => ⟨q4.symm, I⟩⟩)
  · subst e1
    exact eX8_sumOfClaims (zX8_sumOfClaims_0 (l_sc (w := 1) (Or.inr rfl) hs I (eX9_book (zX9_book_0 (l_rsc (w := 1) (Or.inr rfl) I.1 ⟨rfl, I⟩ (h.2 96 10).toNat 0 (by omega)))) (h.2 96 10).toNat 0 (by omega)))
