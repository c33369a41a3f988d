/-! THE WHOLE INVARIANT. pActB: an act's cells and the reference's text; pFinB: fines and coins. -/
def pActB (K : List (Nat × Nat)) (c0 c1 c2 c3 : Nat → Int) (r : Nat) (T : Nat → Int) : Prop := ∃ N : Nat, 16 ≤ r ∧ K[r - 16]? = some (0, 4) ∧ K[r + 1 - 16]? = some (5, 4) ∧ K[r + 2 - 16]? = some (10, 80) ∧ K[r + 3 - 16]? = some (10, N) ∧ c0 0 = ((r + 1 : Nat) : Int) ∧ c0 1 = ((r + 3 : Nat) : Int) ∧ c1 0 = 20 ∧ c1 1 = 4 ∧ c1 2 = ((r + 2 : Nat) : Int) ∧ c1 3 = T 0 ∧ tokT T ∧
  (∀ i : Nat, (i : Int) < T 0 → c2 (i * 4) = T (1 + 12 * i) - 1 ∧ (T (1 + 12 * i) = 1 ∨ 7 ≤ T (1 + 12 * i) → c2 (i * 4 + 1) = T (2 + 12 * i)) ∧ c2 (i * 4 + 2) = T (3 + 12 * i) ∧ c2 (i * 4 + 3) = T (4 + 12 * i)) ∧
  (∀ i : Nat, (i : Int) < T 0 → ∀ j : Nat, T (3 + 12 * i) ≤ (j : Int) → (j : Int) < T (4 + 12 * i) → j < N ∧ c3 j = cw (T (250 + 2 * j)) (T (251 + 2 * j))) ∧
  ∀ k : Nat, k < 10 → (x_and (x_shr (c0 2) k) 1 = 1 ↔ ∃ i : Nat, (i : Int) < T 0 ∧ T (1 + 12 * i) = (k : Int) + 1)
def pA1 (h : xH) (L : Nat) : Prop := ∀ i : Nat, i < 10 → h.2 (L + 25) i = 0 ∨ ∃ r : Nat, h.2 (L + 25) i = (r : Int) ∧ 111 ≤ r ∧ h.1[r - 16]? = some (0, 4)
def pActs (h : xH) (L : Nat) (A : Nat → Int) : Prop := (∀ i : Nat, (i : Int) < A 6 → ∃ r : Nat, h.2 (L + 25) i = (r : Int) ∧ 111 ≤ r ∧ pActB h.1 (h.2 r) (h.2 (r + 1)) (h.2 (r + 2)) (h.2 (r + 3)) r (fun k => if k < 900 then A (2000 + 900 * i + k) else 0)) ∧ pA1 h L
/-- a sum -/
def sg (f : Nat → Int) : Nat → Int
  | 0 => 0
  | n + 1 => sg f n + f n
/-- fines: as many as seals that were fined; the coins are the sums of the parts -/
def pFinB (c0 c1 : Nat → Int) (E : Nat → Int) (fl : Nat → Int) (n : Int) : Prop := ∃ m : Nat, c0 3 = (m : Int) ∧ (m : Int) = sg fl n.toNat ∧ (∀ j, j < m → ∀ c, c < 3 → 0 ≤ c1 (j * 6 + 3 + c) ∧ c1 (j * 6 + 3 + c) ≤ 1000000000) ∧ E 0 = sg (fun j => c1 (j * 6 + 3) + c1 (j * 6 + 4) + c1 (j * 6 + 5)) m ∧
  ∀ p : Nat, p < 30 → E (1 + p) = sg (fun j => (if c1 (j * 6) = (p : Int) then c1 (j * 6 + 3) else 0) + (if c1 (j * 6 + 1) = (p : Int) then c1 (j * 6 + 4) else 0) + (if c1 (j * 6 + 2) = (p : Int) then c1 (j * 6 + 5) else 0)) m
def pFin (h : xH) (L : Nat) (A E : Nat → Int) : Prop := pFinB (h.2 (L + 19)) (h.2 (L + 20)) E (fun i => if i < 80 then A (11134 + 6 * i) else 0) (A 8)
def pLk (C : Nat → Nat → Int) (L : Nat) (A : Nat → Int) : Prop := ∀ i : Nat, (i : Int) < A 9 → C (L + 16) (i * 2) = A (150 + 20 * (A (11130 + 6 * (A (11610 + 3 * i)).toNat)).toNat)
def pLt (C : Nat → Nat → Int) (L : Nat) (A : Nat → Int) : Prop := ∀ i : Nat, (i : Int) < A 12 → ∀ k : Nat, (k : Int) < A (12651 + 100 * i) → C (L + 24) (i * 83 + 3 + k) = A (12653 + 100 * i + k) ∧ C (L + 24) (i * 83 + 43 + k) = A (12693 + 100 * i + (A (12653 + 100 * i + k)).toNat)
def pSc (C : Nat → Nat → Int) (L : Nat) (A : Nat → Int) : Prop := C L 13 = A 6 ∧ C L 14 = A 0 ∧ C L 15 = A 14 ∧ C L 16 = A 15 ∧ C L 17 = A 16 ∧ C L 18 = A 17
def pC (h : xH) (L : Nat) (A E : Nat → Int) : Prop := (∀ t, t < 12 → cT h.2 L A t) ∧ pSc h.2 L A ∧ pLk h.2 L A ∧ pLt h.2 L A ∧ pFin h L A E ∧ pActs h L A
/-- tape, faults, no act beside -/
def pTp (h : xH) : Prop := h.2 43 4 = h.2 95 5 ∧ (0 ≤ h.2 43 4 ∧ h.2 43 4 ≤ 300) ∧ (∀ i : Nat, (i : Int) < h.2 43 4 → h.2 44 i = h.2 100 i ∧ 0 ≤ h.2 44 i ∧ h.2 44 i ≤ 255) ∧ h.2 74 3 = h.2 95 6 ∧ h.2 74 4 = h.2 95 7 ∧ (-1 ≤ h.2 74 3 ∧ h.2 74 3 ≤ 5) ∧ (-1 ≤ h.2 74 4 ∧ h.2 74 4 ≤ 300) ∧ h.2 75 3 = 0
def zInv (h : xH) : Prop := pM (h.2 96) ∧ pM (h.2 97) ∧ pC h 17 (h.2 96) (h.2 98) ∧ pC h 48 (h.2 97) (h.2 99) ∧ pTp h
theorem cT_congr {C C' : Nat → Nat → Int} {L t : Nat} {A : Nat → Int} (ht : t < 12) (hC : ∀ r, L ≤ r → r ≤ L + 25 → C' r = C r) (hc : cT C L A t) : cT C' L A t := by
  intro h9
  obtain ⟨c1, c2⟩ := hc h9
  refine ⟨by rw [hC _ (by omega) (by omega)]; exact c1, fun i hi p hp => ?_⟩
  rw [hC _ (by omega) (by omega)]
  exact c2 i hi p hp
theorem pActs_frame {h h' : xH} {L : Nat} {A A' : Nat → Int} (h1 : h'.1 = h.1) (hL : ∀ j, h'.2 (L + 25) j = h.2 (L + 25) j) (hC : ∀ r, 111 ≤ r → h'.2 r = h.2 r) (hA : ∀ k, 2000 ≤ k → k < 11000 → A' k = A k) (h6 : A' 6 = A 6) (hm : A 6 ≤ 10) (hp : pActs h L A) : pActs h' L A' := by
  refine ⟨fun i hi => ?_, fun i hi => by rw [hL, h1]; exact hp.2 i hi⟩
  rw [h6] at hi
  obtain ⟨r, e1, e2, e3⟩ := hp.1 i hi
  refine ⟨r, by rw [hL]; exact e1, e2, ?_⟩
  rw [h1, hC r e2, hC (r + 1) (by omega), hC (r + 2) (by omega), hC (r + 3) (by omega)]
  have e4 : (fun k => if k < 900 then A' (2000 + 900 * i + k) else 0) = (fun k => if k < 900 then A (2000 + 900 * i + k) else 0) := by
    funext k
    by_cases hk : k < 900
    · rw [if_pos hk, if_pos hk, hA _ (by omega) (by omega)]
    · rw [if_neg hk, if_neg hk]
  rw [e4]
  exact e3
theorem pC_congr {h h' : xH} {L : Nat} {A E : Nat → Int} (h1 : h'.1 = h.1) (hC : ∀ r, (L ≤ r ∧ r ≤ L + 25) ∨ 111 ≤ r → h'.2 r = h.2 r) (hm : A 6 ≤ 10) (hp : pC h L A E) : pC h' L A E := by
  obtain ⟨p1, p2, p3, p4, p5, p6⟩ := hp
  refine ⟨fun t ht => cT_congr ht (fun r a b => hC r (Or.inl ⟨a, b⟩)) (p1 t ht), ?_, ?_, ?_, ?_, pActs_frame h1 (fun j => by rw [hC _ (Or.inl ⟨by omega, by omega⟩)]) (fun r hr => hC r (Or.inr hr)) (fun _ _ _ => rfl) rfl hm p6⟩
  · unfold pSc
    rw [hC L (Or.inl ⟨by omega, by omega⟩)]
    exact p2
  · unfold pLk
    rw [hC (L + 16) (Or.inl ⟨by omega, by omega⟩)]
    exact p3
  · unfold pLt
    rw [hC (L + 24) (Or.inl ⟨by omega, by omega⟩)]
    exact p4
  · unfold pFin
    rw [hC (L + 19) (Or.inl ⟨by omega, by omega⟩), hC (L + 20) (Or.inl ⟨by omega, by omega⟩)]
    exact p5
/-- a table of its own changes on both sides: towns, persons, webs, measures, forces, claims, trades -/
theorem pC_upd {h h' : xH} {t0 : Nat} {A A' E : Nat → Int} (hp : pC h 17 A E) (hm : pM A) (ht0 : t0 = 0 ∨ t0 = 1 ∨ t0 = 3 ∨ t0 = 4 ∨ t0 = 5 ∨ t0 = 8 ∨ t0 = 10) (h1 : h'.1 = h.1) (hC : ∀ r, r ≠ 18 + 2 * t0 → r ≠ 19 + 2 * t0 → r ≠ 96 → h'.2 r = h.2 r)
    (hA : ∀ k, k ≠ t_z t0 → ¬ (t_b t0 ≤ k ∧ k < t_b t0 + t_s t0 * t_m t0) → A' k = A k) (hk : cT h'.2 17 A' t0) : pC h' 17 A' E := by
  obtain ⟨p1, p2, p3, p4, p5, p6⟩ := hp
  obtain ⟨⟨s0, s6, -, -, -, -, sz⟩, -, rk⟩ := hm
  have hlt : t0 < 12 := by omega
  have h9 : t0 ≠ 9 := by omega
  -- what lies outside the table
  have out : ∀ k, (k = 0 ∨ k = 6 ∨ k = 8 ∨ k = 9 ∨ k = 12 ∨ k = 14 ∨ k = 15 ∨ k = 16 ∨ k = 17 ∨ (150 ≤ k ∧ k < 350) ∨ (2000 ≤ k ∧ k < 11000) ∨ (11130 ≤ k ∧ k < 12210) ∨ (12650 ≤ k ∧ k < 13650)) → A' k = A k := by
    intro k hk
    apply hA
    · rcases ht0 with e | e | e | e | e | e | e <;> subst e <;> simp [t_z] <;> omega
    · rcases ht0 with e | e | e | e | e | e | e <;> subst e <;> simp [t_b, t_s, t_m] <;> omega
  have z8 := sz 6 (by decide) (by decide)
  have z9 := sz 7 (by decide) (by decide)
  have z12 := sz 11 (by decide) (by decide)
  have z3 := sz 2 (by decide) (by decide)
  have z8 : 0 ≤ A 8 ∧ A 8 ≤ 80 := z8
  have z9 : 0 ≤ A 9 ∧ A 9 ≤ 200 := z9
  have z12 : 0 ≤ A 12 ∧ A 12 ≤ 10 := z12
  have z3 : 0 ≤ A 3 ∧ A 3 ≤ 10 := z3
  refine ⟨cT_all p1 hlt (fun t ht h9 => (sz t ht h9).2) (fun t ht hne => ⟨by rw [hC (17 + 1 + 2 * t) (by omega) (by omega) (by omega)], fun j => by rw [hC (17 + 2 + 2 * t) (by omega) (by omega) (by omega)]⟩) hA h9 hk, ?_, ?_, ?_, ?_, pActs_frame h1 (fun j => by rw [hC 42 (by omega) (by omega) (by omega)]) (fun r hr => hC r (by omega) (by omega) (by omega)) (fun k k1 k2 => out k (by omega)) (out 6 (by omega)) s6.2 p6⟩
  · obtain ⟨q1, q2, q3, q4, q5, q6⟩ := p2
    unfold pSc
    rw [hC 17 (by omega) (by omega) (by omega), out 6 (by omega), out 0 (by omega), out 14 (by omega), out 15 (by omega), out 16 (by omega), out 17 (by omega)]
    exact ⟨q1, q2, q3, q4, q5, q6⟩
  · intro i hi
    rw [out 9 (by omega)] at hi
    have r7 : (0 ≤ A (11610 + 3 * i) ∧ A (11610 + 3 * i) < A 8) ∧ 0 ≤ A (11611 + 3 * i) ∧ A (11611 + 3 * i) ≤ 1 := rk 7 (by decide) (by decide) i hi
    have e1 : A' (11610 + 3 * i) = A (11610 + 3 * i) := out _ (by omega)
    have r6 := rk 6 (by decide) (by decide) (A (11610 + 3 * i)).toNat (show (((A (11610 + 3 * i)).toNat : Nat) : Int) < A 8 by omega)
    have r6 : (0 ≤ A (11130 + 6 * (A (11610 + 3 * i)).toNat) ∧ A (11130 + 6 * (A (11610 + 3 * i)).toNat) < A 3) ∧ _ := r6
    have e2 : A' (11130 + 6 * (A (11610 + 3 * i)).toNat) = A (11130 + 6 * (A (11610 + 3 * i)).toNat) := out _ (by omega)
    rw [hC (17 + 16) (by omega) (by omega) (by omega), e1, e2, out (150 + 20 * (A (11130 + 6 * (A (11610 + 3 * i)).toNat)).toNat) (by omega)]
    exact p3 i hi
  · intro i hi k hk2
    rw [out 12 (by omega)] at hi
    rw [out (12651 + 100 * i) (by omega)] at hk2
    have r11 := rk 11 (by decide) (by decide) i hi
    obtain ⟨r1, r2, r3, r4, r5, -⟩ := r11
    have hk3 : k < 40 := by omega
    have r6 := r4 k hk2
    rw [hC (17 + 24) (by omega) (by omega) (by omega), out (12653 + 100 * i + k) (by omega), out (12693 + 100 * i + (A (12653 + 100 * i + k)).toNat) (by omega)]
    exact p4 i hi k hk2
  · unfold pFin
    rw [hC (17 + 19) (by omega) (by omega) (by omega), hC (17 + 20) (by omega) (by omega) (by omega), out 8 (by omega)]
    have e4 : (fun i => if i < 80 then A' (11134 + 6 * i) else 0) = (fun i => if i < 80 then A (11134 + 6 * i) else 0) := by
      funext k
      by_cases hk : k < 80
      · rw [if_pos hk, if_pos hk, out _ (by omega)]
      · rw [if_neg hk, if_neg hk]
    rw [e4]
    exact p5
