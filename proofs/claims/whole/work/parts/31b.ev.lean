/-! ACTS: a step of the code on both sides (the reference's o and v, the class's word), how deep it piles, what it makes -/
def cw (o v : Int) : Int := if o = 0 then v else if o = 1 then 10000 + ([10, 11, 12, 13, 14, 0, 15] : List Int).getD v.toNat 0 else 10000 + ([0, 0, 38, 25, 26, 27, 28, 19, 20, 0, 21, 33, 22, 34, 23, 24, 0, 0, 0, 0, 18, 16, 17] : List Int).getD o.toNat 0
def cok (o v : Int) : Prop := (o = 0 ∧ 0 ≤ v ∧ v ≤ 9999) ∨ (o = 1 ∧ 0 ≤ v ∧ v ≤ 6) ∨ (2 ≤ o ∧ o ≤ 8) ∨ (10 ≤ o ∧ o ≤ 15) ∨ (20 ≤ o ∧ o ≤ 22)
/-- truths and sums that lie on the pile -/
def dStep (o : Int) (s : Nat × Nat) : Option (Nat × Nat) :=
  if o ≤ 1 then (if s.1 + s.2 < 60 then some (s.1, s.2 + 1) else none)
  else if o = 2 then (if 1 ≤ s.2 then some (s.1, s.2) else none)
  else if o < 10 then (if 2 ≤ s.2 then some (s.1, s.2 - 1) else none)
  else if o < 20 then (if s.2 = 2 then some (s.1 + 1, 0) else none)
  else if o = 20 then (if s.2 = 0 ∧ 1 ≤ s.1 then some (s.1, 0) else none)
  else (if s.2 = 0 ∧ 2 ≤ s.1 then some (s.1 - 1, 0) else none)
def dRun (c : Nat → Int) (s : Nat) : Nat → Option (Nat × Nat)
  | 0 => some (0, 0)
  | n + 1 => (dRun c s n).bind (dStep (c (s + n)))
theorem dStep_c {o : Int} {t v t' v' : Nat} (h : dStep o (t, v) = some (t', v')) : (o ≤ 1 ∧ t + v < 60 ∧ t' = t ∧ v' = v + 1) ∨ (o = 2 ∧ 1 ≤ v ∧ t' = t ∧ v' = v) ∨ (2 < o ∧ o < 10 ∧ 2 ≤ v ∧ t' = t ∧ v' = v - 1) ∨ (10 ≤ o ∧ o < 20 ∧ v = 2 ∧ t' = t + 1 ∧ v' = 0) ∨ (o = 20 ∧ v = 0 ∧ 1 ≤ t ∧ t' = t ∧ v' = 0) ∨ (20 < o ∧ v = 0 ∧ 2 ≤ t ∧ t' = t - 1 ∧ v' = 0) := by
  unfold dStep at h
  dsimp only at h
  repeat' split at h
  all_goals first
    | (injection h with h; injection h with h1 h2; omega)
    | cases h
def M9 : Int := 1000000000
def clip (v : Int) : Int := max (-1000000000) (min 1000000000 v)
def two (o x y : Int) : Int := if o = 3 then clip (x + y) else if o = 4 then clip (x - y) else if o = 5 then clip (x * y) else if o = 6 then (if y = 0 then 0 else clip (x.tdiv y)) else if o = 7 then min x y else max x y
def askd (o x y : Int) : Int := if o = 10 then (if x < y then 1 else 0) else if o = 11 then (if x ≤ y then 1 else 0) else if o = 12 then (if y < x then 1 else 0) else if o = 13 then (if y ≤ x then 1 else 0) else if o = 14 then (if x = y then 1 else 0) else (if x = y then 0 else 1)
def tk (o : Int) : Nat := if o ≤ 1 then 0 else if o = 2 ∨ o = 20 then 1 else 2
def eVal (o v : Int) (nm : Nat → Int) (x y : Int) : Int := if o = 0 then v else if o = 1 then nm v.toNat else if o = 2 then -x else if o < 10 then two o x y else if o < 20 then askd o x y else if o = 20 then 1 - x else if o = 21 then min x y else max x y
def e_up (f : Nat → Int) (j : Nat) (x : Int) : Nat → Int := fun k => if k = j then x else f k
/-- the pile behind n steps from s on, with its height -/
def eRun (c w : Nat → Int) (nm : Nat → Int) (s : Nat) : Nat → Nat × (Nat → Int)
  | 0 => (0, fun _ => 0)
  | n + 1 => ((eRun c w nm s n).1 - tk (c (s + n)) + 1, e_up (eRun c w nm s n).2 ((eRun c w nm s n).1 - tk (c (s + n))) (eVal (c (s + n)) (w (s + n)) nm ((eRun c w nm s n).2 ((eRun c w nm s n).1 - tk (c (s + n)))) ((eRun c w nm s n).2 ((eRun c w nm s n).1 - tk (c (s + n)) + 1))))
theorem clip_b (x : Int) : -1000000000 ≤ clip x ∧ clip x ≤ 1000000000 := by unfold clip; omega
theorem clip_id {x : Int} (h1 : -1000000000 ≤ x) (h2 : x ≤ 1000000000) : clip x = x := by unfold clip; omega
theorem two_b {o x y : Int} (hx : -1000000000 ≤ x ∧ x ≤ 1000000000) (hy : -1000000000 ≤ y ∧ y ≤ 1000000000) : -1000000000 ≤ two o x y ∧ two o x y ≤ 1000000000 := by
  unfold two
  have := clip_b (x + y)
  have := clip_b (x - y)
  have := clip_b (x * y)
  have := clip_b (x.tdiv y)
  repeat' split
  all_goals first | assumption | omega
theorem askd_b (o x y : Int) : askd o x y = 0 ∨ askd o x y = 1 := by
  unfold askd
  repeat' split
  all_goals first | exact Or.inl rfl | exact Or.inr rfl
def nm_ok (nm : Nat → Int) : Prop := ∀ i, i < 7 → -1000000000 ≤ nm i ∧ nm i ≤ 1000000000
theorem e_ok {c w nm : Nat → Int} {s : Nat} (hn : nm_ok nm) : ∀ {n t v : Nat}, dRun c s n = some (t, v) → (∀ j, j < n → cok (c (s + j)) (w (s + j))) → (eRun c w nm s n).1 = t + v ∧ t + v ≤ 60 ∧ (∀ j, j < t → (eRun c w nm s n).2 j = 0 ∨ (eRun c w nm s n).2 j = 1) ∧ ∀ j, j < v → -1000000000 ≤ (eRun c w nm s n).2 (t + j) ∧ (eRun c w nm s n).2 (t + j) ≤ 1000000000
  | 0, t, v, h, _ => by
    injection h with h; injection h with h1 h2
    subst h1; subst h2
    exact ⟨rfl, by omega, fun j hj => by omega, fun j hj => by omega⟩
  | n + 1, t', v', h, hc => by
    have hc0 := hc n (by omega)
    cases hd : dRun c s n with
    | none => unfold dRun at h; rw [hd] at h; cases h
    | some p =>
      obtain ⟨t, v⟩ := p
      unfold dRun at h; rw [hd] at h
      have h := dStep_c (show dStep (c (s + n)) (t, v) = some (t', v') from h)
      obtain ⟨i1, i2, i3, i4⟩ := e_ok hn hd (fun j hj => hc j (by omega))
      rw [show (eRun c w nm s (n + 1)) = ((eRun c w nm s n).1 - tk (c (s + n)) + 1, e_up (eRun c w nm s n).2 ((eRun c w nm s n).1 - tk (c (s + n))) (eVal (c (s + n)) (w (s + n)) nm ((eRun c w nm s n).2 ((eRun c w nm s n).1 - tk (c (s + n)))) ((eRun c w nm s n).2 ((eRun c w nm s n).1 - tk (c (s + n)) + 1)))) from rfl]
      rw [i1]
      generalize (eRun c w nm s n).2 = S at i3 i4
      generalize c (s + n) = o at h hc0
      generalize w (s + n) = x at hc0
      clear hc hd
      rcases h with ⟨h1, h2, h3, h4⟩ | ⟨h1, h2, h3, h4⟩ | ⟨h1, h2, h3, h4, h5⟩ | ⟨h1, h2, h3, h4, h5⟩ | ⟨h1, h2, h3, h4, h5⟩ | ⟨h1, h2, h3, h4, h5⟩
      · have ht : tk o = 0 := by unfold tk; rw [if_pos h1]
        have hv : -1000000000 ≤ eVal o x nm (S (t + v - 0)) (S (t + v - 0 + 1)) ∧ eVal o x nm (S (t + v - 0)) (S (t + v - 0 + 1)) ≤ 1000000000 := by
          unfold eVal
          rcases hc0 with z | z | z | z | z
          · rw [if_pos z.1]; omega
          · rw [if_neg (by omega), if_pos z.1]
            exact hn x.toNat (by omega)
          all_goals omega
        rw [ht]
        refine ⟨by dsimp only; omega, by omega, fun j hj => ?_, fun j hj => ?_⟩ <;> dsimp only [e_up]
        · rw [if_neg (by omega)]; exact i3 j (by omega)
        · by_cases e : t' + j = t + v - 0
          · rw [if_pos e]; exact hv
          · rw [if_neg e, h3]; exact i4 j (by omega)
      · have ht : tk o = 1 := by unfold tk; rw [if_neg (by omega), if_pos (Or.inl h1)]
        have hv : eVal o x nm (S (t + v - 1)) (S (t + v - 1 + 1)) = -(S (t + v - 1)) := by
          unfold eVal; rw [if_neg (by omega), if_neg (by omega), if_pos h1]
        rw [ht, hv]
        refine ⟨by dsimp only; omega, by omega, fun j hj => ?_, fun j hj => ?_⟩ <;> dsimp only [e_up]
        · rw [if_neg (by omega)]; exact i3 j (by omega)
        · by_cases e : t' + j = t + v - 1
          · rw [if_pos e]
            have := i4 (v - 1) (by omega)
            rw [show t + (v - 1) = t + v - 1 by omega] at this
            omega
          · rw [if_neg e, h3]; exact i4 j (by omega)
      · have ht : tk o = 2 := by unfold tk; rw [if_neg (by omega), if_neg (by omega)]
        have hv : eVal o x nm (S (t + v - 2)) (S (t + v - 2 + 1)) = two o (S (t + v - 2)) (S (t + v - 2 + 1)) := by
          unfold eVal; rw [if_neg (by omega), if_neg (by omega), if_neg (by omega), if_pos h2]
        have b1 := i4 (v - 2) (by omega)
        have b2 := i4 (v - 1) (by omega)
        rw [show t + (v - 2) = t + v - 2 by omega] at b1
        rw [show t + (v - 1) = t + v - 2 + 1 by omega] at b2
        have b3 := two_b (o := o) b1 b2
        rw [ht, hv]
        refine ⟨by dsimp only; omega, by omega, fun j hj => ?_, fun j hj => ?_⟩ <;> dsimp only [e_up]
        · rw [if_neg (by omega)]; exact i3 j (by omega)
        · by_cases e : t' + j = t + v - 2
          · rw [if_pos e]; exact b3
          · rw [if_neg e, h4]; exact i4 j (by omega)
      · have ht : tk o = 2 := by unfold tk; rw [if_neg (by omega), if_neg (by omega)]
        have hv : eVal o x nm (S (t + v - 2)) (S (t + v - 2 + 1)) = askd o (S (t + v - 2)) (S (t + v - 2 + 1)) := by
          unfold eVal; rw [if_neg (by omega), if_neg (by omega), if_neg (by omega), if_neg (by omega), if_pos h2]
        have b3 := askd_b o (S (t + v - 2)) (S (t + v - 2 + 1))
        rw [ht, hv]
        refine ⟨by dsimp only; omega, by omega, fun j hj => ?_, fun j hj => by omega⟩ <;> dsimp only [e_up]
        by_cases e : j = t + v - 2
        · rw [if_pos e]; exact b3
        · rw [if_neg e]; exact i3 j (by omega)
      · have ht : tk o = 1 := by unfold tk; rw [if_neg (by omega), if_pos (Or.inr h1)]
        have hv : eVal o x nm (S (t + v - 1)) (S (t + v - 1 + 1)) = 1 - (S (t + v - 1)) := by
          unfold eVal; rw [if_neg (by omega), if_neg (by omega), if_neg (by omega), if_neg (by omega), if_neg (by omega), if_pos h1]
        have b3 := i3 (t + v - 1) (by omega)
        rw [ht, hv]
        refine ⟨by dsimp only; omega, by omega, fun j hj => ?_, fun j hj => by omega⟩ <;> dsimp only [e_up]
        by_cases e : j = t + v - 1
        · rw [if_pos e]; omega
        · rw [if_neg e]; exact i3 j (by omega)
      · have ht : tk o = 2 := by unfold tk; rw [if_neg (by omega), if_neg (by omega)]
        have hv : eVal o x nm (S (t + v - 2)) (S (t + v - 2 + 1)) = 0 ∨ eVal o x nm (S (t + v - 2)) (S (t + v - 2 + 1)) = 1 := by
          have b1 := i3 (t + v - 2) (by omega)
          have b2 := i3 (t + v - 2 + 1) (by omega)
          unfold eVal; rw [if_neg (by omega), if_neg (by omega), if_neg (by omega), if_neg (by omega), if_neg (by omega), if_neg (by omega)]
          split <;> omega
        rw [ht]
        refine ⟨by dsimp only; omega, by omega, fun j hj => ?_, fun j hj => by omega⟩ <;> dsimp only [e_up]
        by_cases e : j = t + v - 2
        · rw [if_pos e]; exact hv
        · rw [if_neg e]; exact i3 j (by omega)
/-- the first for which p is so, from i on, m at most; -1 without -/
def ff (p : Nat → Bool) : Nat → Nat → Int
  | 0, _ => -1
  | m + 1, i => if p i = true then (i : Int) else ff p m (i + 1)
theorem ff_c (p : Nat → Bool) : ∀ (m i : Nat), (ff p m i = -1 ∧ ∀ j, i ≤ j → j < i + m → p j = false) ∨ (∃ j : Nat, ff p m i = (j : Int) ∧ i ≤ j ∧ j < i + m ∧ p j = true)
  | 0, i => Or.inl ⟨rfl, fun j h1 h2 => by omega⟩
  | m + 1, i => by
    unfold ff
    by_cases h : p i = true
    · rw [if_pos h]; exact Or.inr ⟨i, rfl, by omega, by omega, h⟩
    · rw [if_neg h]
      rcases ff_c p m (i + 1) with ⟨h1, h2⟩ | ⟨j, h1, h2, h3, h4⟩
      · refine Or.inl ⟨h1, fun j a b => ?_⟩
        by_cases e : j = i
        · subst e; cases hp : p j with
          | true => exact absurd hp h
          | false => rfl
        · exact h2 j (by omega) (by omega)
      · exact Or.inr ⟨j, h1, by omega, by omega, h4⟩
theorem ff_congr {p q : Nat → Bool} : ∀ (m i : Nat), (∀ j, i ≤ j → j < i + m → p j = q j) → ff p m i = ff q m i
  | 0, _, _ => rfl
  | m + 1, i, h => by
    unfold ff
    rw [h i (by omega) (by omega), ff_congr m (i + 1) (fun j a b => h j (by omega) (by omega))]
/-- a text of the reference -/
def tx (A : Nat → Int) (t : Nat) : Nat → Int := fun k => if k < 900 then A (2000 + 900 * t + k) else 0
theorem tx_at {A : Nat → Int} {t k : Nat} (h : k < 900) : tx A t k = A (2000 + 900 * t + k) := by unfold tx; rw [if_pos h]
/-- what a text must be -/
def tokT (T : Nat → Int) : Prop := (0 ≤ T 0 ∧ T 0 ≤ 20) ∧ ∀ i : Nat, (i : Int) < T 0 → (1 ≤ T (1 + 12 * i) ∧ T (1 + 12 * i) ≤ 10) ∧
  ((T (1 + 12 * i) = 1 → 0 ≤ T (2 + 12 * i) ∧ T (2 + 12 * i) ≤ 9) ∧ (T (1 + 12 * i) = 7 → 0 ≤ T (2 + 12 * i) ∧ T (2 + 12 * i) ≤ 20) ∧ (T (1 + 12 * i) = 8 → 1 ≤ T (2 + 12 * i) ∧ T (2 + 12 * i) ≤ 99) ∧ (T (1 + 12 * i) = 9 → 1 ≤ T (2 + 12 * i) ∧ T (2 + 12 * i) ≤ 500) ∧ (T (1 + 12 * i) = 10 → 0 ≤ T (2 + 12 * i) ∧ T (2 + 12 * i) ≤ 100)) ∧
  (0 ≤ T (3 + 12 * i) ∧ T (3 + 12 * i) ≤ T (4 + 12 * i) ∧ T (4 + 12 * i) ≤ 300) ∧ (∀ j : Nat, T (3 + 12 * i) ≤ (j : Int) → (j : Int) < T (4 + 12 * i) → cok (T (250 + 2 * j)) (T (251 + 2 * j))) ∧
  (T (1 + 12 * i) ≤ 3 → dRun (fun j => T (250 + 2 * j)) (T (3 + 12 * i)).toNat (T (4 + 12 * i) - T (3 + 12 * i)).toNat = some (1, 0)) ∧
  (4 ≤ T (1 + 12 * i) → T (1 + 12 * i) ≤ 6 → dRun (fun j => T (250 + 2 * j)) (T (3 + 12 * i)).toNat (T (4 + 12 * i) - T (3 + 12 * i)).toNat = some (0, 1))
/-- the first clause of kind k (0 to 9) -/
def fO (T : Nat → Int) (k : Int) : Int := ff (fun i => decide (T (1 + 12 * i) = k + 1)) (T 0).toNat 0
/-- what clause i comes to -/
def vC (T : Nat → Int) (nm : Nat → Int) (i : Nat) : Int := (eRun (fun j => T (250 + 2 * j)) (fun j => T (251 + 2 * j)) nm (T (3 + 12 * i)).toNat (T (4 + 12 * i) - T (3 + 12 * i)).toNat).2 0
/-- the first clause of kind k that is so (so = true), or isn't -/
def fC (T : Nat → Int) (nm : Nat → Int) (k : Int) (so : Bool) : Int := ff (fun i => decide (T (1 + 12 * i) = k + 1) && ((!decide (vC T nm i = 0)) == so)) (T 0).toNat 0
/-- the act for kind k on a day, of n forces -/
def aF (A : Nat → Int) (k day : Int) : Nat → Int
  | 0 => -1
  | n + 1 => if A (11001 + 4 * n) ≤ day ∧ day ≤ A (11002 + 4 * n) ∧ 0 ≤ fO (tx A (A (11000 + 4 * n)).toNat) k then A (11000 + 4 * n) else aF A k day n
/-- with an act beside (-1: none) -/
def aB (A : Nat → Int) (bs k day : Int) : Int := if 0 ≤ bs ∧ 0 ≤ fO (tx A bs.toNat) k then bs else aF A k day (A 7).toNat
