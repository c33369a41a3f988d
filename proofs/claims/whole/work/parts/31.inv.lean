/-! THE COUPLING of the class's tables with the reference's array. Tables: 0 towns, 1 persons, 2 dies, 3 webs, 4 measures, 5 forces, 6 seals, 7 looks, 8 claims, 9 fines, 10 trades, 11 lots. Rows' object of table t in the ledger L: L + 1 + 2t, its numbers: L + 2 + 2t. -/
def t_b (t : Nat) : Nat := [20, 30, 150, 350, 400, 11000, 11130, 11610, 12210, 0, 12530, 12650].getD t 0
def t_s (t : Nat) : Nat := [1, 4, 20, 1, 8, 4, 6, 3, 4, 0, 3, 100].getD t 0
def t_w (t : Nat) : Nat := [1, 3, 17, 1, 7, 3, 5, 2, 4, 6, 3, 83].getD t 0
def t_m (t : Nat) : Nat := [6, 30, 10, 50, 200, 30, 80, 200, 80, 80, 40, 10].getD t 0
def t_z (t : Nat) : Nat := [1, 2, 3, 4, 5, 7, 8, 9, 10, 13, 11, 12].getD t 0
/-- columns that stand for each other: the class's, the reference's -/
def t_p (t : Nat) : List (Nat × Nat) := [[(0, 0)], [(0, 0), (1, 1), (2, 2)], [(0, 0), (1, 1), (2, 2), (3, 3), (4, 4), (5, 5), (6, 6), (7, 7), (8, 8), (9, 9), (10, 10), (11, 11), (12, 12), (13, 13), (14, 14), (15, 15), (16, 16)], [(0, 0)], [(0, 0), (1, 1), (2, 6), (3, 2), (4, 3), (5, 4), (6, 5)], [(0, 0), (1, 1), (2, 2)], [(0, 0), (1, 1), (2, 2), (3, 3), (4, 4)], [(1, 1)], [(0, 0), (1, 1), (2, 2), (3, 3)], [], [(0, 0), (1, 1), (2, 2)], [(0, 0), (1, 1), (2, 2)]].getD t []
def cT (C : Nat → Nat → Int) (L : Nat) (A : Nat → Int) (t : Nat) : Prop := t ≠ 9 → C (L + 1 + 2 * t) 3 = A (t_z t) ∧ ∀ i : Nat, (i : Int) < A (t_z t) → ∀ p ∈ t_p t, C (L + 2 + 2 * t) (i * t_w t + p.1) = A (t_b t + t_s t * i + p.2)
theorem t_pc : ∀ t, t < 12 → ∀ p ∈ t_p t, p.1 < t_w t ∧ p.2 < t_s t := by decide +kernel
def t_djb (t t0 : Nat) : Bool := decide (t = t0) || ((decide (t_b t + t_s t * t_m t ≤ t_b t0) || (decide (t_b t0 + t_s t0 * t_m t0 ≤ t_b t) || (decide (t = 9) || decide (t0 = 9)))) && (decide (t_z t ≠ t_z t0) && (decide (t_z t < 20) && (decide (20 ≤ t_b t0) || decide (t0 = 9)))))
theorem t_dj0 : ∀ t, t < 12 → ∀ t0, t0 < 12 → t_djb t t0 = true := by decide +kernel
theorem t_dj (t : Nat) (ht : t < 12) (t0 : Nat) (ht0 : t0 < 12) (hne : t ≠ t0) : (t_b t + t_s t * t_m t ≤ t_b t0 ∨ t_b t0 + t_s t0 * t_m t0 ≤ t_b t ∨ t = 9 ∨ t0 = 9) ∧ t_z t ≠ t_z t0 ∧ t_z t < 20 ∧ (20 ≤ t_b t0 ∨ t0 = 9) := by
  have h := t_dj0 t ht t0 ht0
  unfold t_djb at h
  simp only [Bool.or_eq_true, Bool.and_eq_true, decide_eq_true_eq] at h
  rcases h with z | z
  · exact absurd z hne
  · exact z
theorem cT_frame {C C' : Nat → Nat → Int} {L t : Nat} {A A' : Nat → Int} (hc : cT C L A t) (ht : t < 12) (h1 : C' (L + 1 + 2 * t) 3 = C (L + 1 + 2 * t) 3) (h2 : ∀ j, C' (L + 2 + 2 * t) j = C (L + 2 + 2 * t) j) (h3 : ∀ k, t_b t ≤ k → k < t_b t + t_s t * t_m t → A' k = A k) (h4 : A' (t_z t) = A (t_z t)) (h5 : A (t_z t) ≤ (t_m t : Int)) : cT C' L A' t := by
  intro h9
  obtain ⟨c1, c2⟩ := hc h9
  refine ⟨by rw [h1, h4]; exact c1, fun i hi p hp => ?_⟩
  rw [h4] at hi
  rw [h2, c2 i hi p hp]
  have hi2 : i < t_m t := by omega
  have hp2 := (t_pc t ht p hp).2
  have hm : t_s t * i + t_s t ≤ t_s t * t_m t := by
    have := Nat.mul_le_mul_left (t_s t) (show i + 1 ≤ t_m t by omega)
    rw [Nat.mul_add, Nat.mul_one] at this
    exact this
  exact (h3 _ (by omega) (by omega)).symm
/-- a row more, on both sides -/
theorem cT_add {C C' : Nat → Nat → Int} {L t n : Nat} {A A' : Nat → Int} (hc : cT C L A t) (ht : t < 12) (h9 : t ≠ 9) (hn : A (t_z t) = (n : Int)) (h1 : C' (L + 1 + 2 * t) 3 = (n : Int) + 1) (h2 : A' (t_z t) = (n : Int) + 1)
    (h3 : ∀ j, j < n * t_w t → C' (L + 2 + 2 * t) j = C (L + 2 + 2 * t) j) (h4 : ∀ k, t_b t ≤ k → k < t_b t + t_s t * n → A' k = A k) (h5 : ∀ p ∈ t_p t, C' (L + 2 + 2 * t) (n * t_w t + p.1) = A' (t_b t + t_s t * n + p.2)) : cT C' L A' t := by
  intro _
  obtain ⟨c1, c2⟩ := hc h9
  refine ⟨by rw [h1, h2], fun i hi p hp => ?_⟩
  rw [h2] at hi
  by_cases e : i = n
  · subst e; exact h5 p hp
  · have hin : i < n := by omega
    have hpc := t_pc t ht p hp
    have hm1 : i * t_w t + t_w t ≤ n * t_w t := by
      have := Nat.mul_le_mul_right (t_w t) (show i + 1 ≤ n by omega)
      rw [Nat.add_mul, Nat.one_mul] at this
      exact this
    have hm2 : t_s t * i + t_s t ≤ t_s t * n := by
      have := Nat.mul_le_mul_left (t_s t) (show i + 1 ≤ n by omega)
      rw [Nat.mul_add, Nat.mul_one] at this
      exact this
    rw [h3 _ (by omega), c2 i (by rw [hn]; omega) p hp]
    exact (h4 _ (by omega) (by omega)).symm
/-- all tables but one stay -/
theorem cT_all {C C' : Nat → Nat → Int} {L t0 : Nat} {A A' : Nat → Int} (hc : ∀ t, t < 12 → cT C L A t) (ht0 : t0 < 12) (hm : ∀ t, t < 12 → t ≠ 9 → A (t_z t) ≤ (t_m t : Int)) (h1 : ∀ t, t < 12 → t ≠ t0 → C' (L + 1 + 2 * t) 3 = C (L + 1 + 2 * t) 3 ∧ ∀ j, C' (L + 2 + 2 * t) j = C (L + 2 + 2 * t) j)
    (h2 : ∀ k, k ≠ t_z t0 → ¬ (t_b t0 ≤ k ∧ k < t_b t0 + t_s t0 * t_m t0) → A' k = A k) (h9 : t0 ≠ 9) (hk : cT C' L A' t0) : ∀ t, t < 12 → cT C' L A' t := by
  intro t ht
  by_cases e : t = t0
  · subst e; exact hk
  · intro h9t
    obtain ⟨d1, d2, d3, d4⟩ := t_dj t ht t0 ht0 e
    obtain ⟨e1, e2, e3, e4⟩ := t_dj t0 ht0 t ht (fun z => e z.symm)
    refine cT_frame (hc t ht) ht (h1 t ht e).1 (h1 t ht e).2 (fun k k1 k2 => h2 k ?_ ?_) (h2 _ d2 ?_) (hm t ht h9t) h9t
    · rcases e4 with z | z
      · omega
      · exact absurd z h9t
    · rcases d1 with z | z | z | z
      · omega
      · omega
      · exact absurd z h9t
      · exact absurd z h9
    · rcases d4 with z | z
      · omega
      · exact absurd z h9
/-- the rows of the reference's tables are what they must be -/
def rok (A : Nat → Int) (t i : Nat) : Prop := match t with
  | 0 => 80 ≤ A (20 + i) ∧ A (20 + i) ≤ 120
  | 1 => (0 ≤ A (30 + 4 * i) ∧ A (30 + 4 * i) < A 1) ∧ (0 ≤ A (31 + 4 * i) ∧ A (31 + 4 * i) ≤ 9) ∧ 0 ≤ A (32 + 4 * i) ∧ A (32 + 4 * i) ≤ 99
  | 2 => (0 ≤ A (150 + 20 * i) ∧ A (150 + 20 * i) < A 2) ∧ ∀ k, k < 16 → -1 ≤ A (151 + 20 * i + k) ∧ A (151 + 20 * i + k) ≤ A 0
  | 3 => 0 ≤ A (350 + i) ∧ A (350 + i) < A 2
  | 4 => (0 ≤ A (400 + 8 * i) ∧ A (400 + 8 * i) < A 4) ∧ (0 ≤ A (401 + 8 * i) ∧ A (401 + 8 * i) ≤ 999) ∧ (1 ≤ A (402 + 8 * i) ∧ A (402 + 8 * i) ≤ 200) ∧ (1 ≤ A (403 + 8 * i) ∧ A (403 + 8 * i) ≤ 99) ∧ (1 ≤ A (404 + 8 * i) ∧ A (404 + 8 * i) ≤ 60) ∧ (0 ≤ A (405 + 8 * i) ∧ A (405 + 8 * i) ≤ 20) ∧ 0 ≤ A (406 + 8 * i) ∧ A (406 + 8 * i) ≤ A 0
  | 5 => (0 ≤ A (11000 + 4 * i) ∧ A (11000 + 4 * i) < A 6) ∧ (0 ≤ A (11001 + 4 * i) ∧ A (11001 + 4 * i) ≤ 999) ∧ 0 ≤ A (11002 + 4 * i) ∧ A (11002 + 4 * i) ≤ 999
  | 6 => (0 ≤ A (11130 + 6 * i) ∧ A (11130 + 6 * i) < A 3) ∧ (0 ≤ A (11131 + 6 * i) ∧ A (11131 + 6 * i) < A 4) ∧ (0 ≤ A (11132 + 6 * i) ∧ A (11132 + 6 * i) ≤ A 0) ∧ (0 ≤ A (11133 + 6 * i) ∧ A (11133 + 6 * i) ≤ 65535) ∧ 0 ≤ A (11134 + 6 * i) ∧ A (11134 + 6 * i) ≤ 1
  | 7 => (0 ≤ A (11610 + 3 * i) ∧ A (11610 + 3 * i) < A 8) ∧ 0 ≤ A (11611 + 3 * i) ∧ A (11611 + 3 * i) ≤ 1
  | 8 => (0 ≤ A (12210 + 4 * i) ∧ A (12210 + 4 * i) < A 4) ∧ (0 ≤ A (12211 + 4 * i) ∧ A (12211 + 4 * i) ≤ A 0) ∧ (-1 ≤ A (12212 + 4 * i) ∧ A (12212 + 4 * i) ≤ 1000000000) ∧ -1 ≤ A (12213 + 4 * i) ∧ A (12213 + 4 * i) ≤ A 0
  | 10 => (0 ≤ A (12530 + 3 * i) ∧ A (12530 + 3 * i) < A 2) ∧ (0 ≤ A (12531 + 3 * i) ∧ A (12531 + 3 * i) < A 2) ∧ A (12530 + 3 * i) ≠ A (12531 + 3 * i) ∧ 0 ≤ A (12532 + 3 * i) ∧ A (12532 + 3 * i) ≤ 9999
  | 11 => (1 ≤ A (12650 + 100 * i) ∧ A (12650 + 100 * i) ≤ 40) ∧ (0 ≤ A (12651 + 100 * i) ∧ A (12651 + 100 * i) ≤ A (12650 + 100 * i)) ∧ (0 ≤ A (12652 + 100 * i) ∧ A (12652 + 100 * i) ≤ 500) ∧
      (∀ k : Nat, (k : Int) < A (12651 + 100 * i) → 0 ≤ A (12653 + 100 * i + k) ∧ A (12653 + 100 * i + k) < A (12650 + 100 * i)) ∧ (∀ j k : Nat, (j : Int) < A (12651 + 100 * i) → (k : Int) < A (12651 + 100 * i) → A (12653 + 100 * i + j) = A (12653 + 100 * i + k) → j = k) ∧
      ∀ k : Nat, k < 40 → -1 ≤ A (12693 + 100 * i + k) ∧ A (12693 + 100 * i + k) ≤ A (12652 + 100 * i) ∧ (0 ≤ A (12693 + 100 * i + k) → ∃ j : Nat, (j : Int) < A (12651 + 100 * i) ∧ A (12653 + 100 * i + j) = (k : Int))
  | _ => True
/-- the scalars -/
def sok (A : Nat → Int) : Prop := (0 ≤ A 0 ∧ A 0 ≤ 999) ∧ (0 ≤ A 6 ∧ A 6 ≤ 10) ∧ (0 ≤ A 14 ∧ A 14 ≤ 9) ∧ (0 ≤ A 15 ∧ A 15 ≤ 99) ∧ (0 ≤ A 16 ∧ A 16 ≤ 99) ∧ (0 ≤ A 17 ∧ A 17 ≤ 9999) ∧ ∀ t, t < 12 → t ≠ 9 → 0 ≤ A (t_z t) ∧ A (t_z t) ≤ (t_m t : Int)
/-- what lies behind the rows that there are, where a new row counts on it -/
def bok (A : Nat → Int) : Prop := (∀ i : Nat, A 2 ≤ (i : Int) → i < 30 → A (32 + 4 * i) = 0) ∧ (∀ i : Nat, A 8 ≤ (i : Int) → i < 80 → A (11134 + 6 * i) = 0) ∧ ∀ i : Nat, A 12 ≤ (i : Int) → i < 10 → A (12651 + 100 * i) = 0 ∧ A (12652 + 100 * i) = 0
def pM (A : Nat → Int) : Prop := sok A ∧ bok A ∧ ∀ t, t < 12 → t ≠ 9 → ∀ i : Nat, (i : Int) < A (t_z t) → rok A t i
