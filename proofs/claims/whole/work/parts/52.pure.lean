/-! measures, names, sorts: pure -/
def rB (A : Nat → Int) : Prop := rA A ∧ (0 ≤ A 0 ∧ A 0 ≤ 999) ∧ (A 1 ≤ 6 ∧ A 2 ≤ 30 ∧ (0 ≤ A 4 ∧ A 4 ≤ 50) ∧ (0 ≤ A 5 ∧ A 5 ≤ 200)) ∧ (∀ t : Nat, (t : Int) < A 1 → 80 ≤ A (20 + t) ∧ A (20 + t) ≤ 120) ∧ (∀ p : Nat, (p : Int) < A 2 → 0 ≤ A (30 + 4 * p) ∧ A (30 + 4 * p) < A 1) ∧ (∀ w : Nat, (w : Int) < A 4 → 0 ≤ A (350 + w) ∧ A (350 + w) < A 2) ∧
  ∀ m : Nat, (m : Int) < A 5 → (0 ≤ A (400 + 8 * m) ∧ A (400 + 8 * m) < A 4) ∧ (0 ≤ A (401 + 8 * m) ∧ A (401 + 8 * m) ≤ 999) ∧ (1 ≤ A (402 + 8 * m) ∧ A (402 + 8 * m) ≤ 200) ∧ (1 ≤ A (403 + 8 * m) ∧ A (403 + 8 * m) ≤ 99) ∧ (1 ≤ A (404 + 8 * m) ∧ A (404 + 8 * m) ≤ 60) ∧ (0 ≤ A (405 + 8 * m) ∧ A (405 + 8 * m) ≤ 20) ∧ 0 ≤ A (406 + 8 * m) ∧ A (406 + 8 * m) ≤ A 0
theorem rB_of {A : Nat → Int} (m : pM A) (ht : ∀ t : Nat, (t : Int) < A 6 → tokT (tx A t)) : rB A := by
  obtain ⟨⟨s0, s6, s14, s15, s16, s17, sz⟩, -, rk⟩ := m
  have z1 : 0 ≤ A 1 ∧ A 1 ≤ 6 := sz 0 (by decide) (by decide)
  have z2 : 0 ≤ A 2 ∧ A 2 ≤ 30 := sz 1 (by decide) (by decide)
  have z4 : 0 ≤ A 4 ∧ A 4 ≤ 50 := sz 3 (by decide) (by decide)
  have z5 : 0 ≤ A 5 ∧ A 5 ≤ 200 := sz 4 (by decide) (by decide)
  have z7 : 0 ≤ A 7 ∧ A 7 ≤ 30 := sz 5 (by decide) (by decide)
  refine ⟨⟨s6, by omega, fun f hf => ?_, ht⟩, s0, ⟨z1.2, z2.2, z4, z5⟩, fun t ht => rk 0 (by decide) (by decide) t ht, fun p hp => ?_, fun w hw => rk 3 (by decide) (by decide) w hw, fun m hm => rk 4 (by decide) (by decide) m hm⟩
  · have r5 : (0 ≤ A (11000 + 4 * f) ∧ A (11000 + 4 * f) < A 6) ∧ _ := rk 5 (by decide) (by decide) f hf
    exact r5.1
  · have r1 : (0 ≤ A (30 + 4 * p) ∧ A (30 + 4 * p) < A 1) ∧ _ := rk 1 (by decide) (by decide) p hp
    exact r1.1
theorem rB_inv {h : xH} (I : zInv h) : rB (h.2 96) := rB_of I.1 (rA_of I).2.2.2
theorem rB_zB {h : xH} {bs : Int} (b : zB h bs) : rB (h.2 96) := rB_of b.2.1 (fun t ht => by obtain ⟨r, a⟩ := zB_act b ht; exact aP_T a)
/-- the act for a kind, if there is one, has a clause of it -/
theorem aF_c {A : Nat → Int} (b : rA A) {k : Nat} {day : Int} : ∀ n : Nat, (n : Int) ≤ A 7 → aF A k day n = -1 ∨ ∃ t : Nat, aF A k day n = (t : Int) ∧ (t : Int) < A 6 ∧ 0 ≤ fO (tx A t) k
  | 0, _ => Or.inl rfl
  | n + 1, hn => by
    unfold aF
    by_cases h : A (11001 + 4 * n) ≤ day ∧ day ≤ A (11002 + 4 * n) ∧ 0 ≤ fO (tx A (A (11000 + 4 * n)).toNat) k
    · rw [if_pos h]
      have := b.2.2.1 n (by omega)
      exact Or.inr ⟨(A (11000 + 4 * n)).toNat, by omega, by omega, h.2.2⟩
    · rw [if_neg h]; exact aF_c b n (by omega)
theorem aB_c {A : Nat → Int} (b : rA A) {bs : Int} (hb : bs = -1 ∨ (0 ≤ bs ∧ bs < A 6)) (k : Nat) (day : Int) : aB A bs k day = -1 ∨ ∃ t : Nat, aB A bs k day = (t : Int) ∧ (t : Int) < A 6 ∧ 0 ≤ fO (tx A t) k := by
  unfold aB
  by_cases h : 0 ≤ bs ∧ 0 ≤ fO (tx A bs.toNat) k
  · rw [if_pos h]; exact Or.inr ⟨bs.toNat, by omega, by omega, h.2⟩
  · rw [if_neg h]; have := b.2.1; exact aF_c b _ (by omega)
theorem nO_b {A : Nat → Int} (b : rA A) {bs : Int} (hb : bs = -1 ∨ (0 ≤ bs ∧ bs < A 6)) (k : Nat) (day d lo hi : Int) (hd : lo ≤ d ∧ d ≤ hi) (hr : (k = 6 ∧ lo = 0 ∧ hi = 20) ∨ (k = 7 ∧ lo = 1 ∧ hi = 99) ∨ (k = 8 ∧ lo = 1 ∧ hi = 500) ∨ (k = 9 ∧ lo = 0 ∧ hi = 100)) : lo ≤ nO A bs k day d ∧ nO A bs k day d ≤ hi := by
  unfold nO
  rcases aB_c b hb k day with e | ⟨t, e, h1, h2⟩
  · rw [e, if_pos (by decide)]; exact hd
  · rw [e, if_neg (by omega), show ((t : Int)).toNat = t by omega]
    rcases fO_c (tx A t) k with c | ⟨i, c1, c2, c3⟩
    · omega
    · rw [c1, show ((i : Int)).toNat = i by omega]
      obtain ⟨u1, ⟨v1, v2, v3, v4, v5⟩, -⟩ := (b.2.2.2 t h1).2 i c2
      rcases hr with ⟨e1, e2, e3⟩ | ⟨e1, e2, e3⟩ | ⟨e1, e2, e3⟩ | ⟨e1, e2, e3⟩ <;> subst e1 <;> subst e2 <;> subst e3
      · exact v2 c3
      · exact v3 c3
      · exact v4 c3
      · exact v5 c3
/-- the measures' row of a web on a day as known: -1 without -/
def mR (A : Nat → Int) (web day known : Int) : Nat → Int
  | 0 => -1
  | n + 1 => if A (400 + 8 * n) = web ∧ A (401 + 8 * n) ≤ day ∧ A (406 + 8 * n) ≤ known ∧ (mR A web day known n < 0 ∨ A (401 + 8 * (mR A web day known n).toNat) ≤ A (401 + 8 * n)) then (n : Int) else mR A web day known n
theorem mR_c {A : Nat → Int} {web day known : Int} : ∀ n : Nat, mR A web day known n = -1 ∨ ∃ x : Nat, mR A web day known n = (x : Int) ∧ x < n ∧ A (400 + 8 * x) = web
  | 0 => Or.inl rfl
  | n + 1 => by
    unfold mR
    split
    · rename_i h
      exact Or.inr ⟨n, rfl, by omega, h.1⟩
    · rcases mR_c n with e | ⟨x, e1, e2, e3⟩
      · exact Or.inl e
      · exact Or.inr ⟨x, e1, by omega, e3⟩
def mO (A : Nat → Int) (web day known : Int) : Int := mR A web day known (A 5).toNat
/-- the width behind n weeks -/
def wd (w0 s : Int) : Nat → Int
  | 0 => w0
  | n + 1 => wd w0 s n - (wd w0 s n * s).tdiv 100
theorem p_tdiv {x : Int} (h : 0 ≤ x) : x.tdiv 100 = x / 100 := Int.tdiv_eq_ediv_of_nonneg h
theorem wd_b {w0 s : Int} (h0 : 0 ≤ w0 ∧ w0 ≤ 240) (hs : 0 ≤ s ∧ s ≤ 20) : ∀ n, 0 ≤ wd w0 s n ∧ wd w0 s n ≤ 240 ∧ (0 ≤ wd w0 s n * s ∧ wd w0 s n * s ≤ 4800) ∧ 0 ≤ (wd w0 s n * s).tdiv 100 ∧ (wd w0 s n * s).tdiv 100 ≤ wd w0 s n := by
    intro n
    have key : 0 ≤ wd w0 s n ∧ wd w0 s n ≤ 240 := by
      induction n with
      | zero => exact h0
      | succ n ih =>
        show 0 ≤ wd w0 s n - (wd w0 s n * s).tdiv 100 ∧ wd w0 s n - (wd w0 s n * s).tdiv 100 ≤ 240
        have m1 : 0 ≤ wd w0 s n * s := Int.mul_nonneg ih.1 hs.1
        have m2 : wd w0 s n * s ≤ wd w0 s n * 20 := Int.mul_le_mul_of_nonneg_left hs.2 ih.1
        rw [p_tdiv m1]
        omega
    have m1 : 0 ≤ wd w0 s n * s := Int.mul_nonneg key.1 hs.1
    have m2 : wd w0 s n * s ≤ wd w0 s n * 20 := Int.mul_le_mul_of_nonneg_left hs.2 key.1
    rw [p_tdiv m1]
    omega
def tO (A : Nat → Int) (web : Nat) : Int := A (30 + 4 * (A (350 + web)).toNat)
def iO (A : Nat → Int) (web : Nat) : Int := A (20 + (tO A web).toNat)
/-- the names of a web by measures' row x, the sort still 0 -/
def nm0 (A : Nat → Int) (bs : Int) (web : Nat) (day : Int) (x : Nat) : Nat → Int := fun i => if i = 0 then wd ((A (402 + 8 * x) * iO A web).tdiv 100) (nO A bs 6 day 0) (A (405 + 8 * x)).toNat else if i = 1 then (A (403 + 8 * x) * 100).tdiv (iO A web) else if i = 2 then A (404 + 8 * x) else if i = 3 then A (405 + 8 * x) else if i = 4 then tO A web else if i = 5 then 0 else day
/-- a web's sort -/
def sO (A : Nat → Int) (bs : Int) (web : Nat) (day : Int) (x : Nat) : Int := if cF A bs 0 day (nm0 A bs web day x) true < 0 then -1 else tx A (aB A bs 0 day).toNat (2 + 12 * (cF A bs 0 day (nm0 A bs web day x) true).toNat)
def nm1 (A : Nat → Int) (bs : Int) (web : Nat) (day : Int) (x : Nat) : Nat → Int := fun i => if i = 5 then (if sO A bs web day x = -1 then 10 else sO A bs web day x) else nm0 A bs web day x i
theorem web_b {A : Nat → Int} (b : rB A) {web : Nat} (hw : (web : Int) < A 4) : (0 ≤ A (350 + web) ∧ A (350 + web) < A 2) ∧ (0 ≤ tO A web ∧ tO A web < A 1) ∧ (80 ≤ iO A web ∧ iO A web ≤ 120) := by
  obtain ⟨-, -, b1, b2, b3, b4, -⟩ := b
  have h1 := b4 web hw
  have h2 := b3 (A (350 + web)).toNat (by omega)
  have h3 : 0 ≤ tO A web ∧ tO A web < A 1 := h2
  exact ⟨h1, h3, b2 (tO A web).toNat (by omega)⟩
theorem w0_b {a i : Int} (ha : 1 ≤ a ∧ a ≤ 200) (hi : 80 ≤ i ∧ i ≤ 120) : (0 ≤ a * i ∧ a * i ≤ 24000) ∧ 0 ≤ (a * i).tdiv 100 ∧ (a * i).tdiv 100 ≤ 240 := by
  have m1 : 0 ≤ a * i := Int.mul_nonneg (by omega) (by omega)
  have m2 : a * i ≤ 200 * 120 := Int.mul_le_mul ha.2 hi.2 (by omega) (by omega)
  rw [p_tdiv m1]
  omega
theorem c0_b {a i : Int} (ha : 1 ≤ a ∧ a ≤ 99) (hi : 80 ≤ i ∧ i ≤ 120) : 0 ≤ (a * 100).tdiv i ∧ (a * 100).tdiv i ≤ 123 := by
  have m1 : 0 ≤ a * 100 := by omega
  rw [Int.tdiv_eq_ediv_of_nonneg m1]
  refine ⟨Int.ediv_nonneg m1 (by omega), ?_⟩
  have : a * 100 / i < 124 := Int.ediv_lt_of_lt_mul (by omega) (by omega)
  omega
theorem nm0_b {A : Nat → Int} (b : rB A) {bs : Int} (hb : bs = -1 ∨ (0 ≤ bs ∧ bs < A 6)) {web x : Nat} {day : Int} (hw : (web : Int) < A 4) (hx : (x : Int) < A 5) (hd : 0 ≤ day ∧ day ≤ 999) : (0 ≤ nm0 A bs web day x 0 ∧ nm0 A bs web day x 0 ≤ 240) ∧ (0 ≤ nm0 A bs web day x 1 ∧ nm0 A bs web day x 1 ≤ 123) ∧ (1 ≤ nm0 A bs web day x 2 ∧ nm0 A bs web day x 2 ≤ 60) ∧ nm_ok (nm0 A bs web day x) := by
  obtain ⟨w1, w2, w3⟩ := web_b b hw
  have sh := nO_b b.1 hb 6 day 0 0 20 (by omega) (by omega)
  obtain ⟨m0, m1, m2, m3, m4, m5, m6⟩ := b.2.2.2.2.2.2 x hx
  have e0 : 0 ≤ nm0 A bs web day x 0 ∧ nm0 A bs web day x 0 ≤ 240 := by
    have := wd_b (w0_b m2 w3).2 sh (A (405 + 8 * x)).toNat
    exact ⟨this.1, this.2.1⟩
  have e1 : 0 ≤ nm0 A bs web day x 1 ∧ nm0 A bs web day x 1 ≤ 123 := c0_b m3 w3
  have e2 : 1 ≤ nm0 A bs web day x 2 ∧ nm0 A bs web day x 2 ≤ 60 := m4
  refine ⟨e0, e1, e2, fun i hi => ?_⟩
  have b1 := b.2.2.1
  rcases (show i = 0 ∨ i = 1 ∨ i = 2 ∨ i = 3 ∨ i = 4 ∨ i = 5 ∨ i = 6 by omega) with e | e | e | e | e | e | e <;> subst e
  · omega
  · omega
  · omega
  · show -1000000000 ≤ A (405 + 8 * x) ∧ A (405 + 8 * x) ≤ 1000000000; omega
  · show -1000000000 ≤ tO A web ∧ tO A web ≤ 1000000000; omega
  · show -1000000000 ≤ (0 : Int) ∧ (0 : Int) ≤ 1000000000; omega
  · show -1000000000 ≤ day ∧ day ≤ 1000000000; omega
theorem fC_c {T nm : Nat → Int} {k : Int} {so : Bool} : fC T nm k so = -1 ∨ ∃ i : Nat, fC T nm k so = (i : Int) ∧ (i : Int) < T 0 ∧ T (1 + 12 * i) = k + 1 := by
  rcases ff_c (fun i => decide (T (1 + 12 * i) = k + 1) && ((!decide (vC T nm i = 0)) == so)) (T 0).toNat 0 with ⟨h1, h2⟩ | ⟨j, h1, h2, h3, h4⟩
  · exact Or.inl h1
  · simp only [Bool.and_eq_true, decide_eq_true_eq] at h4
    exact Or.inr ⟨j, h1, by omega, h4.1⟩
theorem sO_b {A : Nat → Int} (b : rB A) {bs : Int} (hb : bs = -1 ∨ (0 ≤ bs ∧ bs < A 6)) {web x : Nat} {day : Int} : -1 ≤ sO A bs web day x ∧ sO A bs web day x ≤ 9 := by
  unfold sO
  split
  · omega
  · rename_i hc
    unfold cF at hc ⊢
    rcases aB_c b.1 hb 0 day with e | ⟨t, e, h1, h2⟩
    · rw [show ((0 : Nat) : Int) = 0 from rfl] at e; rw [e, if_pos (by decide)] at hc; exact absurd (by decide) hc
    · rw [show ((0 : Nat) : Int) = 0 from rfl] at e
      rw [e] at hc ⊢
      rw [if_neg (by omega)] at hc ⊢
      rw [show ((t : Int)).toNat = t by omega] at hc ⊢
      rcases fC_c (T := tx A t) (nm := nm0 A bs web day x) (k := 0) (so := true) with c | ⟨i, c1, c2, c3⟩
      · omega
      · rw [c1, show ((i : Int)).toNat = i by omega]
        obtain ⟨u1, ⟨v1, -⟩, -⟩ := (b.1.2.2.2 t h1).2 i c2
        have := v1 c3
        omega
theorem nm1_b {A : Nat → Int} (b : rB A) {bs : Int} (hb : bs = -1 ∨ (0 ≤ bs ∧ bs < A 6)) {web x : Nat} {day : Int} (hw : (web : Int) < A 4) (hx : (x : Int) < A 5) (hd : 0 ≤ day ∧ day ≤ 999) : (0 ≤ nm1 A bs web day x 0 ∧ nm1 A bs web day x 0 ≤ 240) ∧ (0 ≤ nm1 A bs web day x 1 ∧ nm1 A bs web day x 1 ≤ 123) ∧ (1 ≤ nm1 A bs web day x 2 ∧ nm1 A bs web day x 2 ≤ 60) ∧ nm_ok (nm1 A bs web day x) := by
  obtain ⟨h0, h1, h2, h3⟩ := nm0_b b hb hw hx hd
  refine ⟨h0, h1, h2, fun i hi => ?_⟩
  unfold nm1
  have := sO_b (web := web) (x := x) (day := day) b hb
  split
  · split <;> omega
  · exact h3 i hi
