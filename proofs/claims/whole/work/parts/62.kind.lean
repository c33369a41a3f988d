/-! kind: looks and chances -/
/-- looks at a master's seals, the latest twelve: how many, how many bad; from l looks on, n and k so far -/
def mst (A : Nat → Int) (l : Nat) : Int := A (150 + 20 * (A (11130 + 6 * (A (11610 + 3 * l)).toNat)).toNat)
def kf (A : Nat → Int) (p : Int) : Nat → Nat → Int → Nat × Int
  | 0, n, k => (n, k)
  | l + 1, n, k => if 12 ≤ n then (n, k) else if mst A l = p then kf A p l (n + 1) (k + A (11611 + 3 * l)) else kf A p l n k
theorem look_r {A : Nat → Int} (m : pM A) {l : Nat} (hl : (l : Int) < A 9) : (0 ≤ A (11610 + 3 * l) ∧ A (11610 + 3 * l) < A 8) ∧ 0 ≤ A (11611 + 3 * l) ∧ A (11611 + 3 * l) ≤ 1 := m.2.2 7 (by decide) (by decide) l hl
theorem kf_b {A : Nat → Int} (m : pM A) {p : Int} : ∀ (l n : Nat) (k : Int), (l : Int) ≤ A 9 → n ≤ 12 → 0 ≤ k → k ≤ n → (kf A p l n k).1 ≤ 12 ∧ 0 ≤ (kf A p l n k).2 ∧ (kf A p l n k).2 ≤ (kf A p l n k).1
  | 0, n, k, _, h1, h2, h3 => ⟨h1, h2, h3⟩
  | l + 1, n, k, h0, h1, h2, h3 => by
    have r := look_r m (l := l) (by omega)
    unfold kf
    by_cases e1 : 12 ≤ n
    · rw [if_pos e1]; exact ⟨h1, h2, h3⟩
    · rw [if_neg e1]
      by_cases e2 : mst A l = p
      · rw [if_pos e2]; exact kf_b m l (n + 1) _ (by omega) (by omega) (by omega) (by omega)
      · rw [if_neg e2]; exact kf_b m l n k (by omega) h1 h2 h3
def pw (b : Int) : Nat → Int
  | 0 => 1
  | n + 1 => pw b n * b
theorem pw_b {b : Int} (hb : 0 ≤ b ∧ b ≤ 10) : ∀ n, 0 ≤ pw b n ∧ pw b n ≤ pw 10 n
  | 0 => by show (0 : Int) ≤ 1 ∧ (1 : Int) ≤ 1; omega
  | n + 1 => by
    have ih := pw_b hb n
    show 0 ≤ pw b n * b ∧ pw b n * b ≤ pw 10 n * 10
    exact ⟨Int.mul_nonneg ih.1 hb.1, Int.mul_le_mul ih.2 hb.2 hb.1 (by omega)⟩
theorem pw_10 : ∀ n, n < 13 → 1 ≤ pw 10 n ∧ pw 10 n ≤ 1000000000000 := by decide
theorem pw_add : ∀ n m, pw 10 n * pw 10 m = pw 10 (n + m)
  | n, 0 => by show pw 10 n * 1 = pw 10 n; rw [Int.mul_one]
  | n, m + 1 => by show pw 10 n * (pw 10 m * 10) = pw 10 (n + m) * 10; rw [← Int.mul_assoc, pw_add n m]
/-- of n things i: as both compute it -/
def co (n : Nat) : Nat → Int
  | 0 => 1
  | i + 1 => (co n i * ((n : Int) - i)).tdiv ((i : Int) + 1)
theorem co_b : ∀ n, n < 13 → ∀ i, i < 14 → (-1000 ≤ co n i ∧ co n i ≤ 1000) := by decide
theorem co_b0 : ∀ n, n < 13 → ∀ i, i ≤ n → 0 ≤ co n i := by decide
def tm (n : Nat) (al : Int) (j : Nat) : Int := co n j * pw al j * pw (10 - al) (n - j)
theorem tm_b {n j : Nat} {al : Int} (hn : n < 13) (hj : j ≤ n) (ha : 0 ≤ al ∧ al ≤ 9) : (0 ≤ co n j * pw al j ∧ co n j * pw al j ≤ 1000000000000000) ∧ 0 ≤ tm n al j ∧ tm n al j ≤ 1000000000000000 := by
  have c := co_b n hn j (by omega)
  have c0 := co_b0 n hn j hj
  have p1 := pw_b (b := al) (by omega) j
  have p2 := pw_b (b := 10 - al) (by omega) (n - j)
  have t1 := pw_10 j (by omega)
  have t2 := pw_10 (n - j) (by omega)
  have t3 := pw_10 n hn
  have m1 : 0 ≤ co n j * pw al j := Int.mul_nonneg c0 p1.1
  have m2 : co n j * pw al j ≤ 1000 * pw 10 j := Int.mul_le_mul c.2 p1.2 p1.1 (by omega)
  have m3 : 0 ≤ co n j * pw al j * pw (10 - al) (n - j) := Int.mul_nonneg m1 p2.1
  have m4 : co n j * pw al j * pw (10 - al) (n - j) ≤ 1000 * pw 10 j * pw 10 (n - j) := Int.mul_le_mul m2 p2.2 p2.1 (by omega)
  rw [Int.mul_assoc 1000, pw_add, show j + (n - j) = n by omega] at m4
  unfold tm
  refine ⟨⟨m1, by omega⟩, m3, by omega⟩
/-- the chance: the sum over those from k on -/
def chn (n : Nat) (k al : Int) (m : Nat) : Int := sg (fun j => if k ≤ (j : Int) then tm n al j else 0) m
theorem chn_b {n m : Nat} {k al : Int} (hn : n < 13) (hm : m ≤ n + 1) (ha : 0 ≤ al ∧ al ≤ 9) : 0 ≤ chn n k al m ∧ chn n k al m ≤ 13000000000000000 := by
  have := sg_b2 (f := fun j => if k ≤ (j : Int) then tm n al j else 0) (B := 1000000000000000) (n := m) (fun j hj => by
    have := tm_b (n := n) (j := j) (al := al) hn (by omega) ha
    (try dsimp only)
    split <;> omega)
  unfold chn
  omega
section KD
variable {g : xG} {D : Nat} {h : xH}
theorem l_power {b : Int} {e : Nat} {Q : Int → xH → Prop} (hb : 0 ≤ b ∧ b ≤ 10) (he : e < 13) (hQ : Q (pw b e) h) : ∀ (m i : Nat) {w3 : xV}, i + m = e → zJ g D 131 0 0 5 [xi b, xi e, xl (pw b i), w3, xi i] [] h (x_ql2 Q)
  | 0, i, w3, q => by
    have : i = e := by omega
    subst this
    exact zX8_power_5 ⟨fun _ => zX8_power_22 hQ, fun z => by omega⟩
  | m + 1, i, w3, q => by
    have p := pw_b hb (i + 1)
    have t := pw_10 (i + 1) (by omega)
    have p : 0 ≤ pw b i * b ∧ pw b i * b ≤ pw 10 (i + 1) := p
    refine zX8_power_5 ⟨fun z => by omega, fun z => ?_⟩
    rw [x64_id (by omega) (by omega), x32_id (by omega) (by omega), show (i : Int) + 1 = ((i + 1 : Nat) : Int) by omega]
    exact l_power hb he hQ m (i + 1) (by omega)
theorem s_power {b : Int} {e : Nat} {Q : Int → xH → Prop} (hb : 0 ≤ b ∧ b ≤ 10) (he : e < 13) (hQ : Q (pw b e) h) : zSl g D mX8_power [xi b, xi e] h Q :=
  eX8_power (zX8_power_0 (l_power hb he hQ e 0 (by omega)))
theorem l_chance {n : Nat} {k al : Int} {Q : Int → xH → Prop} (hn : n < 13) (ha : 0 ≤ al ∧ al ≤ 9) (hQ : Q (chn n k al (n + 1)) h) : ∀ (m j : Nat) {w4 w6 : xV}, j + m = n + 1 → zJ g (D + 1) 132 0 0 8 [xi n, xi k, xi al, xl (chn n k al j), w4, xl (co n j), w6, xi j] [] h (x_ql2 Q)
  | 0, j, w4, w6, e => by
    have : j = n + 1 := by omega
    subst this
    exact zX8_chanceOf_8 ⟨fun _ => zX8_chanceOf_66 hQ, fun z => by omega⟩
  | m + 1, j, w4, w6, e => by
    have c := co_b n hn j (by omega)
    have c1 := co_b n hn (j + 1) (by omega)
    have t := tm_b (n := n) (j := j) (al := al) hn (by omega) ha
    have s := chn_b (n := n) (m := j) (k := k) hn (by omega) ha
    have ih := fun {w4 w6 : xV} => @l_chance n k al Q hn ha hQ m (j + 1) w4 w6 (by omega)
    have cm : -13000 ≤ co n j * ((n : Int) - j) ∧ co n j * ((n : Int) - j) ≤ 13000 := by
      have h1 : (co n j * ((n : Int) - j)).natAbs ≤ 1000 * 13 := by
        rw [Int.natAbs_mul]
        exact Nat.mul_le_mul (by omega) (by omega)
      omega
    have c1 : -1000 ≤ (co n j * ((n : Int) - j)).tdiv ((j : Int) + 1) ∧ (co n j * ((n : Int) - j)).tdiv ((j : Int) + 1) ≤ 1000 := c1
    have l44 : ∀ {w4 w6 : xV}, zJ g (D + 1) 132 0 0 44 [xi n, xi k, xi al, xl (chn n k al (j + 1)), w4, xl (co n j), w6, xi j] [] h (x_ql2 Q) := by
      intro w4 w6
      refine zX8_chanceOf_44 ?_
      rw [x32_id (show -2147483648 ≤ (n : Int) - j by omega) (by omega), x32_id (show -2147483648 ≤ (j : Int) + 1 by omega) (by omega), x64_id (show -9223372036854775808 ≤ co n j * ((n : Int) - j) by omega) (by omega), x64_id (by omega) (by omega)]
      refine ⟨by omega, ?_⟩
      rw [show (j : Int) + 1 = ((j + 1 : Nat) : Int) by omega] at *
      exact ih
    have es : chn n k al (j + 1) = chn n k al j + (if k ≤ (j : Int) then tm n al j else 0) := rfl
    refine zX8_chanceOf_8 ⟨fun z => by omega, fun z => ⟨fun y => ?_, fun y => ?_⟩⟩
    · rw [if_neg (by omega), Int.add_zero] at es
      rw [← es]
      exact l44
    · rw [if_pos y] at es
      refine s_power (by omega) (by omega) ?_
      rw [x32_id (show -2147483648 ≤ 10 - al by omega) (by omega), x32_id (show -2147483648 ≤ (n : Int) - j by omega) (by omega), show (n : Int) - j = ((n - j : Nat) : Int) by omega]
      refine s_power (by omega) (by omega) ?_
      have tt : 0 ≤ co n j * pw al j * pw (10 - al) (n - j) ∧ co n j * pw al j * pw (10 - al) (n - j) ≤ 1000000000000000 := t.2
      rw [x64_id (show -9223372036854775808 ≤ co n j * pw al j by omega) (by omega), x64_id (show -9223372036854775808 ≤ co n j * pw al j * pw (10 - al) (n - j) by omega) (by omega), x64_id (by omega) (by omega)]
      have es : chn n k al (j + 1) = chn n k al j + co n j * pw al j * pw (10 - al) (n - j) := es
      rw [← es]
      exact l44
theorem s_chance {n : Nat} {k al : Int} {Q : Int → xH → Prop} (hn : n < 13) (ha : 0 ≤ al ∧ al ≤ 9) (hQ : Q (chn n k al (n + 1)) h) : zSl g (D + 1) mX8_chanceOf [xi n, xi k, xi al] h Q :=
  eX8_chanceOf (zX8_chanceOf_0 (l_chance hn ha hQ (n + 1) 0 (by omega)))
/-! the reference's -/
theorem l_rco {n j : Nat} {b3 : Int} {Q : Int → xH → Prop} (hn : n < 13) (hj : j ≤ n) (hQ : ∀ {w2 w4 w7 w8 : xV}, zJ g D 210 0 0 46 [xr 95, xi n, w2, xl b3, w4, xi j, xl (co n j), w7, w8] [] h (x_ql2 Q)) : ∀ (m i : Nat) {w2 w4 w7 : xV}, i + m = j → zJ g D 210 0 0 17 [xr 95, xi n, w2, xl b3, w4, xi j, xl (co n i), w7, xi i] [] h (x_ql2 Q)
  | 0, i, w2, w4, w7, e => by
    have : i = j := by omega
    subst this
    exact zX9_chance_17 ⟨fun _ => hQ, fun z => by omega⟩
  | m + 1, i, w2, w4, w7, e => by
    have c := co_b n hn i (by omega)
    have c1 := co_b n hn (i + 1) (by omega)
    have c1 : -1000 ≤ (co n i * ((n : Int) - i)).tdiv ((i : Int) + 1) ∧ (co n i * ((n : Int) - i)).tdiv ((i : Int) + 1) ≤ 1000 := c1
    have cm : -13000 ≤ co n i * ((n : Int) - i) ∧ co n i * ((n : Int) - i) ≤ 13000 := by
      have h1 : (co n i * ((n : Int) - i)).natAbs ≤ 1000 * 13 := by
        rw [Int.natAbs_mul]
        exact Nat.mul_le_mul (by omega) (by omega)
      omega
    refine zX9_chance_17 ⟨fun z => by omega, fun z => ?_⟩
    rw [x32_id (show -2147483648 ≤ (n : Int) - i by omega) (by omega), x32_id (show -2147483648 ≤ (i : Int) + 1 by omega) (by omega), x64_id (show -9223372036854775808 ≤ co n i * ((n : Int) - i) by omega) (by omega), x64_id (by omega) (by omega)]
    refine ⟨by omega, ?_⟩
    have ih := @l_rco n j b3 Q hn hj hQ m (i + 1) xu xu xu (by omega)
    rw [show ((i + 1 : Nat) : Int) = (i : Int) + 1 by omega] at ih
    exact ih
theorem l_rpw {n j : Nat} {b3 al : Int} {Q : Int → xH → Prop} (hn : n < 13) (hj : j ≤ n) (ha : 0 ≤ al ∧ al ≤ 9) (e14 : h.2 96 14 = al) (hQ : ∀ {w2 w4 w7 w8 : xV}, zJ g D 210 0 0 95 [xr 95, xi n, w2, xl b3, w4, xi j, xl (tm n al j), w7, w8] [] h (x_ql2 Q)) : ∀ (m i : Nat) {w2 w4 w7 : xV}, i + m = n → zJ g D 210 0 0 49 [xr 95, xi n, w2, xl b3, w4, xi j, xl (if i ≤ j then co n j * pw al i else co n j * pw al j * pw (10 - al) (i - j)), w7, xi i] [] h (x_ql2 Q)
  | 0, i, w2, w4, w7, e => by
    have : i = n := by omega
    subst this
    have ev : (if i ≤ j then co i j * pw al i else co i j * pw al j * pw (10 - al) (i - j)) = tm i al j := by
      unfold tm
      by_cases q : i ≤ j
      · have : i = j := by omega
        subst this
        rw [if_pos q, Nat.sub_self]
        show _ = _ * 1
        rw [Int.mul_one]
      · rw [if_neg q]
    rw [ev]
    exact zX9_chance_49 ⟨fun _ => hQ, fun z => by omega⟩
  | m + 1, i, w2, w4, w7, e => by
    have c := co_b n hn j (by omega)
    have c0 := co_b0 n hn j hj
    have ih := fun {w2 w4 w7 : xV} => @l_rpw n j b3 al Q hn hj ha e14 hQ m (i + 1) w2 w4 w7 (by omega)
    have big : ∀ a b : Nat, a + b < 13 → 0 ≤ co n j * pw al a * pw (10 - al) b ∧ co n j * pw al a * pw (10 - al) b ≤ 1000000000000000 := by
      intro a b hab
      have p1 := pw_b (b := al) (by omega) a
      have p2 := pw_b (b := 10 - al) (by omega) b
      have t1 := pw_10 a (by omega)
      have t2 := pw_10 b (by omega)
      have t3 := pw_10 (a + b) hab
      have m1 : 0 ≤ co n j * pw al a := Int.mul_nonneg c0 p1.1
      have m2 : co n j * pw al a ≤ 1000 * pw 10 a := Int.mul_le_mul c.2 p1.2 p1.1 (by omega)
      have m3 : 0 ≤ co n j * pw al a * pw (10 - al) b := Int.mul_nonneg m1 p2.1
      have m4 : co n j * pw al a * pw (10 - al) b ≤ 1000 * pw 10 a * pw 10 b := Int.mul_le_mul m2 p2.2 p2.1 (by omega)
      rw [Int.mul_assoc 1000, pw_add] at m4
      omega
    refine zX9_chance_49 ⟨fun z => by omega, fun z => ⟨fun y => zX9_chance_75 ?_, fun y => ?_⟩⟩
    · rw [e14, x32_id (show -2147483648 ≤ 10 - al by omega) (by omega), x32_id (by omega) (by omega), show (i : Int) + 1 = ((i + 1 : Nat) : Int) by omega]
      rw [if_neg (by omega), show i + 1 - j = (i - j) + 1 by omega] at ih
      have ei : (if i ≤ j then co n j * pw al i else co n j * pw al j * pw (10 - al) (i - j)) * (10 - al) = co n j * pw al j * pw (10 - al) (i - j + 1) := by
        by_cases q : i ≤ j
        · have : i = j := by omega
          subst this
          rw [if_pos q, Nat.sub_self]
          show _ = _ * (1 * (10 - al))
          rw [Int.one_mul]
        · rw [if_neg q]
          show _ = _ * (pw (10 - al) (i - j) * (10 - al))
          rw [Int.mul_assoc]
      have bb := big j (i - j + 1) (by omega)
      rw [ei, x64_id (by omega) (by omega)]
      exact ih
    · rw [e14, x32_id (by omega) (by omega), show (i : Int) + 1 = ((i + 1 : Nat) : Int) by omega]
      rw [if_pos (by omega)] at ih
      rw [if_pos (by omega)]
      have ei : co n j * pw al i * al = co n j * pw al (i + 1) := by show _ = _ * (pw al i * al); rw [Int.mul_assoc]
      have bb := big (i + 1) 0 (by omega)
      have bb : 0 ≤ co n j * pw al (i + 1) * 1 ∧ co n j * pw al (i + 1) * 1 ≤ 1000000000000000 := bb
      rw [Int.mul_one] at bb
      rw [ei, x64_id (by omega) (by omega)]
      exact ih
theorem l_rchance {n : Nat} {k al : Int} {Q : Int → xH → Prop} (hn : n < 13) (hk : 0 ≤ k ∧ k ≤ n) (ha : 0 ≤ al ∧ al ≤ 9) (e14 : h.2 96 14 = al) (hQ : Q (chn n k al (n + 1)) h) : ∀ (m j : Nat) {w2 w4 w6 w7 w8 : xV}, k ≤ (j : Int) → j + m = n + 1 → zJ g D 210 0 0 5 [xr 95, xi n, w2, xl (chn n k al j), w4, xi j, w6, w7, w8] [] h (x_ql2 Q)
  | 0, j, w2, w4, w6, w7, w8, hj, e => by
    have : j = n + 1 := by omega
    subst this
    exact zX9_chance_5 ⟨fun _ => zX9_chance_106 hQ, fun z => by omega⟩
  | m + 1, j, w2, w4, w6, w7, w8, hj, e => by
    have t := tm_b (n := n) (j := j) (al := al) hn (by omega) ha
    have s := chn_b (n := n) (m := j) (k := k) hn (by omega) ha
    have ih := fun {w2 w4 w6 w7 w8 : xV} => @l_rchance n k al Q hn hk ha e14 hQ m (j + 1) w2 w4 w6 w7 w8 (by omega) (by omega)
    have es : chn n k al (j + 1) = chn n k al j + (if k ≤ (j : Int) then tm n al j else 0) := rfl
    rw [if_pos hj] at es
    refine zX9_chance_5 ⟨fun z => by omega, fun z => l_rco hn (by omega) (fun {u2 u4 u7 u8} => zX9_chance_46 ?_) j 0 (by omega)⟩
    have L := l_rpw (g := g) (D := D) (h := h) (b3 := chn n k al j) (Q := Q) hn (show j ≤ n by omega) ha e14 (fun {v2 v4 v7 v8} => zX9_chance_95 (by
      rw [x64_id (by omega) (by omega), x32_id (by omega) (by omega), show (j : Int) + 1 = ((j + 1 : Nat) : Int) by omega, ← es]
      exact ih)) n 0 (w2 := xu) (w4 := xu) (w7 := xu) (by omega)
    rw [if_pos (by omega)] at L
    have L2 : zJ g D 210 0 0 49 [xr 95, xi n, xu, xl (chn n k al j), xu, xi j, xl (co n j * 1), xu, xi 0] [] h (x_ql2 Q) := L
    rw [Int.mul_one] at L2
    exact L2
theorem chn_0 {n : Nat} {al : Int} : ∀ k : Nat, chn n k al k = 0 := by
  intro k
  unfold chn
  refine sg_zero (fun i hi => ?_)
  (try dsimp only)
  rw [if_neg (by omega)]
theorem r_chance {n : Nat} {k al : Int} {Q : Int → xH → Prop} (hn : n < 13) (hk : 0 ≤ k ∧ k ≤ n) (ha : 0 ≤ al ∧ al ≤ 9) (e14 : h.2 96 14 = al) (hQ : Q (chn n k al (n + 1)) h) : zSl g D mX9_chance [xr 95, xi n, xi k] h Q := by
  obtain ⟨q, rfl⟩ : ∃ q : Nat, k = (q : Int) := ⟨k.toNat, by omega⟩
  refine eX9_chance (zX9_chance_0 ?_)
  have := l_rchance (g := g) (D := D) (w2 := xi q) (w4 := xu) (w6 := xu) (w7 := xu) (w8 := xu) hn hk ha e14 hQ (n + 1 - q) q (by omega) (by omega)
  rw [chn_0] at this
  exact this
/-! the loops over looks -/
theorem l_kind {p b : Int} {Q : Int → xH → Prop} (hs : zSh h) (I : zInv h) (hQ : ∀ {w1 w5 w6 w7 w8 : xV}, zJ g (D + 1) 96 0 0 101 [xr 16, w1, xi b, xi (kf (h.2 96) p (h.2 96 9).toNat 0 0).1, xi (kf (h.2 96) p (h.2 96 9).toNat 0 0).2, w5, w6, w7, w8] [] h (x_ql2 Q)) : ∀ (l n : Nat) (k : Int) {w6 w7 w8 : xV}, (l : Int) ≤ h.2 96 9 → n ≤ 12 → 0 ≤ k → k ≤ n → kf (h.2 96) p l n k = kf (h.2 96) p (h.2 96 9).toNat 0 0 → zJ g (D + 1) 96 0 0 46 [xr 16, xi p, xi b, xi n, xi k, xi ((l : Int) - 1), w6, w7, w8] [] h (x_ql2 Q)
  | 0, n, k, w6, w7, w8, hl, h1, h2, h3, e => by
    rw [← e] at hQ
    exact zX8_kind_46 ⟨fun _ => hQ, fun z => by omega⟩
  | l + 1, n, k, w6, w7, w8, hl, h1, h2, h3, e => by
    have R : pR h 32 33 200 2 := z_R hs rfl rfl rfl rfl rfl (by decide)
    have z := pM_z I.1
    have r := look_r I.1 (l := l) (by omega)
    have c0 : h.2 33 (l * 2) = mst (h.2 96) l := I.2.2.1.2.2.1 l (by omega)
    have c1 : h.2 33 (l * 2 + 1) = h.2 96 (11611 + 3 * l) := by
      rw [show 11611 + 3 * l = 11610 + 3 * l + 1 by omega]
      exact ((I.2.2.1.1 7 (by decide)) (by decide)).2 l (show (l : Int) < h.2 96 9 by omega) (1, 1) (by decide)
    rw [show ((l + 1 : Nat) : Int) - 1 = (l : Int) by omega]
    have e' : (if 12 ≤ n then (n, k) else if mst (h.2 96) l = p then kf (h.2 96) p l (n + 1) (k + h.2 96 (11611 + 3 * l)) else kf (h.2 96) p l n k) = kf (h.2 96) p (h.2 96 9).toNat 0 0 := e
    refine zX8_kind_46 ⟨fun q => by omega, fun q => ⟨fun q2 => ?_, fun q2 => s_get R (by omega) (by omega) (by omega) (by omega) ?_⟩⟩
    · rw [if_pos (by omega)] at e'
      rw [← e'] at hQ
      exact hQ
    · rw [if_neg (by omega)] at e'
      rw [show ((l : Int) * ((2 : Nat) : Int) + 0).toNat = l * 2 by omega, c0]
      refine ⟨fun q3 => zX8_kind_95 ?_, fun q3 => s_get R (by omega) (by omega) (by omega) (by omega) ?_⟩
      · rw [if_neg q3] at e'
        rw [x32_id (by omega) (by omega), show (l : Int) + -1 = (l : Int) - 1 by omega]
        exact l_kind hs I hQ l n k (by omega) h1 h2 h3 e'
      · rw [if_pos q3] at e'
        rw [show ((l : Int) * ((2 : Nat) : Int) + 1).toNat = l * 2 + 1 by omega, c1, x32_id (show -2147483648 ≤ (n : Int) + 1 by omega) (by omega), x32_id (show -2147483648 ≤ k + h.2 96 (11611 + 3 * l) by omega) (by omega), x32_id (show -2147483648 ≤ (l : Int) + -1 by omega) (by omega), show (l : Int) + -1 = (l : Int) - 1 by omega, show (n : Int) + 1 = ((n + 1 : Nat) : Int) by omega]
        exact l_kind hs I hQ l (n + 1) _ (by omega) (by omega) (by omega) (by omega) e'
theorem l_rkind {p b : Int} {Q : Int → xH → Prop} (mm : pM (h.2 96)) (hQ : ∀ {w1 w6 w7 w8 : xV}, zJ g (D + 1) 211 0 0 125 [xr 95, w1, xi b, xi (kf (h.2 96) p (h.2 96 9).toNat 0 0).1, xi (kf (h.2 96) p (h.2 96 9).toNat 0 0).2, xl (pw 10 (kf (h.2 96) p (h.2 96 9).toNat 0 0).1), w6, w7, w8] [] h (x_ql2 Q)) : ∀ (l n : Nat) (k : Int) {w6 w8 : xV}, (l : Int) ≤ h.2 96 9 → n ≤ 12 → 0 ≤ k → k ≤ n → kf (h.2 96) p l n k = kf (h.2 96) p (h.2 96 9).toNat 0 0 → zJ g (D + 1) 211 0 0 40 [xr 95, xi p, xi b, xi n, xi k, xl (pw 10 n), w6, xi ((l : Int) - 1), w8] [] h (x_ql2 Q)
  | 0, n, k, w6, w8, hl, h1, h2, h3, e => by
    rw [← e] at hQ
    exact zX9_kind_40 ⟨fun _ => hQ, fun z => by omega⟩
  | l + 1, n, k, w6, w8, hl, h1, h2, h3, e => by
    have z := pM_z mm
    have r := look_r mm (l := l) (by omega)
    obtain ⟨s, hs⟩ : ∃ s : Nat, h.2 96 (11610 + 3 * l) = (s : Int) := ⟨(h.2 96 (11610 + 3 * l)).toNat, by omega⟩
    have rs := seal_r mm (s := s) (by omega)
    obtain ⟨d, hd⟩ : ∃ d : Nat, h.2 96 (11130 + 6 * s) = (d : Int) := ⟨(h.2 96 (11130 + 6 * s)).toNat, by omega⟩
    have em : mst (h.2 96) l = h.2 96 (150 + 20 * d) := by unfold mst; rw [show (h.2 96 (11610 + 3 * l)).toNat = s by omega, show (h.2 96 (11130 + 6 * s)).toNat = d by omega]
    rw [show ((l + 1 : Nat) : Int) - 1 = (l : Int) by omega]
    have e' : (if 12 ≤ n then (n, k) else if mst (h.2 96) l = p then kf (h.2 96) p l (n + 1) (k + h.2 96 (11611 + 3 * l)) else kf (h.2 96) p l n k) = kf (h.2 96) p (h.2 96 9).toNat 0 0 := e
    refine zX9_kind_40 ⟨fun q => by omega, fun q => ⟨fun q2 => ?_, fun q2 => ?_⟩⟩
    · rw [if_pos (by omega)] at e'
      rw [← e'] at hQ
      exact hQ
    · rw [if_neg (by omega)] at e'
      rw [x32_id (show -2147483648 ≤ 3 * (l : Int) by omega) (by omega), x32_id (show -2147483648 ≤ 11610 + 3 * (l : Int) by omega) (by omega), show (11610 + 3 * (l : Int)).toNat = 11610 + 3 * l by omega, hs]
      refine ⟨by omega, r_sealAt (c := 0) (by omega) (by decide) ?_⟩
      rw [show 11130 + 0 + 6 * s = 11130 + 6 * s by omega, hd, x32_id (show -2147483648 ≤ 20 * (d : Int) by omega) (by omega), x32_id (show -2147483648 ≤ 150 + 20 * (d : Int) by omega) (by omega), show (150 + 20 * (d : Int)).toNat = 150 + 20 * d by omega, ← em]
      refine ⟨by omega, fun q3 => zX9_kind_88 ?_, fun q3 => ?_⟩
      · rw [if_pos q3] at e'
        have t := pw_10 (n + 1) (by omega)
        have t : 1 ≤ pw 10 n * 10 ∧ pw 10 n * 10 ≤ 1000000000000 := t
        rw [x32_id (show -2147483648 ≤ 3 * (l : Int) by omega) (by omega), x32_id (show -2147483648 ≤ 11610 + 3 * (l : Int) by omega) (by omega), x32_id (show -2147483648 ≤ 11610 + 3 * (l : Int) + 1 by omega) (by omega), show (11610 + 3 * (l : Int) + 1).toNat = 11611 + 3 * l by omega, x32_id (show -2147483648 ≤ (n : Int) + 1 by omega) (by omega), x32_id (show -2147483648 ≤ k + h.2 96 (11611 + 3 * l) by omega) (by omega), x64_id (show -9223372036854775808 ≤ pw 10 n * 10 by omega) (by omega), x32_id (show -2147483648 ≤ (l : Int) + -1 by omega) (by omega), show (l : Int) + -1 = (l : Int) - 1 by omega, show (n : Int) + 1 = ((n + 1 : Nat) : Int) by omega]
        exact ⟨by omega, l_rkind mm hQ l (n + 1) _ (by omega) (by omega) (by omega) (by omega) e'⟩
      · rw [if_neg q3] at e'
        rw [x32_id (by omega) (by omega), show (l : Int) + -1 = (l : Int) - 1 by omega]
        exact l_rkind mm hQ l n k (by omega) h1 h2 h3 e'
end KD
theorem op_kind {g : xG} {D : Nat} {h : xH} {a b : Int} (I : zInv h) : zSl g (D + 5) mX8_kind [xr 16, xi a, xi b] h (fun x h1 => zSl g (D + 5) mX9_kind [xr 95, xi a, xi b] h1 (fun y h2 => x = y ∧ zInv h2)) := by
  refine zS_sh (fun hs => ?_)
  have Z := zB_of hs I
  have B := rB_inv I
  have z := pM_z I.1
  have al := I.1.1.2.2.1
  have hday : h.2 17 14 = h.2 96 0 := I.2.2.1.2.1.2.1
  have hal : h.2 17 15 = h.2 96 14 := I.2.2.1.2.1.2.2.1
  have hsz : h.2 20 3 = h.2 96 2 := ((I.2.2.1.1 1 (by decide)) (by decide)).1
  have hsz7 : h.2 32 3 = h.2 96 9 := ((I.2.2.1.1 7 (by decide)) (by decide)).1
  have R : pR h 20 21 30 3 := z_R hs rfl rfl rfl rfl rfl (by decide)
  have no : ¬ ((0 ≤ a ∧ a < h.2 96 2) ∧ (0 ≤ b ∧ b ≤ 3)) → zSl g (D + 5) mX9_kind [xr 95, xi a, xi b] h (fun y h2 => -1 = y ∧ zInv h2) := by
    intro hno
    exact eX9_kind (zX9_kind_0 (s_isPerson (by omega) (fun y hy => ⟨fun w => zX9_kind_17 ⟨rfl, I⟩, fun w => s_in (fun y2 hy2 => ⟨fun w2 => by omega, fun w2 => ⟨rfl, I⟩⟩)⟩)))
  refine eX8_kind (zX8_kind_0 (s_has R.1 (fun x hx => ⟨fun q => zX8_kind_23 (no (by omega)), fun q => s_win (fun x2 hx2 => ⟨fun q2 => zX8_kind_27 ?_, fun q2 => no (by omega)⟩)⟩)))
  have kb := kf_b (p := a) I.1 (h.2 96 9).toNat 0 0 (by omega) (by omega) (by omega) (by omega)
  rw [hsz7, x32_id (by omega) (by omega)]
  -- the reference up to the loop's end
  have go : ∀ {Q : Int → xH → Prop}, (∀ {w1 w6 w7 w8 : xV}, zJ g (D + 5) 211 0 0 125 [xr 95, w1, xi b, xi (kf (h.2 96) a (h.2 96 9).toNat 0 0).1, xi (kf (h.2 96) a (h.2 96 9).toNat 0 0).2, xl (pw 10 (kf (h.2 96) a (h.2 96 9).toNat 0 0).1), w6, w7, w8] [] h (x_ql2 Q)) → zSl g (D + 5) mX9_kind [xr 95, xi a, xi b] h Q := by
    intro Q k
    refine eX9_kind (zX9_kind_0 (s_isPerson (by omega) (fun y hy => ⟨fun w => by omega, fun w => s_in (fun y2 hy2 => ⟨fun w2 => zX9_kind_21 ?_, fun w2 => by omega⟩)⟩)))
    rw [x32_id (by omega) (by omega)]
    have := l_rkind (g := g) (D := D + 4) (w6 := xu) (w8 := xu) I.1 k (h.2 96 9).toNat 0 0 (by omega) (by omega) (by omega) (by omega) rfl
    rw [show (((h.2 96 9).toNat : Nat) : Int) = h.2 96 9 by omega] at this
    exact this
  have L := l_kind (g := g) (D := D + 4) (p := a) (b := b) (Q := fun x h1 => zSl g (D + 5) mX9_kind [xr 95, xi a, xi b] h1 (fun y h2 => x = y ∧ zInv h2)) (w6 := xu) (w7 := xu) (w8 := xu) hs I (fun {w1 w5 w6 w7 w8} => ?_) (h.2 96 9).toNat 0 0 (by omega) (by omega) (by omega) (by omega) rfl
  · rw [show (((h.2 96 9).toNat : Nat) : Int) = h.2 96 9 by omega] at L
    exact L
  · generalize hk : kf (h.2 96) a (h.2 96 9).toNat 0 0 = kk at kb go
    obtain ⟨n, k⟩ := kk
    (try dsimp only at kb go ⊢)
    refine zX8_kind_101 ⟨fun q3 => zX8_kind_119 ?_, fun q3 => ⟨fun q4 => zX8_kind_115 ?_, fun q4 => ?_⟩⟩
    · rw [hal]
      refine s_chance (by omega) al ⟨fun q4 => zX8_kind_142 ?_, fun q4 => go (fun {_ _ _ _} => zX9_kind_125 ⟨fun _ => zX9_kind_143 (r_chance (by omega) (by omega) al rfl ⟨fun q5 => absurd q4 q5, fun _ => ⟨rfl, I⟩⟩), fun q5 => by omega⟩)⟩
      rw [hday]
      refine s_told (k := 9) Z (by decide) (s_power (by decide) (by omega) ?_)
      have tb : 0 ≤ nO (h.2 96) (-1) 9 (h.2 96 0) 5 ∧ nO (h.2 96) (-1) 9 (h.2 96 0) 5 ≤ 100 := nO_b B.1 (Or.inl rfl) 9 (h.2 96 0) 5 0 100 (by omega) (by omega)
      rw [show x_ltv 2 9 = 5 from rfl, show ((9 : Nat) : Int) = 9 from rfl]
      have cb := chn_b (n := n) (m := n + 1) (k := k) (al := h.2 96 14) (by omega) (by omega) al
      have t := pw_10 n (by omega)
      have m1 : 0 ≤ nO (h.2 96) (-1) 9 (h.2 96 0) 5 * pw 10 n := Int.mul_nonneg tb.1 (by omega)
      have m2 : nO (h.2 96) (-1) 9 (h.2 96 0) 5 * pw 10 n ≤ 100 * 1000000000000 := Int.mul_le_mul tb.2 t.2 (by omega) (by omega)
      rw [x64_id (show -9223372036854775808 ≤ 100 * chn n k (h.2 96 14) (n + 1) by omega) (by omega), x64_id (show -9223372036854775808 ≤ nO (h.2 96) (-1) 9 (h.2 96 0) 5 * pw 10 n by omega) (by omega)]
      -- the reference's end
      have rend : ∀ u : Int, ((0 < (n : Int) ∧ x_cmp (100 * chn n k (h.2 96 14) (n + 1)) (nO (h.2 96) (-1) 9 (h.2 96 0) 5 * pw 10 n) < 0) → u = 1) → (¬ (0 < (n : Int) ∧ x_cmp (100 * chn n k (h.2 96 14) (n + 1)) (nO (h.2 96) (-1) 9 (h.2 96 0) 5 * pw 10 n) < 0) → u = 0) → zSl g (D + 5) mX9_kind [xr 95, xi a, xi b] h (fun y h2 => u = y ∧ zInv h2) := by
        intro u u1 u0
        refine go (fun {_ _ _ _} => zX9_kind_125 ⟨fun _ => zX9_kind_143 (r_chance (by omega) (by omega) al rfl ⟨fun q5 => zX9_kind_162 ⟨fun q6 => zX9_kind_197 ⟨u0 (by omega), I⟩, fun q6 => r_numberOf (k := 9) B.1 ?_⟩, fun q5 => absurd q5 q4⟩), fun q5 => by omega⟩)
        rw [show ((9 : Nat) : Int) = 9 from rfl, x64_id (show -9223372036854775808 ≤ 100 * chn n k (h.2 96 14) (n + 1) by omega) (by omega), x64_id (show -9223372036854775808 ≤ nO (h.2 96) (-1) 9 (h.2 96 0) 5 * pw 10 n by omega) (by omega)]
        exact ⟨fun q7 => zX9_kind_197 ⟨u0 (by omega), I⟩, fun q7 => ⟨u1 ⟨q6, q7⟩, I⟩⟩
      exact ⟨fun q6 => zX8_kind_188 (rend 0 (fun r => by omega) (fun _ => rfl)), fun q6 => ⟨fun q7 => zX8_kind_188 (rend 0 (fun r => by omega) (fun _ => rfl)), fun q7 => rend 1 (fun _ => rfl) (fun r => absurd ⟨q6, q7⟩ r)⟩⟩
    · exact go (fun {_ _ _ _} => zX9_kind_125 ⟨fun q5 => by omega, fun q5 => ⟨fun q6 => zX9_kind_139 ⟨rfl, I⟩, fun q6 => absurd q6 q4⟩⟩)
    · exact go (fun {_ _ _ _} => zX9_kind_125 ⟨fun q5 => by omega, fun q5 => ⟨fun q6 => absurd q4 q6, fun q6 => ⟨rfl, I⟩⟩⟩)
