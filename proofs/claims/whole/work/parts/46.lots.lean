/-! sums; lots as they are counted -/
theorem sg_bd {f : Nat → Int} {B : Int} : ∀ {n : Nat}, (∀ i, i < n → 0 ≤ f i ∧ f i ≤ B) → 0 ≤ sg f n ∧ sg f n ≤ (n : Int) * B
  | 0, _ => by show 0 ≤ (0 : Int) ∧ (0 : Int) ≤ ((0 : Nat) : Int) * B; simp
  | n + 1, h => by
    have h1 := sg_bd (f := f) (B := B) (n := n) (fun i hi => h i (by omega))
    have h2 := h n (by omega)
    show 0 ≤ sg f n + f n ∧ sg f n + f n ≤ ((n + 1 : Nat) : Int) * B
    rw [show ((n + 1 : Nat) : Int) * B = (n : Int) * B + B by rw [Int.natCast_add, Int.add_mul]; omega]
    omega
theorem sg_zero {f : Nat → Int} : ∀ {n : Nat}, (∀ i, i < n → f i = 0) → sg f n = 0
  | 0, _ => rfl
  | n + 1, h => by show sg f n + f n = 0; rw [sg_zero (fun i hi => h i (by omega)), h n (by omega)]; rfl
theorem sg_point {F : Nat → Int} {x : Nat} : ∀ {N : Nat}, x < N → sg F N = sg (fun y => if y = x then 0 else F y) N + F x
  | 0, h => by omega
  | N + 1, h => by
    show sg F N + F N = sg (fun y => if y = x then 0 else F y) N + (if N = x then 0 else F N) + F x
    by_cases e : N = x
    · subst e
      rw [if_pos rfl, sg_congr (f := fun y => if y = N then 0 else F y) (f' := F) (fun i hi => by show (if i = N then 0 else F i) = F i; rw [if_neg (by omega)])]
      omega
    · rw [if_neg e, sg_point (show x < N by omega)]; omega
theorem sg_inj {N : Nat} : ∀ (m : Nat) (ρ : Nat → Nat) (F : Nat → Int), (∀ k, k < m → ρ k < N) → (∀ j k, j < m → k < m → ρ j = ρ k → j = k) → (∀ x, x < N → F x ≠ 0 → ∃ k, k < m ∧ ρ k = x) → sg (fun k => F (ρ k)) m = sg F N
  | 0, ρ, F, _, _, h3 => by
    rw [sg_zero (f := F)]; · rfl
    intro i hi
    by_cases e : F i = 0
    · exact e
    · obtain ⟨k, hk, -⟩ := h3 i hi e; omega
  | m + 1, ρ, F, h1, h2, h3 => by
    rw [sg_point (F := F) (h1 m (by omega))]
    show sg (fun k => F (ρ k)) m + F (ρ m) = _
    rw [← sg_inj m ρ (fun y => if y = ρ m then 0 else F y) (fun k hk => h1 k (by omega)) (fun j k hj hk => h2 j k (by omega) (by omega)) (fun x hx hF => ?_)]
    · rw [sg_congr (f := fun k => if ρ k = ρ m then 0 else F (ρ k)) (f' := fun k => F (ρ k))]
      intro i hi
      show (if ρ i = ρ m then 0 else F (ρ i)) = F (ρ i)
      rw [if_neg (fun z => by have := h2 i m (by omega) (by omega) z; omega)]
    · have hF : (if x = ρ m then 0 else F x) ≠ 0 := hF
      by_cases e : x = ρ m
      · rw [if_pos e] at hF; exact absurd rfl hF
      · rw [if_neg e] at hF
        obtain ⟨k, hk, e2⟩ := h3 x hx hF
        refine ⟨k, ?_, e2⟩
        have : k ≠ m := fun z => e (by rw [← e2, z])
        omega
/-- how many hanks, how many threads were counted of a lot -/
def lH (A : Nat → Int) (i : Nat) : Int := sg (fun x => if 0 ≤ A (12693 + 100 * i + x) then 1 else 0) 40
def lT (A : Nat → Int) (i : Nat) : Int := sg (fun x => max 0 (A (12693 + 100 * i + x))) 40
/-- what a lot is -/
theorem lot_ok {h : xH} {i : Nat} (I : zInv h) (hi : (i : Int) < h.2 96 12) : (1 ≤ h.2 96 (12650 + 100 * i) ∧ h.2 96 (12650 + 100 * i) ≤ 40) ∧ (0 ≤ h.2 96 (12651 + 100 * i) ∧ h.2 96 (12651 + 100 * i) ≤ h.2 96 (12650 + 100 * i)) ∧ (0 ≤ h.2 96 (12652 + 100 * i) ∧ h.2 96 (12652 + 100 * i) ≤ 500) ∧
      (∀ k : Nat, (k : Int) < h.2 96 (12651 + 100 * i) → 0 ≤ h.2 96 (12653 + 100 * i + k) ∧ h.2 96 (12653 + 100 * i + k) < h.2 96 (12650 + 100 * i)) ∧ (∀ j k : Nat, (j : Int) < h.2 96 (12651 + 100 * i) → (k : Int) < h.2 96 (12651 + 100 * i) → h.2 96 (12653 + 100 * i + j) = h.2 96 (12653 + 100 * i + k) → j = k) ∧
      ∀ k : Nat, k < 40 → -1 ≤ h.2 96 (12693 + 100 * i + k) ∧ h.2 96 (12693 + 100 * i + k) ≤ h.2 96 (12652 + 100 * i) ∧ (0 ≤ h.2 96 (12693 + 100 * i + k) → ∃ j : Nat, (j : Int) < h.2 96 (12651 + 100 * i) ∧ h.2 96 (12653 + 100 * i + j) = (k : Int)) := I.1.2.2 11 (by decide) (by decide) i hi
theorem lot_c {h : xH} {i : Nat} (I : zInv h) (hi : (i : Int) < h.2 96 12) : h.2 41 (i * 83) = h.2 96 (12650 + 100 * i) ∧ h.2 41 (i * 83 + 1) = h.2 96 (12651 + 100 * i) ∧ h.2 41 (i * 83 + 2) = h.2 96 (12652 + 100 * i) := by
  have c := ((I.2.2.1.1 11 (by decide)) (by decide)).2 i hi
  have e1 := c (1, 1) (by decide)
  have e2 := c (2, 2) (by decide)
  refine ⟨c (0, 0) (by decide), ?_, ?_⟩
  · rw [show 12651 + 100 * i = 12650 + 100 * i + 1 by omega]; exact e1
  · rw [show 12652 + 100 * i = 12650 + 100 * i + 2 by omega]; exact e2
theorem lot_sum {h : xH} {i m : Nat} (I : zInv h) (hi : (i : Int) < h.2 96 12) (hm : h.2 96 (12651 + 100 * i) = (m : Int)) (F : Int → Int) (hF : F (-1) = 0) : sg (fun k => F (h.2 41 (i * 83 + 43 + k))) m = sg (fun x => F (h.2 96 (12693 + 100 * i + x))) 40 := by
  obtain ⟨r1, r2, r3, r4, r5, r6⟩ := lot_ok I hi
  rw [hm] at r2 r4 r5 r6
  have key := sg_inj (N := 40) m (fun k => (h.2 96 (12653 + 100 * i + k)).toNat) (fun x => F (h.2 96 (12693 + 100 * i + x))) (fun k hk => by have := r4 k (by omega); show (h.2 96 (12653 + 100 * i + k)).toNat < 40; omega) (fun j k hj hk e => by
    have a1 := r4 j (by omega)
    have a2 := r4 k (by omega)
    exact r5 j k (by omega) (by omega) (by (try dsimp only at e); omega)) (fun x hx hne => by
    have a1 := r6 x hx
    by_cases e : h.2 96 (12693 + 100 * i + x) = -1
    · exact absurd (by show F (h.2 96 (12693 + 100 * i + x)) = 0; rw [e, hF]) hne
    · obtain ⟨j, j1, j2⟩ := a1.2.2 (by omega)
      exact ⟨j, by omega, by show (h.2 96 (12653 + 100 * i + j)).toNat = x; omega⟩)
  rw [← key]
  refine sg_congr (fun k hk => ?_)
  show F (h.2 41 (i * 83 + 43 + k)) = F (h.2 96 (12693 + 100 * i + (h.2 96 (12653 + 100 * i + k)).toNat))
  have p4 : h.2 41 (i * 83 + 3 + k) = h.2 96 (12653 + 100 * i + k) ∧ h.2 41 (i * 83 + 43 + k) = h.2 96 (12693 + 100 * i + (h.2 96 (12653 + 100 * i + k)).toNat) := I.2.2.1.2.2.2.1 i hi k (by omega)
  rw [p4.2]
theorem l_cH {g : xG} {D i m : Nat} {h : xH} {Q : Int → xH → Prop} (R : pR h 40 41 10 83) (hi : i < 10) (hm : m ≤ 40) (hQ : Q (sg (fun k => if h.2 41 (i * 83 + 43 + k) = -1 then 0 else 1) m) h) : ∀ (q k : Nat), k + q = m → zJ g (D + 1) 133 0 0 18 [xr 16, xi i, xi (sg (fun k => if h.2 41 (i * 83 + 43 + k) = -1 then 0 else 1) k), xi m, xi k] [] h (x_qi Q)
  | 0, k, e => by
    have : k = m := by omega
    subst this
    exact zX8_countedHanks_18 ⟨fun _ => zX8_countedHanks_53 hQ, fun z => by omega⟩
  | q + 1, k, e => by
    have b := sg_bd (f := fun k => if h.2 41 (i * 83 + 43 + k) = -1 then 0 else 1) (B := 1) (n := k) (fun j _ => by (try dsimp only); split <;> omega)
    refine zX8_countedHanks_18 ⟨fun z => by omega, fun z => ?_⟩
    rw [x32_id (by omega) (by omega)]
    refine s_get R (by omega) (by omega) (by omega) (by omega) ?_
    rw [show ((i : Int) * ((83 : Nat) : Int) + (43 + (k : Int))).toNat = i * 83 + 43 + k by omega]
    have ih := l_cH (g := g) (D := D) R hi hm hQ q (k + 1) (by omega)
    rw [show sg (fun k => if h.2 41 (i * 83 + 43 + k) = -1 then 0 else 1) (k + 1) = sg (fun k => if h.2 41 (i * 83 + 43 + k) = -1 then 0 else 1) k + (if h.2 41 (i * 83 + 43 + k) = -1 then 0 else 1) from rfl] at ih
    refine ⟨fun y => zX8_countedHanks_47 ?_, fun y => ?_⟩
    · rw [x32_id (by omega) (by omega)]
      rw [if_pos y, Int.add_zero] at ih
      exact ih
    · rw [x32_id (by omega) (by omega), x32_id (by omega) (by omega)]
      rw [if_neg y] at ih
      exact ih
theorem l_cT {g : xG} {D i m : Nat} {h : xH} {Q : Int → xH → Prop} (R : pR h 40 41 10 83) (hi : i < 10) (hm : m ≤ 40) (hb : ∀ k, k < m → h.2 41 (i * 83 + 43 + k) ≤ 500) (hQ : Q (sg (fun k => max 0 (h.2 41 (i * 83 + 43 + k))) m) h) : ∀ (q k : Nat), k + q = m → zJ g (D + 1) 134 0 0 18 [xr 16, xi i, xi (sg (fun k => max 0 (h.2 41 (i * 83 + 43 + k))) k), xi m, xi k] [] h (x_qi Q)
  | 0, k, e => by
    have : k = m := by omega
    subst this
    exact zX8_countedThreads_18 ⟨fun _ => zX8_countedThreads_53 hQ, fun z => by omega⟩
  | q + 1, k, e => by
    have b := sg_bd (f := fun k => max 0 (h.2 41 (i * 83 + 43 + k))) (B := 500) (n := k) (fun j hj => by have := hb j (by omega); (try dsimp only); omega)
    have b2 := hb k (by omega)
    refine zX8_countedThreads_18 ⟨fun z => by omega, fun z => ?_⟩
    rw [x32_id (by omega) (by omega)]
    refine s_get R (by omega) (by omega) (by omega) (by omega) ?_
    rw [show ((i : Int) * ((83 : Nat) : Int) + (43 + (k : Int))).toNat = i * 83 + 43 + k by omega]
    have ih := l_cT (g := g) (D := D) R hi hm hb hQ q (k + 1) (by omega)
    rw [show sg (fun k => max 0 (h.2 41 (i * 83 + 43 + k))) (k + 1) = sg (fun k => max 0 (h.2 41 (i * 83 + 43 + k))) k + max 0 (h.2 41 (i * 83 + 43 + k)) from rfl] at ih
    rw [x32_id (by omega) (by omega), x32_id (by omega) (by omega)]
    exact ih
theorem lH_bd {h : xH} {i : Nat} : 0 ≤ lH (h.2 96) i ∧ lH (h.2 96) i ≤ 40 := by
  have := sg_bd (f := fun x => if 0 ≤ h.2 96 (12693 + 100 * i + x) then 1 else 0) (B := 1) (n := 40) (fun j _ => by (try dsimp only); split <;> omega)
  unfold lH; omega
theorem lT_bd {h : xH} {i : Nat} (I : zInv h) (hi : (i : Int) < h.2 96 12) : 0 ≤ lT (h.2 96) i ∧ lT (h.2 96) i ≤ 20000 := by
  obtain ⟨r1, r2, r3, r4, r5, r6⟩ := lot_ok I hi
  have := sg_bd (f := fun x => max 0 (h.2 96 (12693 + 100 * i + x))) (B := 500) (n := 40) (fun j hj => by have := r6 j hj; (try dsimp only); omega)
  unfold lT; omega
theorem s_cH {g : xG} {D i : Nat} {h : xH} {Q : Int → xH → Prop} (hs : zSh h) (I : zInv h) (hi : (i : Int) < h.2 96 12) (hQ : Q (lH (h.2 96) i) h) : zSi g (D + 1) mX8_countedHanks [xr 16, xi i] h Q := by
  have R : pR h 40 41 10 83 := z_R hs rfl rfl rfl rfl rfl (by decide)
  have hz : 0 ≤ h.2 96 12 ∧ h.2 96 12 ≤ 10 := I.1.1.2.2.2.2.2.2 11 (by decide) (by decide)
  obtain ⟨r1, r2, r3, r4, r5, r6⟩ := lot_ok I hi
  obtain ⟨m, hm⟩ : ∃ m : Nat, h.2 96 (12651 + 100 * i) = (m : Int) := ⟨(h.2 96 (12651 + 100 * i)).toNat, by omega⟩
  refine eX8_countedHanks (zX8_countedHanks_0 (s_get R (by omega) (by omega) (by omega) (by omega) ?_))
  rw [show ((i : Int) * ((83 : Nat) : Int) + 1).toNat = i * 83 + 1 by omega, (lot_c I hi).2.1, hm]
  refine l_cH R (by omega) (by omega) ?_ m 0 (by omega)
  have := lot_sum I hi hm (fun c => if c = -1 then 0 else 1) rfl
  (try dsimp only at this)
  rw [this, sg_congr (f' := fun x => if 0 ≤ h.2 96 (12693 + 100 * i + x) then 1 else 0)]
  · exact hQ
  · intro x hx
    have := r6 x hx
    try dsimp only
    by_cases e : h.2 96 (12693 + 100 * i + x) = -1
    · rw [if_pos e, if_neg (by omega)]
    · rw [if_neg e, if_pos (by omega)]
theorem s_cT {g : xG} {D i : Nat} {h : xH} {Q : Int → xH → Prop} (hs : zSh h) (I : zInv h) (hi : (i : Int) < h.2 96 12) (hQ : Q (lT (h.2 96) i) h) : zSi g (D + 1) mX8_countedThreads [xr 16, xi i] h Q := by
  have R : pR h 40 41 10 83 := z_R hs rfl rfl rfl rfl rfl (by decide)
  have hz : 0 ≤ h.2 96 12 ∧ h.2 96 12 ≤ 10 := I.1.1.2.2.2.2.2.2 11 (by decide) (by decide)
  obtain ⟨r1, r2, r3, r4, r5, r6⟩ := lot_ok I hi
  obtain ⟨m, hm⟩ : ∃ m : Nat, h.2 96 (12651 + 100 * i) = (m : Int) := ⟨(h.2 96 (12651 + 100 * i)).toNat, by omega⟩
  refine eX8_countedThreads (zX8_countedThreads_0 (s_get R (by omega) (by omega) (by omega) (by omega) ?_))
  rw [show ((i : Int) * ((83 : Nat) : Int) + 1).toNat = i * 83 + 1 by omega, (lot_c I hi).2.1, hm]
  refine l_cT R (by omega) (by omega) (fun k hk => ?_) ?_ m 0 (by omega)
  · have p4 : h.2 41 (i * 83 + 3 + k) = h.2 96 (12653 + 100 * i + k) ∧ h.2 41 (i * 83 + 43 + k) = h.2 96 (12693 + 100 * i + (h.2 96 (12653 + 100 * i + k)).toNat) := I.2.2.1.2.2.2.1 i hi k (by omega)
    have a1 := r4 k (by omega)
    have a2 := r6 (h.2 96 (12653 + 100 * i + k)).toNat (by omega)
    rw [p4.2]; omega
  · have := lot_sum I hi hm (fun c => max 0 c) rfl
    (try dsimp only at this)
    rw [this]
    exact hQ
theorem l_cO {g : xG} {D i : Nat} {t : Int} {h : xH} {Q : Int → xH → Prop} (hi : i < 10) (ht : t = 0 ∨ t = 1) (hb : ∀ k, k < 40 → h.2 96 (12693 + 100 * i + k) ≤ 500) (hQ : Q (sg (fun x => if h.2 96 (12693 + 100 * i + x) < 0 then 0 else if t = 0 then 1 else h.2 96 (12693 + 100 * i + x)) 40) h) : ∀ (q k : Nat) {w5 : xV}, k + q = 40 → zJ g D 239 0 0 5 [xr 95, xi i, xi t, xi (sg (fun x => if h.2 96 (12693 + 100 * i + x) < 0 then 0 else if t = 0 then 1 else h.2 96 (12693 + 100 * i + x)) k), xi k, w5] [] h (x_qi Q)
  | 0, k, w5, e => by
    have : k = 40 := by omega
    subst this
    exact zX9_countedOf_5 ⟨fun _ => zX9_countedOf_57 hQ, fun z => by omega⟩
  | q + 1, k, w5, e => by
    have b := sg_bd (f := fun x => if h.2 96 (12693 + 100 * i + x) < 0 then 0 else if t = 0 then 1 else h.2 96 (12693 + 100 * i + x)) (B := 500) (n := k) (fun j hj => by
      have := hb j (by omega)
      (try dsimp only)
      by_cases e1 : h.2 96 (12693 + 100 * i + j) < 0
      · rw [if_pos e1]; omega
      · rw [if_neg e1]; split <;> omega)
    have b2 := hb k (by omega)
    refine zX9_countedOf_5 ⟨fun z => by omega, fun z => ?_⟩
    rw [x32_id (show -2147483648 ≤ 100 * (i : Int) by omega) (by omega), x32_id (show -2147483648 ≤ 12650 + 100 * (i : Int) by omega) (by omega), x32_id (show -2147483648 ≤ 12650 + 100 * (i : Int) + 43 by omega) (by omega), x32_id (show -2147483648 ≤ 12650 + 100 * (i : Int) + 43 + k by omega) (by omega), show (12650 + 100 * (i : Int) + 43 + k).toNat = 12693 + 100 * i + k by omega]
    have ih := @l_cO g D i t h Q hi ht hb hQ q (k + 1)
    rw [show sg (fun x => if h.2 96 (12693 + 100 * i + x) < 0 then 0 else if t = 0 then 1 else h.2 96 (12693 + 100 * i + x)) (k + 1) = sg (fun x => if h.2 96 (12693 + 100 * i + x) < 0 then 0 else if t = 0 then 1 else h.2 96 (12693 + 100 * i + x)) k + (if h.2 96 (12693 + 100 * i + k) < 0 then 0 else if t = 0 then 1 else h.2 96 (12693 + 100 * i + k)) from rfl] at ih
    refine ⟨by omega, fun y => zX9_countedOf_51 ?_, fun y => ⟨fun y2 => zX9_countedOf_48 ?_, fun y2 => ?_⟩⟩
    · rw [x32_id (by omega) (by omega)]
      rw [if_pos y, Int.add_zero] at ih
      exact ih (by omega)
    · rw [x32_id (by omega) (by omega), x32_id (by omega) (by omega)]
      rw [if_neg (by omega), if_pos y2] at ih
      exact ih (by omega)
    · rw [x32_id (by omega) (by omega), x32_id (by omega) (by omega)]
      rw [if_neg (by omega), if_neg y2] at ih
      exact ih (by omega)
theorem s_cO {g : xG} {D i : Nat} {t : Int} {h : xH} {Q : Int → xH → Prop} (I : zInv h) (hi : (i : Int) < h.2 96 12) (ht : t = 0 ∨ t = 1) (hQ : Q (if t = 0 then lH (h.2 96) i else lT (h.2 96) i) h) : zSi g D mX9_countedOf [xr 95, xi i, xi t] h Q := by
  have hz : 0 ≤ h.2 96 12 ∧ h.2 96 12 ≤ 10 := I.1.1.2.2.2.2.2.2 11 (by decide) (by decide)
  obtain ⟨r1, r2, r3, r4, r5, r6⟩ := lot_ok I hi
  refine eX9_countedOf (zX9_countedOf_0 (l_cO (by omega) ht (fun k hk => by have := r6 k hk; omega) ?_ 40 0 (by omega)))
  rcases ht with e | e
  · rw [if_pos e] at hQ
    subst e
    rw [sg_congr (f' := fun x => if 0 ≤ h.2 96 (12693 + 100 * i + x) then 1 else 0)]
    · exact hQ
    · intro x hx
      try dsimp only
      by_cases e : h.2 96 (12693 + 100 * i + x) < 0
      · rw [if_pos e, if_neg (by omega)]
      · rw [if_neg e, if_pos rfl, if_pos (by omega)]
  · rw [if_neg (by omega)] at hQ
    subst e
    rw [sg_congr (f' := fun x => max 0 (h.2 96 (12693 + 100 * i + x)))]
    · exact hQ
    · intro x hx
      try dsimp only
      by_cases e : h.2 96 (12693 + 100 * i + x) < 0
      · rw [if_pos e]; omega
      · rw [if_neg e, if_neg (by omega)]; omega
theorem op_lotOf {g : xG} {D : Nat} {h : xH} {a b : Int} (I : zInv h) : zSi g (D + 3) mX8_lotOf [xr 16, xi a, xi b] h (fun x h1 => zSi g (D + 3) mX9_lotOf [xr 95, xi a, xi b] h1 (fun y h2 => x = y ∧ zInv h2)) := by
  refine zS_sh (fun hs => ?_)
  have hz : 0 ≤ h.2 96 12 ∧ h.2 96 12 ≤ 10 := I.1.1.2.2.2.2.2.2 11 (by decide) (by decide)
  have hsz : h.2 40 3 = h.2 96 12 := ((I.2.2.1.1 11 (by decide)) (by decide)).1
  have R : pR h 40 41 10 83 := z_R hs rfl rfl rfl rfl rfl (by decide)
  refine eX8_lotOf (zX8_lotOf_0 (s_has R.1 (fun x hx => ⟨fun z => zX8_lotOf_16 ?_, fun z => ?_⟩)))
  · obtain ⟨i, hi⟩ : ∃ i : Nat, a = (i : Int) := ⟨a.toNat, by omega⟩
    subst hi
    have hi : (i : Int) < h.2 96 12 := by omega
    obtain ⟨r1, r2, r3, r4, r5, r6⟩ := lot_ok I hi
    obtain ⟨c0, c1, c2⟩ := lot_c I hi
    have p0 : ((i : Int) * ((83 : Nat) : Int) + 0).toNat = i * 83 := by omega
    have p1 : ((i : Int) * ((83 : Nat) : Int) + 1).toNat = i * 83 + 1 := by omega
    have M : ∀ v : Int, (b = 0 → v = h.2 96 (12650 + 100 * i)) → (b = 1 → v = h.2 96 (12651 + 100 * i)) → (b = 2 → v = lH (h.2 96) i) → (b = 3 → v = lT (h.2 96) i) → (∀ k : Nat, b = 100 + (k : Int) → (k : Int) < h.2 96 (12651 + 100 * i) → v = h.2 96 (12653 + 100 * i + k)) → (¬ (0 ≤ b ∧ b ≤ 3) → ¬ (100 ≤ b ∧ b ≤ 99 + h.2 96 (12651 + 100 * i)) → v = -1) → zSi g (D + 3) mX9_lotOf [xr 95, xi i, xi b] h (fun y h2 => v = y ∧ zInv h2) := by
      intro v v0 v1 v2 v3 v4 v5
      refine eX9_lotOf (zX9_lotOf_0 (s_isLot hz (fun y hy => ⟨fun w => zX9_lotOf_10 ?_, fun w => by omega⟩)))
      rw [x32_id (show -2147483648 ≤ 100 * (i : Int) by omega) (by omega), x32_id (show -2147483648 ≤ 12650 + 100 * (i : Int) by omega) (by omega), show (12650 + 100 * (i : Int)).toNat = 12650 + 100 * i by omega]
      refine ⟨fun w0 => zX9_lotOf_30 ?_, fun w0 => ⟨by omega, v0 w0, I⟩⟩
      rw [x32_id (show -2147483648 ≤ 12650 + 100 * (i : Int) + 1 by omega) (by omega), show (12650 + 100 * (i : Int) + 1).toNat = 12651 + 100 * i by omega]
      refine ⟨fun w1 => zX9_lotOf_44 ⟨fun w2 => zX9_lotOf_54 ⟨fun w3 => zX9_lotOf_65 (s_cO I hi (Or.inl rfl) ⟨v2 w2, I⟩), fun w3 => by omega⟩, fun w2 => ⟨fun w3 => zX9_lotOf_70 ?_, fun w3 => zX9_lotOf_54 ⟨fun w4 => by omega, fun w4 => s_cO I hi (Or.inr rfl) ⟨v3 w3, I⟩⟩⟩⟩, fun w1 => ⟨by omega, v1 w1, I⟩⟩
      rw [x32_id (show -2147483648 ≤ 12650 + 100 * (i : Int) + 1 by omega) (by omega), show (12650 + 100 * (i : Int) + 1).toNat = 12651 + 100 * i by omega, x32_id (show -2147483648 ≤ 99 + h.2 96 (12651 + 100 * i) by omega) (by omega)]
      refine ⟨by omega, s_in (fun y2 hy2 => ⟨fun w4 => zX9_lotOf_106 ⟨v5 (by omega) (by omega), I⟩, fun w4 => ?_⟩)⟩
      obtain ⟨k, hk⟩ : ∃ k : Nat, b = 100 + (k : Int) := ⟨(b - 100).toNat, by omega⟩
      subst hk
      have vk := v4 k rfl (by omega)
      clear v0 v1 v2 v3 v4 v5
      simp (disch := omega) only [x32_id]
      rw [show (12650 + 100 * (i : Int) + 3 + (100 + (k : Int)) - 100).toNat = 12653 + 100 * i + k by omega]
      exact ⟨by omega, vk, I⟩
    refine ⟨fun z0 => zX8_lotOf_86 (s_get R (by omega) (by omega) (by omega) (by omega) ?_), fun z0 => zX8_lotOf_48 (s_get R (by omega) (by omega) (by omega) (by omega) ?_), fun z0 => zX8_lotOf_61 (s_get R (by omega) (by omega) (by omega) (by omega) ?_), fun z0 => zX8_lotOf_74 (s_cH hs I hi (M _ (by omega) (by omega) (fun _ => rfl) (by omega) (fun k hk => by omega) (by omega))), fun z0 => zX8_lotOf_80 (s_cT hs I hi (M _ (by omega) (by omega) (by omega) (fun _ => rfl) (fun k hk => by omega) (by omega))), trivial⟩
    · rw [p1, c1, x32_id (show -2147483648 ≤ 100 + h.2 96 (12651 + 100 * i) by omega) (by omega), x32_id (by omega) (by omega)]
      refine s_win (fun y hy => ⟨fun w => zX8_lotOf_116 ?_, fun w => M _ (by omega) (by omega) (by omega) (by omega) (fun k hk => by omega) (fun _ _ => rfl)⟩)
      obtain ⟨k, hk⟩ : ∃ k : Nat, b = 100 + (k : Int) := ⟨(b - 100).toNat, by omega⟩
      subst hk
      rw [x32_id (show -2147483648 ≤ 3 + (100 + (k : Int)) by omega) (by omega), x32_id (by omega) (by omega)]
      refine s_get R (by omega) (by omega) (by omega) (by omega) ?_
      rw [show ((i : Int) * ((83 : Nat) : Int) + (3 + (100 + (k : Int)) - 100)).toNat = i * 83 + 3 + k by omega]
      have p4 : h.2 41 (i * 83 + 3 + k) = h.2 96 (12653 + 100 * i + k) ∧ h.2 41 (i * 83 + 43 + k) = h.2 96 (12693 + 100 * i + (h.2 96 (12653 + 100 * i + k)).toNat) := I.2.2.1.2.2.2.1 i hi k (by omega)
      rw [p4.1]
      exact M _ (by omega) (by omega) (by omega) (by omega) (fun k' hk' _ => by rw [show k' = k by omega]) (by omega)
    · rw [p0, c0]
      exact M _ (fun _ => rfl) (by omega) (by omega) (by omega) (fun k hk => by omega) (by omega)
    · rw [p1, c1]
      exact M _ (by omega) (fun _ => rfl) (by omega) (by omega) (fun k hk => by omega) (by omega)
  · refine eX9_lotOf (zX9_lotOf_0 (s_isLot hz (fun y hy => ⟨fun w => by omega, fun w => ⟨rfl, I⟩⟩)))
theorem op_judge {g : xG} {D : Nat} {h : xH} {a b : Int} (I : zInv h) : zSi g (D + 3) mX8_judge [xr 16, xi a, xi b] h (fun x h1 => zSi g (D + 3) mX9_judge [xr 95, xi a, xi b] h1 (fun y h2 => x = y ∧ zInv h2)) := by
  refine zS_sh (fun hs => ?_)
  have hz : 0 ≤ h.2 96 12 ∧ h.2 96 12 ≤ 10 := I.1.1.2.2.2.2.2.2 11 (by decide) (by decide)
  have hsz : h.2 40 3 = h.2 96 12 := ((I.2.2.1.1 11 (by decide)) (by decide)).1
  have R : pR h 40 41 10 83 := z_R hs rfl rfl rfl rfl rfl (by decide)
  refine eX8_judge (zX8_judge_0 (s_has R.1 (fun x hx => ⟨fun z => zX8_judge_40 ?_, fun z => ?_⟩)))
  · refine eX9_judge (zX9_judge_0 (s_isLot hz (fun y hy => ⟨fun w => zX9_judge_37 ⟨rfl, I⟩, fun w => by omega⟩)))
  · obtain ⟨i, hi⟩ : ∃ i : Nat, a = (i : Int) := ⟨a.toNat, by omega⟩
    subst hi
    have hi : (i : Int) < h.2 96 12 := by omega
    obtain ⟨r1, r2, r3, r4, r5, r6⟩ := lot_ok I hi
    obtain ⟨c0, c1, c2⟩ := lot_c I hi
    have p0 : ((i : Int) * ((83 : Nat) : Int) + 0).toNat = i * 83 := by omega
    have p1 : ((i : Int) * ((83 : Nat) : Int) + 1).toNat = i * 83 + 1 := by omega
    have p2 : ((i : Int) * ((83 : Nat) : Int) + 2).toNat = i * 83 + 2 := by omega
    have q0 : (12650 + 100 * (i : Int)).toNat = 12650 + 100 * i := by omega
    have q1 : (12650 + 100 * (i : Int) + 1).toNat = 12651 + 100 * i := by omega
    have q2 : (12650 + 100 * (i : Int) + 2).toNat = 12652 + 100 * i := by omega
    have no : (h.2 96 (12651 + 100 * i) = 0 ∨ ¬ (0 ≤ b ∧ b ≤ 9999)) → zSi g (D + 3) mX9_judge [xr 95, xi i, xi b] h (fun y h2 => -1 = y ∧ zInv h2) := by
      intro hno
      refine eX9_judge (zX9_judge_0 (s_isLot hz (fun y hy => ⟨fun w => zX9_judge_37 ⟨rfl, I⟩, fun w => s_in (fun y2 hy2 => ⟨fun w2 => zX9_judge_37 ⟨rfl, I⟩, fun w2 => ?_⟩)⟩)))
      clear r4 r5 r6
      simp (disch := omega) only [x32_id]
      rw [q1]
      exact ⟨by omega, fun w3 => by omega, fun w3 => ⟨trivial, I⟩⟩
    refine s_get R (by omega) (by omega) (by omega) (by omega) ?_
    rw [p1, c1]
    refine ⟨fun z1 => zX8_judge_40 (no (Or.inl z1)), fun z1 => s_win (fun x2 hx2 => ⟨fun z2 => zX8_judge_42 (s_get R (by omega) (by omega) (by omega) (by omega) ?_), fun z2 => no (by omega)⟩)⟩
    rw [p0, c0]
    refine s_get R (by omega) (by omega) (by omega) (by omega) ?_
    rw [p2, c2]
    refine s_cT hs I hi (s_cH hs I hi ?_)
    have bT := lT_bd I hi
    have bH := lH_bd (h := h) (i := i)
    have yes : ∀ v : Int, (h.2 96 (12650 + 100 * i) * h.2 96 (12652 + 100 * i) - (lT (h.2 96) i + (h.2 96 (12650 + 100 * i) - lH (h.2 96) i) * h.2 96 (12652 + 100 * i)) > b → v = 2) → (¬ h.2 96 (12650 + 100 * i) * h.2 96 (12652 + 100 * i) - (lT (h.2 96) i + (h.2 96 (12650 + 100 * i) - lH (h.2 96) i) * h.2 96 (12652 + 100 * i)) > b → h.2 96 (12650 + 100 * i) * h.2 96 (12652 + 100 * i) - lT (h.2 96) i > b → v = 1) → (¬ h.2 96 (12650 + 100 * i) * h.2 96 (12652 + 100 * i) - (lT (h.2 96) i + (h.2 96 (12650 + 100 * i) - lH (h.2 96) i) * h.2 96 (12652 + 100 * i)) > b → ¬ h.2 96 (12650 + 100 * i) * h.2 96 (12652 + 100 * i) - lT (h.2 96) i > b → v = 0) → zSi g (D + 3) mX9_judge [xr 95, xi i, xi b] h (fun y h2 => v = y ∧ zInv h2) := by
      intro v v2 v1 v0
      refine eX9_judge (zX9_judge_0 (s_isLot hz (fun y hy => ⟨fun w => by omega, fun w => s_in (fun y2 hy2 => ⟨fun w2 => by omega, fun w2 => ?_⟩)⟩)))
      clear r4 r5 r6
      have n1 : 0 ≤ h.2 96 (12650 + 100 * i) * h.2 96 (12652 + 100 * i) ∧ h.2 96 (12650 + 100 * i) * h.2 96 (12652 + 100 * i) ≤ 20000 := by
        refine ⟨Int.mul_nonneg (by omega) (by omega), ?_⟩
        have := Int.mul_le_mul (show h.2 96 (12650 + 100 * i) ≤ 40 by omega) (show h.2 96 (12652 + 100 * i) ≤ 500 by omega) (by omega) (by omega)
        omega
      have n2 : -20000 ≤ (h.2 96 (12650 + 100 * i) - lH (h.2 96) i) * h.2 96 (12652 + 100 * i) ∧ (h.2 96 (12650 + 100 * i) - lH (h.2 96) i) * h.2 96 (12652 + 100 * i) ≤ 20000 := by
        rw [Int.sub_mul]
        have m1 : 0 ≤ lH (h.2 96) i * h.2 96 (12652 + 100 * i) := Int.mul_nonneg (by omega) (by omega)
        have m2 := Int.mul_le_mul (show lH (h.2 96) i ≤ 40 by omega) (show h.2 96 (12652 + 100 * i) ≤ 500 by omega) (by omega) (by omega)
        omega
      simp (disch := omega) only [x32_id]
      rw [q1]
      refine ⟨by omega, fun w3 => zX9_judge_39 ?_, fun w3 => absurd w3 z1⟩
      simp (disch := omega) only [x32_id]
      rw [q0, q2]
      refine ⟨by omega, by omega, s_cO I hi (Or.inr rfl) ?_⟩
      rw [if_neg (by decide)]
      refine ⟨by omega, s_cO I hi (Or.inl rfl) ?_⟩
      rw [if_pos rfl]
      refine ⟨by omega, ?_⟩
      simp (disch := omega) only [x32_id]
      refine ⟨fun w4 => zX9_judge_130 ?_, fun w4 => ⟨v2 w4, I⟩⟩
      rw [x32_id (by omega) (by omega)]
      exact ⟨fun w5 => zX9_judge_142 ⟨v0 (by omega) (by omega), I⟩, fun w5 => ⟨v1 (by omega) w5, I⟩⟩
    clear r4 r5 r6
    have n1 : 0 ≤ h.2 96 (12650 + 100 * i) * h.2 96 (12652 + 100 * i) ∧ h.2 96 (12650 + 100 * i) * h.2 96 (12652 + 100 * i) ≤ 20000 := by
      refine ⟨Int.mul_nonneg (by omega) (by omega), ?_⟩
      have := Int.mul_le_mul (show h.2 96 (12650 + 100 * i) ≤ 40 by omega) (show h.2 96 (12652 + 100 * i) ≤ 500 by omega) (by omega) (by omega)
      omega
    have n2 : -20000 ≤ h.2 96 (12652 + 100 * i) * (h.2 96 (12650 + 100 * i) - lH (h.2 96) i) ∧ h.2 96 (12652 + 100 * i) * (h.2 96 (12650 + 100 * i) - lH (h.2 96) i) ≤ 20000 := by
      rw [Int.mul_sub, Int.mul_comm (h.2 96 (12652 + 100 * i)) (h.2 96 (12650 + 100 * i))]
      have m1 : 0 ≤ h.2 96 (12652 + 100 * i) * lH (h.2 96) i := Int.mul_nonneg (by omega) (by omega)
      have m2 := Int.mul_le_mul (show h.2 96 (12652 + 100 * i) ≤ 500 by omega) (show lH (h.2 96) i ≤ 40 by omega) (by omega) (by omega)
      omega
    have n3 := Int.mul_comm (h.2 96 (12650 + 100 * i) - lH (h.2 96) i) (h.2 96 (12652 + 100 * i))
    simp (disch := omega) only [x32_id]
    refine ⟨fun z3 => zX8_judge_100 ⟨fun z4 => zX8_judge_110 (yes _ (by omega) (by omega) (fun _ _ => rfl)), fun z4 => yes _ (by omega) (fun _ _ => rfl) (by omega)⟩, fun z3 => yes _ (fun _ => rfl) (by omega) (by omega)⟩
