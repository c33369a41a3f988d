/-! what the readings rest on -/
section CG
variable {A A' : Nat → Int}
theorem tx_cong (E : ∀ k, 2000 ≤ k → k < 11000 → A' k = A k) {t : Nat} (ht : t < 10) : tx A' t = tx A t := by
  funext k
  unfold tx
  by_cases h : k < 900
  · rw [if_pos h, if_pos h, E _ (by omega) (by omega)]
  · rw [if_neg h, if_neg h]
theorem aF_cong (b : rA A) (E : ∀ k, 2000 ≤ k → k < 11130 → A' k = A k) {k : Int} {day : Int} : ∀ n : Nat, (n : Int) ≤ A 7 → aF A' k day n = aF A k day n
  | 0, _ => rfl
  | n + 1, hn => by
    have b1 := b.1
    have b2 := b.2.1
    have f := b.2.2.1 n (by omega)
    unfold aF
    rw [E (11000 + 4 * n) (by omega) (by omega)]
    by_cases e : n < 30
    · rw [E (11001 + 4 * n) (by omega) (by omega), E (11002 + 4 * n) (by omega) (by omega), aF_cong b E n (by omega), tx_cong (fun k a c => E k a (by omega)) (by omega)]
    · rw [E (11001 + 4 * n) (by omega) (by omega), E (11002 + 4 * n) (by omega) (by omega), aF_cong b E n (by omega), tx_cong (fun k a c => E k a (by omega)) (by omega)]
theorem aB_cong (b : rA A) (E : ∀ k, 2000 ≤ k → k < 11130 → A' k = A k) (e7 : A' 7 = A 7) {k day : Int} : aB A' (-1) k day = aB A (-1) k day := by
  have b2 := b.2.1
  unfold aB
  rw [if_neg (by omega), if_neg (by omega), e7]
  exact aF_cong b E _ (by omega)
theorem mR_cong (E : ∀ k, 400 ≤ k → k < 2000 → A' k = A k) {web day known : Int} : ∀ n : Nat, n ≤ 200 → mR A' web day known n = mR A web day known n
  | 0, _ => rfl
  | n + 1, hn => by
    have c := mR_c (A := A) (web := web) (day := day) (known := known) n
    unfold mR
    rw [mR_cong E n (by omega), E (400 + 8 * n) (by omega) (by omega), E (401 + 8 * n) (by omega) (by omega), E (406 + 8 * n) (by omega) (by omega)]
    rcases c with c | ⟨x, c1, c2, -⟩
    · rw [c]
      simp only [show (-1 : Int) < 0 from by decide, true_or]
    · rw [E (401 + 8 * (mR A web day known n).toNat) (by omega) (by omega)]
theorem mO_cong (E : ∀ k, 400 ≤ k → k < 2000 → A' k = A k) (e5 : A' 5 = A 5) (h5 : A 5 ≤ 200) {web day known : Int} : mO A' web day known = mO A web day known := by
  unfold mO
  rw [e5]
  exact mR_cong E _ (by omega)
/-- the same acts of a day: the same readings -/
def sA (A A' : Nat → Int) (bs bs' day : Int) : Prop := ∀ k : Nat, k < 10 → aB A' bs' k day = aB A bs k day
variable {bs bs' day : Int} {web x : Nat}
theorem nO_cong (b : rA A) (hb : bs = -1 ∨ (0 ≤ bs ∧ bs < A 6)) (E : ∀ k, 2000 ≤ k → k < 11000 → A' k = A k) (S : sA A A' bs bs' day) {k : Nat} (hk : k < 10) {d : Int} : nO A' bs' k day d = nO A bs k day d := by
  unfold nO
  rw [S k hk]
  rcases aB_c b hb k day with c | ⟨t, c1, c2, c3⟩
  · rw [c, if_pos (by decide), if_pos (by decide)]
  · have := b.1
    rw [tx_cong E (by omega)]
theorem cF_cong (b : rA A) (hb : bs = -1 ∨ (0 ≤ bs ∧ bs < A 6)) (E : ∀ k, 2000 ≤ k → k < 11000 → A' k = A k) (S : sA A A' bs bs' day) {k : Nat} (hk : k < 10) {nm : Nat → Int} {so : Bool} : cF A' bs' k day nm so = cF A bs k day nm so := by
  unfold cF
  rw [S k hk]
  rcases aB_c b hb k day with c | ⟨t, c1, c2, c3⟩
  · rw [c, if_pos (by decide), if_pos (by decide)]
  · have := b.1
    rw [tx_cong E (by omega)]
theorem aM_cong (b : rA A) (hb : bs = -1 ∨ (0 ≤ bs ∧ bs < A 6)) (E : ∀ k, 2000 ≤ k → k < 11000 → A' k = A k) (S : sA A A' bs bs' day) {k : Nat} (hk : k < 10) {nm : Nat → Int} : aM A' bs' k day nm = aM A bs k day nm := by
  unfold aM
  rw [S k hk]
  rcases aB_c b hb k day with c | ⟨t, c1, c2, c3⟩
  · rw [c, if_pos (by decide), if_pos (by decide)]
  · have := b.1
    rw [tx_cong E (by omega)]
theorem nm1_cong (B : rB A) (hb : bs = -1 ∨ (0 ≤ bs ∧ bs < A 6)) (E : ∀ k, 20 ≤ k → k < 11000 → A' k = A k) (S : sA A A' bs bs' day) (hw : (web : Int) < A 4) (hx : (x : Int) < A 5) : nm1 A' bs' web day x = nm1 A bs web day x ∧ sO A' bs' web day x = sO A bs web day x := by
  have E2 : ∀ k, 2000 ≤ k → k < 11000 → A' k = A k := fun k a b => E k (by omega) b
  obtain ⟨w1, w2, w3⟩ := web_b B hw
  have b1 := B.2.2.1
  have et : tO A' web = tO A web := by unfold tO; rw [E (350 + web) (by omega) (by omega), E (30 + 4 * (A (350 + web)).toNat) (by omega) (by omega)]
  have ei : iO A' web = iO A web := by unfold iO; rw [et, E (20 + (tO A web).toNat) (by omega) (by omega)]
  have e6 : nO A' bs' 6 day 0 = nO A bs 6 day 0 := nO_cong (k := 6) B.1 hb E2 S (by decide)
  have e0 : nm0 A' bs' web day x = nm0 A bs web day x := by
    funext i
    unfold nm0
    rw [et, ei, e6, E (402 + 8 * x) (by omega) (by omega), E (403 + 8 * x) (by omega) (by omega), E (404 + 8 * x) (by omega) (by omega), E (405 + 8 * x) (by omega) (by omega)]
  have ec : cF A' bs' 0 day (nm0 A bs web day x) true = cF A bs 0 day (nm0 A bs web day x) true := cF_cong (k := 0) B.1 hb E2 S (by decide)
  have es : sO A' bs' web day x = sO A bs web day x := by
    unfold sO
    rw [e0, ec, show aB A' bs' 0 day = aB A bs 0 day from S 0 (by decide)]
    by_cases h : cF A bs 0 day (nm0 A bs web day x) true < 0
    · rw [if_pos h, if_pos h]
    · rw [if_neg h, if_neg h]
      rcases aB_c B.1 hb 0 day with c | ⟨t, c1, c2, c3⟩
      · exfalso; apply h; unfold cF; rw [show aB A bs 0 day = -1 from c, if_pos (by decide)]; decide
      · have := B.1.1
        rw [tx_cong E2 (by rw [show aB A bs 0 day = (t : Int) from c1]; omega)]
  refine ⟨?_, es⟩
  funext i
  unfold nm1
  rw [es, e0]
theorem sA_refl (b : rA A) (E : ∀ k, 2000 ≤ k → k < 11130 → A' k = A k) (e7 : A' 7 = A 7) : sA A A' (-1) (-1) day := fun k _ => aB_cong b E e7
theorem good_cong (m : pM A) (B : rB A) (E : ∀ k, k < 12210 → A' k = A k) {s : Nat} (hs : (s : Int) < A 8) : good A' s ↔ good A s := by
  have z := pM_z m
  have rk := seal_r m hs
  have E2 : ∀ k, 2000 ≤ k → k < 11000 → A' k = A k := fun k a b => E k (by omega)
  have fl_e : ∀ (d : Nat) (day : Int), d < 10 → ∀ k, k ≤ 16 → fl A' d day k = fl A d day k := by
    intro d day hd k
    induction k with
    | zero => intro _; rfl
    | succ k ih => intro hk; unfold fl; rw [ih (by omega), E (151 + 20 * d + k) (by omega)]
  have S : sA A A' (-1) (-1) (A (11132 + 6 * s)) := sA_refl B.1 (fun k a b => E k (by omega)) (E 7 (by omega))
  have ef : fgd A' s ↔ fgd A s := by
    unfold fgd
    rw [E (11130 + 6 * s) (by omega), E (11132 + 6 * s) (by omega), E (11133 + 6 * s) (by omega), fl_e _ _ (by omega) 16 (by omega)]
  unfold good
  rw [ef, E (11131 + 6 * s) (by omega), E (11132 + 6 * s) (by omega), E 0 (by omega), mO_cong (fun k a b => E k (by omega)) (E 5 (by omega)) (by omega)]
  have key : ∀ x : Nat, mO A (A (11131 + 6 * s)) (A (11132 + 6 * s)) (A 0) = (x : Int) → cF A' (-1) 1 (A (11132 + 6 * s)) (nm1 A' (-1) (A (11131 + 6 * s)).toNat (A (11132 + 6 * s)) x) false = cF A (-1) 1 (A (11132 + 6 * s)) (nm1 A (-1) (A (11131 + 6 * s)).toNat (A (11132 + 6 * s)) x) false := by
    intro x hx
    have hx5 : (x : Int) < A 5 := by
      rcases mO_c (A := A) (by omega) (A (11131 + 6 * s)) (A (11132 + 6 * s)) (A 0) with e | ⟨x2, e1, e2, -⟩
      · omega
      · omega
    rw [(nm1_cong B (Or.inl rfl) (fun k a b => E k (by omega)) S (by omega) hx5).1]
    exact cF_cong (k := 1) B.1 (Or.inl rfl) E2 S (by decide)
  constructor
  · rintro ⟨p, x, q1, q2⟩
    exact ⟨p, x, q1, by rw [← key x q1]; exact q2⟩
  · rintro ⟨p, x, q1, q2⟩
    exact ⟨p, x, q1, by rw [key x q1]; exact q2⟩
theorem hgs_cong (m : pM A) (B : rB A) (E : ∀ k, k < 12210 → A' k = A k) {w : Int} : hgs A' w ↔ hgs A w := by
  have z := pM_z m
  unfold hgs
  constructor
  · rintro ⟨s, p1, p2, p3⟩
    rw [E 8 (by omega)] at p1
    rw [E (11131 + 6 * s) (by omega)] at p2
    exact ⟨s, p1, p2, (good_cong m B E p1).mp p3⟩
  · rintro ⟨s, p1, p2, p3⟩
    exact ⟨s, by rw [E 8 (by omega)]; exact p1, by rw [E (11131 + 6 * s) (by omega)]; exact p2, (good_cong m B E p1).mpr p3⟩
/-- measures are there where some fit -/
theorem mR_ex {w d k : Int} : ∀ n : Nat, mR A w d k n = -1 ↔ ∀ i : Nat, i < n → ¬ (A (400 + 8 * i) = w ∧ A (401 + 8 * i) ≤ d ∧ A (406 + 8 * i) ≤ k)
  | 0 => ⟨fun _ i hi => by omega, fun _ => rfl⟩
  | n + 1 => by
    have ih := mR_ex (w := w) (d := d) (k := k) n
    have c := mR_c (A := A) (web := w) (day := d) (known := k) n
    constructor
    · intro h i hi
      unfold mR at h
      split at h
      · omega
      · rename_i hno
        by_cases e : i = n
        · subst e
          intro q
          exact hno ⟨q.1, q.2.1, q.2.2, Or.inl (by omega)⟩
        · exact ih.mp h i (by omega)
    · intro h
      unfold mR
      rw [if_neg (fun q => h n (by omega) ⟨q.1, q.2.1, q.2.2.1⟩)]
      exact ih.mpr (fun i hi => h i (by omega))
theorem hgs_meas (m : pM A) {w : Int} (hg : hgs A w) : ∃ x : Nat, mO A w (A 0) (A 0) = (x : Int) ∧ (x : Int) < A 5 := by
  obtain ⟨s, p1, p2, -, x, q1, -⟩ := hg
  have z := pM_z m
  have rk := seal_r m p1
  rcases mO_c (A := A) (by omega) w (A 0) (A 0) with e | ⟨x2, e1, e2, -⟩
  · exfalso
    have h1 := (mR_ex (A := A) (w := w) (d := A 0) (k := A 0) (A 5).toNat).mp e
    have h2 : ¬ mO A (A (11131 + 6 * s)) (A (11132 + 6 * s)) (A 0) = -1 := by omega
    apply h2
    refine (mR_ex (A 5).toNat).mpr (fun i hi q => h1 i hi ⟨by omega, by omega, q.2.2⟩)
  · exact ⟨x2, e1, e2⟩
theorem aM_b (b : rA A) (hb : bs = -1 ∨ (0 ≤ bs ∧ bs < A 6)) {k : Nat} (hk : 3 ≤ k ∧ k < 6) {nm : Nat → Int} (hn : nm_ok nm) : 0 ≤ aM A bs k day nm ∧ aM A bs k day nm ≤ 1000000000 := by
  unfold aM
  rcases aB_c b hb k day with c | ⟨t, c1, c2, c3⟩
  · rw [c, if_pos (by decide)]; omega
  · rw [c1, if_neg (by omega), show ((t : Int)).toNat = t by omega]
    rcases fO_c (tx A t) k with c | ⟨i, d1, d2, d3⟩
    · omega
    · rw [d1, show ((i : Int)).toNat = i by omega]
      have := (vC_b (b.2.2.2 t c2) hn d2).2 (by omega)
      omega
end CG
