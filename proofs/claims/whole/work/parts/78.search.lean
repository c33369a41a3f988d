/-! the class's search: pure -/
theorem oq_in {k d q c i : Nat} (h : q / 2 ^ d = c) (hi : i < k) : oq (k + d) q i = oq k c i := by
  unfold oq
  rw [show k + d - 1 - i = d + (k - 1 - i) by omega, ← h, Nat.testBit_div_two_pow, Nat.add_comm]
theorem oq_ch {k c b i : Nat} (hb : b < 2) (hi : i < k) : oq (k + 1) (2 * c + b) i = oq k c i := oq_in (d := 1) (by omega) hi
theorem oq_new {k c b : Nat} (hb : b < 2) : oq (k + 1) (2 * c + b) k = decide (b = 1) := by
  unfold oq
  rw [show k + 1 - 1 - k = 0 by omega, Nat.testBit_zero]
  by_cases q : b = 1
  · rw [decide_eq_true q]; exact decide_eq_true (by omega)
  · rw [decide_eq_false q]; exact decide_eq_false (by omega)
theorem oq_low {k d q q' i : Nat} (h : q % 2 ^ d = q' % 2 ^ d) (hi : k ≤ i) (hi2 : i < k + d) : oq (k + d) q i = oq (k + d) q' i := by
  unfold oq
  have e : ∀ x : Nat, x.testBit (k + d - 1 - i) = (x % 2 ^ d).testBit (k + d - 1 - i) := fun x => by
    rw [Nat.testBit_mod_two_pow, decide_eq_true (by omega)]; rfl
  rw [e q, e q', h]
theorem iv {c d q : Nat} (h1 : c * 2 ^ d ≤ q) (h2 : q < c * 2 ^ d + 2 ^ d) : q / 2 ^ d = c := by
  have p : 0 < 2 ^ d := Nat.pow_pos (by decide)
  refine Nat.div_eq_of_lt_le h1 ?_
  rw [Nat.add_mul, Nat.one_mul]; exact h2
theorem sX_pre {P : Nat → Bool} {v : Nat → Int} {k : Nat} : ∀ d, (∀ i, i < k + d → 0 ≤ v i) → sX P v k ≤ sX P v (k + d)
  | 0, _ => Int.le_refl _
  | d + 1, h => by
    have ih := sX_pre (P := P) (v := v) (k := k) d (fun i hi => h i (by omega))
    have := h (k + d) (by omega)
    show sX P v k ≤ sX P v (k + d) + (if P (k + d) = true then v (k + d) else 0)
    split <;> omega
theorem lq_ge {A : Nat → Int} (B : rB A) {a k d c q : Nat} (h : q / 2 ^ d = c) : lq A a k c k ≤ lq A a (k + d) q (k + d) := by
  have e : lq A a k c k = lq A a (k + d) q k := sX_cong k (fun i hi => ⟨(oq_in h hi).symm, rfl⟩)
  rw [e]
  exact sX_pre d (fun i _ => (yl_b B).1)
theorem dbX_pre {A : Nat → Int} (B : rB A) {a k d : Nat} {keep : Nat → Bool} (ha : (a : Int) + k + d ≤ A 4) (h : dbX A a keep (k + d)) : dbX A a keep k := by
  intro X
  exact Int.le_trans (sX_pre d (fun i hi => (nd_b B (by omega)).1)) (h X)
theorem nd_yl {A : Nat → Int} (B : rB A) {web : Nat} (hw : (web : Int) < A 4) (h : nd A web ≤ 0) : nd A web = 0 ∧ yl A web = 0 := by
  have b := nd_b B hw
  refine ⟨by omega, ?_⟩
  unfold nd at h
  unfold yl
  by_cases q : mO A web (A 0) (A 0) < 0
  · rw [if_pos q]
  · rw [if_neg q] at h
    exfalso
    rcases mO_c B.2.2.1.2.2.2.1 web (A 0) (A 0) with e | ⟨x, e1, e2, -⟩
    · omega
    · rw [e1, show ((x : Int)).toNat = x by omega] at h
      have nb := nm1_b B (Or.inl rfl : (-1 : Int) = -1 ∨ _) hw e2 B.2.1
      have := nd_m nb.1 nb.2.2.1 nb.2.1
      omega
