/-! the pure reader's answers are so -/
section POK
variable {K N : Nat → Int} {E : Nat}
theorem lt_E (hK : K E = 36) {i : Nat} {k : Int} (hi : i ≤ E) (h : K i = k) (hk : k ≠ 36) : i < E := by
  rcases Nat.lt_or_ge i E with z | z
  · exact z
  · exfalso
    rw [show i = E by omega] at h
    omega
theorem rsF_0 {i : Nat} {j : Nat} {s : List (Int × Int)} : rsF E i (0, j, s) := fun z => absurd rfl z
theorem rsF_1 {i j : Nat} {f : Int} (h1 : i ≤ j) (h2 : j ≤ E) (h3 : 1 ≤ f ∧ f ≤ 3) : rsF E i (f, j, []) := fun _ => ⟨h1, h2, h3.1, h3.2⟩
theorem rsF_up {i i2 : Nat} {x : Rs} (h : rsF E i2 x) (hi : i ≤ i2) : rsF E i x := fun z => ⟨Nat.le_trans hi (h z).1, (h z).2⟩
theorem rsO_f {o i : Nat} {x : Rs} (h : rsF E i x) (hx : x.1 ≠ 0) : rsO E o i x := ⟨h, fun z => absurd z hx⟩
theorem rsO_1 {o i j : Nat} {f : Int} (h1 : i ≤ j) (h2 : j ≤ E) (h3 : 1 ≤ f ∧ f ≤ 3) : rsO E o i (f, j, []) := rsO_f (rsF_1 h1 h2 h3) (show f ≠ 0 by omega)
theorem p_Br {S : Nat → Nat → Rs} {o i : Nat} {pr : Int} (hK : K E = 36) (hi : i ≤ E) (hp : pr = -1 ∨ pr = 19 ∨ pr = 20) (hS : ∀ i', i < i' → i' ≤ E → o < 8 → rsL E (o + 1) (-1) i' (S (o + 1) i')) : rsO E o i (pBr K S o pr i) := by
  unfold pBr
  by_cases k1 : K i ≠ 29
  · rw [if_pos k1]; exact rsO_1 (Nat.le_refl _) hi (by decide)
  rw [if_neg k1]
  have k1 : K i = 29 := by omega
  by_cases k2 : 8 ≤ o
  · rw [if_pos k2]; exact rsO_1 (Nat.le_refl _) hi (by decide)
  rw [if_neg k2]
  have e0 := lt_E hK hi k1 (by decide)
  have h1 := hS (i + 1) (by omega) (by omega) (by omega)
  generalize S (o + 1) (i + 1) = x at h1
  by_cases z1 : x.1 = 0
  · rw [bnd_0 z1]
    obtain ⟨a1, a2, a3, a4, a5⟩ := h1.2 z1
    rw [if_pos rfl] at a3
    have a5 : ∀ t v, t + v + 3 * (8 - (o + 1)) + 3 ≤ 60 → dl x.2.2 (t, v) = some (t, v + 1) := fun t v q => by have := a5 t v q; rw [if_pos rfl] at this; exact this
    by_cases k3 : pr = -1
    · rw [if_pos k3]
      by_cases k4 : K x.2.1 = 30
      · rw [if_pos k4]
        have := lt_E hK a2 k4 (by decide)
        exact ⟨rsF_0, fun _ => ⟨by dsimp only; omega, by dsimp only; omega, by dsimp only; omega, a4, fun t v q => a5 t v (by omega)⟩⟩
      · rw [if_neg k4]; exact rsO_1 (by omega) a2 (by decide)
    · rw [if_neg k3]
      by_cases k4 : K x.2.1 ≠ 31
      · rw [if_pos k4]; exact rsO_1 (by omega) a2 (by decide)
      rw [if_neg k4]
      have k4 : K x.2.1 = 31 := by omega
      have e1 := lt_E hK a2 k4 (by decide)
      have h2 := hS (x.2.1 + 1) (by omega) (by omega) (by omega)
      generalize S (o + 1) (x.2.1 + 1) = y at h2
      by_cases z2 : y.1 = 0
      · rw [bnd_0 z2]
        obtain ⟨b1, b2, b3, b4, b5⟩ := h2.2 z2
        rw [if_pos rfl] at b3
        have b5 : ∀ t v, t + v + 3 * (8 - (o + 1)) + 3 ≤ 60 → dl y.2.2 (t, v) = some (t, v + 1) := fun t v q => by have := b5 t v q; rw [if_pos rfl] at this; exact this
        by_cases k5 : K y.2.1 = 30
        · rw [if_pos k5]
          have := lt_E hK b2 k5 (by decide)
          refine ⟨rsF_0, fun _ => ⟨by dsimp only; omega, by dsimp only; omega, by dsimp only; rw [List.length_append, List.length_append]; show _ + _ + 1 + _ ≤ _; omega, okS_app (okS_app a4 b4) (okS_1 ?_), fun t v q => ?_⟩⟩
          · exact Or.inr (Or.inr (Or.inl (show 2 ≤ pr - 12 ∧ pr - 12 ≤ 8 by omega)))
          · exact dl_ap (dl_ap (a5 t v (by omega)) (b5 t (v + 1) (by omega))) (dl_1 (dS_bin (show 2 < pr - 12 ∧ pr - 12 < 10 by omega)))
        · rw [if_neg k5]; exact rsO_1 (by omega) b2 (by decide)
      · rw [bnd_f z2]; exact rsO_f (rsF_up h2.1 (by omega)) z2
  · rw [bnd_f z1]; exact rsO_f (rsF_up h1.1 (by omega)) z1
theorem p_One {O S : Nat → Nat → Rs} {o i : Nat} (hK : K E = 36) (hN : ∀ i, 0 ≤ N i) (hi : i ≤ E) (hO : ∀ i', i < i' → i' ≤ E → o < 8 → rsO E (o + 1) i' (O (o + 1) i')) (hS : ∀ i', i < i' → i' ≤ E → o < 8 → rsL E (o + 1) (-1) i' (S (o + 1) i')) : rsO E o i (pOne K N O S o i) := by
  unfold pOne
  by_cases k1 : K i = 35
  · rw [if_pos k1]
    have e0 := lt_E hK hi k1 (by decide)
    by_cases k2 : 9999 < N i
    · rw [if_pos k2]; exact rsO_1 (Nat.le_refl _) hi (by decide)
    · rw [if_neg k2]
      have := hN i
      exact ⟨rsF_0, fun _ => ⟨by dsimp only; omega, by dsimp only; omega, by show 1 + i ≤ i + 1; omega, okS_1 (Or.inl ⟨rfl, this, by omega⟩), fun t v q => dl_1 (dS_push (Or.inl rfl) (by omega))⟩⟩
  rw [if_neg k1]
  by_cases k2 : K i = 0 ∨ (10 ≤ K i ∧ K i ≤ 15)
  · rw [if_pos k2]
    have e0 := lt_E hK hi (rfl : K i = K i) (by omega)
    refine ⟨rsF_0, fun _ => ⟨by dsimp only; omega, by dsimp only; omega, by show 1 + i ≤ i + 1; omega, okS_1 (Or.inr (Or.inl ⟨rfl, ?_⟩)), fun t v q => dl_1 (dS_push (Or.inr rfl) (by omega))⟩⟩
    show 0 ≤ nmv (K i) ∧ nmv (K i) ≤ 6
    unfold nmv
    split
    · omega
    · split <;> omega
  rw [if_neg k2]
  by_cases k3 : K i = 19 ∨ K i = 20
  · rw [if_pos k3]
    have e0 := lt_E hK hi (rfl : K i = K i) (by omega)
    obtain ⟨q1, q2⟩ := p_Br (S := S) (o := o) (i := i + 1) (pr := K i) hK (by omega) (by omega) (fun i' h1 h2 h3 => hS i' (by omega) h2 h3)
    refine ⟨rsF_up q1 (by omega), fun z => ?_⟩
    obtain ⟨a1, a2, a3, a4, a5⟩ := q2 z
    exact ⟨by omega, a2, by omega, a4, a5⟩
  rw [if_neg k3]
  by_cases k4 : K i = 26
  · rw [if_pos k4]
    have e0 := lt_E hK hi k4 (by decide)
    by_cases k5 : 8 ≤ o
    · rw [if_pos k5]; exact rsO_1 (Nat.le_refl _) hi (by decide)
    rw [if_neg k5]
    have h1 := hO (i + 1) (by omega) (by omega) (by omega)
    generalize O (o + 1) (i + 1) = x at h1
    by_cases z1 : x.1 = 0
    · rw [bnd_0 z1]
      obtain ⟨a1, a2, a3, a4, a5⟩ := h1.2 z1
      exact ⟨rsF_0, fun _ => ⟨by dsimp only; omega, a2, by dsimp only; rw [List.length_append]; show _ + 1 + _ ≤ _; omega, okS_app a4 (okS_1 (Or.inr (Or.inr (Or.inl (by decide))))), fun t v q => dl_ap (a5 t v (by omega)) (dl_1 (dS_neg (by omega)))⟩⟩
    · rw [bnd_f z1]; exact rsO_f (rsF_up h1.1 (by omega)) z1
  · rw [if_neg k4]
    exact p_Br hK hi (Or.inl rfl) hS
theorem p_Prd {O P : Nat → Nat → Rs} {o i : Nat} (hK : K E = 36) (hi : i ≤ E) (hO : ∀ i', i < i' → i' ≤ E → rsO E o i' (O o i')) (hP : ∀ i', i < i' → i' ≤ E → rsP E o i' (P o i')) : rsP E o i (pPrd K O P o i) := by
  unfold pPrd
  by_cases k1 : K i = 27 ∨ K i = 28
  · rw [if_pos k1]
    have e0 := lt_E hK hi (rfl : K i = K i) (by omega)
    have h1 := hO (i + 1) (by omega) (by omega)
    generalize O o (i + 1) = x at h1
    by_cases z1 : x.1 = 0
    · rw [bnd_0 z1]
      obtain ⟨a1, a2, a3, a4, a5⟩ := h1.2 z1
      have h2 := hP x.2.1 (by omega) a2
      generalize P o x.2.1 = y at h2
      by_cases z2 : y.1 = 0
      · rw [bnd_0 z2]
        obtain ⟨b1, b2, b3, b4, b5⟩ := h2.2 z2
        refine ⟨rsF_0, fun _ => ⟨by dsimp only; omega, b2, by dsimp only; rw [List.length_append, List.length_append]; show _ + 1 + _ + _ ≤ _; omega, okS_app (okS_app a4 (okS_1 ?_)) b4, fun t v q1 q2 => ?_⟩⟩
        · exact Or.inr (Or.inr (Or.inl (show 2 ≤ K i - 22 ∧ K i - 22 ≤ 8 by omega)))
        · obtain ⟨v, rfl⟩ : ∃ u, v = u + 1 := ⟨v - 1, by omega⟩
          refine dl_ap (dl_ap (a5 t (v + 1) (by omega)) (dl_1 (dS_bin (show 2 < K i - 22 ∧ K i - 22 < 10 by omega)))) (b5 t (v + 1) (by omega) (by omega))
      · rw [bnd_f z2]; exact ⟨rsF_up h2.1 (by omega), fun z => absurd z z2⟩
    · rw [bnd_f z1]; exact ⟨rsF_up h1.1 (by omega), fun z => absurd z z1⟩
  · rw [if_neg k1]
    exact ⟨rsF_0, fun _ => ⟨Nat.le_refl _, hi, by show 0 + i ≤ i; omega, okS_0, fun t v _ _ => rfl⟩⟩
theorem p_Sml {O P : Nat → Nat → Rs} {L : Nat → Int → Nat → Rs} {o i : Nat} {j : Int} (hK : K E = 36) (hj : j = -1 ∨ j = 25 ∨ j = 26) (hi : i ≤ E) (hO : rsO E o i (O o i)) (hP : ∀ i', i < i' → i' ≤ E → rsP E o i' (P o i')) (hL : ∀ i' j', i < i' → i' ≤ E → j' = 25 ∨ j' = 26 → rsL E o j' i' (L o j' i')) : rsL E o j i (pSml K O P L o j i) := by
  unfold pSml
  generalize O o i = x at hO
  by_cases z1 : x.1 = 0
  · rw [bnd_0 z1]
    obtain ⟨a1, a2, a3, a4, a5⟩ := hO.2 z1
    have h2 := hP x.2.1 (by omega) a2
    generalize P o x.2.1 = y at h2
    by_cases z2 : y.1 = 0
    · rw [bnd_0 z2]
      obtain ⟨b1, b2, b3, b4, b5⟩ := h2.2 z2
      have jl : (jop j).length = if j = -1 then 0 else 1 := by unfold jop; split <;> rfl
      have jk : okS (jop j) := by
        unfold jop
        split
        · exact okS_0
        · exact okS_1 (Or.inr (Or.inr (Or.inl (show 2 ≤ j - 22 ∧ j - 22 ≤ 8 by omega))))
      have jd : ∀ t v, t + v + 3 * (8 - o) + 3 ≤ 60 → dl (x.2.2 ++ y.2.2 ++ jop j) (t, if j = -1 then v else v + 1) = some (t, v + 1) := by
        intro t v q
        unfold jop
        by_cases q1 : j = -1
        · rw [if_pos q1, if_pos q1, List.append_nil]
          exact dl_ap (a5 t v (by omega)) (b5 t (v + 1) (by omega) (by omega))
        · rw [if_neg q1, if_neg q1]
          exact dl_ap (dl_ap (a5 t (v + 1) (by omega)) (b5 t (v + 2) (by omega) (by omega))) (dl_1 (dS_bin (show 2 < j - 22 ∧ j - 22 < 10 by omega)))
      by_cases k1 : K y.2.1 = 25 ∨ K y.2.1 = 26
      · rw [if_pos k1]
        have e0 := lt_E hK b2 (rfl : K y.2.1 = K y.2.1) (by omega)
        have h3 := hL (y.2.1 + 1) (K y.2.1) (by omega) (by omega) k1
        generalize L o (K y.2.1) (y.2.1 + 1) = u at h3
        by_cases z3 : u.1 = 0
        · rw [bnd_0 z3]
          obtain ⟨c1, c2, c3, c4, c5⟩ := h3.2 z3
          rw [if_neg (by omega)] at c3
          refine ⟨rsF_0, fun _ => ⟨by dsimp only; omega, c2, by dsimp only; rw [List.length_append, List.length_append, List.length_append, jl]; omega, okS_app (okS_app (okS_app a4 b4) jk) c4, fun t v q => ?_⟩⟩
          have c6 := c5 t v q
          rw [if_neg (by omega)] at c6
          exact dl_ap (jd t v q) c6
        · rw [bnd_f z3]; exact ⟨rsF_up h3.1 (by omega), fun z => absurd z z3⟩
      · rw [if_neg k1]
        exact ⟨rsF_0, fun _ => ⟨by dsimp only; omega, b2, by dsimp only; rw [List.length_append, List.length_append, jl]; omega, okS_app (okS_app a4 b4) jk, jd⟩⟩
    · rw [bnd_f z2]; exact ⟨rsF_up h2.1 (by omega), fun z => absurd z z2⟩
  · rw [bnd_f z1]; exact ⟨hO.1, fun z => absurd z z1⟩
theorem pp_ok (hK : K E = 36) (hN : ∀ i, 0 ≤ N i) : ∀ (m i : Nat), i ≤ E → E < i + m → ∀ o, rsO E o i ((pp K N m).1 o i) ∧ rsP E o i ((pp K N m).2.1 o i) ∧ ∀ j, (j = -1 ∨ j = 25 ∨ j = 26) → rsL E o j i ((pp K N m).2.2 o j i)
  | 0, i, h1, h2 => by omega
  | m + 1, i, h1, h2 => by
    intro o
    have ih := pp_ok hK hN m
    have a : ∀ o i, i ≤ E → E < i + (m + 1) → rsO E o i ((pp K N (m + 1)).1 o i) := fun o i h1 h2 => p_One hK hN h1 (fun i' q1 q2 _ => (ih i' q2 (by omega) (o + 1)).1) (fun i' q1 q2 _ => (ih i' q2 (by omega) (o + 1)).2.2 (-1) (Or.inl rfl))
    have c : ∀ o i, i ≤ E → E < i + (m + 1) → rsP E o i ((pp K N (m + 1)).2.1 o i) := fun o i h1 h2 => p_Prd hK h1 (fun i' q1 q2 => (ih i' q2 (by omega) o).1) (fun i' q1 q2 => (ih i' q2 (by omega) o).2.1)
    exact ⟨a o i h1 h2, c o i h1 h2, fun j hj => p_Sml hK hj h1 (a o i h1 h2) (fun i' q1 q2 => c o i' q2 (by omega)) (fun i' j' q1 q2 q3 => (ih i' q2 (by omega) o).2.2 j' (Or.inr q3))⟩
end POK
