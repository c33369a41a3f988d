/-! the whole text: the pure reader's answers, the class's -/
def tlr (k v : Int) : Prop := (k = 0 → 0 ≤ v ∧ v ≤ 9) ∧ (k = 6 → 0 ≤ v ∧ v ≤ 20) ∧ (k = 7 → 1 ≤ v ∧ v ≤ 99) ∧ (k = 8 → 1 ≤ v ∧ v ≤ 500) ∧ (k = 9 → 0 ≤ v ∧ v ≤ 100)
/-- what a good clause is: its kind and number, its steps -/
def clg (k v : Int) (sg : List (Int × Int)) : Prop := (0 ≤ k ∧ k ≤ 9) ∧ tlr k v ∧ okS sg ∧ (k ≤ 2 → dl sg (0, 0) = some (1, 0)) ∧ (3 ≤ k → k ≤ 5 → dl sg (0, 0) = some (0, 1))
section PTX
variable {K N : Nat → Int} {E : Nat}
theorem p_Tl {k : Int} {i : Nat} (hK : K E = 36) (hi : i ≤ E) (hk : 0 ≤ k ∧ k ≤ 9) : ((pTl K N k i).1 ≠ 0 → (pTl K N k i).2.1 = i ∧ 1 ≤ (pTl K N k i).1 ∧ (pTl K N k i).1 ≤ 2) ∧ ((pTl K N k i).1 = 0 → i ≤ (pTl K N k i).2.1 ∧ (pTl K N k i).2.1 ≤ E ∧ tlr k (pTl K N k i).2.2) := by
  unfold pTl
  by_cases k1 : k = 0 ∨ 6 ≤ k
  · rw [if_pos k1]
    by_cases k2 : K i ≠ 35
    · rw [if_pos k2]; exact ⟨fun _ => ⟨rfl, show (1 : Int) ≤ 1 by decide, show (1 : Int) ≤ 2 by decide⟩, fun z => absurd z (show (1 : Int) ≠ 0 by decide)⟩
    · rw [if_neg k2]
      have k2 : K i = 35 := by omega
      have e0 := lt_E hK hi k2 (by decide)
      by_cases k3 : N i < x_ltv 0 k.toNat ∨ x_ltv 1 k.toNat < N i
      · rw [if_pos k3]; exact ⟨fun _ => ⟨rfl, show (1 : Int) ≤ 2 by decide, show (2 : Int) ≤ 2 by decide⟩, fun z => absurd z (show (2 : Int) ≠ 0 by decide)⟩
      · rw [if_neg k3]
        refine ⟨fun z => absurd rfl z, fun _ => ⟨by dsimp only; omega, by dsimp only; omega, ?_⟩⟩
        dsimp only
        rcases (show k = 0 ∨ k = 6 ∨ k = 7 ∨ k = 8 ∨ k = 9 by omega) with z | z | z | z | z <;> subst z
        · have a : x_ltv 0 (0 : Int).toNat = 0 := by decide
          have c : x_ltv 1 (0 : Int).toNat = 9 := by decide
          unfold tlr; omega
        · have a : x_ltv 0 (6 : Int).toNat = 0 := by decide
          have c : x_ltv 1 (6 : Int).toNat = 20 := by decide
          unfold tlr; omega
        · have a : x_ltv 0 (7 : Int).toNat = 1 := by decide
          have c : x_ltv 1 (7 : Int).toNat = 99 := by decide
          unfold tlr; omega
        · have a : x_ltv 0 (8 : Int).toNat = 1 := by decide
          have c : x_ltv 1 (8 : Int).toNat = 500 := by decide
          unfold tlr; omega
        · have a : x_ltv 0 (9 : Int).toNat = 0 := by decide
          have c : x_ltv 1 (9 : Int).toNat = 100 := by decide
          unfold tlr; omega
  · rw [if_neg k1]
    exact ⟨fun z => absurd rfl z, fun _ => ⟨Nat.le_refl _, hi, by unfold tlr; omega⟩⟩
theorem p_Bd {A B : Nat → Rs} {k : Int} {i : Nat} (hi : i ≤ E) (hA : rsE E false i (A i)) (hB : rsL E 0 (-1) i (B i)) : rsF E i (pBd A B k i) ∧ ((pBd A B k i).1 = 0 → i ≤ (pBd A B k i).2.1 ∧ (pBd A B k i).2.1 ≤ E ∧ (pBd A B k i).2.2.length + i ≤ (pBd A B k i).2.1 ∧ okS (pBd A B k i).2.2 ∧ (k ≤ 2 → dl (pBd A B k i).2.2 (0, 0) = some (1, 0)) ∧ (3 ≤ k → k ≤ 5 → dl (pBd A B k i).2.2 (0, 0) = some (0, 1))) := by
  unfold pBd
  by_cases k1 : k ≤ 2
  · rw [if_pos k1]
    refine ⟨hA.1, fun z => ?_⟩
    obtain ⟨a1, a2, a3, a4, a5⟩ := hA.2 z
    rw [if_neg (by decide)] at a3
    exact ⟨by omega, a2, by omega, a4, fun _ => a5 0 (by decide), fun z => by omega⟩
  · rw [if_neg k1]
    by_cases k2 : k ≤ 5
    · rw [if_pos k2]
      refine ⟨hB.1, fun z => ?_⟩
      obtain ⟨a1, a2, a3, a4, a5⟩ := hB.2 z
      rw [if_pos rfl] at a3
      have a6 := a5 0 0 (by decide)
      rw [if_pos rfl] at a6
      exact ⟨by omega, a2, by omega, a4, fun z => by omega, fun _ _ => a6⟩
    · rw [if_neg k2]
      exact ⟨rsF_0, fun _ => ⟨Nat.le_refl _, hi, by show 0 + i ≤ i; omega, okS_0, fun z => by omega, fun _ z => by omega⟩⟩
theorem p_Cl {A B : Nat → Rs} {cl : List Cl} {w : List (Int × Int)} {i : Nat} (hK : K E = 36) (hi : i ≤ E) (hA : ∀ i, i ≤ E → rsE E false i (A i)) (hB : ∀ i, i ≤ E → rsL E 0 (-1) i (B i)) (hl : w.length ≤ i) :
    ((pCl K N A B cl w i).1 ≠ 0 → (pCl K N A B cl w i).2.1 ≤ E ∧ 1 ≤ (pCl K N A B cl w i).1 ∧ (pCl K N A B cl w i).1 ≤ 5) ∧
    ((pCl K N A B cl w i).1 = 0 → (pCl K N A B cl w i).2.1 ≤ E ∧ cl.length < 20 ∧ ∃ (v : Int) (sg : List (Int × Int)), (pCl K N A B cl w i).2.2.1 = cl ++ [(K i, v, w.length, w.length + sg.length)] ∧ (pCl K N A B cl w i).2.2.2 = w ++ sg ∧ clg (K i) v sg ∧ (w ++ sg).length ≤ (pCl K N A B cl w i).2.1) := by
  unfold pCl
  by_cases k1 : K i < 0 ∨ 9 < K i
  · rw [if_pos k1]; exact ⟨fun _ => ⟨hi, show (1 : Int) ≤ 1 by decide, show (1 : Int) ≤ 5 by decide⟩, fun z => absurd z (show (1 : Int) ≠ 0 by decide)⟩
  rw [if_neg k1]
  by_cases k2 : 3 ≤ K i ∧ ∃ c ∈ cl, c.1 = K i
  · rw [if_pos k2]; exact ⟨fun _ => ⟨hi, show (1 : Int) ≤ 4 by decide, show (4 : Int) ≤ 5 by decide⟩, fun z => absurd z (show (4 : Int) ≠ 0 by decide)⟩
  rw [if_neg k2]
  by_cases k3 : 20 ≤ cl.length
  · rw [if_pos k3]; exact ⟨fun _ => ⟨hi, show (1 : Int) ≤ 5 by decide, show (5 : Int) ≤ 5 by decide⟩, fun z => absurd z (show (5 : Int) ≠ 0 by decide)⟩
  rw [if_neg k3]
  have e0 := lt_E hK hi (rfl : K i = K i) (by omega)
  have t := p_Tl (N := N) (k := K i) (i := i + 1) hK (by omega) (by omega)
  generalize pTl K N (K i) (i + 1) = x at t
  by_cases z1 : x.1 ≠ 0
  · rw [if_pos z1]
    have := t.1 z1
    exact ⟨fun _ => ⟨by dsimp only; omega, by dsimp only; omega, by dsimp only; omega⟩, fun z => absurd z z1⟩
  rw [if_neg z1]
  have z1 : x.1 = 0 := by omega
  obtain ⟨t1, t2, t3⟩ := t.2 z1
  have y := p_Bd (A := A) (B := B) (k := K i) (i := x.2.1) t2 (hA _ t2) (hB _ t2)
  generalize pBd A B (K i) x.2.1 = u at y
  by_cases z2 : u.1 ≠ 0
  · rw [if_pos z2]
    have := y.1 z2
    exact ⟨fun _ => ⟨this.2.1, this.2.2.1, by dsimp only; omega⟩, fun z => absurd z z2⟩
  rw [if_neg z2]
  have z2 : u.1 = 0 := by omega
  obtain ⟨y1, y2, y3, y4, y5, y6⟩ := y.2 z2
  by_cases z3 : K u.2.1 ≠ 32
  · rw [if_pos z3]; exact ⟨fun _ => ⟨y2, show (1 : Int) ≤ 1 by decide, show (1 : Int) ≤ 5 by decide⟩, fun z => absurd z (show (1 : Int) ≠ 0 by decide)⟩
  rw [if_neg z3]
  have e1 := lt_E hK y2 (show K u.2.1 = 32 by omega) (by decide)
  refine ⟨fun z => absurd rfl z, fun _ => ⟨by dsimp only; omega, by omega, x.2.2, u.2.2, rfl, rfl, ⟨by omega, t3, y4, y5, y6⟩, ?_⟩⟩
  dsimp only
  rw [List.length_append]; omega
end PTX
def pTx (K N : Nat → Int) (A B : Nat → Rs) : Nat → List Cl → List (Int × Int) → Nat → Tx
  | 0, cl, w, i => (1, i, cl, w)
  | m + 1, cl, w, i => if K i = 36 then (0, i, cl, w) else if (pCl K N A B cl w i).1 ≠ 0 then pCl K N A B cl w i else pTx K N A B m (pCl K N A B cl w i).2.2.1 (pCl K N A B cl w i).2.2.2 (pCl K N A B cl w i).2.1
section CTX
variable {g : xG} {D : Nat} {b : Nat → Int} {n E r : Nat}
theorem c_text {A B : Nat → Rs} {k0 n0 : Nat} {h0 : xH} {Q : Int → xH → Prop} (hD : 29 ≤ D) (hA : ∀ i, i ≤ E → rsE E false i (A i)) (hB : ∀ i, i ≤ E → rsL E 0 (-1) i (B i)) (jEs : ∀ i, i ≤ E → jE g b n E r i (A i)) (jSs : ∀ i, i ≤ E → jS g b n E r 0 i (B i)) : ∀ (m : Nat) (cl : List Cl) (w : List (Int × Int)) (i : Nat) {h : xH}, 21 ≤ cl.length + m → rdg r h0 h → rdC b n E r h → rdW E r h i w → rdK r h cl → (∀ (h1 : xH) {w1 : xV}, rdg r h0 h1 → rdC b n E r h1 → rdT b n E r h1 (pTx (kt b n) (nmt b n) A B m cl w i) → zJ g (D + 3) 87 k0 n0 52 [xr 16, w1] [] h1 (x_qi Q)) → zJ g (D + 3) 87 k0 n0 23 [xr 16, xi (cl.length : Int)] [] h (x_qi Q)
  | 0, cl, w, i, h, e, f, C, W, L, hQ => by have := L.2.1; omega
  | m + 1, cl, w, i, h, e, f, C, W, L, hQ => by
    have hr := C.2.2.2.1
    have hc := L.2.1
    have hE := W.2.2.2.1
    have hK := (rd_E C).1
    unfold pTx at hQ
    refine zX8_act_23 ⟨fun z => by omega, fun _ => eX4_hasMore (zX4_hasMore_0 ⟨fun z => absurd W.2.1 z, fun _ => s_token C W.1 hE ⟨fun k1 => zX4_hasMore_20 ⟨Or.inl rfl, ⟨fun _ => ?_, fun z => absurd rfl z⟩⟩, fun k1 => ⟨Or.inr rfl, ⟨fun z => absurd z (by decide), fun _ => ?_⟩⟩⟩⟩)⟩
    · rw [if_pos k1] at hQ
      exact hQ h f C (Or.inl ⟨rfl, W, L⟩)
    · rw [if_neg k1] at hQ
      have pc := p_Cl (K := kt b n) (N := nmt b n) (A := A) (B := B) (cl := cl) (w := w) hK hE hA hB W.2.2.2.2.1
      refine c_Cl hD jEs jSs C W L (fun h1 f1 T1 => ?_)
      have C1 := rdC_g C f1
      have f01 := rdg_trans f f1
      generalize pCl (kt b n) (nmt b n) A B cl w i = x at pc T1 hQ
      rw [x32_id (by omega) (by omega), show (cl.length : Int) + 1 = ((cl.length + 1 : Nat) : Int) by omega]
      rcases T1 with ⟨z1, W1, K1⟩ | ⟨z1, F1⟩
      · rw [if_neg (fun y => y z1)] at hQ
        obtain ⟨q1, q2, v, sg, q3, q4, q5, q6⟩ := pc.2 z1
        have e1 : x.2.2.1.length = cl.length + 1 := by rw [q3, List.length_append]; rfl
        rw [← e1]
        exact c_text hD hA hB jEs jSs m x.2.2.1 x.2.2.2 x.2.1 (by omega) f01 C1 W1 K1 hQ
      · rw [if_pos z1] at hQ
        have fin : ∀ {w1 : xV}, zJ g (D + 3) 87 k0 n0 52 [xr 16, w1] [] h1 (x_qi Q) := fun {w1} => hQ h1 f01 C1 (Or.inr ⟨z1, F1⟩)
        exact zX8_act_23 ⟨fun _ => fin, fun _ => eX4_hasMore (zX4_hasMore_0 ⟨fun _ => zX4_hasMore_20 ⟨Or.inl rfl, ⟨fun _ => fin, fun z => absurd rfl z⟩⟩, fun z => absurd z (rdF_n F1)⟩)⟩
end CTX
