/-! clauses of the reference -/
/-- what a clause's reading may change -/
def rpg (t0 : Nat) (h h' : xH) : Prop := h'.1 = h.1 ∧ (∀ q, q ≠ 95 → q ≠ 96 → q ≠ 101 → h'.2 q = h.2 q) ∧ (∀ j, ¬ ((8 ≤ j ∧ j ≤ 12) ∨ (14 ≤ j ∧ j ≤ 16) ∨ (18 ≤ j ∧ j ≤ 20)) → h'.2 95 j = h.2 95 j) ∧ ∀ a, ¬ (t0 + 1 ≤ a ∧ a < t0 + 900) → h'.2 96 a = h.2 96 a
theorem rpg_refl {t0 : Nat} (h : xH) : rpg t0 h h := ⟨rfl, fun _ _ _ _ => rfl, fun _ _ => rfl, fun _ _ => rfl⟩
theorem rpg_trans {t0 : Nat} {h h1 h2 : xH} (a : rpg t0 h h1) (c : rpg t0 h1 h2) : rpg t0 h h2 := ⟨c.1.trans a.1, fun q q1 q2 q3 => (c.2.1 q q1 q2 q3).trans (a.2.1 q q1 q2 q3), fun j hj => (c.2.2.1 j hj).trans (a.2.2.1 j hj), fun x hx => (c.2.2.2 x hx).trans (a.2.2.2 x hx)⟩
theorem rpg_f {t0 : Nat} {h h1 : xH} (f : rpf t0 h h1) : rpg t0 h h1 := ⟨f.1, f.2.1, fun j hj => f.2.2.1 j (by omega), fun a ha => f.2.2.2 a (by omega)⟩
theorem rpg_96 {t0 a : Nat} {v : Int} {h : xH} (ha : t0 + 1 ≤ a ∧ a < t0 + 900) : rpg t0 h (h.1, x_up h.2 96 a v) := ⟨rfl, fun q _ q2 _ => by dsimp only; rw [x_up_r q2], fun j _ => by dsimp only; rw [x_up_r (by decide)], fun x hx => by dsimp only; rw [x_up_j (by omega)]⟩
theorem rpg_95 {t0 j : Nat} {v : Int} {h : xH} (hj : (8 ≤ j ∧ j ≤ 12) ∨ (14 ≤ j ∧ j ≤ 16) ∨ (18 ≤ j ∧ j ≤ 20)) : rpg t0 h (h.1, x_up h.2 95 j v) := ⟨rfl, fun q q1 _ _ => by dsimp only; rw [x_up_r q1], fun k hk => by dsimp only; rw [x_up_j (by omega)], fun a _ => by dsimp only; rw [x_up_r (by decide)]⟩
section RPC
variable {g : xG} {D : Nat} {b : Nat → Int} {n t0 E : Nat} {h : xH} {Q : Int → xH → Prop}
theorem rpB_g {h1 : xH} (B : rpB b n t0 h) (f : rpg t0 h h1) : rpB b n t0 h1 := by
  obtain ⟨⟨z1, z2, z3, z4⟩, b2, b3⟩ := B
  exact ⟨⟨by rw [f.2.2.1 5 (by omega)]; exact z1, z2, z3, fun p hp => by rw [f.2.1 100 (by decide) (by decide) (by decide)]; exact z4 p hp⟩, b2, b3⟩
theorem r_sortOf {i : Nat} {Q : Int → xH → Prop} (S : rS h b n i) (h1 : 0 ≤ kt b n i ∧ kt b n i ≤ 9 → Q (kt b n i + 1) h) (h0 : ¬ (0 ≤ kt b n i ∧ kt b n i ≤ 9) → Q 0 h) : zSi g (D + 3) mX9_sortOf [xr 95] h Q := by
  have c0 := tk_c (w := 0) (v := 1936683636) S (by decide) (by decide)
  have c1 := tk_c (w := 1) (v := 1936023916) S (by decide) (by decide)
  have c2 := tk_c (w := 2) (v := 482955852389) S (by decide) (by decide)
  have c3 := tk_c (w := 3) (v := 6710629) S (by decide) (by decide)
  have c4 := tk_c (w := 4) (v := 108230851064953) S (by decide) (by decide)
  have c5 := tk_c (w := 5) (v := 1718185573) S (by decide) (by decide)
  have c6 := tk_c (w := 6) (v := 126892433305195) S (by decide) (by decide)
  have c7 := tk_c (w := 7) (v := 521459297380) S (by decide) (by decide)
  have c8 := tk_c (w := 8) (v := 1751215723) S (by decide) (by decide)
  have c9 := tk_c (w := 9) (v := 465558725996) S (by decide) (by decide)
  have y : ∀ k v : Int, kt b n i = k → (0 ≤ k ∧ k ≤ 9) → k + 1 = v → Q v h := fun k v e1 e2 e3 => by
    have := h1 (by rw [e1]; exact e2)
    rw [e1, e3] at this; exact this
  refine eX9_sortOf (zX9_sortOf_0 ⟨fun t => zX9_sortOf_10 (r_w4 (by decide) (by decide) (by decide) (by decide) ⟨fun z0 => zX9_sortOf_31 (r_w4 (by decide) (by decide) (by decide) (by decide) ⟨fun z1 => zX9_sortOf_52 (r_w5 (by decide) (by decide) (by decide) (by decide) (by decide) ⟨fun z2 => zX9_sortOf_75 (r_w3 (by decide) (by decide) (by decide) ⟨fun z3 => zX9_sortOf_94 (r_w6 (by decide) (by decide) (by decide) (by decide) (by decide) (by decide) ⟨fun z4 => zX9_sortOf_119 (r_w4 (by decide) (by decide) (by decide) (by decide) ⟨fun z5 => zX9_sortOf_141 (r_w6 (by decide) (by decide) (by decide) (by decide) (by decide) (by decide) ⟨fun z6 => zX9_sortOf_167 (r_w5 (by decide) (by decide) (by decide) (by decide) (by decide) ⟨fun z7 => zX9_sortOf_191 (r_w4 (by decide) (by decide) (by decide) (by decide) ⟨fun z8 => zX9_sortOf_215 (r_w5 (by decide) (by decide) (by decide) (by decide) (by decide) ⟨fun z9 => zX9_sortOf_241 (h0 ?_), fun z => y 9 10 (c9.mpr ⟨t, z⟩) (by decide) (by decide)⟩), fun z => y 8 9 (c8.mpr ⟨t, z⟩) (by decide) (by decide)⟩), fun z => y 7 8 (c7.mpr ⟨t, z⟩) (by decide) (by decide)⟩), fun z => y 6 7 (c6.mpr ⟨t, z⟩) (by decide) (by decide)⟩), fun z => y 5 6 (c5.mpr ⟨t, z⟩) (by decide) (by decide)⟩), fun z => y 4 5 (c4.mpr ⟨t, z⟩) (by decide) (by decide)⟩), fun z => y 3 4 (c3.mpr ⟨t, z⟩) (by decide) (by decide)⟩), fun z => y 2 3 (c2.mpr ⟨t, z⟩) (by decide) (by decide)⟩), fun z => y 1 2 (c1.mpr ⟨t, z⟩) (by decide) (by decide)⟩), fun z => y 0 1 (c0.mpr ⟨t, z⟩) (by decide) (by decide)⟩), fun t => h0 ?_⟩)
  · intro q
    rcases (show kt b n i = 0 ∨ kt b n i = 1 ∨ kt b n i = 2 ∨ kt b n i = 3 ∨ kt b n i = 4 ∨ kt b n i = 5 ∨ kt b n i = 6 ∨ kt b n i = 7 ∨ kt b n i = 8 ∨ kt b n i = 9 by omega) with q | q | q | q | q | q | q | q | q | q
    · exact z0 (c0.mp q).2
    · exact z1 (c1.mp q).2
    · exact z2 (c2.mp q).2
    · exact z3 (c3.mp q).2
    · exact z4 (c4.mp q).2
    · exact z5 (c5.mp q).2
    · exact z6 (c6.mp q).2
    · exact z7 (c7.mp q).2
    · exact z8 (c8.mp q).2
    · exact z9 (c9.mp q).2
  · intro q
    rcases (show kt b n i = 0 ∨ kt b n i = 1 ∨ kt b n i = 2 ∨ kt b n i = 3 ∨ kt b n i = 4 ∨ kt b n i = 5 ∨ kt b n i = 6 ∨ kt b n i = 7 ∨ kt b n i = 8 ∨ kt b n i = 9 by omega) with q | q | q | q | q | q | q | q | q | q
    · exact t (c0.mp q).1
    · exact t (c1.mp q).1
    · exact t (c2.mp q).1
    · exact t (c3.mp q).1
    · exact t (c4.mp q).1
    · exact t (c5.mp q).1
    · exact t (c6.mp q).1
    · exact t (c7.mp q).1
    · exact t (c8.mp q).1
    · exact t (c9.mp q).1
/-- the number that the reference has -/
theorem r_num {i : Nat} (B : rpB b n t0 h) (S : rS h b n i) (k : kt b n i = 35) : nmt b n i = min 10000 (h.2 95 11) ∧ 0 ≤ h.2 95 11 := by
  have dg : isDg (b (ps b n i)) = true := by
    cases x : isDg (b (ps b n i))
    · exfalso
      have k : kd b n (ps b n i) = 35 := k
      unfold kd at k
      rw [x] at k
      split at k
      · omega
      · split at k
        · have := wk_r (wl b n (ps b n i)); omega
        · rw [if_neg (by decide)] at k
          have := sgn_r (b (ps b n i)) (b (ps b n i + 1)); omega
    · rfl
  have e11 := S.2.2.2.1 dg
  have nn := nb_r (b := b) (n := n) (q := ps b n i) B.1.2.2.1 (ps_b B.1.2.2.1 i).1
  rw [← e11] at nn
  have rb := ru_b (P := isDg) (b := b) (n := n) (p := ps b n i) (ps_b B.1.2.2.1 i).1
  have ne := nv_eq (c := fun j => b (ps b n i + j)) (ru isDg b n (ps b n i) - ps b n i) (fun j hj => rb.2.2.2 (ps b n i + j) (by omega) (by omega))
  rw [← e11] at ne
  exact ⟨nn.1, ne.2.1⟩
theorem r_take {i o a : Nat} {lo hi : Int} {w : List (Int × Int)} (hh : hi ≤ 9999) (B : rpB b n t0 h) (S : rpS0 b n t0 h i w o) (ha : t0 + 1 ≤ a ∧ a < t0 + 250) (h1 : kt b n i ≠ 35 → Q 1 h) (h2 : kt b n i = 35 → (nmt b n i < lo ∨ hi < nmt b n i) → Q 2 h) (h0 : kt b n i = 35 → ¬ (nmt b n i < lo ∨ hi < nmt b n i) → ∀ h1, rpf t0 (h.1, x_up h.2 96 a (nmt b n i)) h1 → rpS0 b n t0 h1 (i + 1) w o → Q 0 h1) : zSi g (D + 3) mX9_take [xr 95, xi lo, xi hi, xi (a : Int)] h Q := by
  have t1 := (tk_i (b := b) (n := n) (q := ps b n i)).2.1
  rw [← S.1.2.2.1] at t1
  have b2 := B.2.1
  have b3 := B.2.2
  refine eX9_take (zX9_take_0 ⟨fun z => zX9_take_10 (s_in (fun v hv => ⟨fun q => zX9_take_24 ?_, fun q => ?_⟩)), fun z => h1 (fun y => z (t1.mpr y))⟩)
  · obtain ⟨n1, n2⟩ := r_num B S.1 (t1.mp z)
    have e : h.2 95 11 = nmt b n i := by omega
    rw [e, show ((a : Int)).toNat = a by omega]
    refine ⟨by omega, r_nextZ (rpB_g B (rpg_96 (by omega))) (rpS0_96 S (by omega)) (fun h3 f3 S3 => h0 (t1.mp z) (by omega) h3 f3 S3)⟩
  · obtain ⟨n1, n2⟩ := r_num B S.1 (t1.mp z)
    exact h2 (t1.mp z) (by omega)
/-- the clauses that were read -/
def rpK (t0 : Nat) (h : xH) (cl : List Cl) : Prop := h.2 95 14 = (cl.length : Int) ∧ cl.length ≤ 20 ∧ (∀ c, c < cl.length → h.2 96 (t0 + 1 + 12 * c) = (gc cl c).1 + 1 ∧ ((gc cl c).1 = 0 ∨ 6 ≤ (gc cl c).1 → h.2 96 (t0 + 2 + 12 * c) = (gc cl c).2.1) ∧ h.2 96 (t0 + 3 + 12 * c) = ((gc cl c).2.2.1 : Int) ∧ h.2 96 (t0 + 4 + 12 * c) = ((gc cl c).2.2.2 : Int)) ∧ ∀ k : Nat, k < 10 → (tb (h.2 95 16) (k + 1) = true ↔ ∃ c ∈ cl, c.1 = (k : Int))
/-- the clause that is being read -/
def rpO (t0 : Nat) (h : xH) (cl : List Cl) (k : Int) : Prop := h.2 95 14 = (cl.length : Int) ∧ cl.length < 20 ∧ (∀ c, c < cl.length → h.2 96 (t0 + 1 + 12 * c) = (gc cl c).1 + 1 ∧ ((gc cl c).1 = 0 ∨ 6 ≤ (gc cl c).1 → h.2 96 (t0 + 2 + 12 * c) = (gc cl c).2.1) ∧ h.2 96 (t0 + 3 + 12 * c) = ((gc cl c).2.2.1 : Int) ∧ h.2 96 (t0 + 4 + 12 * c) = ((gc cl c).2.2.2 : Int)) ∧ (∀ j : Nat, j < 10 → (tb (h.2 95 16) (j + 1) = true ↔ (∃ c ∈ cl, c.1 = (j : Int)) ∨ k = (j : Int))) ∧ h.2 96 (t0 + 1 + 12 * cl.length) = k + 1
theorem rpO_f {h1 : xH} {cl : List Cl} {k : Int} (f : rpf t0 h h1) (q : rpO t0 h cl k) : rpO t0 h1 cl k := by
  obtain ⟨q1, q2, q3, q4, q5⟩ := q
  have o : ∀ a, a < t0 + 250 → h1.2 96 a = h.2 96 a := fun a ha => f.2.2.2 a (by omega)
  refine ⟨by rw [f.2.2.1 14 (by omega)]; exact q1, q2, fun c hc => ?_, by rw [f.2.2.1 16 (by omega)]; exact q4, by rw [o _ (by omega)]; exact q5⟩
  rw [o _ (by omega), o _ (by omega), o _ (by omega), o _ (by omega)]; exact q3 c hc
theorem rpO_96 {a : Nat} {v : Int} {cl : List Cl} {k : Int} (q : rpO t0 h cl k) (ha : t0 + 2 + 12 * cl.length ≤ a) : rpO t0 (h.1, x_up h.2 96 a v) cl k := by
  obtain ⟨q1, q2, q3, q4, q5⟩ := q
  refine ⟨?_, q2, fun c hc => ?_, ?_, ?_⟩ <;> dsimp only
  · rw [x_up_r (by decide)]; exact q1
  · rw [x_up_j (by omega), x_up_j (by omega), x_up_j (by omega), x_up_j (by omega)]; exact q3 c hc
  · rw [x_up_r (by decide)]; exact q4
  · rw [x_up_j (by omega)]; exact q5
end RPC
