/-! tried -/
/-- what a web comes to: what 0 shipped, 1 bounty less fee, 2 smuggled -/
def tw (A : Nat → Int) (bs : Int) (w : Nat) (what : Int) : Int :=
  if what = 2 then (if A 17 < aM A bs 4 (A 0) (nm1 A bs w (A 0) (mO A w (A 0) (A 0)).toNat) then 1 else 0)
  else if aM A bs 4 (A 0) (nm1 A bs w (A 0) (mO A w (A 0) (A 0)).toNat) - aM A bs 3 (A 0) (nm1 A bs w (A 0) (mO A w (A 0) (A 0)).toNat) + A 15 * A (404 + 8 * (mO A w (A 0) (A 0)).toNat) < A 16 * A (404 + 8 * (mO A w (A 0) (A 0)).toNat) then 0
  else if what = 0 then 1 else max 0 (aM A bs 4 (A 0) (nm1 A bs w (A 0) (mO A w (A 0) (A 0)).toNat) - aM A bs 3 (A 0) (nm1 A bs w (A 0) (mO A w (A 0) (A 0)).toNat))
noncomputable def tf (A : Nat → Int) (bs what : Int) (w : Nat) : Int := @ite Int (hgs A w) (Classical.propDecidable _) (tw A bs w what) 0
theorem tf_y {A : Nat → Int} {bs what : Int} {w : Nat} (h : hgs A w) : tf A bs what w = tw A bs w what := by unfold tf; rw [if_pos h]
theorem tf_n {A : Nat → Int} {bs what : Int} {w : Nat} (h : ¬ hgs A w) : tf A bs what w = 0 := by unfold tf; rw [if_neg h]
theorem mul_b {a l : Int} (ha : 0 ≤ a ∧ a ≤ 99) (hl : 1 ≤ l ∧ l ≤ 60) : 0 ≤ a * l ∧ a * l ≤ 5940 := by
  have m1 : 0 ≤ a * l := Int.mul_nonneg ha.1 (by omega)
  have m2 : a * l ≤ 99 * 60 := Int.mul_le_mul ha.2 hl.2 (by omega) (by omega)
  omega
section TR
variable {g : xG} {D : Nat} {h : xH}
theorem tf_b {A : Nat → Int} (m : pM A) (B : rB A) {bs : Int} (hb : bs = -1 ∨ (0 ≤ bs ∧ bs < A 6)) {what : Int} {w : Nat} (hw : (w : Int) < A 4) : 0 ≤ tf A bs what w ∧ tf A bs what w ≤ 1000000000 := by
  by_cases hg : hgs A w
  · rw [tf_y hg]
    obtain ⟨x, hx, hx5⟩ := hgs_meas m hg
    have nb := nm1_b B hb hw hx5 B.2.1
    have b4 : 0 ≤ aM A bs 4 (A 0) (nm1 A bs w (A 0) x) ∧ aM A bs 4 (A 0) (nm1 A bs w (A 0) x) ≤ 1000000000 := aM_b (k := 4) B.1 hb (by decide) nb.2.2.2
    have b3 : 0 ≤ aM A bs 3 (A 0) (nm1 A bs w (A 0) x) ∧ aM A bs 3 (A 0) (nm1 A bs w (A 0) x) ≤ 1000000000 := aM_b (k := 3) B.1 hb (by decide) nb.2.2.2
    unfold tw
    rw [hx, show ((x : Int)).toNat = x by omega]
    repeat' split
    all_goals omega
  · rw [tf_n hg]; omega
theorem s_triedWeb {bs what : Int} {w : Nat} {Q : Int → xH → Prop} (b : zB h bs) (hw : (w : Int) < h.2 96 4) (hwt : 0 ≤ what ∧ what ≤ 2) (hg : hgs (h.2 96) w) (hQ : ∀ h', fB h h' → Q (tw (h.2 96) bs w what) h') : zSi g (D + 6) mX8_triedWeb [xr 16, xi w, xi what] h Q := by
  have B := rB_zB b
  have hb := zB_bs b
  obtain ⟨q13, qday, q15, q16, q17, q18⟩ := b.2.2.1.2.1
  obtain ⟨x, hx, hx5⟩ := hgs_meas b.2.1 hg
  have nb := nm1_b B hb hw hx5 B.2.1
  have b4 : 0 ≤ aM (h.2 96) bs 4 (h.2 96 0) (nm1 (h.2 96) bs w (h.2 96 0) x) ∧ aM (h.2 96) bs 4 (h.2 96 0) (nm1 (h.2 96) bs w (h.2 96 0) x) ≤ 1000000000 := aM_b (k := 4) B.1 hb (by decide) nb.2.2.2
  have b3 : 0 ≤ aM (h.2 96) bs 3 (h.2 96 0) (nm1 (h.2 96) bs w (h.2 96 0) x) ∧ aM (h.2 96) bs 3 (h.2 96 0) (nm1 (h.2 96) bs w (h.2 96 0) x) ≤ 1000000000 := aM_b (k := 3) B.1 hb (by decide) nb.2.2.2
  have s15 : 0 ≤ h.2 96 15 ∧ h.2 96 15 ≤ 99 := b.2.1.1.2.2.2.1
  have s16 : 0 ≤ h.2 96 16 ∧ h.2 96 16 ≤ 99 := b.2.1.1.2.2.2.2.1
  obtain ⟨-, -, -, -, m4, -⟩ := B.2.2.2.2.2.2 x hx5
  have l15 := mul_b s15 m4
  have l16 := mul_b s16 m4
  unfold tw at hQ
  rw [hx, show ((x : Int)).toNat = x by omega] at hQ
  have dd : ∀ {h' : xH}, fB h h' → h'.2 17 14 = h.2 96 0 ∧ h'.2 17 16 = h.2 96 15 ∧ h'.2 17 17 = h.2 96 16 ∧ h'.2 17 18 = h.2 96 17 := fun f => by rw [f.2.1 17 (by decide) (by decide) (by decide)]; exact ⟨qday, q16, q17, q18⟩
  refine eX8_triedWeb (zX8_triedWeb_0 ?_)
  rw [qday]
  refine s_weigh b hw B.2.1 (fun e => by omega) (fun x2 h1 e hx2 f1 n1 _ => ⟨fun _ => zX8_triedWeb_27 ?_, fun q => absurd q (by decide)⟩)
  have : x2 = x := by omega
  subst this
  have n2 : h1.2 76 12 = h.2 96 (404 + 8 * x2) := n1 2 (by decide)
  refine s_named (i := 12) (by decide) ?_
  rw [n2, (dd f1).1]
  refine s_amount (k := 4) (fB_zB f1 b) (by decide) nb.2.2.2 n1 (fun h2 k1 k2 => ?_)
  have f2 := fB_trans f1 (fB_of77 k1 k2)
  rw [(dd f2).1, fB_96 f1]
  refine s_amount (k := 3) (fB_zB f2 b) (by decide) nb.2.2.2 (fun i hi => by rw [k2 76 (by decide)]; exact n1 i hi) (fun h3 k3 k4 => ?_)
  have f3 := fB_trans f2 (fB_of77 k3 k4)
  rw [fB_96 f2, (dd f3).2.2.2, show ((4 : Nat) : Int) = 4 from rfl, show ((3 : Nat) : Int) = 3 from rfl]
  generalize aM (h.2 96) bs 4 (h.2 96 0) (nm1 (h.2 96) bs w (h.2 96 0) x2) = bo at *
  generalize aM (h.2 96) bs 3 (h.2 96 0) (nm1 (h.2 96) bs w (h.2 96 0) x2) = fe at *
  rw [x32_id (show -2147483648 ≤ bo - fe by omega) (by omega)]
  refine ⟨fun q => zX8_triedWeb_97 ?_, fun q => ⟨fun q2 => zX8_triedWeb_95 ?_, fun q2 => ?_⟩⟩
  · rw [(dd f3).2.1, (dd f3).2.2.1, x32_id (show -2147483648 ≤ h.2 96 15 * h.2 96 (404 + 8 * x2) by omega) (by omega), x32_id (show -2147483648 ≤ h.2 96 16 * h.2 96 (404 + 8 * x2) by omega) (by omega), x32_id (show -2147483648 ≤ bo - fe + h.2 96 15 * h.2 96 (404 + 8 * x2) by omega) (by omega)]
    rw [if_neg q] at hQ
    refine ⟨fun q2 => zX8_triedWeb_123 ⟨fun q3 => zX8_triedWeb_131 ?_, fun q3 => ?_⟩, fun q2 => ?_⟩
    · rw [if_neg (by omega), if_neg q3] at hQ; exact hQ h3 f3
    · rw [if_neg (by omega), if_pos q3] at hQ; exact hQ h3 f3
    · rw [if_pos q2] at hQ; exact hQ h3 f3
  · rw [if_pos q, if_neg (by omega)] at hQ; exact hQ h3 f3
  · rw [if_pos q, if_pos q2] at hQ; exact hQ h3 f3
end TR
/-- a row behind the forces doesn't count -/
theorem inv_free {h h2 : xH} {n : Nat} (I : zInv h) (h1 : h2.1 = h.1) (hn : h.2 96 7 = (n : Int)) (hC : ∀ r, r ≠ 96 → h2.2 r = h.2 r) (E : ∀ k, ¬ (11000 + 4 * n ≤ k ∧ k < 11003 + 4 * n) → h2.2 96 k = h.2 96 k) : zInv h2 := by
  obtain ⟨i1, i2, i3, i4, i5⟩ := I
  have hz : 0 ≤ h.2 96 7 ∧ h.2 96 7 ≤ 30 := i1.1.2.2.2.2.2.2 5 (by decide) (by decide)
  have zz := pM_z i1
  have mm := i1
  obtain ⟨⟨s0, s6, s14, s15, s16, s17, sz⟩, ⟨b1, b2, b3⟩, rk⟩ := i1
  have lo : ∀ k, k < 11000 ∨ 11123 ≤ k → h2.2 96 k = h.2 96 k := fun k hk => E k (by omega)
  have zt : ∀ t, t < 12 → t_z t < 20 := by
    intro t ht
    rcases (show t = 0 ∨ t = 1 ∨ t = 2 ∨ t = 3 ∨ t = 4 ∨ t = 5 ∨ t = 6 ∨ t = 7 ∨ t = 8 ∨ t = 9 ∨ t = 10 ∨ t = 11 by omega) with e | e | e | e | e | e | e | e | e | e | e | e <;> subst e <;> decide
  have row : ∀ t i k : Nat, t < 12 → t ≠ 9 → (i : Int) < h.2 96 (t_z t) → t_b t + t_s t * i ≤ k → k < t_b t + t_s t * i + t_s t → h2.2 96 k = h.2 96 k := by
    intro t i k ht h9 hi k1 k2
    have him : i < t_m t := by have := sz t ht h9; omega
    by_cases e : t = 5
    · subst e
      have hi : (i : Int) < h.2 96 7 := hi
      have k1 : 11000 + 4 * i ≤ k := k1
      have k2 : k < 11000 + 4 * i + 4 := k2
      exact E k (by omega)
    · have d := t_dj t ht 5 (by decide) e
      have hm2 : t_s t * i + t_s t ≤ t_s t * t_m t := by
        have := Nat.mul_le_mul_left (t_s t) (show i + 1 ≤ t_m t by omega)
        rw [Nat.mul_add, Nat.mul_one] at this
        exact this
      have bb : t_b t + t_s t * t_m t ≤ 11000 ∨ 11130 ≤ t_b t := by
        rcases (show t = 0 ∨ t = 1 ∨ t = 2 ∨ t = 3 ∨ t = 4 ∨ t = 6 ∨ t = 7 ∨ t = 8 ∨ t = 10 ∨ t = 11 by omega) with e | e | e | e | e | e | e | e | e | e <;> subst e <;> decide
      exact lo k (by omega)
  have hm : pM (h2.2 96) := by
    refine ⟨⟨by rw [lo 0 (by omega)]; exact s0, by rw [lo 6 (by omega)]; exact s6, by rw [lo 14 (by omega)]; exact s14, by rw [lo 15 (by omega)]; exact s15, by rw [lo 16 (by omega)]; exact s16, by rw [lo 17 (by omega)]; exact s17, fun t ht h9 => by rw [lo _ (by have := zt t ht; omega)]; exact sz t ht h9⟩, ⟨fun j a b => ?_, fun j a b => ?_, fun j a b => ?_⟩, fun t ht h9 j hj => ?_⟩
    · rw [lo 2 (by omega)] at a; rw [lo _ (by omega)]; exact b1 j a b
    · rw [lo 8 (by omega)] at a; rw [lo _ (by omega)]; exact b2 j a b
    · rw [lo 12 (by omega)] at a; rw [lo _ (by omega), lo _ (by omega)]; exact b3 j a b
    · rw [lo _ (by have := zt t ht; omega)] at hj
      exact rok_mono ht (fun k k1 k2 => row t j k ht h9 hj k1 k2) (by rw [lo 0 (by omega)]; exact Int.le_refl _) (by rw [lo 1 (by omega)]; exact Int.le_refl _) (by rw [lo 2 (by omega)]; exact Int.le_refl _) (by rw [lo 3 (by omega)]; exact Int.le_refl _) (by rw [lo 4 (by omega)]; exact Int.le_refl _) (by rw [lo 6 (by omega)]; exact Int.le_refl _) (by rw [lo 8 (by omega)]; exact Int.le_refl _) (rk t ht h9 j hj)
  have e97 := hC 97 (by decide)
  have e98 := hC 98 (by decide)
  have e99 := hC 99 (by decide)
  refine ⟨hm, by rw [e97]; exact i2, ?_, ?_, pTp_congr (fun r hr => hC r (by omega)) i5⟩
  · rw [e98]
    obtain ⟨q1, q2, q3, q4, q5, q6⟩ := i3
    refine ⟨fun t ht h9 => ?_, ?_, ?_, ?_, ?_, pActs_frame h1 (fun j => by rw [hC 42 (by decide)]) (fun r hr => hC r (by omega)) (fun k k1 k2 => lo k (by omega)) (lo 6 (by omega)) s6.2 q6⟩
    · obtain ⟨c1, c2⟩ := q1 t ht h9
      refine ⟨by rw [hC _ (by omega), lo _ (by have := zt t ht; omega)]; exact c1, fun i hi p hp => ?_⟩
      rw [lo _ (by have := zt t ht; omega)] at hi
      have hpc := t_pc t ht p hp
      rw [hC _ (by omega), row t i _ ht h9 hi (by omega) (by omega)]
      exact c2 i hi p hp
    · unfold pSc
      rw [hC 17 (by decide), lo 6 (by omega), lo 0 (by omega), lo 14 (by omega), lo 15 (by omega), lo 16 (by omega), lo 17 (by omega)]
      exact q2
    · intro j hj
      rw [lo 9 (by omega)] at hj
      have r7 := look_r mm hj
      have r6 := seal_r mm (s := (h.2 96 (11610 + 3 * j)).toNat) (by omega)
      rw [hC (17 + 16) (by decide), lo (11610 + 3 * j) (by omega), lo (11130 + 6 * (h.2 96 (11610 + 3 * j)).toNat) (by omega), lo (150 + 20 * (h.2 96 (11130 + 6 * (h.2 96 (11610 + 3 * j)).toNat)).toNat) (by omega)]
      exact q3 j hj
    · intro j hj k hk
      rw [lo 12 (by omega)] at hj
      rw [lo (12651 + 100 * j) (by omega)] at hk
      rw [hC (17 + 24) (by decide), lo (12653 + 100 * j + k) (by omega), lo (12693 + 100 * j + (h.2 96 (12653 + 100 * j + k)).toNat) (by omega)]
      exact q4 j hj k hk
    · unfold pFin
      rw [hC (17 + 19) (by decide), hC (17 + 20) (by decide), lo 8 (by omega)]
      have ef : (fun i => if i < 80 then h2.2 96 (11134 + 6 * i) else 0) = (fun i => if i < 80 then h.2 96 (11134 + 6 * i) else 0) := by
        funext k
        by_cases hk : k < 80
        · rw [if_pos hk, if_pos hk, lo _ (by omega)]
        · rw [if_neg hk, if_neg hk]
      rw [ef]
      exact q5
  · rw [e97, e99]
    exact pC_congr h1 (fun r hr => hC r (by omega)) i2.1.2.1.2 i4
theorem op_tried {g : xG} {D : Nat} {h : xH} {a b : Int} (I : zInv h) : zSl g (D + 8) mX8_tried [xr 16, xi a, xi b] h (fun x h1 => zSl g (D + 8) mX9_tried [xr 95, xi a, xi b] h1 (fun y h2 => x = y ∧ zInv h2)) := by
  refine zS_sh (fun hs => ?_)
  have Z := zB_of hs I
  have B := rB_inv I
  have z := pM_z I.1
  have h6 := I.1.1.2.1
  have hz7 : 0 ≤ h.2 96 7 ∧ h.2 96 7 ≤ 30 := I.1.1.2.2.2.2.2.2 5 (by decide) (by decide)
  have hsz : h.2 24 3 = h.2 96 4 := ((I.2.2.1.1 3 (by decide)) (by decide)).1
  obtain ⟨W, hW⟩ : ∃ W : Nat, h.2 96 4 = (W : Int) := ⟨(h.2 96 4).toNat, by omega⟩
  obtain ⟨n, hn⟩ : ∃ n : Nat, h.2 96 7 = (n : Int) := ⟨(h.2 96 7).toNat, by omega⟩
  have no : ¬ ((a = -1 ∨ (0 ≤ a ∧ a < h.2 96 6)) ∧ (0 ≤ b ∧ b ≤ 2)) → zSl g (D + 8) mX9_tried [xr 95, xi a, xi b] h (fun y h2 => -1 = y ∧ zInv h2) := by
    intro hno
    have l22 : ∀ {w3 w4 w5 w6 w7 w8 w9 w10 w11 : xV}, (a = -1 ∨ (0 ≤ a ∧ a < h.2 96 6)) → zJ g (D + 8) mX9_tried 0 0 22 [xr 95, xi a, xi b, w3, w4, w5, w6, w7, w8, w9, w10, w11] [] h (x_ql2 (fun y h2 => -1 = y ∧ zInv h2)) := fun {_ _ _ _ _ _ _ _ _} ha => zX9_tried_22 (s_in (fun v hv => ⟨fun u => by omega, fun u => ⟨rfl, I⟩⟩))
    refine eX9_tried (zX9_tried_0 ⟨fun e => l22 (Or.inl e), fun e => ?_⟩)
    rw [x32_id (by omega) (by omega)]
    exact s_in (fun v hv => ⟨fun u => zX9_tried_31 ⟨rfl, I⟩, fun u => l22 (by omega)⟩)
  -- both hold
  have main : ∀ (r3 : Nat), (a = -1 ∧ r3 = 0) ∨ (0 ≤ a ∧ a < h.2 96 6 ∧ h.2 42 a.toNat = (r3 : Int)) → 0 ≤ b ∧ b ≤ 2 → ∀ {w1 w4 w5 w6 : xV}, zJ g (D + 8) mX8_tried 0 0 31 [xr 16, w1, xi b, xr r3, w4, w5, w6] [] h (x_ql2 (fun x h1 => zSl g (D + 8) mX9_tried [xr 95, xi a, xi b] h1 (fun y h2 => x = y ∧ zInv h2))) := by
    intro r3 hr3 hb w1 w4 w5 w6
    have hbs : a = -1 ∨ (0 ≤ a ∧ a < h.2 96 6) := by
      rcases hr3 with q | q
      · exact Or.inl q.1
      · exact Or.inr ⟨q.1, q.2.1⟩
    have sgb : ∀ what : Int, ∀ k : Nat, k ≤ W → 0 ≤ sg (tf (h.2 96) a what) k ∧ sg (tf (h.2 96) a what) k ≤ 50000000000 := by
      intro what k hk
      have := sg_b2 (f := tf (h.2 96) a what) (B := 1000000000) (n := k) (fun j hj => tf_b I.1 B hbs (by omega))
      omega
    -- the reference
    have REF : ∀ {h1 : xH}, fB h h1 → zSl g (D + 8) mX9_tried [xr 95, xi a, xi b] h1 (fun y h2 => sg (tf (h.2 96) a b) W = y ∧ zInv h2) := by
      intro h1 f1
      have I1 := fB_inv f1 I
      have e1 := fB_96 f1
      -- frames of the first loop
      let F9 : xH → Prop := fun h' => h'.1 = h1.1 ∧ ∀ r, r ≠ 102 → r ≠ 103 → r ≠ 104 → r ≠ 110 → h'.2 r = h1.2 r
      have F9I : ∀ {h' : xH}, F9 h' → zInv h' := fun f => inv_scr I1 f.1 (by rw [f.2 75 (by decide) (by decide) (by decide) (by decide)]) (fun r hr => f.2 r (by omega) (by omega) (by omega) (by omega))
      have F9e : ∀ {h' : xH}, F9 h' → h'.2 96 = h.2 96 := fun f => (f.2 96 (by decide) (by decide) (by decide) (by decide)).trans e1
      -- the second loop, over an array with the same acts of the day
      have L2 : ∀ {h2 : xH} (A2 : Nat → Int), (∀ k, k ≠ 7 → ¬ (11000 ≤ k ∧ k < 11130) → A2 k = h.2 96 k) → rB A2 → sA (h.2 96) A2 a (-1) (h.2 96 0) → h2.2 96 = A2 → (∀ w : Nat, w < W → (h2.2 110 w = 0 ∧ ¬ hgs (h.2 96) w) ∨ (h2.2 110 w ≠ 0 ∧ hgs (h.2 96) w)) → (∀ h3, fR h2 h3 → ∀ {w4 w6 w8 w9 w10 w11 : xV}, zJ g (D + 8) mX9_tried 0 0 228 [xr 95, xi a, xi b, xl (sg (tf (h.2 96) a 0) W), w4, xl (sg (tf (h.2 96) a 1) W), w6, xl (sg (tf (h.2 96) a 2) W), w8, w9, w10, w11] [] h3 (x_ql2 (fun y h2 => sg (tf (h.2 96) a b) W = y ∧ zInv h2))) → ∀ (m w : Nat) {h3 : xH} {w4 w6 w8 w10 w11 : xV}, w + m = W → fR h2 h3 → zJ g (D + 8) mX9_tried 0 0 97 [xr 95, xi a, xi b, xl (sg (tf (h.2 96) a 0) w), w4, xl (sg (tf (h.2 96) a 1) w), w6, xl (sg (tf (h.2 96) a 2) w), w8, xi w, w10, w11] [] h3 (x_ql2 (fun y h2 => sg (tf (h.2 96) a b) W = y ∧ zInv h2)) := by
        intro h2 A2 E2 B2 S2 ea2 sld kend m
        have d0 : A2 0 = h.2 96 0 := E2 0 (by decide) (by omega)
        have d4 : A2 4 = (W : Int) := by rw [E2 4 (by decide) (by omega)]; exact hW
        have d5 : A2 5 = h.2 96 5 := E2 5 (by decide) (by omega)
        have d15 : A2 15 = h.2 96 15 := E2 15 (by decide) (by omega)
        have d16 : A2 16 = h.2 96 16 := E2 16 (by decide) (by omega)
        have d17 : A2 17 = h.2 96 17 := E2 17 (by decide) (by omega)
        have s15 : 0 ≤ h.2 96 15 ∧ h.2 96 15 ≤ 99 := I.1.1.2.2.2.1
        have s16 : 0 ≤ h.2 96 16 ∧ h.2 96 16 ≤ 99 := I.1.1.2.2.2.2.1
        induction m with
        | zero =>
          intro w h3 w4 w6 w8 w10 w11 ew f3
          have : w = W := by omega
          subst this
          refine zX9_tried_97 ?_
          rw [fR_96 f3, ea2, d4]
          exact ⟨fun _ => kend h3 f3, fun q => by omega⟩
        | succ m ih =>
          intro w h3 w4 w6 w8 w10 w11 ew f3
          have e3 : h3.2 96 = A2 := (fR_96 f3).trans ea2
          have b0 := sgb 0 w (by omega)
          have b1 := sgb 1 w (by omega)
          have b2 := sgb 2 w (by omega)
          have ih' := fun {h3 : xH} {w4 w6 w8 w10 w11 : xV} => @ih (w + 1) h3 w4 w6 w8 w10 w11 (by omega)
          rw [sg_s, sg_s, sg_s] at ih'
          generalize sg (tf (h.2 96) a 0) w = t0 at *
          generalize sg (tf (h.2 96) a 1) w = t1 at *
          generalize sg (tf (h.2 96) a 2) w = t2 at *
          refine zX9_tried_97 ?_
          rw [e3, d4, show ((w : Int)).toNat = w by omega, f3.2 110 (by decide) (by decide) (by decide), x32_id (by omega) (by omega), show (w : Int) + 1 = ((w + 1 : Nat) : Int) by omega]
          refine ⟨fun q => by omega, fun q => ⟨by omega, fun q2 => zX9_tried_121 ?_, fun q2 => ?_⟩⟩
          · have hg : hgs (h.2 96) w := by
              rcases sld w (by omega) with s | s
              · exact absurd s.1 q2
              · exact s.2
            obtain ⟨x, hx, hx5⟩ := hgs_meas I.1 hg
            have nb := nm1_b B hbs (show (w : Int) < h.2 96 4 by omega) hx5 B.2.1
            have b4 : 0 ≤ aM (h.2 96) a 4 (h.2 96 0) (nm1 (h.2 96) a w (h.2 96 0) x) ∧ aM (h.2 96) a 4 (h.2 96 0) (nm1 (h.2 96) a w (h.2 96 0) x) ≤ 1000000000 := aM_b (k := 4) B.1 hbs (by decide) nb.2.2.2
            have b3 : 0 ≤ aM (h.2 96) a 3 (h.2 96 0) (nm1 (h.2 96) a w (h.2 96 0) x) ∧ aM (h.2 96) a 3 (h.2 96 0) (nm1 (h.2 96) a w (h.2 96 0) x) ≤ 1000000000 := aM_b (k := 3) B.1 hbs (by decide) nb.2.2.2
            have nn : nm1 A2 (-1) w (h.2 96 0) x = nm1 (h.2 96) a w (h.2 96 0) x := (nm1_cong B hbs (fun k k1 k2 => E2 k (by omega) (by omega)) S2 (by omega) hx5).1
            have m4 : aM A2 (-1) 4 (h.2 96 0) (nm1 (h.2 96) a w (h.2 96 0) x) = aM (h.2 96) a 4 (h.2 96 0) (nm1 (h.2 96) a w (h.2 96 0) x) := aM_cong (k := 4) B.1 hbs (fun k k1 k2 => E2 k (by omega) (by omega)) S2 (by decide)
            have m3 : aM A2 (-1) 3 (h.2 96 0) (nm1 (h.2 96) a w (h.2 96 0) x) = aM (h.2 96) a 3 (h.2 96 0) (nm1 (h.2 96) a w (h.2 96 0) x) := aM_cong (k := 3) B.1 hbs (fun k k1 k2 => E2 k (by omega) (by omega)) S2 (by decide)
            have mx' : mO (h3.2 96) w (h3.2 96 0) (h3.2 96 0) = (x : Int) := by
              rw [e3, d0, mO_cong (A := h.2 96) (fun k k1 k2 => E2 k (by omega) (by omega)) d5 (by omega)]; exact hx
            have nm2 : nm1 (h.2 96) a w (h.2 96 0) x 2 = h.2 96 (404 + 8 * x) := rfl
            obtain ⟨-, -, -, -, lm, -⟩ := B.2.2.2.2.2.2 x hx5
            have l15 := mul_b s15 lm
            have l16 := mul_b s16 lm
            have T : ∀ what : Int, tf (h.2 96) a what w = (if what = 2 then (if h.2 96 17 < aM (h.2 96) a 4 (h.2 96 0) (nm1 (h.2 96) a w (h.2 96 0) x) then 1 else 0) else if aM (h.2 96) a 4 (h.2 96 0) (nm1 (h.2 96) a w (h.2 96 0) x) - aM (h.2 96) a 3 (h.2 96 0) (nm1 (h.2 96) a w (h.2 96 0) x) + h.2 96 15 * h.2 96 (404 + 8 * x) < h.2 96 16 * h.2 96 (404 + 8 * x) then 0 else if what = 0 then 1 else max 0 (aM (h.2 96) a 4 (h.2 96 0) (nm1 (h.2 96) a w (h.2 96 0) x) - aM (h.2 96) a 3 (h.2 96 0) (nm1 (h.2 96) a w (h.2 96 0) x))) := by
              intro what
              rw [tf_y hg]
              unfold tw
              rw [hx, show ((x : Int)).toNat = x by omega]
            have T0 := T 0
            have T1 := T 1
            have T2 := T 2
            rw [if_neg (by decide), if_pos rfl] at T0
            rw [if_neg (by decide), if_neg (show ¬ (1 : Int) = 0 by decide)] at T1
            rw [if_pos rfl] at T2
            clear T
            refine r_bountyLess (by rw [e3]; exact B2) (by rw [e3, d4]; omega) mx' (fun h4 f4 n4 => ?_)
            have e4 : h4.2 96 = A2 := (fR_96 f4).trans e3
            rw [e3, d0, nn] at n4
            rw [e3, d0, nn, m4, m3, e4, d0]
            refine r_sumOf (k := 4) (by rw [e4]; exact B2.1) (by decide) nb.2.2.2 n4 (fun h5 g5 g6 => ?_)
            rw [e4, show ((4 : Nat) : Int) = 4 from rfl, m4]
            have f5 := fR_trans f4 (fR_of g5 g6)
            have e5 : h5.2 96 = A2 := (fR_96 f5).trans e3
            have l5 : h5.2 102 2 = h.2 96 (404 + 8 * x) := by rw [g6 102 (by decide) (by decide), n4 2 (by decide)]; exact nm2
            rw [e5, d17]
            generalize aM (h.2 96) a 4 (h.2 96 0) (nm1 (h.2 96) a w (h.2 96 0) x) = bo at *
            generalize aM (h.2 96) a 3 (h.2 96 0) (nm1 (h.2 96) a w (h.2 96 0) x) = fe at *
            -- behind the round
            have rest : ∀ (u : Int) {w4 w6 w7 w8 w11 : xV}, u = tf (h.2 96) a 2 w → 0 ≤ u ∧ u ≤ 1 → zJ g (D + 8) mX9_tried 0 0 161 [xr 95, xi a, xi b, xl t0, w4, xl t1, w6, w7, w8, xi w, xi (bo - fe), w11] [xl u, xl t2] h5 (x_ql2 (fun y h2 => sg (tf (h.2 96) a b) W = y ∧ zInv h2)) := by
              intro u w4 w6 w7 w8 w11 hu ub
              refine zX9_tried_161 ?_
              rw [e5, l5, d15, d16, x32_id (show -2147483648 ≤ h.2 96 15 * h.2 96 (404 + 8 * x) by omega) (by omega), x32_id (show -2147483648 ≤ h.2 96 16 * h.2 96 (404 + 8 * x) by omega) (by omega), x32_id (show -2147483648 ≤ bo - fe + h.2 96 15 * h.2 96 (404 + 8 * x) by omega) (by omega), x64_id (show -9223372036854775808 ≤ t2 + u by omega) (by omega), x32_id (show -2147483648 ≤ (w : Int) + 1 by omega) (by omega), show (w : Int) + 1 = ((w + 1 : Nat) : Int) by omega, hu]
              refine ⟨fun c => zX9_tried_201 ?_, fun c => ?_⟩
              · rw [if_neg (by omega)] at T0 T1
                rw [T0, T1] at ih'
                rw [x64_id (show -9223372036854775808 ≤ t0 + 1 by omega) (by omega)]
                refine ⟨fun c2 => zX9_tried_216 ?_, fun c2 => ?_⟩
                · rw [x64_id (show -9223372036854775808 ≤ t1 + (bo - fe) by omega) (by omega), x32_id (show -2147483648 ≤ (w : Int) + 1 by omega) (by omega), show (w : Int) + 1 = ((w + 1 : Nat) : Int) by omega]
                  rw [show max 0 (bo - fe) = bo - fe by omega] at ih'
                  exact ih' (fR_trans f3 f5)
                · rw [x64_id (show -9223372036854775808 ≤ t1 + 0 by omega) (by omega), x32_id (show -2147483648 ≤ (w : Int) + 1 by omega) (by omega), show (w : Int) + 1 = ((w + 1 : Nat) : Int) by omega]
                  rw [show max 0 (bo - fe) = 0 by omega] at ih'
                  exact ih' (fR_trans f3 f5)
              · rw [if_pos c] at T0 T1
                rw [T0, T1, Int.add_zero, Int.add_zero] at ih'
                exact ih' (fR_trans f3 f5)
            refine ⟨fun c => zX9_tried_160 (rest 0 ?_ (by omega)), fun c => rest 1 ?_ (by omega)⟩
            · rw [T2, if_neg (by omega)]
            · rw [T2, if_pos c]
          · have hg : ¬ hgs (h.2 96) w := by
              rcases sld w (by omega) with s | s
              · exact s.2
              · exact absurd q2 s.1
            rw [tf_n hg, tf_n hg, tf_n hg, Int.add_zero, Int.add_zero, Int.add_zero] at ih'
            exact ih' f3
      -- the first loop
      have L1 : ∀ (m w : Nat) {h3 : xH} {w4 w5 w6 w7 w8 w9 w10 w11 : xV}, w + m = W → F9 h3 → (∀ v : Nat, v < w → (h3.2 110 v = 0 ∧ ¬ hgs (h.2 96) v) ∨ (h3.2 110 v ≠ 0 ∧ hgs (h.2 96) v)) → zJ g (D + 8) mX9_tried 0 0 37 [xr 95, xi a, xi b, xi w, w4, w5, w6, w7, w8, w9, w10, w11] [] h3 (x_ql2 (fun y h2 => sg (tf (h.2 96) a b) W = y ∧ zInv h2)) := by
        intro m
        induction m with
        | zero =>
          intro w h3 w4 w5 w6 w7 w8 w9 w10 w11 ew f3 s3
          have : w = W := by omega
          subst this
          have e3 := F9e f3
          have I3 := F9I f3
          refine zX9_tried_37 ?_
          rw [e3, hW]
          refine ⟨fun _ => zX9_tried_64 ⟨fun ea => zX9_tried_86 ?_, fun ea => ?_⟩, fun q => by omega⟩
          · -- none beside
            refine L2 (h2 := h3) (h.2 96) (fun _ _ _ => rfl) B (by rw [ea]; exact fun k _ => rfl) e3 s3 (fun h4 f4 {_ _ _ _ _ _} => zX9_tried_228 ⟨fun _ => ?_, fun q => absurd ea q⟩) w 0 (by omega) (fR_refl h3)
            have I4 := fR_inv f4 I3
            rcases (show b = 0 ∨ b = 1 ∨ b = 2 by omega) with q | q | q <;> subst q
            · exact zX9_tried_244 ⟨fun q => absurd rfl q, fun _ => ⟨rfl, I4⟩⟩
            · exact zX9_tried_244 ⟨fun _ => zX9_tried_252 ⟨fun q => absurd rfl q, fun _ => ⟨rfl, I4⟩⟩, fun q => absurd q (by decide)⟩
            · exact zX9_tried_244 ⟨fun _ => zX9_tried_252 ⟨fun _ => zX9_tried_262 ⟨rfl, I4⟩, fun q => absurd q (by decide)⟩, fun q => absurd q (by decide)⟩
          · -- an act beside
            have ha6 : 0 ≤ a ∧ a < h.2 96 6 := by omega
            rw [e3]
            refine eX9_putForce (zX9_putForce_0 ?_)
            simp (disch := omega) only [e3, hn, x32_id, x_up_j]
            rw [show (11000 + 4 * (n : Int)).toNat = 11000 + 4 * n by omega, show (11000 + 4 * (n : Int) + 1).toNat = 11001 + 4 * n by omega, show (11000 + 4 * (n : Int) + 2).toNat = 11002 + 4 * n by omega]
            refine ⟨by omega, by omega, by omega, ?_⟩
            generalize hC : x_up (x_up (x_up (x_up h3.2 96 (11000 + 4 * n) a) 96 (11001 + 4 * n) (h.2 96 0)) 96 (11002 + 4 * n) (h.2 96 0)) 96 7 ((n : Int) + 1) = C
            have hu : ∀ k, C 96 k = if k = 7 then (n : Int) + 1 else if k = 11002 + 4 * n then h.2 96 0 else if k = 11001 + 4 * n then h.2 96 0 else if k = 11000 + 4 * n then a else h.2 96 k := fun k => by rw [← hC, x_up_k, x_up_k, x_up_k, x_up_k, e3]
            have Co : ∀ r, r ≠ 96 → C r = h3.2 r := fun r hr => by rw [← hC, x_up_r hr, x_up_r hr, x_up_r hr, x_up_r hr]
            have E2 : ∀ k, k ≠ 7 → ¬ (11000 ≤ k ∧ k < 11130) → C 96 k = h.2 96 k := fun k k1 k2 => by rw [hu, if_neg k1, if_neg (by omega), if_neg (by omega), if_neg (by omega)]
            have E3 : ∀ k, k ≠ 7 → ¬ (11000 + 4 * n ≤ k ∧ k < 11003 + 4 * n) → C 96 k = h.2 96 k := fun k k1 k2 => by rw [hu, if_neg k1, if_neg (by omega), if_neg (by omega), if_neg (by omega)]
            have c7 : C 96 7 = (n : Int) + 1 := by rw [hu, if_pos rfl]
            have cf0 : C 96 (11000 + 4 * n) = a := by rw [hu, if_neg (by omega), if_neg (by omega), if_neg (by omega), if_pos rfl]
            have cf1 : C 96 (11001 + 4 * n) = h.2 96 0 := by rw [hu, if_neg (by omega), if_neg (by omega), if_pos rfl]
            have cf2 : C 96 (11002 + 4 * n) = h.2 96 0 := by rw [hu, if_neg (by omega), if_pos rfl]
            have txe : ∀ t, t < 10 → tx (C 96) t = tx (h.2 96) t := fun t ht => tx_cong (fun k k1 k2 => E2 k (by omega) (by omega)) ht
            have rA2 : rA (C 96) := by
              refine ⟨by rw [E2 6 (by decide) (by omega)]; exact h6, by rw [c7]; omega, fun f hf => ?_, fun t ht => ?_⟩
              · rw [c7] at hf
                rw [E2 6 (by decide) (by omega)]
                by_cases ef : f = n
                · subst ef; rw [cf0]; exact ha6
                · rw [E3 _ (by omega) (by omega)]; exact B.1.2.2.1 f (by omega)
              · rw [E2 6 (by decide) (by omega)] at ht
                rw [txe t (by omega)]; exact B.1.2.2.2 t ht
            have rB2 : rB (C 96) := by
              obtain ⟨_, q1, ⟨q2, q3, q4, q5⟩, q6, q7, q8, q9⟩ := B
              refine ⟨rA2, by rw [E2 0 (by decide) (by omega)]; exact q1, ⟨by rw [E2 1 (by decide) (by omega)]; exact q2, by rw [E2 2 (by decide) (by omega)]; exact q3, by rw [E2 4 (by decide) (by omega)]; exact q4, by rw [E2 5 (by decide) (by omega)]; exact q5⟩, fun t ht => ?_, fun p hp => ?_, fun w hw => ?_, fun m hm => ?_⟩
              · rw [E2 1 (by decide) (by omega)] at ht; rw [E2 (20 + t) (by omega) (by omega)]; exact q6 t ht
              · rw [E2 2 (by decide) (by omega)] at hp; rw [E2 (30 + 4 * p) (by omega) (by omega), E2 1 (by decide) (by omega)]; exact q7 p hp
              · rw [E2 4 (by decide) (by omega)] at hw; rw [E2 (350 + w) (by omega) (by omega), E2 2 (by decide) (by omega)]; exact q8 w hw
              · rw [E2 5 (by decide) (by omega)] at hm
                rw [E2 (400 + 8 * m) (by omega) (by omega), E2 (401 + 8 * m) (by omega) (by omega), E2 (402 + 8 * m) (by omega) (by omega), E2 (403 + 8 * m) (by omega) (by omega), E2 (404 + 8 * m) (by omega) (by omega), E2 (405 + 8 * m) (by omega) (by omega), E2 (406 + 8 * m) (by omega) (by omega), E2 4 (by decide) (by omega), E2 0 (by decide) (by omega)]
                exact q9 m hm
            have aFe : ∀ (k : Nat) (q : Nat), q ≤ n → aF (C 96) k (h.2 96 0) q = aF (h.2 96) k (h.2 96 0) q := by
              intro k q
              induction q with
              | zero => intro _; rfl
              | succ q ihq =>
                intro hq
                have fq := B.1.2.2.1 q (by omega)
                unfold aF
                rw [ihq (by omega), E3 (11000 + 4 * q) (by omega) (by omega), E3 (11001 + 4 * q) (by omega) (by omega), E3 (11002 + 4 * q) (by omega) (by omega), txe _ (by omega)]
            have S2 : sA (h.2 96) (C 96) a (-1) (h.2 96 0) := by
              intro k _
              unfold aB
              rw [if_neg (show ¬ (0 ≤ (-1 : Int) ∧ _) from fun q => absurd q.1 (by decide)), c7, show ((n : Int) + 1).toNat = n + 1 by omega, hn, show ((n : Int)).toNat = n by omega]
              show (if C 96 (11001 + 4 * n) ≤ h.2 96 0 ∧ h.2 96 0 ≤ C 96 (11002 + 4 * n) ∧ 0 ≤ fO (tx (C 96) (C 96 (11000 + 4 * n)).toNat) k then C 96 (11000 + 4 * n) else aF (C 96) k (h.2 96 0) n) = _
              rw [cf0, cf1, cf2, txe _ (by omega), aFe k n (Nat.le_refl n)]
              by_cases q : 0 ≤ fO (tx (h.2 96) a.toNat) k
              · rw [if_pos ⟨Int.le_refl _, Int.le_refl _, q⟩, if_pos ⟨ha6.1, q⟩]
              · rw [if_neg (fun r => q r.2.2), if_neg (fun r => q r.2)]
            refine L2 (h2 := (h3.1, C)) (C 96) E2 rB2 S2 rfl (fun v hv => by (try dsimp only); rw [Co 110 (by decide)]; exact s3 v hv) (fun h4 f4 {_ _ _ _ _ _} => zX9_tried_228 ⟨fun q => absurd q ea, fun _ => ?_⟩) w 0 (by omega) (fR_refl _)
            have e4 : h4.2 96 = C 96 := fR_96 f4
            rw [e4, c7, x32_id (by omega) (by omega), show (n : Int) + 1 - 1 = (n : Int) by omega]
            have I4 : zInv (h4.1, x_up h4.2 96 7 (n : Int)) := by
              have Im := inv_mix (hf := (h4.1, x_up h4.2 96 7 (n : Int))) I3 (by (try dsimp only); rw [x_up_r (by decide), f4.2 75 (by decide) (by decide) (by decide)]; (try dsimp only); rw [Co 75 (by decide)])
              refine inv_free (h := mix h3 (h4.1, x_up h4.2 96 7 (n : Int))) (n := n) Im f4.1 (by rw [mix_n (by omega), e3]; exact hn) (fun r hr => ?_) (fun k hk => ?_)
              · (try dsimp only)
                by_cases sc : (75 ≤ r ∧ r ≤ 94) ∨ (101 ≤ r ∧ r ≤ 110)
                · rw [mix_y sc]
                · rw [mix_n sc, x_up_r hr, f4.2 r (by omega) (by omega) (by omega)]
                  exact Co r hr
              · (try dsimp only)
                rw [mix_n (by omega), x_up_k, e4, e3]
                by_cases k7 : k = 7
                · rw [if_pos k7, k7, hn]
                · rw [if_neg k7]; exact E3 k k7 hk
            rcases (show b = 0 ∨ b = 1 ∨ b = 2 by omega) with q | q | q <;> subst q
            · exact zX9_tried_244 ⟨fun q => absurd rfl q, fun _ => ⟨rfl, I4⟩⟩
            · exact zX9_tried_244 ⟨fun _ => zX9_tried_252 ⟨fun q => absurd rfl q, fun _ => ⟨rfl, I4⟩⟩, fun q => absurd q (by decide)⟩
            · exact zX9_tried_244 ⟨fun _ => zX9_tried_252 ⟨fun _ => zX9_tried_262 ⟨rfl, I4⟩, fun q => absurd q (by decide)⟩, fun q => absurd q (by decide)⟩
        | succ m ih =>
          intro w h3 w4 w5 w6 w7 w8 w9 w10 w11 ew f3 s3
          have e3 := F9e f3
          have I3 := F9I f3
          refine zX9_tried_37 ?_
          rw [e3, hW]
          refine ⟨fun q => by omega, fun q => r_hgs I3.1 (rB_inv I3) (fun v h4 f4 hv => ?_)⟩
          rw [e3] at hv
          rw [x32_id (by omega) (by omega), show ((w : Int)).toNat = w by omega, show (w : Int) + 1 = ((w + 1 : Nat) : Int) by omega]
          refine ⟨by omega, by omega, ih (w + 1) (by omega) ⟨f4.1.trans f3.1, fun r r1 r2 r3 r4 => by (try dsimp only); rw [x_up_r r4, f4.2 r r1 r2 r3]; exact f3.2 r r1 r2 r3 r4⟩ (fun u hu => ?_)⟩
          (try dsimp only)
          rw [x_up_k]
          by_cases eu : u = w
          · rw [if_pos eu, eu]
            rcases hv with p | p
            · exact Or.inr ⟨by omega, p.2⟩
            · exact Or.inl ⟨p.1, p.2⟩
          · rw [if_neg eu, f4.2 110 (by decide) (by decide) (by decide)]; exact s3 u (by omega)
      have l22 : ∀ {w3 w4 w5 w6 w7 w8 w9 w10 w11 : xV}, zJ g (D + 8) mX9_tried 0 0 22 [xr 95, xi a, xi b, w3, w4, w5, w6, w7, w8, w9, w10, w11] [] h1 (x_ql2 (fun y h2 => sg (tf (h.2 96) a b) W = y ∧ zInv h2)) := fun {_ _ _ _ _ _ _ _ _} => zX9_tried_22 (s_in (fun v hv => ⟨fun u => zX9_tried_35 (L1 W 0 (by omega) ⟨rfl, fun _ _ _ _ _ => rfl⟩ (fun v hv => by omega)), fun u => by omega⟩))
      refine eX9_tried (zX9_tried_0 ⟨fun e => l22, fun e => ?_⟩)
      rw [e1, x32_id (by omega) (by omega)]
      exact s_in (fun v hv => ⟨fun u => by omega, fun u => l22⟩)
    -- the class
    have L8 : ∀ (m w : Nat) {h' : xH} {w1 w5 : xV}, w + m = W → fB h h' → zJ g (D + 8) mX8_tried 0 0 37 [xr 16, w1, xi b, xr r3, xl (sg (tf (h.2 96) a b) w), w5, xi w] [] h' (x_ql2 (fun x h1 => zSl g (D + 8) mX9_tried [xr 95, xi a, xi b] h1 (fun y h2 => x = y ∧ zInv h2))) := by
      intro m
      induction m with
      | zero =>
        intro w h' w1 w5 ew f'
        have : w = W := by omega
        subst this
        refine zX8_tried_37 ?_
        rw [f'.2.1 24 (by decide) (by decide) (by decide), hsz, hW]
        exact ⟨fun _ => zX8_tried_96 (REF f'), fun q => by omega⟩
      | succ m ih =>
        intro w h' w1 w5 ew f'
        have bb := sgb b w (by omega)
        have tb' := tf_b I.1 B hbs (what := b) (w := w) (by omega)
        have ih' := fun {h' : xH} {w1 w5 : xV} => @ih (w + 1) h' w1 w5 (by omega)
        rw [sg_s] at ih'
        refine zX8_tried_37 ?_
        rw [f'.2.1 24 (by decide) (by decide) (by decide), hsz, hW]
        refine ⟨fun q => by omega, fun q => s_hgs (fB_zB f' Z) (fun v h2 f2 hv => ?_)⟩
        rw [fB_96 f'] at hv
        have f3 := fB_trans f' f2
        refine ⟨fun q2 => zX8_tried_90 ?_, fun q2 => zS_sh (fun hs3 => ?_)⟩
        · have hg : ¬ hgs (h.2 96) w := by
            rcases hv with p | p
            · omega
            · exact p.2
          rw [tf_n hg, Int.add_zero] at ih'
          rw [x32_id (by omega) (by omega), show (w : Int) + 1 = ((w + 1 : Nat) : Int) by omega]
          exact ih' f3
        · have hg : hgs (h.2 96) w := by
            rcases hv with p | p
            · exact p.2
            · omega
          rw [tf_y hg] at ih' tb'
          have e96 : ((h2.1, x_up h2.2 75 3 (r3 : Int)) : xH).2 96 = h.2 96 := by (try dsimp only); rw [x_up_r (by decide)]; exact fB_96 f3
          have zb : zB (h2.1, x_up h2.2 75 3 (r3 : Int)) a := by
            refine ⟨hs3, by rw [e96]; exact I.1, ?_, ?_⟩
            · rw [e96]
              exact pCw_congr f3.1 (fun r hr => by (try dsimp only); rw [x_up_r (by omega)]; exact f3.2.1 r (by omega) (by omega) (by omega)) h6.2 (pCw_of I.2.2.1)
            · rw [e96]
              (try dsimp only)
              rw [x_up_eq, x_up_r (show 42 ≠ 75 by decide), f3.2.1 42 (by decide) (by decide) (by decide)]
              rcases hr3 with ⟨p1, p2⟩ | ⟨p1, p2, p3⟩
              · exact Or.inl ⟨p1, by rw [p2]; rfl⟩
              · exact Or.inr ⟨p1, p2, p3.symm⟩
          refine s_triedWeb (what := b) zb (by rw [e96]; omega) hb (by rw [e96]; exact hg) (fun h4 f4 => ?_)
          rw [e96, x64_id (by omega) (by omega), x32_id (by omega) (by omega), show (w : Int) + 1 = ((w + 1 : Nat) : Int) by omega]
          refine ih' ⟨f4.1.trans f3.1, fun r r1 r2 r3' => ?_, fun j hj => ?_⟩
          · (try dsimp only)
            rw [x_up_r r1, f4.2.1 r r1 r2 r3']
            (try dsimp only)
            rw [x_up_r r1]
            exact f3.2.1 r r1 r2 r3'
          · (try dsimp only)
            rw [x_up_k]
            by_cases j3 : j = 3
            · rw [if_pos j3, j3]; exact I.2.2.2.2.2.2.2.2.2.2.2.symm
            · rw [if_neg j3, f4.2.2 j hj]
              (try dsimp only)
              rw [x_up_j j3]
              exact f3.2.2 j hj
    exact zX8_tried_31 (L8 W 0 (by omega) (fB_refl h))
  have l18 : ∀ (r3 : Nat), (a = -1 ∧ r3 = 0) ∨ (0 ≤ a ∧ a < h.2 96 6 ∧ h.2 42 a.toNat = (r3 : Int)) → ∀ {w4 w5 w6 : xV}, zJ g (D + 8) mX8_tried 0 0 18 [xr 16, xi a, xi b, xr r3, w4, w5, w6] [] h (x_ql2 (fun x h1 => zSl g (D + 8) mX9_tried [xr 95, xi a, xi b] h1 (fun y h2 => x = y ∧ zInv h2))) := fun r3 hr3 {_ _ _} => zX8_tried_18 (s_win (fun v hv => ⟨fun u => main r3 hr3 (by omega), fun u => no (by omega)⟩))
  refine eX8_tried (zX8_tried_0 (s_actAt Z (fun q => ⟨fun e => l18 0 (Or.inl ⟨e, rfl⟩), fun e => ⟨fun _ => zX8_tried_27 (no (by omega)), fun q2 => absurd rfl q2⟩⟩) (fun t r ht hl ap => ⟨fun e => by omega, fun e => ⟨fun q2 => by have := ap.2.1; omega, fun q2 => l18 r (Or.inr ⟨by omega, hl, ?_⟩)⟩⟩)))
  rw [ht, show ((t : Int)).toNat = t by omega]
  exact ap.1
