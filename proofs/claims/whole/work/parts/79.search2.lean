/-! the class's search -/
def fS (k : Nat) (h h' : xH) : Prop := h'.1 = h.1 ∧ (∀ q, q ≠ 78 → q ≠ 80 → q ≠ 82 → q ≠ 87 → q ≠ 88 → q ≠ 90 → h'.2 q = h.2 q) ∧ (∀ i, i < 30 * (k + 1) → h'.2 80 i = h.2 80 i) ∧ ∀ i, i < 40 * (k + 1) → h'.2 82 i = h.2 82 i
theorem fS_refl (k : Nat) (h : xH) : fS k h h := ⟨rfl, fun _ _ _ _ _ _ _ => rfl, fun _ _ => rfl, fun _ _ => rfl⟩
theorem fS_trans {k : Nat} {h h1 h2 : xH} (a : fS k h h1) (b : fS k h1 h2) : fS k h h2 := ⟨b.1.trans a.1, fun q x1 x2 x3 x4 x5 x6 => (b.2.1 q x1 x2 x3 x4 x5 x6).trans (a.2.1 q x1 x2 x3 x4 x5 x6), fun i hi => (b.2.2.1 i hi).trans (a.2.2.1 i hi), fun i hi => (b.2.2.2 i hi).trans (a.2.2.2 i hi)⟩
theorem fS_up {k : Nat} {h h' : xH} (a : fS (k + 1) h h') : fS k h h' := ⟨a.1, a.2.1, fun i hi => a.2.2.1 i (by omega), fun i hi => a.2.2.2 i (by omega)⟩
theorem fS_fL {k : Nat} {h h' : xH} (f : fS k h h') : fL h h' := ⟨f.1, fun q hq => f.2.1 q (by omega) (by omega) (by omega) (by omega) (by omega) (by omega)⟩
theorem fP_fS {k : Nat} {h h' : xH} (f : fP (k + 1) h h') : fS k h h' := ⟨f.1, fun q x1 x2 x3 x4 x5 x6 => f.2.1 q x2 x3 x4 x5 x6, fun i hi => f.2.2.1 i (by omega), fun i hi => f.2.2.2 i (by omega)⟩
def sS (h : xH) (N : Nat) (st : Int × Nat) : Prop := h.2 78 8 = st.1 ∧ ∀ i, i < N → tb (h.2 78 9) i = oq N st.2 i
/-- the webs in doubt, as the looms have them -/
def wbs (A : Nat → Int) (a N : Nat) (h : xH) : Prop := h.2 91 3 = (N : Int) ∧ ∀ i, i < N → h.2 92 (3 * i) = (dbO A a i : Int) ∧ h.2 92 (3 * i + 1) = nd A (a + i) ∧ h.2 92 (3 * i + 2) = yl A (a + i)
theorem kI_cong {A : Nat → Int} {a k x y : Nat} {keep keep' : Nat → Bool} {st sn st' sn' : Nat → Int} (K : kI A a keep k 0 x st sn) (h1 : ∀ i, i < k → keep' i = keep i) (h2 : ∀ p : Nat, (p : Int) < A 2 → st' p = st p) (h3 : ∀ j : Nat, (j : Int) < A 11 → sn' j = sn j) : kI A a keep' k 0 y st' sn' := by
  refine ⟨fun p hp => by rw [h2 p hp]; exact K.1 p hp, fun j hj => by rw [h3 j hj]; exact K.2.1 j hj, fun X => ?_⟩
  have e := K.2.2 X
  rw [show bL 0 (X x) = 0 by unfold bL; split <;> rfl] at e
  rw [show bL 0 (X y) = 0 by unfold bL; split <;> rfl]
  rw [sX_cong (P := fun i => keep i && X (dbO A a i)) (P' := fun i => keep' i && X (dbO A a i)) (v := fun i => nd A (a + i)) k (fun i hi => ⟨by rw [h1 i hi], rfl⟩), sX_cong (P := X) (v := st) (A 2).toNat (fun i hi => ⟨rfl, h2 i (by omega)⟩), sX_cong (P := fun j => X (dbF A j)) (v := sn) (A 11).toNat (fun i hi => ⟨rfl, h3 i (by omega)⟩), sX_cong (P := fun j => X (dbT A j)) (v := sn) (A 11).toNat (fun i hi => ⟨rfl, h3 i (by omega)⟩)]
  exact e
section SE
variable {g : xG} {A : Nat → Int}
theorem s_search {a N : Nat} {fe : Nat → Bool} (m : pM A) (B : rB A) (h10 : N ≤ 10) (hk : (a : Int) + N ≤ A 4) (hfe : ∀ q, q < 2 ^ N → (fe q = true ↔ dbX A a (fun i => !oq N q i) N)) : ∀ (d k c : Nat) {D : Nat} {h : xH} {out : Int} {x : Nat} {st : Int × Nat} {Q : xH → Prop}, k + d = N → c < 2 ^ k → oI k c out k → tK A h → adj A h → wbs A a N h → kI A a (fun i => !oq k c i) k 0 x (fun p => h.2 80 (30 * k + p)) (fun j => h.2 82 (40 * k + j)) → sS h N st → (∀ h', fS k h h' → sS h' N (fo (fun q => lq A a N q N) fe (c * 2 ^ d) (2 ^ d) st) → Q h') → zSv g (D + d + 4) mX3_search [xr 78, xi k, xi (lq A a k c k), xi out] h Q
  | 0, k, c, D, h, out, x, st, Q, e, hc, o, t, aj, W, K, s, hQ => by
    have : k = N := by omega
    subst this
    have hfo : fo (fun q => lq A a k q k) fe (c * 2 ^ 0) (2 ^ 0) st = stq (fun q => lq A a k q k) fe c st := by
      show stq _ fe (c * 1 + 0) st = _
      rw [Nat.mul_one, Nat.add_zero]
    rw [hfo] at hQ
    refine eX3_search (zX3_search_0 ?_)
    rw [s.1]
    refine ⟨fun q => zX3_search_14 (hQ h (fS_refl k h) ?_), fun q => ⟨fun _ => zX3_search_15 ?_, fun q2 => by omega⟩⟩
    · unfold stq
      rw [if_neg (by (try dsimp only); omega)]; exact s
    · rw [W.1]
      refine ⟨fun q2 => by omega, fun _ => hQ _ ⟨rfl, fun q x1 x2 x3 x4 x5 x6 => ?_, fun i _ => ?_, fun i _ => ?_⟩ ?_⟩
      · (try dsimp only); rw [x_up_r x1, x_up_r x1]
      · (try dsimp only); rw [x_up_r (by decide), x_up_r (by decide)]
      · (try dsimp only); rw [x_up_r (by decide), x_up_r (by decide)]
      · unfold stq
        rw [if_pos ⟨q, (hfe c hc).mpr (kI_can K)⟩]
        refine ⟨?_, fun i hi => ?_⟩
        · (try dsimp only); rw [x_up_j (by decide), x_up_eq]
        · (try dsimp only)
          rw [x_up_eq, o.2 i (by omega), decide_eq_true hi]; rfl
  | d + 1, k, c, D, h, out, x, st, Q, e, hc, o, t, aj, W, K, s, hQ => by
    have z := pM_z m
    have hp2 : 2 ^ (d + 1) = 2 ^ d + 2 ^ d := by rw [Nat.pow_succ]; omega
    have hcc : c * 2 ^ (d + 1) = 2 * c * 2 ^ d := by rw [Nat.pow_succ, Nat.mul_comm (2 ^ d) 2, ← Nat.mul_assoc, Nat.mul_comm c 2]
    have hcr : (2 * c + 1) * 2 ^ d = 2 * c * 2 ^ d + 2 ^ d := by rw [Nat.add_mul, Nat.one_mul]
    have hk1 : 2 * c + 1 < 2 ^ (k + 1) := by rw [Nat.pow_succ]; omega
    have hNp : (2 * c + 1) * 2 ^ d + 2 ^ d ≤ 2 ^ N := by
      have : (2 * c + 1) * 2 ^ d + 2 ^ d = (2 * c + 2) * 2 ^ d := by rw [show 2 * c + 2 = 2 * c + 1 + 1 by omega, Nat.add_mul (2 * c + 1), Nat.one_mul]
      rw [this, show N = k + 1 + d by omega, Nat.pow_add]
      exact Nat.mul_le_mul_right _ (by omega)
    have hsp : fo (fun q => lq A a N q N) fe (c * 2 ^ (d + 1)) (2 ^ (d + 1)) st = fo (fun q => lq A a N q N) fe ((2 * c + 1) * 2 ^ d) (2 ^ d) (fo (fun q => lq A a N q N) fe (2 * c * 2 ^ d) (2 ^ d) st) := by
      rw [hcc, hp2, fo_add, hcr]
    have hw : ((a + k : Nat) : Int) < A 4 := by omega
    have nb := nd_b B hw
    have yb := yl_b B (web := a + k)
    have lb := lq_b B (a := a) (N := k) (q := c) (i := k) (by omega)
    have Wk := W.2 k (by omega)
    have ow : (dbO A a k : Int) < A 2 := by
      have := B.2.2.2.2.2.1 (a + k) hw
      unfold dbO; omega
    show zSv g (D + d + 4 + 1) mX3_search _ h Q
    refine eX3_search (zX3_search_0 ?_)
    rw [s.1]
    refine ⟨fun q => zX3_search_14 (hQ h (fS_refl k h) ?_), fun q => ⟨fun _ => zX3_search_15 ?_, fun q2 => by omega⟩⟩
    · rw [fo_skip]
      · exact s
      · intro y y1 y2 _
        have := lq_ge B (a := a) (k := k) (d := d + 1) (iv y1 y2)
        rw [e] at this
        (try dsimp only)
        omega
    rw [W.1]
    refine ⟨fun _ => zX3_search_37 ?_, fun q2 => by omega⟩
    -- behind the half that keeps the web
    have J : ∀ {h3 : xH}, fS k h h3 → sS h3 N (fo (fun q => lq A a N q N) fe (2 * c * 2 ^ d) (2 ^ d) st) → zJ g (D + d + 4 + 1) mX3_search 0 0 59 [xr 78, xi k, xi (lq A a k c k), xi out] [] h3 (x_qv Q) := by
      intro h3 f s3
      have e92 : h3.2 92 = h.2 92 := f.2.1 92 (by decide) (by decide) (by decide) (by decide) (by decide) (by decide)
      refine zJ_sh (fun hs => ?_)
      have R : pR h3 91 92 10 3 := z_R hs rfl rfl rfl rfl rfl (by decide)
      refine zX3_search_59 (s_get R (by omega) (by omega) (by omega) (by omega) ?_)
      rw [show ((k : Int) * ((3 : Nat) : Int) + 1).toNat = 3 * k + 1 by omega, e92, Wk.2.1]
      refine ⟨fun q2 => zX3_search_99 (hQ h3 f ?_), fun q2 => ?_⟩
      · rw [hsp, fo_skip]
        · exact s3
        · intro y y1 y2 hf
          obtain ⟨n0, l0⟩ := nd_yl B hw q2
          have i1 : y / 2 ^ d = 2 * c + 1 := iv y1 y2
          have i2 : (y - 2 ^ d) / 2 ^ d = 2 * c := iv (by omega) (by omega)
          have im : (y - 2 ^ d) % 2 ^ d = y % 2 ^ d := (Nat.mod_eq_sub_mod (by omega)).symm
          have oe : ∀ i, i < N → i ≠ k → oq N (y - 2 ^ d) i = oq N y i := by
            intro i hi hne
            rw [← e, show k + (d + 1) = k + 1 + d by omega]
            by_cases q3 : i < k
            · rw [oq_in i2 (by omega), oq_in i1 (by omega)]; exact (oq_ch (b := 0) (by decide) q3).trans (oq_ch (b := 1) (by decide) q3).symm
            · exact oq_low im (by omega) (by omega)
          have le := (fo_le (len := fun q => lq A a N q N) (fe := fe) (a := 2 * c * 2 ^ d) (2 ^ d) st).2 (y - 2 ^ d) (by omega) (by omega) ((hfe _ (by omega)).mpr (fun X => by
            have d0 := ((hfe y (by omega)).mp hf) X
            have r := sX_rel (P1 := fun i => !oq N (y - 2 ^ d) i && X (dbO A a i)) (P2 := fun _ => false) (P3 := fun i => !oq N y i && X (dbO A a i)) (P4 := fun _ => false) (v1 := fun i => nd A (a + i)) (v2 := fun _ => 0) (v3 := fun i => nd A (a + i)) (v4 := fun _ => 0) N (fun i hi => by
              by_cases q3 : i = k
              · subst q3
                (try dsimp only)
                rw [n0]; split <;> split <;> simp
              · (try dsimp only)
                rw [oe i hi q3]; exact Int.le_refl _)
            rw [sX_0 (P := fun _ => false) (v := fun _ => 0) N (fun i _ _ => rfl)] at r
            (try dsimp only at r d0 ⊢)
            omega))
          have r := sX_rel (P1 := oq N (y - 2 ^ d)) (P2 := fun _ => false) (P3 := oq N y) (P4 := fun _ => false) (v1 := fun i => yl A (a + i)) (v2 := fun _ => 0) (v3 := fun i => yl A (a + i)) (v4 := fun _ => 0) N (fun i hi => by
            by_cases q3 : i = k
            · subst q3
              (try dsimp only)
              rw [l0]; split <;> split <;> simp
            · (try dsimp only)
              rw [oe i hi q3]; exact Int.le_refl _)
          rw [sX_0 (P := fun _ => false) (v := fun _ => 0) N (fun i _ _ => rfl)] at r
          (try dsimp only at le ⊢)
          have r2 : lq A a N (y - 2 ^ d) N ≤ lq A a N y N := by unfold lq; omega
          omega
      · refine s_standAs m (fL_tK (fS_fL f) t) (by omega) (fun h4 k1 k2 k3 k4 k5 k6 => ?_)
        have f4 : fS k h h4 := fS_trans f ⟨k1, fun q x1 x2 x3 x4 x5 x6 => k2 q x2 x3, fun i hi => k3 i (by omega), fun i hi => k4 i (by omega)⟩
        refine zS_sh (fun hs4 => ?_)
        have R4 : pR h4 91 92 10 3 := z_R hs4 rfl rfl rfl rfl rfl (by decide)
        refine s_get R4 (by omega) (by omega) (by omega) (by omega) ?_
        have e92' : h4.2 92 = h.2 92 := f4.2.1 92 (by decide) (by decide) (by decide) (by decide) (by decide) (by decide)
        have e91' : h4.2 91 = h.2 91 := f4.2.1 91 (by decide) (by decide) (by decide) (by decide) (by decide) (by decide)
        have ly : lq A a (k + 1) (2 * c + 1) (k + 1) = lq A a k c k + yl A (a + k) := by
          have e1 : lq A a (k + 1) (2 * c + 1) (k + 1) = lq A a (k + 1) (2 * c + 1) k + yl A (a + k) := sX_y (by rw [oq_new (by decide)]; rfl)
          rw [e1]
          have e2 : lq A a (k + 1) (2 * c + 1) k = lq A a k c k := sX_cong k (fun i hi => ⟨oq_ch (by decide) hi, rfl⟩)
          rw [e2]
        rw [show ((k : Int) * ((3 : Nat) : Int) + 2).toNat = 3 * k + 2 by omega, e92', Wk.2.2, x32_id (by omega) (by omega), x32_id (by omega) (by omega), show (k : Int) + 1 = ((k + 1 : Nat) : Int) by omega, ← ly]
        refine s_search m B h10 hk hfe d (k + 1) (2 * c + 1) (x := x) (st := fo (fun q => lq A a N q N) fe (2 * c * 2 ^ d) (2 ^ d) st) (by omega) hk1 ?_ (fL_tK (fS_fL f4) t) (adj_fr (f4.2.1 84 (by decide) (by decide) (by decide) (by decide) (by decide) (by decide)) (f4.2.1 86 (by decide) (by decide) (by decide) (by decide) (by decide) (by decide)) aj) ?_ ?_ ?_ (fun h5 f5 s5 => hQ h5 (fS_trans f4 (fS_up f5)) (by rw [hsp]; exact s5))
        · have o1 : oI (k + 1) (2 * c + 1) out k := ⟨o.1, fun j hj => by
            rw [o.2 j hj]
            by_cases q4 : j < k
            · rw [oq_ch (by decide) q4]
            · rw [decide_eq_false q4]; rfl⟩
          exact oI_y o1 (by omega) (by rw [oq_new (by decide)]; rfl)
        · unfold wbs; rw [e91', e92']; exact W
        · refine kI_out (kI_cong (y := x) (keep' := fun i => !oq k c i) K (fun i hi => rfl) (fun p hp => ?_) (fun j hj => ?_)) (fun i hi => ?_) ?_
          · rw [k5 p hp]; exact f.2.2.1 _ (by omega)
          · rw [k6 j hj]; exact f.2.2.2 _ (by omega)
          · (try dsimp only); rw [oq_ch (by decide) hi]
          · (try dsimp only); rw [oq_new (by decide)]; rfl
        · unfold sS; rw [k2 78 (by decide) (by decide)]; exact s3
    refine s_standAs m t (by omega) (fun h1 k1 k2 k3 k4 k5 k6 => ?_)
    have f1 : fS k h h1 := ⟨k1, fun q x1 x2 x3 x4 x5 x6 => k2 q x2 x3, fun i hi => k3 i (by omega), fun i hi => k4 i (by omega)⟩
    have e92 : h1.2 92 = h.2 92 := k2 92 (by decide) (by decide)
    have t1 := fL_tK (fS_fL f1) t
    have a1 : adj A h1 := adj_fr (k2 84 (by decide) (by decide)) (k2 86 (by decide) (by decide)) aj
    refine s_weaves (keep := fun i => !oq k c i) (keep' := fun i => !oq (k + 1) (2 * c) i) m t1 a1 (by omega) (by rw [e92]; exact Wk.1) (by rw [e92]; exact Wk.2.1) rfl ow nb (fun i hi => by (try dsimp only); rw [show 2 * c = 2 * c + 0 from rfl, oq_ch (by decide) hi]) (by (try dsimp only); rw [show 2 * c = 2 * c + 0 from rfl, oq_new (by decide)]; rfl) (kI_cong K (fun i hi => rfl) k5 k6) (fun h2 f2 K2 => ⟨fun q2 => absurd q2 (by decide), fun _ => ?_⟩) (fun h2 f2 nd0 => ⟨fun _ => J (fS_trans f1 (fP_fS f2)) ?_, fun q2 => absurd rfl q2⟩)
    · have f3 := fS_trans f1 (fP_fS f2)
      have ly : lq A a (k + 1) (2 * c) (k + 1) = lq A a k c k := by
        have e1 : lq A a (k + 1) (2 * c) (k + 1) = lq A a (k + 1) (2 * c) k := sX_n (by rw [show 2 * c = 2 * c + 0 from rfl, oq_new (by decide)]; rfl)
        rw [e1]
        exact sX_cong k (fun i hi => ⟨by rw [show 2 * c = 2 * c + 0 from rfl, oq_ch (by decide) hi], rfl⟩)
      rw [x32_id (by omega) (by omega), show (k : Int) + 1 = ((k + 1 : Nat) : Int) by omega, ← ly]
      refine s_search m B h10 hk hfe d (k + 1) (2 * c) (x := dbO A a k) (st := st) (by omega) (by omega) ?_ (fL_tK (fS_fL f3) t) (adj_fr (f3.2.1 84 (by decide) (by decide) (by decide) (by decide) (by decide) (by decide)) (f3.2.1 86 (by decide) (by decide) (by decide) (by decide) (by decide) (by decide)) aj) ?_ K2 ?_ (fun h5 f5 s5 => ?_)
      · have o1 : oI (k + 1) (2 * c) out k := ⟨o.1, fun j hj => by
          rw [o.2 j hj]
          by_cases q4 : j < k
          · rw [show 2 * c = 2 * c + 0 from rfl, oq_ch (by decide) q4]
          · rw [decide_eq_false q4]; rfl⟩
        exact oI_n o1 (by rw [show 2 * c = 2 * c + 0 from rfl, oq_new (by decide)]; rfl)
      · unfold wbs
        rw [f3.2.1 91 (by decide) (by decide) (by decide) (by decide) (by decide) (by decide), f3.2.1 92 (by decide) (by decide) (by decide) (by decide) (by decide) (by decide)]; exact W
      · unfold sS
        rw [f2.2.1 78 (by decide) (by decide) (by decide) (by decide) (by decide), k2 78 (by decide) (by decide)]; exact s
      · rw [ly]
        exact J (fS_trans f3 (fS_up f5)) s5
    · rw [fo_skip]
      · unfold sS
        rw [f2.2.1 78 (by decide) (by decide) (by decide) (by decide) (by decide), k2 78 (by decide) (by decide)]; exact s
      · intro y y1 y2 hf
        exfalso
        have i2 : y / 2 ^ d = 2 * c := iv y1 y2
        refine nd0 (dbX_cong (keep := fun i => !oq N y i) (fun i hi => ?_) (dbX_pre B (k := k + 1) (d := d) (by omega) (by rw [show k + 1 + d = N by omega]; exact (hfe y (by omega)).mp hf)))
        (try dsimp only)
        rw [← e, show k + (d + 1) = k + 1 + d by omega, oq_in i2 hi]
end SE
