/-! proof -/
def sX (P : Nat → Bool) (v : Nat → Int) : Nat → Int
  | 0 => 0
  | i + 1 => sX P v i + (if P i = true then v i else 0)
theorem sX_b {P : Nat → Bool} {v : Nat → Int} {M : Int} {n : Nat} (hM : 0 ≤ M) (hv : ∀ i, i < n → 0 ≤ v i ∧ v i ≤ M) : ∀ i, i ≤ n → 0 ≤ sX P v i ∧ sX P v i ≤ (i : Int) * M
  | 0, _ => by
    show 0 ≤ (0 : Int) ∧ (0 : Int) ≤ ((0 : Nat) : Int) * M
    rw [show ((0 : Nat) : Int) = 0 from rfl, Int.zero_mul]
    omega
  | i + 1, hi => by
    have ih := sX_b (P := P) hM hv i (by omega)
    have b := hv i (by omega)
    have e : ((i + 1 : Nat) : Int) * M = (i : Int) * M + M := by rw [Int.natCast_add, Int.add_mul]; simp
    show 0 ≤ sX P v i + (if P i = true then v i else 0) ∧ sX P v i + (if P i = true then v i else 0) ≤ _
    rw [e]
    split <;> omega
theorem sX_y {P : Nat → Bool} {v : Nat → Int} {i : Nat} (h : P i = true) : sX P v (i + 1) = sX P v i + v i := by
  show sX P v i + (if P i = true then v i else 0) = _
  rw [if_pos h]
theorem sX_n {P : Nat → Bool} {v : Nat → Int} {i : Nat} (h : P i = false) : sX P v (i + 1) = sX P v i := by
  show sX P v i + (if P i = true then v i else 0) = _
  rw [if_neg (by rw [h]; decide), Int.add_zero]
theorem x_shr_e {K : Int} {k : Nat} (hk : k < 31) (hK : -2147483648 ≤ K ∧ K < 2147483648) : x_shr K (k : Int) = K / 2 ^ k := by
  have h1 : x_shr K (k : Int) = ((Int32.ofInt K).toBitVec.sshiftRight k).toInt := by
    unfold x_shr
    show (BitVec.sshiftRight' (Int32.ofInt K).toBitVec ((Int32.ofInt (k : Int) &&& 31).toBitVec.smod 32)).toInt = _
    rw [tb_sh k (by omega)]
    unfold BitVec.sshiftRight'
    rw [BitVec.toNat_ofNat, Nat.mod_eq_of_lt (by omega)]
  have h2 : (Int32.ofInt K).toBitVec.toInt = K := by
    show (Int32.ofInt K).toInt = K
    exact Int32.toInt_ofInt_of_le (by show (-2147483648 : Int) ≤ K; omega) (by show K < (2147483648 : Int); omega)
  rw [h1, BitVec.toInt_sshiftRight, h2, Int.shiftRight_eq_div_pow]
  simp
theorem x_shl_e : ∀ k : Nat, k < 31 → x_shl 1 (k : Int) = 2 ^ k ∧ (1 : Int) ≤ 2 ^ k ∧ (2 : Int) ^ k ≤ 1073741824 := by decide +kernel
theorem x_shr_0 {K : Int} {k : Nat} (hk : k < 31) (hK : -2147483648 ≤ K ∧ K < 2147483648) : x_shr K (k : Int) = 0 ↔ 0 ≤ K ∧ K < 2 ^ k := by
  rw [x_shr_e hk hK]
  have p := (x_shl_e k hk).2
  generalize (2 : Int) ^ k = p2 at p ⊢
  constructor
  · intro e
    have h1 := Int.mul_ediv_add_emod K p2
    have h2 := Int.emod_nonneg K (show p2 ≠ 0 by omega)
    have h3 := Int.emod_lt_of_pos K (show 0 < p2 by omega)
    rw [e, Int.mul_zero] at h1
    omega
  · intro e
    exact Int.ediv_eq_zero_of_lt e.1 e.2
def gd (A : Nat → Int) (c : Int) : Nat → Int := sX (tb c) (fun i => A (32 + 4 * i) * nO A (-1) 7 (A 0) 10)
def trd (A : Nat → Int) (c : Int) : Nat → Int := sX (fun j => tb c (A (12531 + 3 * j)).toNat && !tb c (A (12530 + 3 * j)).toNat) (fun j => A (12532 + 3 * j))
def nw (A : Nat → Int) (c : Int) (a : Nat) : Nat → Int := sX (fun i => tb c (A (350 + (a + i))).toNat) (fun i => nd A (a + i))
def spn (A : Nat → Int) (a b : Int) : Prop := (0 ≤ a ∧ a < A 4) ∧ (0 ≤ b ∧ b < A 4) ∧ 0 ≤ b - a ∧ b - a ≤ 9
theorem gd_b {A : Nat → Int} (m : pM A) (B : rB A) {c : Int} {i : Nat} (hi : (i : Int) ≤ A 2) : 0 ≤ gd A c i ∧ gd A c i ≤ 300000 := by
  have y : 1 ≤ nO A (-1) 7 (A 0) 10 ∧ nO A (-1) 7 (A 0) 10 ≤ 99 := nO_b B.1 (Or.inl rfl : (-1 : Int) = -1 ∨ _) 7 (A 0) 10 1 99 (by decide) (Or.inr (Or.inl ⟨rfl, rfl, rfl⟩))
  have z := pM_z m
  have := sX_b (P := tb c) (v := fun i => A (32 + 4 * i) * nO A (-1) 7 (A 0) 10) (M := 9801) (n := i) (by decide) (fun j hj => by
    have r1 : (0 ≤ A (30 + 4 * j) ∧ A (30 + 4 * j) < A 1) ∧ (0 ≤ A (31 + 4 * j) ∧ A (31 + 4 * j) ≤ 9) ∧ 0 ≤ A (32 + 4 * j) ∧ A (32 + 4 * j) ≤ 99 := m.2.2 1 (by decide) (by decide) j (show (j : Int) < A 2 by omega)
    show 0 ≤ A (32 + 4 * j) * nO A (-1) 7 (A 0) 10 ∧ A (32 + 4 * j) * nO A (-1) 7 (A 0) 10 ≤ 9801
    have m1 : 0 ≤ A (32 + 4 * j) * nO A (-1) 7 (A 0) 10 := Int.mul_nonneg r1.2.2.1 (by omega)
    have m2 : A (32 + 4 * j) * nO A (-1) 7 (A 0) 10 ≤ 99 * 99 := Int.mul_le_mul r1.2.2.2 y.2 (by omega) (by omega)
    omega) i (Nat.le_refl i)
  unfold gd
  omega
theorem tr_r {A : Nat → Int} (m : pM A) {j : Nat} (hj : (j : Int) < A 11) : (0 ≤ A (12530 + 3 * j) ∧ A (12530 + 3 * j) < A 2) ∧ (0 ≤ A (12531 + 3 * j) ∧ A (12531 + 3 * j) < A 2) ∧ A (12530 + 3 * j) ≠ A (12531 + 3 * j) ∧ 0 ≤ A (12532 + 3 * j) ∧ A (12532 + 3 * j) ≤ 9999 := m.2.2 10 (by decide) (by decide) j hj
theorem trd_b {A : Nat → Int} (m : pM A) {c : Int} {i : Nat} (hi : (i : Int) ≤ A 11) : 0 ≤ trd A c i ∧ trd A c i ≤ 400000 := by
  have z := pM_z m
  have := sX_b (P := fun j => tb c (A (12531 + 3 * j)).toNat && !tb c (A (12530 + 3 * j)).toNat) (v := fun j => A (12532 + 3 * j)) (M := 9999) (n := i) (by decide) (fun j hj => (tr_r m (j := j) (by omega)).2.2.2) i (Nat.le_refl i)
  unfold trd
  omega
theorem nw_b {A : Nat → Int} (B : rB A) {c : Int} {a i : Nat} (hi : (a : Int) + i ≤ A 4) (h10 : i ≤ 10) : 0 ≤ nw A c a i ∧ nw A c a i ≤ 20000 := by
  have := sX_b (P := fun i => tb c (A (350 + (a + i))).toNat) (v := fun i => nd A (a + i)) (M := 1772) (n := i) (by decide) (fun j hj => nd_b B (web := a + j) (by omega)) i (Nat.le_refl i)
  unfold nw
  omega
section PF
variable {g : xG} {D : Nat} {h : xH}
theorem s_holds {K : Int} {k : Nat} {Q : Int → xH → Prop} (hk : k < 32) (h1 : tb K k = true → Q 1 h) (h0 : tb K k = false → Q 0 h) : zSi g (D + 1) mX8_holds [xi K, xi k] h Q := by
  have t := tb_shr (K := K) hk
  refine eX8_holds (zX8_holds_0 (s_win (fun x hx => ⟨fun z => by omega, fun z => ⟨fun n => zX8_holds_23 ⟨Or.inl rfl, h0 ?_⟩, fun e => ⟨Or.inr rfl, h1 (t.1.mp e)⟩⟩⟩)))
  cases q : tb K k
  · rfl
  · exact absurd (t.1.mpr q) n
theorem s_isSpan {a b : Int} {Q : Int → xH → Prop} (hs : zSh h) (I : zInv h) (hQ : ∀ v : Int, (v = 1 ∧ spn (h.2 96) a b) ∨ (v = 0 ∧ ¬ spn (h.2 96) a b) → Q v h) : zSi g (D + 1) mX8_isSpan [xr 16, xi a, xi b] h Q := by
  have z := pM_z I.1
  have hsz : h.2 24 3 = h.2 96 4 := ((I.2.2.1.1 3 (by decide)) (by decide)).1
  have R : pR h 24 25 50 1 := z_R hs rfl rfl rfl rfl rfl (by decide)
  have n : ¬ spn (h.2 96) a b → Q 0 h := fun n => hQ 0 (Or.inr ⟨rfl, n⟩)
  unfold spn at n hQ
  refine eX8_isSpan (zX8_isSpan_0 (s_has R.1 (fun x hx => ⟨fun q => zX8_isSpan_44 ⟨Or.inl rfl, n (by omega)⟩, fun q => s_has R.1 (fun x2 hx2 => ⟨fun q2 => zX8_isSpan_44 ⟨Or.inl rfl, n (by omega)⟩, fun q2 => ?_⟩)⟩)))
  rw [x32_id (by omega) (by omega)]
  exact s_win (fun x3 hx3 => ⟨fun q3 => zX8_isSpan_44 ⟨Or.inl rfl, n (by omega)⟩, fun q3 => ⟨Or.inr rfl, hQ 1 (Or.inl ⟨rfl, by omega⟩)⟩⟩)
theorem r_isSpan {a b : Int} {Q : Int → xH → Prop} (m : pM (h.2 96)) (hQ : ∀ v : Int, (v = 1 ∧ spn (h.2 96) a b) ∨ (v = 0 ∧ ¬ spn (h.2 96) a b) → Q v h) : zSi g (D + 2) mX9_isSpan [xr 95, xi a, xi b] h Q := by
  have z := pM_z m
  have n : ¬ spn (h.2 96) a b → Q 0 h := fun n => hQ 0 (Or.inr ⟨rfl, n⟩)
  unfold spn at n hQ
  refine eX9_isSpan (zX9_isSpan_0 (s_isWeb (by omega) (fun x hx => ⟨fun q => zX9_isSpan_32 ⟨Or.inl rfl, n (by omega)⟩, fun q => s_isWeb (by omega) (fun x2 hx2 => ⟨fun q2 => zX9_isSpan_32 ⟨Or.inl rfl, n (by omega)⟩, fun q2 => ?_⟩)⟩)))
  rw [x32_id (by omega) (by omega)]
  exact s_in (fun x3 hx3 => ⟨fun q3 => zX9_isSpan_32 ⟨Or.inl rfl, n (by omega)⟩, fun q3 => ⟨Or.inr rfl, hQ 1 (Or.inl ⟨rfl, by omega⟩)⟩⟩)
/-- a web's person -/
theorem s_owner {w : Nat} {Q : Int → xH → Prop} (b : zB h (-1)) (hw : (w : Int) < h.2 96 4) (hQ : Q (h.2 96 (350 + w)) h) : zSi g D mX5_get [xr 24, xi w, xi 0] h Q := by
  have z := pM_z b.2.1
  have R : pR h 24 25 50 1 := z_R b.1 rfl rfl rfl rfl rfl (by decide)
  have c0 : h.2 25 (w * 1 + 0) = h.2 96 (350 + 1 * w + 0) := ((b.2.2.1.1 3 (by decide)) (by decide)).2 w hw (0, 0) (by decide)
  rw [show 350 + 1 * w + 0 = 350 + w by omega] at c0
  refine s_get R (by omega) (by omega) (by omega) (by omega) ?_
  rw [show ((w : Int) * ((1 : Nat) : Int) + 0).toNat = w * 1 + 0 by omega, c0]
  exact hQ
theorem s_proof {a b c : Int} {Q : Int → xH → Prop} (hs : zSh h) (I : zInv h) (hc : -2147483648 ≤ c ∧ c < 2147483648) (h0 : ¬ (spn (h.2 96) a b ∧ 0 ≤ c ∧ c < 2 ^ (h.2 96 2).toNat) → Q (-1) h) (hQ : spn (h.2 96) a b → 0 ≤ c ∧ c < 2 ^ (h.2 96 2).toNat → ∀ h', fB h h' → Q (if nw (h.2 96) c a.toNat (b - a + 1).toNat ≤ gd (h.2 96) c (h.2 96 2).toNat + trd (h.2 96) c (h.2 96 11).toNat then 0 else 1) h') : zSi g (D + 7) mX8_proof [xr 16, xi a, xi b, xi c] h Q := by
  have Z := zB_of hs I
  have B := rB_inv I
  have m := I.1
  have z := pM_z m
  have hsz : h.2 20 3 = h.2 96 2 := ((I.2.2.1.1 1 (by decide)) (by decide)).1
  have htz : h.2 38 3 = h.2 96 11 := ((I.2.2.1.1 10 (by decide)) (by decide)).1
  have hday : h.2 17 14 = h.2 96 0 := I.2.2.1.2.1.2.1
  have R : pR h 20 21 30 3 := z_R hs rfl rfl rfl rfl rfl (by decide)
  have T : pR h 38 39 40 3 := z_R hs rfl rfl rfl rfl rfl (by decide)
  obtain ⟨n, hn⟩ : ∃ n : Nat, h.2 96 2 = (n : Int) := ⟨(h.2 96 2).toNat, by omega⟩
  obtain ⟨tn, htn⟩ : ∃ n : Nat, h.2 96 11 = (n : Int) := ⟨(h.2 96 11).toNat, by omega⟩
  rw [hn, htn, show ((n : Int)).toNat = n by omega, show ((tn : Int)).toNat = tn by omega] at hQ
  rw [hn, show ((n : Int)).toNat = n by omega] at h0
  refine eX8_proof (zX8_proof_0 (s_isSpan hs I (fun x hx => ⟨fun q => zX8_proof_24 (h0 (fun w => ?_)), fun q => ?_⟩)))
  · rcases hx with e | e
    · omega
    · exact e.2 w.1
  have sp : spn (h.2 96) a b := by
    rcases hx with e | e
    · exact e.2
    · omega
  rw [hsz, hn]
  refine ⟨fun q2 => zX8_proof_26 ?_, fun q2 => h0 (fun w => q2 ((x_shr_0 (by omega) hc).mpr w.2))⟩
  have hcb := (x_shr_0 (k := n) (by omega) hc).mp q2
  have hQ := hQ sp hcb
  clear h0 q2 hx
  rw [hday]
  refine s_told (k := 7) Z (by decide) ?_
  rw [show x_ltv 2 7 = 10 by decide]
  have yb : 1 ≤ nO (h.2 96) (-1) 7 (h.2 96 0) 10 ∧ nO (h.2 96) (-1) 7 (h.2 96 0) 10 ≤ 99 := nO_b B.1 (Or.inl rfl : (-1 : Int) = -1 ∨ _) 7 (h.2 96 0) 10 1 99 (by decide) (Or.inr (Or.inl ⟨rfl, rfl, rfl⟩))
  -- webs
  have L3 : ∀ (k i : Nat) {h' : xH} {w1 w5 : xV}, (i : Int) + k = b - a + 1 → fB h h' → zJ g (D + 7) mX8_proof 0 0 189 [xr 16, w1, xi b, xi c, xi (gd (h.2 96) c n + trd (h.2 96) c tn), w5, xi (nw (h.2 96) c a.toNat i), xi (a + i)] [] h' (x_qi Q) := by
    intro k
    induction k with
    | zero =>
      intro i h' w1 w5 e f
      refine zX8_proof_189 ⟨fun q => zX8_proof_235 ?_, fun q => by omega⟩
      have r := hQ h' f
      rw [show (b - a + 1).toNat = i by omega] at r
      refine ⟨fun q2 => zX8_proof_246 ?_, fun q2 => ?_⟩
      · rw [if_pos q2] at r; exact r
      · rw [if_neg (by omega)] at r; exact r
    | succ k ih =>
      intro i h' w1 w5 e f
      have s1 := sp.1
      have s2 := sp.2.1
      have s3 := sp.2.2
      have e96 := fB_96 f
      have hw : ((a.toNat + i : Nat) : Int) < h.2 96 4 := by omega
      have ow := B.2.2.2.2.2.1 (a.toNat + i) hw
      refine zX8_proof_189 ⟨fun q => by omega, fun q => ?_⟩
      rw [show a + (i : Int) = ((a.toNat + i : Nat) : Int) by omega]
      refine s_owner (fB_zB f Z) (by rw [e96]; exact hw) ?_
      rw [e96]
      obtain ⟨o, ho⟩ : ∃ o : Nat, h.2 96 (350 + (a.toNat + i)) = (o : Int) := ⟨(h.2 96 (350 + (a.toNat + i))).toNat, by omega⟩
      have hb : tb c (h.2 96 (350 + (a.toNat + i))).toNat = tb c o := by show tb c (h.2 96 (350 + (a.toNat + i))).toNat = _; rw [ho]; rfl
      rw [ho]
      rw [ho] at ow
      have b1 := nw_b B (c := c) (a := a.toNat) (i := i) (by omega) (by omega)
      have b2 := nd_b B hw
      refine s_holds (by omega) (fun t => ⟨fun q2 => absurd q2 (by decide), fun _ => s_needOf (fB_zB f Z) (by rw [e96]; exact hw) (fun h2 f2 _ => ?_)⟩) (fun t => ⟨fun _ => zX8_proof_229 ?_, fun q2 => absurd rfl q2⟩)
      · rw [e96, x32_id (by omega) (by omega), x32_id (by omega) (by omega)]
        have ey : nw (h.2 96) c a.toNat (i + 1) = nw (h.2 96) c a.toNat i + nd (h.2 96) (a.toNat + i) := sX_y (by rw [hb]; exact t)
        rw [← ey, show ((a.toNat + i : Nat) : Int) + 1 = a + ((i + 1 : Nat) : Int) by omega]
        exact ih (i + 1) (by omega) (fB_trans f f2)
      · rw [x32_id (by omega) (by omega)]
        have ey : nw (h.2 96) c a.toNat (i + 1) = nw (h.2 96) c a.toNat i := sX_n (by rw [hb]; exact t)
        rw [← ey, show ((a.toNat + i : Nat) : Int) + 1 = a + ((i + 1 : Nat) : Int) by omega]
        exact ih (i + 1) (by omega) f
  have s1 := sp.1
  have s2 := sp.2.1
  have s3 := sp.2.2
  have L2 : ∀ (k j : Nat) {w5 w7 : xV}, j + k = tn → zJ g (D + 7) mX8_proof 0 0 104 [xr 16, xi a, xi b, xi c, xi (gd (h.2 96) c n + trd (h.2 96) c j), w5, xi j, w7] [] h (x_qi Q) := by
    intro k
    induction k with
    | zero =>
      intro j w5 w7 e
      have : j = tn := by omega
      subst this
      refine zX8_proof_104 ?_
      rw [htz, htn]
      refine ⟨fun _ => zX8_proof_183 ?_, fun q => by omega⟩
      have r := L3 (b - a + 1).toNat 0 (w1 := xi a) (w5 := xu) (by omega) (fB_refl h)
      rw [show a + ((0 : Nat) : Int) = a by omega] at r
      exact r
    | succ k ih =>
      intro j w5 w7 e
      have r := tr_r m (j := j) (by omega)
      have cc := ((I.2.2.1.1 10 (by decide)) (by decide)).2 j (show (j : Int) < h.2 96 11 by omega)
      have c0 : h.2 39 (j * 3 + 0) = h.2 96 (12530 + 3 * j + 0) := cc (0, 0) (by decide)
      have c1 : h.2 39 (j * 3 + 1) = h.2 96 (12530 + 3 * j + 1) := cc (1, 1) (by decide)
      have c2 : h.2 39 (j * 3 + 2) = h.2 96 (12530 + 3 * j + 2) := cc (2, 2) (by decide)
      rw [show 12530 + 3 * j + 0 = 12530 + 3 * j by omega] at c0
      rw [show 12530 + 3 * j + 1 = 12531 + 3 * j by omega] at c1
      rw [show 12530 + 3 * j + 2 = 12532 + 3 * j by omega] at c2
      have b0 := gd_b m B (c := c) (i := n) (by omega)
      have b1 := trd_b m (c := c) (i := j) (by omega)
      obtain ⟨o, ho⟩ : ∃ o : Nat, h.2 96 (12530 + 3 * j) = (o : Int) := ⟨(h.2 96 (12530 + 3 * j)).toNat, by omega⟩
      obtain ⟨p, hp⟩ : ∃ o : Nat, h.2 96 (12531 + 3 * j) = (o : Int) := ⟨(h.2 96 (12531 + 3 * j)).toNat, by omega⟩
      have hb : (tb c (h.2 96 (12531 + 3 * j)).toNat && !tb c (h.2 96 (12530 + 3 * j)).toNat) = (tb c p && !tb c o) := by show (tb c (h.2 96 (12531 + 3 * j)).toNat && !tb c (h.2 96 (12530 + 3 * j)).toNat) = _; rw [ho, hp]; rfl
      have no : (tb c p && !tb c o) = false → zJ g (D + 7) mX8_proof 0 0 177 [xr 16, xi a, xi b, xi c, xi (gd (h.2 96) c n + trd (h.2 96) c j), xu, xi j, xu] [] h (x_qi Q) := by
        intro t
        refine zX8_proof_177 ?_
        rw [x32_id (by omega) (by omega), show (j : Int) + 1 = ((j + 1 : Nat) : Int) by omega]
        have ey : trd (h.2 96) c (j + 1) = trd (h.2 96) c j := sX_n (by rw [hb]; exact t)
        rw [← ey]
        exact ih (j + 1) (by omega)
      refine zX8_proof_104 ?_
      rw [htz, htn]
      refine ⟨fun q => by omega, fun q => s_get T (by omega) (by omega) (by omega) (by omega) ?_⟩
      rw [show ((j : Int) * ((3 : Nat) : Int) + 1).toNat = j * 3 + 1 by omega, c1, hp]
      rw [ho, hp] at r
      refine s_holds (by omega) (fun t1 => ⟨fun q2 => absurd q2 (by decide), fun _ => s_get T (by omega) (by omega) (by omega) (by omega) ?_⟩) (fun t1 => ⟨fun _ => no (by rw [t1]; rfl), fun q2 => absurd rfl q2⟩)
      rw [show ((j : Int) * ((3 : Nat) : Int) + 0).toNat = j * 3 + 0 by omega, c0, ho]
      refine s_holds (by omega) (fun t2 => ⟨fun _ => no (by rw [t2]; simp), fun q2 => absurd q2 (by decide)⟩) (fun t2 => ⟨fun q2 => absurd rfl q2, fun _ => s_get T (by omega) (by omega) (by omega) (by omega) ?_⟩)
      rw [show ((j : Int) * ((3 : Nat) : Int) + 2).toNat = j * 3 + 2 by omega, c2, x32_id (by omega) (by omega), x32_id (by omega) (by omega), show (j : Int) + 1 = ((j + 1 : Nat) : Int) by omega]
      have ey : trd (h.2 96) c (j + 1) = trd (h.2 96) c j + h.2 96 (12532 + 3 * j) := sX_y (by rw [hb, t1, t2]; rfl)
      rw [show gd (h.2 96) c n + trd (h.2 96) c j + h.2 96 (12532 + 3 * j) = gd (h.2 96) c n + trd (h.2 96) c (j + 1) by omega]
      exact ih (j + 1) (by omega)
  have L1 : ∀ (k i : Nat) {w7 : xV}, i + k = n → zJ g (D + 7) mX8_proof 0 0 50 [xr 16, xi a, xi b, xi c, xi (gd (h.2 96) c i), xi (nO (h.2 96) (-1) 7 (h.2 96 0) 10), xi i, w7] [] h (x_qi Q) := by
    intro k
    induction k with
    | zero =>
      intro i w7 e
      have : i = n := by omega
      subst this
      refine zX8_proof_50 ?_
      rw [hsz, hn]
      refine ⟨fun _ => zX8_proof_101 ?_, fun q => by omega⟩
      have r := L2 tn 0 (w5 := xu) (w7 := xu) (by omega)
      rw [show gd (h.2 96) c i + trd (h.2 96) c 0 = gd (h.2 96) c i from Int.add_zero _] at r
      exact r
    | succ k ih =>
      intro i w7 e
      have c2 : h.2 21 (i * 3 + 2) = h.2 96 (30 + 4 * i + 2) := ((I.2.2.1.1 1 (by decide)) (by decide)).2 i (show (i : Int) < h.2 96 2 by omega) (2, 2) (by decide)
      rw [show 30 + 4 * i + 2 = 32 + 4 * i by omega] at c2
      have r1 : (0 ≤ h.2 96 (30 + 4 * i) ∧ h.2 96 (30 + 4 * i) < h.2 96 1) ∧ (0 ≤ h.2 96 (31 + 4 * i) ∧ h.2 96 (31 + 4 * i) ≤ 9) ∧ 0 ≤ h.2 96 (32 + 4 * i) ∧ h.2 96 (32 + 4 * i) ≤ 99 := m.2.2 1 (by decide) (by decide) i (show (i : Int) < h.2 96 2 by omega)
      have m1 : 0 ≤ h.2 96 (32 + 4 * i) * nO (h.2 96) (-1) 7 (h.2 96 0) 10 := Int.mul_nonneg r1.2.2.1 (by omega)
      have m2 : h.2 96 (32 + 4 * i) * nO (h.2 96) (-1) 7 (h.2 96 0) 10 ≤ 99 * 99 := Int.mul_le_mul r1.2.2.2 yb.2 (by omega) (by omega)
      have b0 := gd_b m B (c := c) (i := i) (by omega)
      refine zX8_proof_50 ?_
      rw [hsz, hn]
      refine ⟨fun q => by omega, fun q => s_holds (by omega) (fun t => ⟨fun q2 => absurd q2 (by decide), fun _ => s_get R (by omega) (by omega) (by omega) (by omega) ?_⟩) (fun t => ⟨fun _ => zX8_proof_95 ?_, fun q2 => absurd rfl q2⟩)⟩
      · rw [show ((i : Int) * ((3 : Nat) : Int) + 2).toNat = i * 3 + 2 by omega, c2, x32_id (show -2147483648 ≤ h.2 96 (32 + 4 * i) * nO (h.2 96) (-1) 7 (h.2 96 0) 10 by omega) (by omega), x32_id (by omega) (by omega), x32_id (by omega) (by omega), show (i : Int) + 1 = ((i + 1 : Nat) : Int) by omega]
        have ey : gd (h.2 96) c (i + 1) = gd (h.2 96) c i + h.2 96 (32 + 4 * i) * nO (h.2 96) (-1) 7 (h.2 96 0) 10 := sX_y t
        rw [← ey]
        exact ih (i + 1) (by omega)
      · rw [x32_id (by omega) (by omega), show (i : Int) + 1 = ((i + 1 : Nat) : Int) by omega]
        have ey : gd (h.2 96) c (i + 1) = gd (h.2 96) c i := sX_n t
        rw [← ey]
        exact ih (i + 1) (by omega)
  exact L1 n 0 (by omega)
theorem r_proof {a b c : Int} {Q : Int → xH → Prop} (I : zInv h) (hc : -2147483648 ≤ c ∧ c < 2147483648) (h0 : ¬ (spn (h.2 96) a b ∧ 0 ≤ c ∧ c < 2 ^ (h.2 96 2).toNat) → Q (-1) h) (hQ : spn (h.2 96) a b → 0 ≤ c ∧ c < 2 ^ (h.2 96 2).toNat → ∀ h', fR h h' → Q (if nw (h.2 96) c a.toNat (b - a + 1).toNat ≤ gd (h.2 96) c (h.2 96 2).toNat + trd (h.2 96) c (h.2 96 11).toNat then 0 else 1) h') : zSi g (D + 7) mX9_proof [xr 95, xi a, xi b, xi c] h Q := by
  have B := rB_inv I
  have m := I.1
  have z := pM_z m
  obtain ⟨n, hn⟩ : ∃ n : Nat, h.2 96 2 = (n : Int) := ⟨(h.2 96 2).toNat, by omega⟩
  obtain ⟨tn, htn⟩ : ∃ n : Nat, h.2 96 11 = (n : Int) := ⟨(h.2 96 11).toNat, by omega⟩
  rw [hn, htn, show ((n : Int)).toNat = n by omega, show ((tn : Int)).toNat = tn by omega] at hQ
  rw [hn, show ((n : Int)).toNat = n by omega] at h0
  have se := x_shl_e n (by omega)
  refine eX9_proof (zX9_proof_0 (r_isSpan m (fun x hx => ⟨fun q => zX9_proof_27 (h0 (fun w => ?_)), fun q => ?_⟩)))
  · rcases hx with e | e
    · omega
    · exact e.2 w.1
  have sp : spn (h.2 96) a b := by
    rcases hx with e | e
    · exact e.2
    · omega
  rw [hn, se.1]
  generalize hp2 : (2 : Int) ^ n = p2 at se h0 hQ
  rw [x32_id (by omega) (by omega)]
  refine s_in (fun x2 hx2 => ⟨fun q2 => zX9_proof_29 ?_, fun q2 => h0 (fun w => by omega)⟩)
  have hQ := hQ sp (by omega)
  clear h0 hx hx2 se hp2
  refine r_numberOf (k := 7) B.1 ?_
  have yb : 1 ≤ nO (h.2 96) (-1) 7 (h.2 96 0) 10 ∧ nO (h.2 96) (-1) 7 (h.2 96 0) 10 ≤ 99 := nO_b B.1 (Or.inl rfl : (-1 : Int) = -1 ∨ _) 7 (h.2 96 0) 10 1 99 (by decide) (Or.inr (Or.inl ⟨rfl, rfl, rfl⟩))
  have s1 := sp.1
  have s2 := sp.2.1
  have s3 := sp.2.2
  have bit : ∀ k : Nat, k < 32 → x_and (x_shr c (k : Int)) 1 = if tb c k = true then 1 else 0 := by
    intro k hk
    have t := tb_shr (K := c) hk
    cases q : tb c k
    · rw [if_neg (by decide)]; exact t.2.mpr q
    · rw [if_pos rfl]; exact t.1.mpr q
  -- webs
  have L3 : ∀ (k i : Nat) {h' : xH} {w1 w4 w8 : xV}, (i : Int) + k = b - a + 1 → fR h h' → zJ g (D + 7) mX9_proof 0 0 172 [xr 95, w1, xi b, xi c, w4, xi (gd (h.2 96) c n + trd (h.2 96) c tn), xi (nw (h.2 96) c a.toNat i), xi (a + i), w8] [] h' (x_qi Q) := by
    intro k
    induction k with
    | zero =>
      intro i h' w1 w4 w8 e f
      refine zX9_proof_172 ⟨fun q => zX9_proof_211 ?_, fun q => by omega⟩
      have r := hQ h' f
      rw [show (b - a + 1).toNat = i by omega] at r
      refine ⟨fun q2 => zX9_proof_222 ?_, fun q2 => ?_⟩
      · rw [if_pos q2] at r; exact r
      · rw [if_neg (by omega)] at r; exact r
    | succ k ih =>
      intro i h' w1 w4 w8 e f
      have e96 := fR_96 f
      have hw : ((a.toNat + i : Nat) : Int) < h.2 96 4 := by omega
      have ow := B.2.2.2.2.2.1 (a.toNat + i) hw
      refine zX9_proof_172 ⟨fun q => by omega, fun q => ?_⟩
      rw [x32_id (show -2147483648 ≤ 350 + (a + (i : Int)) by omega) (by omega), show (350 + (a + (i : Int))).toNat = 350 + (a.toNat + i) by omega]
      rw [show a + (i : Int) = ((a.toNat + i : Nat) : Int) by omega]
      refine ⟨by omega, r_needOf (by rw [e96]; exact B) (by rw [e96]; exact hw) (fun h2 f2 => ?_)⟩
      obtain ⟨o, ho⟩ : ∃ o : Nat, h.2 96 (350 + (a.toNat + i)) = (o : Int) := ⟨(h.2 96 (350 + (a.toNat + i))).toNat, by omega⟩
      have hb : tb c (h.2 96 (350 + (a.toNat + i))).toNat = tb c o := by show tb c (h.2 96 (350 + (a.toNat + i))).toNat = _; rw [ho]; rfl
      rw [e96, ho, bit o (by omega)]
      have b1 := nw_b B (c := c) (a := a.toNat) (i := i) (by omega) (by omega)
      have b2 := nd_b B hw
      by_cases t : tb c o = true
      · rw [if_pos t, Int.one_mul, x32_id (show -2147483648 ≤ nd (h.2 96) (a.toNat + i) by omega) (by omega), x32_id (by omega) (by omega), x32_id (by omega) (by omega)]
        have ey : nw (h.2 96) c a.toNat (i + 1) = nw (h.2 96) c a.toNat i + nd (h.2 96) (a.toNat + i) := sX_y (by rw [hb]; exact t)
        rw [← ey, show ((a.toNat + i : Nat) : Int) + 1 = a + ((i + 1 : Nat) : Int) by omega]
        exact ih (i + 1) (by omega) (fR_trans f f2)
      · rw [if_neg t, Int.zero_mul, x32_id (show -2147483648 ≤ (0 : Int) by decide) (by decide), Int.add_zero, x32_id (by omega) (by omega), x32_id (by omega) (by omega)]
        have ey : nw (h.2 96) c a.toNat (i + 1) = nw (h.2 96) c a.toNat i := sX_n (by rw [hb]; simpa using t)
        rw [← ey, show ((a.toNat + i : Nat) : Int) + 1 = a + ((i + 1 : Nat) : Int) by omega]
        exact ih (i + 1) (by omega) (fR_trans f f2)
  have L2 : ∀ (k j : Nat) {w4 w8 : xV}, j + k = tn → zJ g (D + 7) mX9_proof 0 0 96 [xr 95, xi a, xi b, xi c, w4, xi (gd (h.2 96) c n + trd (h.2 96) c j), xi 0, xi j, w8] [] h (x_qi Q) := by
    intro k
    induction k with
    | zero =>
      intro j w4 w8 e
      have : j = tn := by omega
      subst this
      refine zX9_proof_96 ?_
      rw [htn]
      refine ⟨fun _ => zX9_proof_169 ?_, fun q => by omega⟩
      have r := L3 (b - a + 1).toNat 0 (w1 := xi a) (w4 := xu) (w8 := xu) (by omega) (fR_refl h)
      rw [show a + ((0 : Nat) : Int) = a by omega] at r
      exact r
    | succ k ih =>
      intro j w4 w8 e
      have r := tr_r m (j := j) (by omega)
      have b0 := gd_b m B (c := c) (i := n) (by omega)
      have b1 := trd_b m (c := c) (i := j) (by omega)
      obtain ⟨o, ho⟩ : ∃ o : Nat, h.2 96 (12530 + 3 * j) = (o : Int) := ⟨(h.2 96 (12530 + 3 * j)).toNat, by omega⟩
      obtain ⟨p, hp⟩ : ∃ o : Nat, h.2 96 (12531 + 3 * j) = (o : Int) := ⟨(h.2 96 (12531 + 3 * j)).toNat, by omega⟩
      have hb : (tb c (h.2 96 (12531 + 3 * j)).toNat && !tb c (h.2 96 (12530 + 3 * j)).toNat) = (tb c p && !tb c o) := by show (tb c (h.2 96 (12531 + 3 * j)).toNat && !tb c (h.2 96 (12530 + 3 * j)).toNat) = _; rw [ho, hp]; rfl
      have no : ∀ {w8 : xV}, (tb c p && !tb c o) = false → zJ g (D + 7) mX9_proof 0 0 163 [xr 95, xi a, xi b, xi c, xu, xi (gd (h.2 96) c n + trd (h.2 96) c j), xi 0, xi j, w8] [] h (x_qi Q) := by
        intro w8 t
        refine zX9_proof_163 ?_
        rw [x32_id (by omega) (by omega), show (j : Int) + 1 = ((j + 1 : Nat) : Int) by omega]
        have ey : trd (h.2 96) c (j + 1) = trd (h.2 96) c j := sX_n (by rw [hb]; exact t)
        rw [← ey]
        exact ih (j + 1) (by omega)
      refine zX9_proof_96 ?_
      rw [htn]
      refine ⟨fun q => by omega, fun q => ?_⟩
      rw [x32_id (show -2147483648 ≤ 3 * (j : Int) by omega) (by omega), x32_id (show -2147483648 ≤ 12530 + 3 * (j : Int) by omega) (by omega), x32_id (show -2147483648 ≤ 12530 + 3 * (j : Int) + 1 by omega) (by omega), x32_id (show -2147483648 ≤ 12530 + 3 * (j : Int) + 2 by omega) (by omega), show (12530 + 3 * (j : Int)).toNat = 12530 + 3 * j by omega, show (12530 + 3 * (j : Int) + 1).toNat = 12531 + 3 * j by omega, show (12530 + 3 * (j : Int) + 2).toNat = 12532 + 3 * j by omega, ho, hp, bit o (by omega), bit p (by omega)]
      refine ⟨by omega, fun t => no ?_, fun t => ⟨by omega, fun t2 => no ?_, fun t2 => ⟨by omega, ?_⟩⟩⟩
      · cases q2 : tb c o
        · rw [q2] at t; exact absurd rfl t
        · simp
      · cases q2 : tb c p
        · rfl
        · rw [q2] at t2; exact absurd rfl t2
      · have q1 : tb c o = false := by
          cases q2 : tb c o
          · rfl
          · rw [q2] at t; exact absurd t (by decide)
        have q3 : tb c p = true := by
          cases q2 : tb c p
          · rw [q2] at t2; exact absurd t2 (by decide)
          · rfl
        have ey : trd (h.2 96) c (j + 1) = trd (h.2 96) c j + h.2 96 (12532 + 3 * j) := sX_y (by rw [hb, q1, q3]; rfl)
        rw [x32_id (by omega) (by omega), x32_id (by omega) (by omega), show (j : Int) + 1 = ((j + 1 : Nat) : Int) by omega]
        rw [show gd (h.2 96) c n + trd (h.2 96) c j + h.2 96 (12532 + 3 * j) = gd (h.2 96) c n + trd (h.2 96) c (j + 1) by omega]
        exact ih (j + 1) (by omega)
  have L1 : ∀ (k i : Nat) {w8 : xV}, i + k = n → zJ g (D + 7) mX9_proof 0 0 54 [xr 95, xi a, xi b, xi c, xi (nO (h.2 96) (-1) 7 (h.2 96 0) 10), xi (gd (h.2 96) c i), xi 0, xi i, w8] [] h (x_qi Q) := by
    intro k
    induction k with
    | zero =>
      intro i w8 e
      have : i = n := by omega
      subst this
      refine zX9_proof_54 ?_
      rw [hn]
      refine ⟨fun _ => zX9_proof_93 ?_, fun q => by omega⟩
      have r := L2 tn 0 (w4 := xu) (w8 := xu) (by omega)
      rw [show gd (h.2 96) c i + trd (h.2 96) c 0 = gd (h.2 96) c i from Int.add_zero _] at r
      exact r
    | succ k ih =>
      intro i w8 e
      have r1 : (0 ≤ h.2 96 (30 + 4 * i) ∧ h.2 96 (30 + 4 * i) < h.2 96 1) ∧ (0 ≤ h.2 96 (31 + 4 * i) ∧ h.2 96 (31 + 4 * i) ≤ 9) ∧ 0 ≤ h.2 96 (32 + 4 * i) ∧ h.2 96 (32 + 4 * i) ≤ 99 := m.2.2 1 (by decide) (by decide) i (show (i : Int) < h.2 96 2 by omega)
      have m1 : 0 ≤ h.2 96 (32 + 4 * i) * nO (h.2 96) (-1) 7 (h.2 96 0) 10 := Int.mul_nonneg r1.2.2.1 (by omega)
      have m2 : h.2 96 (32 + 4 * i) * nO (h.2 96) (-1) 7 (h.2 96 0) 10 ≤ 99 * 99 := Int.mul_le_mul r1.2.2.2 yb.2 (by omega) (by omega)
      have b0 := gd_b m B (c := c) (i := i) (by omega)
      refine zX9_proof_54 ?_
      rw [hn]
      refine ⟨fun q => by omega, fun q => r_personAt (p := i) (c := 2) (by omega) (by decide) ?_⟩
      rw [show 30 + 4 * i + 2 = 32 + 4 * i by omega, bit i (by omega)]
      by_cases t : tb c i = true
      · rw [if_pos t, Int.one_mul, x32_id (show -2147483648 ≤ h.2 96 (32 + 4 * i) by omega) (by omega), x32_id (show -2147483648 ≤ h.2 96 (32 + 4 * i) * nO (h.2 96) (-1) 7 (h.2 96 0) 10 by omega) (by omega), x32_id (by omega) (by omega), x32_id (by omega) (by omega), show (i : Int) + 1 = ((i + 1 : Nat) : Int) by omega]
        have ey : gd (h.2 96) c (i + 1) = gd (h.2 96) c i + h.2 96 (32 + 4 * i) * nO (h.2 96) (-1) 7 (h.2 96 0) 10 := sX_y t
        rw [← ey]
        exact ih (i + 1) (by omega)
      · rw [if_neg t, Int.zero_mul, x32_id (show -2147483648 ≤ (0 : Int) by decide) (by decide), Int.zero_mul, x32_id (show -2147483648 ≤ (0 : Int) by decide) (by decide), Int.add_zero, x32_id (by omega) (by omega), x32_id (by omega) (by omega), show (i : Int) + 1 = ((i + 1 : Nat) : Int) by omega]
        have ey : gd (h.2 96) c (i + 1) = gd (h.2 96) c i := sX_n (by simpa using t)
        rw [← ey]
        exact ih (i + 1) (by omega)
  exact L1 n 0 (by omega)
end PF
theorem op_proof {g : xG} {D : Nat} {h : xH} {a b c : Int} (hc : -2147483648 ≤ c ∧ c < 2147483648) (I : zInv h) : zSi g (D + 7) mX8_proof [xr 16, xi a, xi b, xi c] h (fun x h1 => zSi g (D + 7) mX9_proof [xr 95, xi a, xi b, xi c] h1 (fun y h2 => x = y ∧ zInv h2)) := by
  refine zS_sh (fun hs => ?_)
  refine s_proof hs I hc (fun no => r_proof I hc (fun _ => ⟨rfl, I⟩) (fun y1 y2 => absurd ⟨y1, y2⟩ no)) (fun y1 y2 h1 f => ?_)
  have e96 := fB_96 f
  have I1 := fB_inv f I
  refine r_proof I1 hc (fun no => absurd ⟨by rw [e96]; exact y1, by rw [e96]; exact y2⟩ no) (fun _ _ h2 f2 => ⟨by rw [e96], fR_inv f2 I1⟩)
