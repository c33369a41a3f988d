/-! bits -/
def tb (K : Int) (j : Nat) : Bool := (Int32.ofInt K).toBitVec.getLsbD j
theorem tb_sh : ∀ k : Nat, k < 32 → ((Int32.ofInt (k : Int) &&& 31).toBitVec.smod 32) = BitVec.ofNat 32 k := by decide
theorem tb_back (v : Int32) : (Int32.ofInt v.toInt).toBitVec = v.toBitVec := by rw [Int32.ofInt_toInt]
theorem tb_shr {K : Int} {k : Nat} (hk : k < 32) : (x_and (x_shr K (k : Int)) 1 = 1 ↔ tb K k = true) ∧ (x_and (x_shr K (k : Int)) 1 = 0 ↔ tb K k = false) := by
  have h0 : (Int32.ofInt (x_shr K (k : Int))).toBitVec = (Int32.ofInt K).toBitVec.sshiftRight k := by
    unfold x_shr
    rw [tb_back]
    show BitVec.sshiftRight' (Int32.ofInt K).toBitVec ((Int32.ofInt (k : Int) &&& 31).toBitVec.smod 32) = _
    rw [tb_sh k hk]
    unfold BitVec.sshiftRight'
    rw [BitVec.toNat_ofNat, Nat.mod_eq_of_lt (by omega)]
  have h1 : x_and (x_shr K (k : Int)) 1 = (((Int32.ofInt K).toBitVec.sshiftRight k) &&& 1#32).toInt := by
    unfold x_and
    show ((Int32.ofInt (x_shr K (k : Int))).toBitVec &&& (Int32.ofInt 1).toBitVec).toInt = _
    rw [h0]; rfl
  have h2 : ((Int32.ofInt K).toBitVec.sshiftRight k).getLsbD 0 = tb K k := by
    rw [BitVec.getLsbD_sshiftRight]
    unfold tb
    simp only [Nat.add_zero, show ¬ 32 ≤ 0 from by decide, decide_false, Bool.not_false, Bool.true_and, hk, if_true]
  have h3 : ∀ b : BitVec 32, (b &&& 1#32).toInt = if b.getLsbD 0 = true then 1 else 0 := by
    intro b
    have e : (b &&& 1#32).toNat = b.toNat % 2 := by
      rw [BitVec.toNat_and]
      show b.toNat &&& 1 = _
      rw [Nat.and_one_is_mod]
    have l : (b &&& 1#32).toNat < 2 := by rw [e]; omega
    rw [BitVec.toInt_eq_toNat_of_lt (by omega), e]
    have g : b.getLsbD 0 = decide (b.toNat % 2 = 1) := by
      show b.toNat.testBit 0 = _
      rw [Nat.testBit_zero]
    rw [g]
    by_cases q : b.toNat % 2 = 1
    · rw [if_pos (by simpa using q)]; omega
    · rw [if_neg (by simpa using q)]; omega
  rw [h1, h3, h2]
  cases tb K k <;> simp
theorem tb_shl {k : Nat} (hk : k < 32) (j : Nat) : tb (x_shl 1 (k : Int)) j = (decide (j < 32) && decide (j = k)) := by
  unfold tb x_shl
  rw [tb_back]
  show (BitVec.shiftLeft (Int32.ofInt 1).toBitVec ((Int32.ofInt (k : Int) &&& 31).toBitVec.smod 32).toNat).getLsbD j = _
  rw [tb_sh k hk, BitVec.toNat_ofNat, Nat.mod_eq_of_lt (by omega)]
  show ((1#32) <<< k).getLsbD j = _
  rw [BitVec.getLsbD_shiftLeft]
  by_cases h1 : j < 32
  · by_cases h2 : j < k
    · have : ¬ j = k := by omega
      simp [h1, h2, this]
    · by_cases h3 : j = k
      · subst h3; simp [h1]
      · have h4 : j - k ≠ 0 := by omega
        have : (1#32).getLsbD (j - k) = false := by
          rw [BitVec.getLsbD_one]
          simp [h4]
        simp [h1, h2, h3, this]
  · simp [h1]
theorem tb_or {K L : Int} {j : Nat} : tb (x_or K L) j = (tb K j || tb L j) := by
  unfold tb x_or
  rw [tb_back]
  show ((Int32.ofInt K).toBitVec ||| (Int32.ofInt L).toBitVec).getLsbD j = _
  rw [BitVec.getLsbD_or]
theorem tb_put {K : Int} {k j : Nat} (hk : k < 32) (hj : j < 32) : tb (x_or K (x_shl 1 (k : Int))) j = (tb K j || decide (j = k)) := by
  rw [tb_or, tb_shl hk, decide_eq_true hj, Bool.true_and]
theorem tb_0 (j : Nat) : tb 0 j = false := by
  unfold tb
  show (0#32).getLsbD j = false
  simp
theorem tb_and {K : Int} {k : Nat} (hk : k < 32) : x_and K (x_shl 1 (k : Int)) = 0 ↔ tb K k = false := by
  have e : tb (x_and K (x_shl 1 (k : Int))) = fun j => tb K j && (decide (j < 32) && decide (j = k)) := by
    funext j
    rw [← tb_shl hk]
    unfold tb x_and
    rw [tb_back]
    show ((Int32.ofInt K).toBitVec &&& (Int32.ofInt (x_shl 1 (k : Int))).toBitVec).getLsbD j = _
    rw [BitVec.getLsbD_and]
  constructor
  · intro h
    have := congrFun e k
    rw [h, tb_0] at this
    simpa [hk] using this.symm
  · intro h
    have z : ∀ j, tb (x_and K (x_shl 1 (k : Int))) j = false := by
      intro j
      rw [e]
      (try dsimp only)
      by_cases q : j = k
      · subst q; rw [h]; rfl
      · simp [q]
    have z2 : (Int32.ofInt (x_and K (x_shl 1 (k : Int)))).toBitVec = 0#32 := by
      apply BitVec.eq_of_getLsbD_eq
      intro i _
      have := z i
      unfold tb at this
      rw [this]; simp
    unfold x_and at z2 ⊢
    rw [tb_back] at z2
    show (Int32.ofInt K &&& Int32.ofInt (x_shl 1 (k : Int))).toBitVec.toInt = 0
    rw [z2]; rfl
/-! draws -/
theorem x_ushr16 (x : Int) : 0 ≤ x_ushr x 16 ∧ x_ushr x 16 ≤ 65535 := by
  unfold x_ushr
  have h1 : ((Int32.ofInt 16).toUInt32 &&& Int32.toUInt32 31) = 16 := by decide
  rw [h1]
  generalize (Int32.ofInt x).toUInt32 = u
  have e : ((u >>> 16).toInt32).toInt = (u >>> 16).toBitVec.toInt := rfl
  have h2 : (u >>> 16).toBitVec.toNat < 65536 := by
    show (u >>> 16).toNat < 65536
    rw [UInt32.toNat_shiftRight]
    have := u.toNat_lt
    show u.toNat >>> 16 < 65536
    rw [Nat.shiftRight_eq_div_pow]
    omega
  rw [e, BitVec.toInt_eq_toNat_of_lt (by omega)]
  omega
def lcg (s : Int) : Int := x32 (x32 (s * 1103515245) + 12345)
def lc (seed : Int) : Nat → Int
  | 0 => seed
  | i + 1 => lcg (lc seed i)
def ot (n : Nat) (seed : Int) (i : Nat) : Nat := i + (x_ushr (lc seed (i + 1)) 16).toNat % (n - i)
theorem ot_b {n i : Nat} {seed : Int} (h : i < n) : i ≤ ot n seed i ∧ ot n seed i < n := by
  unfold ot
  have := Nat.mod_lt (x_ushr (lc seed (i + 1)) 16).toNat (show 0 < n - i by omega)
  omega
theorem ot_e {n i : Nat} {seed : Int} (h : i < n) (hn : n ≤ 64) : x32 ((i : Int) + x32 ((x_ushr (lcg (lc seed i)) 16).tmod (x32 ((n : Int) - i)))) = (ot n seed i : Int) := by
  have u := x_ushr16 (lcg (lc seed i))
  have b := ot_b (seed := seed) h
  have e0 : x_ushr (lcg (lc seed i)) 16 = x_ushr (lc seed (i + 1)) 16 := rfl
  rw [x32_id (show -2147483648 ≤ (n : Int) - i by omega) (by omega), e0]
  rw [e0] at u
  have e1 : (x_ushr (lc seed (i + 1)) 16).tmod ((n : Int) - i) = (((x_ushr (lc seed (i + 1)) 16).toNat % (n - i) : Nat) : Int) := by
    rw [Int.tmod_eq_emod_of_nonneg u.1, Int.natCast_emod, show (((x_ushr (lc seed (i + 1)) 16).toNat : Nat) : Int) = x_ushr (lc seed (i + 1)) 16 by omega, show ((n - i : Nat) : Int) = (n : Int) - i by omega]
  rw [e1]
  have b2 : (x_ushr (lc seed (i + 1)) 16).toNat % (n - i) < n - i := Nat.mod_lt _ (by omega)
  rw [x32_id (show -2147483648 ≤ (((x_ushr (lc seed (i + 1)) 16).toNat % (n - i) : Nat) : Int) by omega) (by omega), x32_id (by omega) (by omega)]
  unfold ot
  omega
def swp (f : Nat → Int) (i k : Nat) : Nat → Int := fun j => if j = k then f i else if j = i then f k else f j
def mx (f : Nat → Int) (n : Nat) (seed : Int) : Nat → Nat → Int
  | 0 => f
  | i + 1 => swp (mx f n seed i) i (ot n seed i)
theorem mx_cong {f f' : Nat → Int} {n : Nat} {seed : Int} (h : ∀ j, j < n → f j = f' j) : ∀ i, i ≤ n → ∀ j, j < n → mx f n seed i j = mx f' n seed i j
  | 0, _, j, hj => h j hj
  | i + 1, hi, j, hj => by
    have b := ot_b (seed := seed) (show i < n by omega)
    show swp (mx f n seed i) i (ot n seed i) j = swp (mx f' n seed i) i (ot n seed i) j
    unfold swp
    rw [mx_cong h i (by omega) i (by omega), mx_cong h i (by omega) _ b.2, mx_cong h i (by omega) j hj]
/-- places ahead stay -/
theorem mx_stay {f : Nat → Int} {n : Nat} {seed : Int} {m : Nat} : ∀ d, m + d ≤ n → ∀ j, j < m → mx f n seed (m + d) j = mx f n seed m j
  | 0, _, _, _ => rfl
  | d + 1, hd, j, hj => by
    have b := ot_b (seed := seed) (show m + d < n by omega)
    show swp (mx f n seed (m + d)) (m + d) (ot n seed (m + d)) j = _
    unfold swp
    rw [if_neg (by omega), if_neg (by omega)]
    exact mx_stay d (by omega) j hj
/-- what is drawn is what lay there, each once -/
theorem mx_perm {f : Nat → Int} {n : Nat} {seed : Int} {P : Int → Prop} (hP : ∀ j, j < n → P (f j)) (hI : ∀ j k, j < n → k < n → f j = f k → j = k) : ∀ i, i ≤ n → (∀ j, j < n → P (mx f n seed i j)) ∧ ∀ j k, j < n → k < n → mx f n seed i j = mx f n seed i k → j = k
  | 0, _ => ⟨hP, hI⟩
  | i + 1, hi => by
    obtain ⟨h1, h2⟩ := mx_perm hP hI i (by omega)
    have b := ot_b (seed := seed) (show i < n by omega)
    have key : ∀ j, j < n → ∃ q, q < n ∧ swp (mx f n seed i) i (ot n seed i) j = mx f n seed i q ∧ q = (if j = ot n seed i then i else if j = i then ot n seed i else j) := by
      intro j hj
      refine ⟨if j = ot n seed i then i else if j = i then ot n seed i else j, ?_, ?_, rfl⟩
      · repeat' split
        all_goals omega
      · unfold swp
        repeat' split
        all_goals rfl
    refine ⟨fun j hj => ?_, fun j k hj hk e => ?_⟩
    · obtain ⟨q, q1, q2, -⟩ := key j hj
      show P (swp (mx f n seed i) i (ot n seed i) j)
      rw [q2]; exact h1 q q1
    · obtain ⟨q, q1, q2, q3⟩ := key j hj
      obtain ⟨p, p1, p2, p3⟩ := key k hk
      have e : swp (mx f n seed i) i (ot n seed i) j = swp (mx f n seed i) i (ot n seed i) k := e
      rw [q2, p2] at e
      have := h2 q p q1 p1 e
      rw [q3, p3] at this
      repeat' split at this
      all_goals omega
section DR
variable {g : xG} {D : Nat} {h : xH}
theorem l_mix {n : Nat} {seed : Int} {Q : xH → Prop} {f : Nat → Int} (hn : n ≤ 40) : ∀ (m i : Nat) {h : xH} {w1 w4 w5 : xV}, i + m = n → h.2 93 1 = (n : Int) → h.2 94 = mx f n seed i → (∀ h', h'.1 = h.1 → (∀ r, r ≠ 94 → h'.2 r = h.2 r) → h'.2 94 = mx f n seed n → Q h') → zJ g D 75 0 0 4 [xr 93, w1, xi (lc seed i), xi i, w4, w5] [] h (x_qv Q)
  | 0, i, h, w1, w4, w5, e, h1, h2, hQ => by
    have : i = n := by omega
    subst this
    exact zX7_mix_4 ⟨fun _ => zX7_mix_96 (hQ h rfl (fun _ _ => rfl) h2), fun z => by omega⟩
  | m + 1, i, h, w1, w4, w5, e, h1, h2, hQ => by
    have b := ot_b (seed := seed) (show i < n by omega)
    have oe := ot_e (seed := seed) (show i < n by omega) (by omega)
    refine zX7_mix_4 ⟨fun z => by omega, fun z => ⟨fun z2 => by omega, fun z2 => ?_⟩⟩
    rw [h1]
    have el : x32 (x32 (lc seed i * 1103515245) + 12345) = lcg (lc seed i) := rfl
    rw [el]
    have ne : x32 ((n : Int) - i) ≠ 0 := by rw [x32_id (by omega) (by omega)]; omega
    rw [oe]
    clear oe
    refine ⟨ne, fun z3 => by omega, fun z3 => ⟨fun z4 => by omega, fun z4 => ⟨by omega, by omega, by omega, by omega, ?_⟩⟩⟩
    clear ne
    rw [x32_id (by omega) (by omega), show ((i : Int)).toNat = i by omega, show ((ot n seed i : Int)).toNat = ot n seed i by omega, show (i : Int) + 1 = ((i + 1 : Nat) : Int) by omega]
    refine l_mix (f := f) hn m (i + 1) (by omega) ?_ ?_ (fun h' k1 k2 k3 => hQ h' k1 (fun r hr => ?_) k3)
    · (try dsimp only); rw [x_up_r (by decide), x_up_r (by decide)]; exact h1
    · show _ = swp (mx f n seed i) i (ot n seed i)
      (try dsimp only)
      funext j
      unfold swp
      rw [x_up_k, x_up_k, h2]
    · rw [k2 r hr]; (try dsimp only); rw [x_up_r hr, x_up_r hr]
theorem s_mix {n : Nat} {seed : Int} {Q : xH → Prop} (hn : n ≤ 40) (h1 : h.2 93 1 = (n : Int)) (hQ : ∀ h', h'.1 = h.1 → (∀ r, r ≠ 94 → h'.2 r = h.2 r) → h'.2 94 = mx (h.2 94) n seed n → Q h') : zSv g D mX7_mix [xr 93, xi seed] h Q :=
  eX7_mix (zX7_mix_0 (l_mix (f := h.2 94) hn n 0 (by omega) h1 rfl hQ))
theorem l_rdraw {n k : Nat} {seed : Int} {Q : xH → Prop} {f : Nat → Int} (hn : n ≤ 64) (hk : k ≤ n) : ∀ (m i : Nat) {h : xH} {w3 w6 w7 : xV}, i + m = k → h.2 109 = mx f n seed i → (∀ h', h'.1 = h.1 → (∀ r, r ≠ 109 → h'.2 r = h.2 r) → h'.2 109 = mx f n seed k → Q h') → zJ g D 231 0 0 6 [xr 95, xi n, xi k, w3, xi (lc seed i), xi i, w6, w7] [] h (x_qv Q)
  | 0, i, h, w3, w6, w7, e, h2, hQ => by
    have : i = k := by omega
    subst this
    exact zX9_drawOf_6 ⟨fun _ => zX9_drawOf_77 (hQ h rfl (fun _ _ => rfl) h2), fun z => by omega⟩
  | m + 1, i, h, w3, w6, w7, e, h2, hQ => by
    have b := ot_b (seed := seed) (show i < n by omega)
    have oe := ot_e (seed := seed) (show i < n by omega) hn
    refine zX9_drawOf_6 ⟨fun z => by omega, fun z => ?_⟩
    have el : x32 (x32 (lc seed i * 1103515245) + 12345) = lcg (lc seed i) := rfl
    rw [el]
    have ne : x32 ((n : Int) - i) ≠ 0 := by rw [x32_id (by omega) (by omega)]; omega
    rw [oe]
    clear oe
    refine ⟨ne, by omega, by omega, by omega, by omega, ?_⟩
    clear ne
    rw [x32_id (by omega) (by omega), show ((i : Int)).toNat = i by omega, show ((ot n seed i : Int)).toNat = ot n seed i by omega, show (i : Int) + 1 = ((i + 1 : Nat) : Int) by omega]
    refine l_rdraw (f := f) hn hk m (i + 1) (by omega) ?_ (fun h' k1 k2 k3 => hQ h' k1 (fun r hr => ?_) k3)
    · show _ = swp (mx f n seed i) i (ot n seed i)
      (try dsimp only)
      funext j
      unfold swp
      rw [x_up_k, x_up_k, h2]
    · rw [k2 r hr]; (try dsimp only); rw [x_up_r hr, x_up_r hr]
theorem r_draw {n k : Nat} {seed : Int} {Q : xH → Prop} (hn : n ≤ 64) (hk : k ≤ n) (hQ : ∀ h', h'.1 = h.1 → (∀ r, r ≠ 109 → h'.2 r = h.2 r) → h'.2 109 = mx (h.2 109) n seed k → Q h') : zSv g D mX9_drawOf [xr 95, xi n, xi k, xi seed] h Q :=
  eX9_drawOf (zX9_drawOf_0 (l_rdraw (f := h.2 109) hn hk k 0 (by omega) rfl hQ))
/-- the urn, filled with 0 to n - 1 -/
theorem l_fill {n : Nat} {Q : xH → Prop} (hn : n ≤ 40) : ∀ (m i : Nat) {h : xH}, i + m = n → h.2 93 1 = (i : Int) → (∀ j, j < i → h.2 94 j = (j : Int)) → (∀ h', h'.1 = h.1 → (∀ r, r ≠ 93 → r ≠ 94 → h'.2 r = h.2 r) → h'.2 93 1 = (n : Int) → (∀ j, j < n → h'.2 94 j = (j : Int)) → Q h') → zJ g (D + 1) 73 0 0 7 [xr 93, xi n, xi i] [] h (x_qv Q)
  | 0, i, h, e, h1, h2, hQ => by
    have : i = n := by omega
    subst this
    exact zX7_fill_7 ⟨fun _ => zX7_fill_23 (hQ h rfl (fun _ _ _ => rfl) h1 h2), fun z => by omega⟩
  | m + 1, i, h, e, h1, h2, hQ => by
    refine zX7_fill_7 ⟨fun z => by omega, fun z => eX7_add (zX7_add_0 ?_)⟩
    rw [x_up_r (show 93 ≠ 94 by decide), h1, x32_id (by omega) (by omega)]
    refine ⟨fun z => by omega, fun z => ⟨fun z2 => by omega, fun z2 => ⟨by omega, ?_⟩⟩⟩
    rw [show ((i : Int)).toNat = i by omega, show (i : Int) + 1 = ((i + 1 : Nat) : Int) by omega]
    refine l_fill hn m (i + 1) (by omega) ?_ (fun j hj => ?_) (fun h' k1 k2 k3 k4 => hQ h' k1 (fun r r1 r2 => ?_) k3 k4)
    · (try dsimp only); exact x_up_eq
    · (try dsimp only)
      rw [x_up_r (by decide), x_up_k]
      by_cases q : j = i
      · rw [if_pos q, q]
      · rw [if_neg q]; exact h2 j (by omega)
    · rw [k2 r r1 r2]; (try dsimp only); rw [x_up_r r1, x_up_r r2]
theorem s_fill {n : Nat} {Q : xH → Prop} (hn : n ≤ 40) (hQ : ∀ h', h'.1 = h.1 → (∀ r, r ≠ 93 → r ≠ 94 → h'.2 r = h.2 r) → h'.2 93 1 = (n : Int) → (∀ j, j < n → h'.2 94 j = (j : Int)) → Q h') : zSv g (D + 1) mX7_fill [xr 93, xi n] h Q := by
  refine eX7_fill (zX7_fill_0 (l_fill hn n 0 (by omega) ?_ (fun j hj => by omega) (fun h' k1 k2 k3 k4 => hQ h' k1 (fun r r1 r2 => ?_) k3 k4)))
  · (try dsimp only); exact x_up_eq
  · rw [k2 r r1 r2]; (try dsimp only); rw [x_up_r r1]
theorem s_thing {n : Nat} {x : Int} {Q : Int → xH → Prop} (hn : n ≤ 40) (h1 : h.2 93 1 = (n : Int)) (h0 : ¬ (0 ≤ x ∧ x < n) → Q (-1) h) (hy : ∀ i : Nat, x = (i : Int) → i < n → Q (h.2 94 i) h) : zSi g D mX7_thingAt [xr 93, xi x] h Q := by
  refine eX7_thingAt (zX7_thingAt_0 ?_)
  rw [h1]
  refine ⟨fun z => zX7_thingAt_30 (h0 (by omega)), fun z => ⟨fun z2 => zX7_thingAt_30 (h0 (by omega)), fun z2 => ⟨fun z3 => by omega, fun z3 => ⟨⟨z, z3⟩, ?_⟩⟩⟩⟩
  exact hy x.toNat (by omega) (by omega)
/-- scratch of draws -/
theorem inv_urn {h2 : xH} (I : zInv h) (k1 : h2.1 = h.1) (k2 : ∀ r, r ≠ 93 → r ≠ 94 → h2.2 r = h.2 r) : zInv h2 :=
  inv_scr I k1 (by rw [k2 75 (by decide) (by decide)]) (fun r hr => k2 r (by omega) (by omega))
theorem inv_row {h2 : xH} (I : zInv h) (k1 : h2.1 = h.1) (k2 : ∀ r, r ≠ 109 → h2.2 r = h.2 r) : zInv h2 :=
  inv_scr I k1 (by rw [k2 75 (by decide)]) (fun r hr => k2 r (by omega))
end DR
theorem op_way {g : xG} {D : Nat} {h : xH} {a b : Int} (I : zInv h) : zSi g (D + 3) mX8_way [xr 16, xi a, xi b] h (fun x h1 => zSi g (D + 3) mX9_way [xr 95, xi a, xi b] h1 (fun y h2 => x = y ∧ zInv h2)) := by
  refine zS_sh (fun hs => ?_)
  have z := pM_z I.1
  have hsz : h.2 18 3 = h.2 96 1 := ((I.2.2.1.1 0 (by decide)) (by decide)).1
  obtain ⟨n, hn⟩ : ∃ n : Nat, h.2 96 1 = (n : Int) := ⟨(h.2 96 1).toNat, by omega⟩
  refine eX8_way (zX8_way_0 ?_)
  rw [hsz, hn]
  refine s_fill (by omega) (fun h1 k1 k2 k3 k4 => s_mix (n := n) (by omega) k3 (fun h2 l1 l2 l3 => ?_))
  have m3 : h2.2 93 1 = (n : Int) := by rw [l2 93 (by decide)]; exact k3
  have I2 : zInv h2 := inv_urn I (l1.trans k1) (fun r r1 r2 => by rw [l2 r r2, k2 r r1 r2])
  have e96 : h2.2 96 = h.2 96 := by rw [l2 96 (by decide), k2 96 (by decide) (by decide)]
  refine s_thing (by omega) m3 (fun q => eX9_way (zX9_way_0 ?_)) (fun i hi hl => eX9_way (zX9_way_0 ?_))
  · rw [e96, hn, x32_id (by omega) (by omega)]
    exact s_in (fun v hv => ⟨fun u => by omega, fun u => ⟨rfl, I2⟩⟩)
  · subst hi
    rw [e96, hn, x32_id (by omega) (by omega)]
    refine s_in (fun v hv => ⟨fun u => zX9_way_18 ?_, fun u => by omega⟩)
    -- the row
    have L : ∀ (m j : Nat) {h3 : xH}, j + m = n → h3.1 = h2.1 → (∀ r, r ≠ 109 → h3.2 r = h2.2 r) → (∀ q, q < j → h3.2 109 q = (q : Int)) → zJ g (D + 3) 234 0 0 20 [xr 95, xi a, xi i, xi j] [] h3 (x_qi (fun y h4 => h2.2 94 i = y ∧ zInv h4)) := by
      intro m
      induction m with
      | zero =>
        intro j h3 e e1 e2 e3
        have e396 : h3.2 96 = h.2 96 := (e2 96 (by decide)).trans e96
        refine zX9_way_20 ?_
        rw [e396, hn]
        refine ⟨fun _ => zX9_way_43 ?_, fun q => by omega⟩
        rw [e396, hn]
        refine r_draw (by omega) (by omega) (fun h4 f1 f2 f3 => ⟨by omega, ?_, inv_row I2 (f1.trans e1) (fun r hr => by rw [f2 r hr, e2 r hr])⟩)
        rw [show ((i : Int)).toNat = i by omega, f3, l3]
        exact mx_cong (fun q hq => by rw [k4 q hq, e3 q (by omega)]) n (Nat.le_refl n) i hl
      | succ m ih =>
        intro j h3 e e1 e2 e3
        have e396 : h3.2 96 = h.2 96 := (e2 96 (by decide)).trans e96
        refine zX9_way_20 ?_
        rw [e396, hn]
        refine ⟨fun q => by omega, fun q => ⟨by omega, ?_⟩⟩
        rw [x32_id (by omega) (by omega), show ((j : Int)).toNat = j by omega, show (j : Int) + 1 = ((j + 1 : Nat) : Int) by omega]
        refine ih (j + 1) (by omega) e1 (fun r hr => ?_) (fun q hq => ?_)
        · (try dsimp only); rw [x_up_r hr]; exact e2 r hr
        · (try dsimp only)
          rw [x_up_k]
          by_cases w : q = j
          · rw [if_pos w, w]
          · rw [if_neg w]; exact e3 q (by omega)
    exact L n 0 (by omega) rfl (fun _ _ => rfl) (fun q hq => by omega)
