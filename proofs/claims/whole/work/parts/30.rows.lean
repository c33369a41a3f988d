/-! LEVEL 2: what the methods do. Rows. -/
theorem x_up_eq {C : Nat → Nat → Int} {r j : Nat} {v : Int} : x_up C r j v r j = v := by
  unfold x_up
  rw [if_pos rfl, if_pos rfl]
theorem x_up_j {C : Nat → Nat → Int} {r j r' j' : Nat} {v : Int} (h : j' ≠ j) : x_up C r j v r' j' = C r' j' := by
  unfold x_up
  rw [if_neg h]
  split <;> rfl
theorem x_up_r {C : Nat → Nat → Int} {r j r' : Nat} {v : Int} (h : r' ≠ r) : x_up C r j v r' = C r' := x_upN r' h
theorem x32_id {x : Int} (h1 : -2147483648 ≤ x) (h2 : x < 2147483648) : x32 x = x := x32_of h1 h2
theorem x64_id {x : Int} (h1 : -9223372036854775808 ≤ x) (h2 : x < 9223372036854775808) : x64 x = x := x64_of h1 h2
theorem p_place {a b m w : Int} (h1 : 0 ≤ a) (h2 : a < m) (h3 : 0 ≤ b) (h4 : b < w) : 0 ≤ a * w ∧ 0 ≤ a * w + b ∧ a * w + b < m * w := by
  have e1 : (a + 1) * w ≤ m * w := Int.mul_le_mul_of_nonneg_right (by omega) (by omega)
  have e2 : (a + 1) * w = a * w + w := by rw [Int.add_mul, Int.one_mul]
  have e3 : 0 ≤ a * w := Int.mul_nonneg h1 (by omega)
  omega
theorem p_nat {n w c : Nat} : ((n : Int) * (w : Int) + (c : Int)).toNat = n * w + c := by
  rw [show (n : Int) * (w : Int) + (c : Int) = ((n * w + c : Nat) : Int) by simp, Int.toNat_natCast]
/-- rows at r, their numbers at q: mo rows of wi numbers -/
def pR (h : xH) (r q mo wi : Nat) : Prop := x_is h r 5 4 ∧ x_is h q 10 (mo * wi) ∧ h.2 r 0 = (mo : Int) ∧ h.2 r 1 = (wi : Int) ∧ h.2 r 2 = (q : Int) ∧ mo * wi ≤ 100000
theorem z_R {h : xH} {r q mo wi : Nat} (hs : zSh h) (k1 : z_kd r = some (5, 4)) (k2 : z_kd q = some (10, mo * wi)) (k3 : z_pt r 0 = some mo) (k4 : z_pt r 1 = some wi) (k5 : z_pt r 2 = some q) (k6 : mo * wi ≤ 100000) : pR h r q mo wi := ⟨z_is hs k1, z_is hs k2, hs.2 _ _ _ k3, hs.2 _ _ _ k4, hs.2 _ _ _ k5, k6⟩
section PR
variable {g : xG} {D r q mo wi : Nat} {h : xH} {a b v : Int}
theorem s_has {Q : Int → xH → Prop} (hr : x_is h r 5 4) (hQ : ∀ x : Int, (x = 1 ∧ 0 ≤ a ∧ a < h.2 r 3) ∨ (x = 0 ∧ ¬ (0 ≤ a ∧ a < h.2 r 3)) → Q x h) : zSi g D mX5_has [xr r, xi a] h Q :=
  eX5_has (zX5_has_0 ⟨fun z => zX5_has_16 ⟨Or.inl rfl, hQ 0 (Or.inr ⟨rfl, by omega⟩)⟩, fun z => ⟨hr, fun y => zX5_has_16 ⟨Or.inl rfl, hQ 0 (Or.inr ⟨rfl, by omega⟩)⟩, fun y => ⟨Or.inr rfl, hQ 1 (Or.inl ⟨rfl, z, y⟩)⟩⟩⟩)
theorem s_isFull {Q : Int → xH → Prop} (hr : x_is h r 5 4) (hQ : ∀ x : Int, (x = 1 ∧ h.2 r 0 ≤ h.2 r 3) ∨ (x = 0 ∧ h.2 r 3 < h.2 r 0) → Q x h) : zSi g D mX5_isFull [xr r] h Q :=
  eX5_isFull (zX5_isFull_0 ⟨hr, hr, fun z => zX5_isFull_15 ⟨Or.inl rfl, hQ 0 (Or.inr ⟨rfl, z⟩)⟩, fun z => ⟨Or.inr rfl, hQ 1 (Or.inl ⟨rfl, z⟩)⟩⟩)
theorem s_get {Q : Int → xH → Prop} (R : pR h r q mo wi) (a0 : 0 ≤ a) (a1 : a < mo) (b0 : 0 ≤ b) (b1 : b < wi) (hQ : Q (h.2 q (a * wi + b).toNat) h) : zSi g D mX5_get [xr r, xi a, xi b] h Q := by
  obtain ⟨r1, r2, r3, r4, r5, r6⟩ := R
  obtain ⟨p1, p2, p3⟩ := p_place a0 a1 b0 b1
  have p4 : ((mo * wi : Nat) : Int) = (mo : Int) * (wi : Int) := by simp
  have e1 : x32 (a * h.2 r 1) = a * wi := by rw [r4]; exact x32_of (by omega) (by omega)
  have e2 : x32 (x32 (a * h.2 r 1) + b) = a * wi + b := by rw [e1]; exact x32_of (by omega) (by omega)
  have e3 : (h.2 r 2).toNat = q := by rw [r5]; simp
  refine eX5_get (zX5_get_0 ⟨fun z => ?_, fun z => ⟨r1, fun y => ?_, fun y => ⟨fun x => ?_, fun x => ⟨r1, fun w => zX5_get_26 ?_, fun w => ?_⟩⟩⟩⟩)
  · omega
  · omega
  · omega
  · rw [e2, e3]
    exact ⟨r1, r1, mo * wi, r2, fun u => by omega, fun u => ⟨r1, ⟨_, r2, p2, by omega⟩, hQ⟩⟩
  · omega
theorem s_get_out {Q : Int → xH → Prop} (R : pR h r q mo wi) (ho : ¬ (0 ≤ a ∧ a < mo ∧ 0 ≤ b ∧ b < wi)) (hQ : Q 0 h) : zSi g D mX5_get [xr r, xi a, xi b] h Q := by
  obtain ⟨r1, r2, r3, r4, r5, r6⟩ := R
  exact eX5_get (zX5_get_0 ⟨fun z => zX5_get_24 hQ, fun z => ⟨r1, fun y => zX5_get_24 hQ, fun y => ⟨fun x => zX5_get_24 hQ, fun x => ⟨r1, fun w => by omega, fun w => hQ⟩⟩⟩⟩)
theorem s_set {Q : xH → Prop} (R : pR h r q mo wi) (a0 : 0 ≤ a) (a1 : a < mo) (b0 : 0 ≤ b) (b1 : b < wi) (hQ : ∀ h1 : xH, zSh h1 → h1 = (h.1, x_up h.2 q (a * wi + b).toNat v) → Q h1) : zSv g D mX5_set [xr r, xi a, xi b, xi v] h Q := by
  obtain ⟨r1, r2, r3, r4, r5, r6⟩ := R
  obtain ⟨p1, p2, p3⟩ := p_place a0 a1 b0 b1
  have p4 : ((mo * wi : Nat) : Int) = (mo : Int) * (wi : Int) := by simp
  have e1 : x32 (a * h.2 r 1) = a * wi := by rw [r4]; exact x32_of (by omega) (by omega)
  have e2 : x32 (x32 (a * h.2 r 1) + b) = a * wi + b := by rw [e1]; exact x32_of (by omega) (by omega)
  have e3 : (h.2 r 2).toNat = q := by rw [r5]; simp
  refine zS_sh (fun hs => ?_)
  refine eX5_set (zX5_set_0 ⟨fun z => ?_, fun z => ⟨r1, fun y => ?_, fun y => ⟨fun x => ?_, fun x => ⟨r1, fun w => zX5_set_25 ?_, fun w => ?_⟩⟩⟩⟩)
  · omega
  · omega
  · omega
  · rw [e2, e3]
    exact ⟨r1, r1, mo * wi, r2, fun u => by omega, fun u => ⟨r1, ⟨_, r2, p2, by omega⟩, hQ _ (z_up hs r2 (Or.inl (by decide))) rfl⟩⟩
  · omega
theorem s_set_out {Q : xH → Prop} (R : pR h r q mo wi) (ho : ¬ (0 ≤ a ∧ a < mo ∧ 0 ≤ b ∧ b < wi)) (hQ : Q h) : zSv g D mX5_set [xr r, xi a, xi b, xi v] h Q := by
  obtain ⟨r1, r2, r3, r4, r5, r6⟩ := R
  exact eX5_set (zX5_set_0 ⟨fun z => zX5_set_24 hQ, fun z => ⟨r1, fun y => zX5_set_24 hQ, fun y => ⟨fun x => zX5_set_24 hQ, fun x => ⟨r1, fun w => by omega, fun w => hQ⟩⟩⟩⟩)
/-- a new row: its first three numbers, the others 0 -/
def p_row (f s t : Int) (k : Nat) : Int := if k = 0 then f else if k = 1 then s else if k = 2 then t else 0
def p_add (C : Nat → Nat → Int) (r q wi n : Nat) (f s t : Int) : Nat → Nat → Int := fun r' j => if r' = r ∧ j = 3 then ((n : Int) + 1) else if r' = q ∧ n * wi ≤ j ∧ j < n * wi + wi then p_row f s t (j - n * wi) else C r' j
theorem pR_up {C : Nat → Nat → Int} {r' j : Nat} (R : pR h r q mo wi) (hC : ∀ j, j < 3 → C r j = h.2 r j) : pR (h.1, C) r q mo wi := by
  obtain ⟨r1, r2, r3, r4, r5, r6⟩ := R
  exact ⟨r1, r2, by show C r 0 = _; rw [hC 0 (by decide)]; exact r3, by show C r 1 = _; rw [hC 1 (by decide)]; exact r4, by show C r 2 = _; rw [hC 2 (by decide)]; exact r5, r6⟩
/-- the columns from the third on are 0 as far as c -/
def p_zer (C : Nat → Nat → Int) (r q wi n c : Nat) : Nat → Nat → Int := fun r' j => if r' = r ∧ j = 3 then ((n : Int) + 1) else if r' = q ∧ n * wi + 3 ≤ j ∧ j < n * wi + c then 0 else C r' j
def p_st (C : Nat → Nat → Int) (q n wi col : Nat) (val : Int) : Nat → Nat → Int := if col < wi then x_up C q (n * wi + col) val else C
theorem p_st_at {C : Nat → Nat → Int} {q n wi col r' j : Nat} {val : Int} : p_st C q n wi col val r' j = if r' = q ∧ j = n * wi + col ∧ col < wi then val else C r' j := by
  unfold p_st
  by_cases h1 : col < wi
  · rw [if_pos h1]
    unfold x_up
    by_cases h2 : r' = q
    · by_cases h3 : j = n * wi + col
      · rw [if_pos h2, if_pos h3, if_pos ⟨h2, h3, h1⟩]
      · rw [if_pos h2, if_neg h3, if_neg (fun z => h3 z.2.1)]
    · rw [if_neg h2, if_neg (fun z => h2 z.1)]
  · rw [if_neg h1, if_neg (fun z => h1 z.2.2)]
theorem s_add_full {Q : Int → xH → Prop} {f s t : Int} (R : pR h r q mo wi) (hf : (mo : Int) ≤ h.2 r 3) (hQ : Q (-1) h) : zSi g (D + 1) mX5_add [xr r, xi f, xi s, xi t] h Q := by
  refine eX5_add (zX5_add_0 ⟨R.1, s_isFull R.1 (fun x hx => ⟨fun z => ?_, fun z => hQ⟩)⟩)
  have := R.2.2.1
  omega
theorem s_add {Q : Int → xH → Prop} {f s t : Int} {n : Nat} (R : pR h r q mo wi) (hn : h.2 r 3 = (n : Int)) (hlt : n < mo) (hrq : r ≠ q) (hw : 1 ≤ wi) (hQ : ∀ h1 : xH, zSh h1 → h1.1 = h.1 → h1.2 = p_add h.2 r q wi n f s t → Q n h1) : zSi g (D + 1) mX5_add [xr r, xi f, xi s, xi t] h Q := by
  have hmo : mo ≤ 100000 := by
    have h1 := R.2.2.2.2.2
    have h2 : mo * 1 ≤ mo * wi := Nat.mul_le_mul_left mo hw
    omega
  have hwi : wi ≤ 100000 := by
    have h1 := R.2.2.2.2.2
    have h2 : 1 * wi ≤ mo * wi := Nat.mul_le_mul_right wi (by omega)
    omega
  refine eX5_add (zX5_add_0 ⟨R.1, s_isFull R.1 (fun x hx => ⟨fun z => zX5_add_9 ⟨R.1, R.1, R.1, ?_⟩, fun z => ?_⟩)⟩)
  · have e0 : x32 (h.2 r 3 + 1) = (n : Int) + 1 := by rw [hn]; exact x32_of (by omega) (by omega)
    rw [e0, hn]
    -- the loop
    have loop : ∀ (m c : Nat) (h2 : xH), c + m = wi + 4 → 3 ≤ c → c ≤ max wi 3 → h2 = (h.1, p_zer h.2 r q wi n c) → zJ g (D + 1) 56 0 0 28 [xr r, xi f, xi s, xi t, xi (n : Int), xi (c : Int)] [] h2 (x_qi Q) := by
      intro m
      induction m with
      | zero => intro c h2 hm hc hc2 _; omega
      | succ m ih =>
        intro c h2 hm hc hc2 e2
        have R2 : pR h2 r q mo wi := by
          rw [e2]
          refine pR_up (r' := 0) (j := 0) R (fun j hj => ?_)
          show p_zer h.2 r q wi n c r j = h.2 r j
          unfold p_zer
          rw [if_neg (by omega), if_neg (fun z => hrq z.1)]
        refine zX5_add_28 ⟨R2.1, fun z => ?_, fun z => ?_⟩
        · -- behind the loop
          have hcw : c = max wi 3 := by have := R2.2.2.2.1; omega
          have fin : ∀ h3 : xH, zSh h3 → h3.1 = h.1 → h3.2 = p_add h.2 r q wi n f s t → Q n h3 := hQ
          have hset : ∀ (col : Nat) (val : Int) (h3 : xH) (C3 : Nat → Nat → Int), h3 = (h.1, C3) → (∀ j, j < 3 → C3 r j = h.2 r j) → ∀ Q2 : xH → Prop, (∀ h4 : xH, zSh h4 → h4 = (h.1, p_st C3 q n wi col val) → Q2 h4) → zSv g D mX5_set [xr r, xi (n : Int), xi (col : Int), xi val] h3 Q2 := by
            intro col val h3 C3 e3 hC Q2 hq
            have R3 : pR h3 r q mo wi := by rw [e3]; exact pR_up (r' := 0) (j := 0) R hC
            by_cases hcol : col < wi
            · refine s_set R3 (by omega) (by omega) (by omega) (by omega) (fun h4 hs4 e4 => hq h4 hs4 ?_)
              rw [e4, e3, p_nat]
              unfold p_st
              rw [if_pos hcol]
            · refine zS_sh (fun hs3 => ?_)
              refine s_set_out R3 (by omega) (hq h3 hs3 ?_)
              rw [e3]
              unfold p_st
              rw [if_neg hcol]
          have hr3 : ∀ (C3 : Nat → Nat → Int) (col : Nat) (val : Int), (∀ j, j < 3 → C3 r j = h.2 r j) → ∀ j, j < 3 → p_st C3 q n wi col val r j = h.2 r j := by
            intro C3 col val hC j hj
            rw [p_st_at, if_neg (fun z => hrq z.1)]
            exact hC j hj
          have hz : ∀ j, j < 3 → p_zer h.2 r q wi n c r j = h.2 r j := by
            intro j hj
            unfold p_zer
            rw [if_neg (by omega), if_neg (fun z => hrq z.1)]
          refine zX5_add_52 ⟨R2.1, hset 0 f h2 _ e2 hz _ (fun h3 hs3 e3 => ⟨?_, hset 1 s h3 _ e3 (hr3 _ _ _ hz) _ (fun h4 hs4 e4 => ⟨?_, hset 2 t h4 _ e4 (hr3 _ _ _ (hr3 _ _ _ hz)) _ (fun h5 hs5 e5 => fin h5 hs5 (by rw [e5]) ?_)⟩)⟩)⟩
          · rw [e3]; exact R.1
          · rw [e4]; exact R.1
          · rw [e5]
            funext r' j
            show p_st (p_st (p_st (p_zer h.2 r q wi n c) q n wi 0 f) q n wi 1 s) q n wi 2 t r' j = p_add h.2 r q wi n f s t r' j
            rw [p_st_at, p_st_at, p_st_at]
            unfold p_add p_zer p_row
            by_cases hrr : r' = q
            · subst hrr
              by_cases hin : n * wi ≤ j ∧ j < n * wi + wi
              · obtain ⟨k, rfl⟩ : ∃ k, j = n * wi + k := ⟨j - n * wi, by omega⟩
                have ek : n * wi + k - n * wi = k := by omega
                rw [ek, if_neg (fun z : r' = r ∧ _ => hrq z.1.symm), if_neg (fun z : r' = r ∧ _ => hrq z.1.symm), if_pos (⟨rfl, hin⟩ : r' = r' ∧ n * wi ≤ n * wi + k ∧ n * wi + k < n * wi + wi)]
                by_cases k2 : k = 2
                · rw [if_pos (⟨rfl, by omega, by omega⟩ : r' = r' ∧ n * wi + k = n * wi + 2 ∧ 2 < wi), if_neg (by omega), if_neg (by omega), if_pos k2]
                · rw [if_neg (by omega)]
                  by_cases k1 : k = 1
                  · rw [if_pos (⟨rfl, by omega, by omega⟩ : r' = r' ∧ n * wi + k = n * wi + 1 ∧ 1 < wi), if_neg (by omega), if_pos k1]
                  · rw [if_neg (by omega)]
                    by_cases k0 : k = 0
                    · rw [if_pos (⟨rfl, by omega, by omega⟩ : r' = r' ∧ n * wi + k = n * wi + 0 ∧ 0 < wi), if_pos k0]
                    · rw [if_neg (by omega), if_pos (⟨rfl, by omega, by omega⟩ : r' = r' ∧ n * wi + 3 ≤ n * wi + k ∧ n * wi + k < n * wi + c), if_neg k0, if_neg k1, if_neg k2]
              · rw [if_neg (by omega), if_neg (by omega), if_neg (by omega), if_neg (fun z : r' = r ∧ _ => hrq z.1.symm), if_neg (by omega), if_neg (fun z : r' = r ∧ _ => hrq z.1.symm), if_neg (fun z => hin z.2)]
            · rw [if_neg (fun z : r' = q ∧ _ => hrr z.1), if_neg (fun z : r' = q ∧ _ => hrr z.1), if_neg (fun z : r' = q ∧ _ => hrr z.1)]
              split
              · rfl
              · rw [if_neg (fun z : r' = q ∧ _ => hrr z.1), if_neg (fun z : r' = q ∧ _ => hrr z.1)]
        · have hcw : c < wi := by have := R2.2.2.2.1; omega
          refine ⟨R2.1, s_set R2 (by omega) (by omega) (by omega) (by omega) (fun h3 hs3 e3 => ?_)⟩
          have e5 : x32 ((c : Int) + 1) = ((c + 1 : Nat) : Int) := by rw [x32_of (by omega) (by omega)]; simp
          rw [e5]
          clear e5 hQ z hx
          refine ih (c + 1) h3 (by omega) (by omega) (by omega) ?_
          rw [e3, e2, p_nat]
          refine congrArg (fun C => (h.1, C)) ?_
          funext r' j
          show x_up (p_zer h.2 r q wi n c) q (n * wi + c) 0 r' j = p_zer h.2 r q wi n (c + 1) r' j
          unfold x_up p_zer
          by_cases h1 : r' = q
          · subst h1
            by_cases h2 : j = n * wi + c
            · subst h2
              rw [if_pos rfl, if_pos rfl, if_neg (fun z : r' = r ∧ _ => hrq z.1.symm), if_pos ⟨rfl, by omega, by omega⟩]
            · rw [if_pos rfl, if_neg h2, if_neg (fun z : r' = r ∧ _ => hrq z.1.symm), if_neg (fun z : r' = r ∧ _ => hrq z.1.symm)]
              by_cases h3 : n * wi + 3 ≤ j ∧ j < n * wi + c
              · rw [if_pos ⟨rfl, h3⟩, if_pos ⟨rfl, h3.1, by omega⟩]
              · rw [if_neg (fun z => h3 z.2), if_neg (fun z => h3 ⟨z.2.1, by omega⟩)]
          · rw [if_neg h1, if_neg (fun z : r' = q ∧ _ => h1 z.1), if_neg (fun z : r' = q ∧ _ => h1 z.1)]
    refine loop (wi + 1) 3 _ (by omega) (by omega) (by omega) ?_
    refine congrArg (fun C => (h.1, C)) ?_
    funext r' j
    show x_up h.2 r 3 ((n : Int) + 1) r' j = p_zer h.2 r q wi n 3 r' j
    unfold x_up p_zer
    by_cases h1 : r' = r
    · by_cases h2 : j = 3
      · rw [if_pos h1, if_pos h2, if_pos ⟨h1, h2⟩]
      · rw [if_pos h1, if_neg h2, if_neg (fun z => h2 z.2), if_neg (by omega)]
    · rw [if_neg h1, if_neg (fun z => h1 z.1), if_neg (by omega)]
  · have := R.2.2.1
    omega
end PR
