/-! THE CONSTRUCTORS: heaps that are known outright: the first j cells of zK, a list of what was written (the last first) -/
def kwF : List (Nat × Nat × Int) → Nat → Nat → Int
  | [] => fun r j => if r < 16 then (((z_pt 16 j).getD 0 : Nat) : Int) else 0
  | q :: T => x_up (kwF T) q.1 q.2.1 q.2.2
def kwN (r : Nat) (T : List (Nat × Nat × Int)) : Bool := decide (16 ≤ r) && T.all (fun q => q.1 != r)
theorem kwF_0 {r j : Nat} (h16 : 16 ≤ r) : ∀ {T : List (Nat × Nat × Int)}, T.all (fun q => q.1 != r) = true → kwF T r j = 0
  | [], _ => if_neg (by omega)
  | q :: T, h => by
    rw [List.all_cons, Bool.and_eq_true] at h
    show x_up (kwF T) q.1 q.2.1 q.2.2 r j = 0
    rw [x_up_r (fun e => by rw [e] at h; simp at h)]
    exact kwF_0 h16 h.2
theorem kwN_0 {r j : Nat} {T : List (Nat × Nat × Int)} (h : kwN r T = true) : kwF T r j = 0 := by
  unfold kwN at h
  rw [Bool.and_eq_true, decide_eq_true_eq] at h
  exact kwF_0 h.1 h.2
theorem kwF_nw {T : List (Nat × Nat × Int)} {r : Nat} (h : kwN r T = true) : x_nw (kwF T) r = kwF T := by
  funext q j
  unfold x_nw
  by_cases e : q = r
  · rw [if_pos e, e, kwN_0 h]
  · rw [if_neg e]
/-- below the law's own cells nothing changes -/
theorem kwF_lo {r j : Nat} (h16 : r < 16) : ∀ {T : List (Nat × Nat × Int)}, T.all (fun q => decide (16 ≤ q.1)) = true → kwF T r j = (((z_pt 16 j).getD 0 : Nat) : Int)
  | [], _ => if_pos h16
  | q :: T, h => by
    rw [List.all_cons, Bool.and_eq_true, decide_eq_true_eq] at h
    show x_up (kwF T) q.1 q.2.1 q.2.2 r j = _
    rw [x_up_r (by omega)]
    exact kwF_lo h16 h.2
/-- what is known of one cell -/
def kwG : List (Nat × Int) → Nat → Int
  | [], _ => 0
  | q :: L, j => if j = q.1 then q.2 else kwG L j
theorem kwF_at {r j : Nat} (h16 : 16 ≤ r) : ∀ (T : List (Nat × Nat × Int)), kwF T r j = kwG ((T.filter fun q => q.1 == r).map fun q => q.2) j
  | [] => if_neg (by omega)
  | q :: T => by
    show x_up (kwF T) q.1 q.2.1 q.2.2 r j = _
    by_cases e : r = q.1
    · rw [List.filter_cons_of_pos (by rw [e]; simp), List.map_cons]
      show x_up (kwF T) q.1 q.2.1 q.2.2 r j = if j = q.2.1 then q.2.2 else _
      unfold x_up
      rw [if_pos e]
      by_cases e2 : j = q.2.1
      · rw [if_pos e2, if_pos e2]
      · rw [if_neg e2, if_neg e2]; exact kwF_at h16 T
    · rw [List.filter_cons_of_neg (by simp; exact fun z => e z.symm), x_up_r e]
      exact kwF_at h16 T
theorem C_up {C : Nat → Nat → Int} {T : List (Nat × Nat × Int)} {r j r' j' : Nat} {v v' : Int} (h : C = kwF T) (hr : r = r') (hj : j = j') (hv : v = v') : x_up C r j v = kwF ((r', j', v') :: T) := by
  subst hr; subst hj; subst hv; rw [h]; rfl
theorem C_nw {C : Nat → Nat → Int} {T : List (Nat × Nat × Int)} {r : Nat} (h : C = kwF T) (hT : kwN r T = true) : x_nw C r = kwF T := by rw [h, kwF_nw hT]
section CT
variable {g : xG} {D M k n pc : Nat} {K : List (Nat × Nat)} {C : Nat → Nat → Int} {T : List (Nat × Nat × Int)}
def zK1 : List (Nat × Nat) := [(8, 7), (2, 19), (5, 4), (10, 6), (5, 4), (10, 90), (5, 4), (10, 170), (5, 4), (10, 50), (5, 4), (10, 1400), (5, 4), (10, 90), (5, 4), (10, 400), (5, 4), (10, 400), (5, 4), (10, 320), (5, 4), (10, 480), (5, 4), (10, 120), (5, 4), (10, 830), (13, 10), (6, 6), (10, 300), (10, 301), (10, 301), (10, 301), (2, 19), (5, 4), (10, 6), (5, 4), (10, 90), (5, 4), (10, 170), (5, 4), (10, 50), (5, 4), (10, 1400), (5, 4), (10, 90), (5, 4), (10, 400), (5, 4), (10, 400), (5, 4), (10, 320), (5, 4), (10, 480), (5, 4), (10, 120), (5, 4), (10, 830), (13, 10), (4, 5), (0, 4), (5, 4), (10, 80), (10, 0), (1, 5), (10, 16), (11, 64), (3, 10), (5, 4), (10, 330), (5, 4), (10, 440), (5, 4), (10, 80), (5, 4), (10, 31), (5, 4), (10, 30), (5, 4), (10, 30), (5, 4), (10, 30), (7, 2), (10, 40)]
def z1_kd (r : Nat) : Option (Nat × Nat) := if r < 16 then none else zK1[r - 16]?
theorem J_eq {ls st : List xV} {Q : xV → xH → Prop} (j : Nat) (hK : zK.take j = K) (hC : C = kwF T) (kk : xJ g D M k n pc ls st (zK.take j, kwF T) Q) : xJ g D M k n pc ls st (K, C) Q := by subst hK; rw [hC]; exact kk
theorem S_eq {args : List xV} {Q : xH → Prop} (j : Nat) (hK : zK.take j = K) (hC : C = kwF T) (kk : xSv g D M args (zK.take j, kwF T) Q) : xSv g D M args (K, C) Q := by subst hK; rw [hC]; exact kk
theorem Q_eq {Q : xH → Prop} (j : Nat) (hK : zK.take j = K) (hC : C = kwF T) (kk : Q (zK.take j, kwF T)) : Q (K, C) := by subst hK; rw [hC]; exact kk
theorem zKl (i : Nat) (h : i ≤ 95) : (zK.take i).length = i := by
  rw [List.length_take]
  exact Nat.min_eq_left h
theorem cis {r c N m : Nat} (h : z_kd r = some (c, N)) (hn : r - 16 < m) : x_is (zK.take m, C) r c N := by
  unfold z_kd at h
  split at h
  · cases h
  · refine ⟨by omega, ?_⟩
    show (zK.take m)[r - 16]? = _
    rw [List.getElem?_take, if_pos hn]
    exact h
theorem J1_eq {ls st : List xV} {Q : xV → xH → Prop} (j : Nat) (hK : zK1.take j = K) (hC : C = kwF T) (kk : xJ g D M k n pc ls st (zK1.take j, kwF T) Q) : xJ g D M k n pc ls st (K, C) Q := by subst hK; rw [hC]; exact kk
theorem S1_eq {args : List xV} {Q : xH → Prop} (j : Nat) (hK : zK1.take j = K) (hC : C = kwF T) (kk : xSv g D M args (zK1.take j, kwF T) Q) : xSv g D M args (K, C) Q := by subst hK; rw [hC]; exact kk
theorem Q1_eq {Q : xH → Prop} (j : Nat) (hK : zK1.take j = K) (hC : C = kwF T) (kk : Q (zK1.take j, kwF T)) : Q (K, C) := by subst hK; rw [hC]; exact kk
theorem zKl1 (i : Nat) (h : i ≤ 83) : (zK1.take i).length = i := by
  rw [List.length_take]
  exact Nat.min_eq_left h
theorem cis1 {r c N m : Nat} (h : z1_kd r = some (c, N)) (hn : r - 16 < m) : x_is (zK1.take m, C) r c N := by
  unfold z1_kd at h
  split at h
  · cases h
  · refine ⟨by omega, ?_⟩
    show (zK1.take m)[r - 16]? = _
    rw [List.getElem?_take, if_pos hn]
    exact h
theorem c_rows {i j r : Nat} {a b q : Int} {Q : xH → Prop} (c : Nat) (hr : i + 16 = r) (hq : ((i + 1 + 16 : Nat) : Int) = q) (hj : i + 2 = j) (h0 : zK1[i]? = some (5, 4)) (h1 : zK1[i + 1]? = some (10, c)) (hc : max 0 (x32 (a * b)) = (c : Int)) (hb : c ≤ 1400) (hi : i + 1 ≤ 83) (hT : kwN (i + 1 + 16) T = true) (hQ : Q (zK1.take j, kwF ((r, 2, q) :: (r, 1, b) :: (r, 0, a) :: T))) : xSv g (D + 1) mX5_init [xr r, xi a, xi b] (zK1.take (i + 1), kwF T) Q := by
  subst hr; subst hq; subst hj
  refine x_entry (x_mc_ok (by decide +kernel)) (Nat.le_of_ble_eq_true rfl) ?_
  have kd : z1_kd (i + 16) = some (5, 4) := by
    unfold z1_kd
    rw [if_neg (by omega), show i + 16 - 16 = i by omega]
    exact h0
  have ra : ∀ C : Nat → Nat → Int, x_is (zK1.take (i + 1), C) (i + 16) 5 4 := fun C => cis1 kd (by omega)
  refine vX5_init_0 ⟨⟨5, 4, ra _⟩, ra _, ra _, ?_⟩
  rw [hc, show ((c : Int)).toNat = c by omega]
  dsimp only
  rw [zKl1 (i + 1) hi]
  have ek : zK1.take (i + 2) = zK1.take (i + 1) ++ [(10, c)] := by rw [List.take_add_one, h1]; rfl
  have hT2 : kwN (i + 1 + 16) ((i + 16, 1, b) :: (i + 16, 0, a) :: T) = true := by
    unfold kwN at hT ⊢
    rw [Bool.and_eq_true] at hT ⊢
    refine ⟨hT.1, ?_⟩
    rw [List.all_cons, List.all_cons, hT.2, Bool.and_true, Bool.and_eq_true]
    exact ⟨by simp, by simp⟩
  refine ⟨⟨by omega, by omega, by decide, ?_⟩, x_is_app (h := (zK1.take (i + 1), kwF T)) (ra _), Q1_eq (i + 2) ek (C_up (C_nw (C_up (C_up rfl rfl rfl rfl) rfl rfl rfl) hT2) rfl rfl rfl) hQ⟩
  show 0 + c ≤ x_bs 53
  have e1 : x_bs 53 = 1400 := by decide +kernel
  omega
def kwTa : List (Nat × Nat × Int) := [(17, 15, 1), (17, 12, 42), (17, 11, 40), (40, 2, 41), (40, 1, 83), (40, 0, 10), (17, 10, 38), (38, 2, 39), (38, 1, 3), (38, 0, 40), (17, 9, 36), (36, 2, 37), (36, 1, 6), (36, 0, 80), (17, 8, 34), (34, 2, 35), (34, 1, 4), (34, 0, 80), (17, 7, 32), (32, 2, 33), (32, 1, 2), (32, 0, 200), (17, 6, 30), (30, 2, 31), (30, 1, 5), (30, 0, 80), (17, 5, 28), (28, 2, 29), (28, 1, 3), (28, 0, 30), (17, 4, 26), (26, 2, 27), (26, 1, 7), (26, 0, 200), (17, 3, 24), (24, 2, 25), (24, 1, 1), (24, 0, 50), (17, 2, 22), (22, 2, 23), (22, 1, 17), (22, 0, 10), (17, 1, 20), (20, 2, 21), (20, 1, 3), (20, 0, 30), (17, 0, 18), (18, 2, 19), (18, 1, 1), (18, 0, 6)]
def kwTb : List (Nat × Nat × Int) := [(43, 3, 47), (43, 2, 46), (43, 1, 45), (43, 0, 44), (17, 15, 1), (17, 12, 42), (17, 11, 40), (40, 2, 41), (40, 1, 83), (40, 0, 10), (17, 10, 38), (38, 2, 39), (38, 1, 3), (38, 0, 40), (17, 9, 36), (36, 2, 37), (36, 1, 6), (36, 0, 80), (17, 8, 34), (34, 2, 35), (34, 1, 4), (34, 0, 80), (17, 7, 32), (32, 2, 33), (32, 1, 2), (32, 0, 200), (17, 6, 30), (30, 2, 31), (30, 1, 5), (30, 0, 80), (17, 5, 28), (28, 2, 29), (28, 1, 3), (28, 0, 30), (17, 4, 26), (26, 2, 27), (26, 1, 7), (26, 0, 200), (17, 3, 24), (24, 2, 25), (24, 1, 1), (24, 0, 50), (17, 2, 22), (22, 2, 23), (22, 1, 17), (22, 0, 10), (17, 1, 20), (20, 2, 21), (20, 1, 3), (20, 0, 30), (17, 0, 18), (18, 2, 19), (18, 1, 1), (18, 0, 6)]
def kwTc : List (Nat × Nat × Int) := [(48, 15, 1), (48, 12, 73), (48, 11, 71), (71, 2, 72), (71, 1, 83), (71, 0, 10), (48, 10, 69), (69, 2, 70), (69, 1, 3), (69, 0, 40), (48, 9, 67), (67, 2, 68), (67, 1, 6), (67, 0, 80), (48, 8, 65), (65, 2, 66), (65, 1, 4), (65, 0, 80), (48, 7, 63), (63, 2, 64), (63, 1, 2), (63, 0, 200), (48, 6, 61), (61, 2, 62), (61, 1, 5), (61, 0, 80), (48, 5, 59), (59, 2, 60), (59, 1, 3), (59, 0, 30), (48, 4, 57), (57, 2, 58), (57, 1, 7), (57, 0, 200), (48, 3, 55), (55, 2, 56), (55, 1, 1), (55, 0, 50), (48, 2, 53), (53, 2, 54), (53, 1, 17), (53, 0, 10), (48, 1, 51), (51, 2, 52), (51, 1, 3), (51, 0, 30), (48, 0, 49), (49, 2, 50), (49, 1, 1), (49, 0, 6), (16, 0, 17), (43, 3, 47), (43, 2, 46), (43, 1, 45), (43, 0, 44), (17, 15, 1), (17, 12, 42), (17, 11, 40), (40, 2, 41), (40, 1, 83), (40, 0, 10), (17, 10, 38), (38, 2, 39), (38, 1, 3), (38, 0, 40), (17, 9, 36), (36, 2, 37), (36, 1, 6), (36, 0, 80), (17, 8, 34), (34, 2, 35), (34, 1, 4), (34, 0, 80), (17, 7, 32), (32, 2, 33), (32, 1, 2), (32, 0, 200), (17, 6, 30), (30, 2, 31), (30, 1, 5), (30, 0, 80), (17, 5, 28), (28, 2, 29), (28, 1, 3), (28, 0, 30), (17, 4, 26), (26, 2, 27), (26, 1, 7), (26, 0, 200), (17, 3, 24), (24, 2, 25), (24, 1, 1), (24, 0, 50), (17, 2, 22), (22, 2, 23), (22, 1, 17), (22, 0, 10), (17, 1, 20), (20, 2, 21), (20, 1, 3), (20, 0, 30), (17, 0, 18), (18, 2, 19), (18, 1, 1), (18, 0, 6)]
def kwTx : List (Nat × Nat × Int) := [(75, 1, 78), (75, 0, 76), (76, 2, 77), (76, 1, 4), (76, 0, 20), (16, 2, 43), (16, 1, 48), (48, 15, 1), (48, 12, 73), (48, 11, 71), (71, 2, 72), (71, 1, 83), (71, 0, 10), (48, 10, 69), (69, 2, 70), (69, 1, 3), (69, 0, 40), (48, 9, 67), (67, 2, 68), (67, 1, 6), (67, 0, 80), (48, 8, 65), (65, 2, 66), (65, 1, 4), (65, 0, 80), (48, 7, 63), (63, 2, 64), (63, 1, 2), (63, 0, 200), (48, 6, 61), (61, 2, 62), (61, 1, 5), (61, 0, 80), (48, 5, 59), (59, 2, 60), (59, 1, 3), (59, 0, 30), (48, 4, 57), (57, 2, 58), (57, 1, 7), (57, 0, 200), (48, 3, 55), (55, 2, 56), (55, 1, 1), (55, 0, 50), (48, 2, 53), (53, 2, 54), (53, 1, 17), (53, 0, 10), (48, 1, 51), (51, 2, 52), (51, 1, 3), (51, 0, 30), (48, 0, 49), (49, 2, 50), (49, 1, 1), (49, 0, 6), (16, 0, 17), (43, 3, 47), (43, 2, 46), (43, 1, 45), (43, 0, 44), (17, 15, 1), (17, 12, 42), (17, 11, 40), (40, 2, 41), (40, 1, 83), (40, 0, 10), (17, 10, 38), (38, 2, 39), (38, 1, 3), (38, 0, 40), (17, 9, 36), (36, 2, 37), (36, 1, 6), (36, 0, 80), (17, 8, 34), (34, 2, 35), (34, 1, 4), (34, 0, 80), (17, 7, 32), (32, 2, 33), (32, 1, 2), (32, 0, 200), (17, 6, 30), (30, 2, 31), (30, 1, 5), (30, 0, 80), (17, 5, 28), (28, 2, 29), (28, 1, 3), (28, 0, 30), (17, 4, 26), (26, 2, 27), (26, 1, 7), (26, 0, 200), (17, 3, 24), (24, 2, 25), (24, 1, 1), (24, 0, 50), (17, 2, 22), (22, 2, 23), (22, 1, 17), (22, 0, 10), (17, 1, 20), (20, 2, 21), (20, 1, 3), (20, 0, 30), (17, 0, 18), (18, 2, 19), (18, 1, 1), (18, 0, 6)]
def kwTd : List (Nat × Nat × Int) := [(74, 0, 43), (74, 4, -1), (74, 3, -1), (74, 2, 75), (75, 1, 78), (75, 0, 76), (76, 2, 77), (76, 1, 4), (76, 0, 20), (16, 2, 43), (16, 1, 48), (48, 15, 1), (48, 12, 73), (48, 11, 71), (71, 2, 72), (71, 1, 83), (71, 0, 10), (48, 10, 69), (69, 2, 70), (69, 1, 3), (69, 0, 40), (48, 9, 67), (67, 2, 68), (67, 1, 6), (67, 0, 80), (48, 8, 65), (65, 2, 66), (65, 1, 4), (65, 0, 80), (48, 7, 63), (63, 2, 64), (63, 1, 2), (63, 0, 200), (48, 6, 61), (61, 2, 62), (61, 1, 5), (61, 0, 80), (48, 5, 59), (59, 2, 60), (59, 1, 3), (59, 0, 30), (48, 4, 57), (57, 2, 58), (57, 1, 7), (57, 0, 200), (48, 3, 55), (55, 2, 56), (55, 1, 1), (55, 0, 50), (48, 2, 53), (53, 2, 54), (53, 1, 17), (53, 0, 10), (48, 1, 51), (51, 2, 52), (51, 1, 3), (51, 0, 30), (48, 0, 49), (49, 2, 50), (49, 1, 1), (49, 0, 6), (16, 0, 17), (43, 3, 47), (43, 2, 46), (43, 1, 45), (43, 0, 44), (17, 15, 1), (17, 12, 42), (17, 11, 40), (40, 2, 41), (40, 1, 83), (40, 0, 10), (17, 10, 38), (38, 2, 39), (38, 1, 3), (38, 0, 40), (17, 9, 36), (36, 2, 37), (36, 1, 6), (36, 0, 80), (17, 8, 34), (34, 2, 35), (34, 1, 4), (34, 0, 80), (17, 7, 32), (32, 2, 33), (32, 1, 2), (32, 0, 200), (17, 6, 30), (30, 2, 31), (30, 1, 5), (30, 0, 80), (17, 5, 28), (28, 2, 29), (28, 1, 3), (28, 0, 30), (17, 4, 26), (26, 2, 27), (26, 1, 7), (26, 0, 200), (17, 3, 24), (24, 2, 25), (24, 1, 1), (24, 0, 50), (17, 2, 22), (22, 2, 23), (22, 1, 17), (22, 0, 10), (17, 1, 20), (20, 2, 21), (20, 1, 3), (20, 0, 30), (17, 0, 18), (18, 2, 19), (18, 1, 1), (18, 0, 6)]
def kwTe : List (Nat × Nat × Int) := [(79, 0, 17), (79, 2, 81), (79, 1, 80), (16, 3, 74), (74, 0, 43), (74, 4, -1), (74, 3, -1), (74, 2, 75), (75, 1, 78), (75, 0, 76), (76, 2, 77), (76, 1, 4), (76, 0, 20), (16, 2, 43), (16, 1, 48), (48, 15, 1), (48, 12, 73), (48, 11, 71), (71, 2, 72), (71, 1, 83), (71, 0, 10), (48, 10, 69), (69, 2, 70), (69, 1, 3), (69, 0, 40), (48, 9, 67), (67, 2, 68), (67, 1, 6), (67, 0, 80), (48, 8, 65), (65, 2, 66), (65, 1, 4), (65, 0, 80), (48, 7, 63), (63, 2, 64), (63, 1, 2), (63, 0, 200), (48, 6, 61), (61, 2, 62), (61, 1, 5), (61, 0, 80), (48, 5, 59), (59, 2, 60), (59, 1, 3), (59, 0, 30), (48, 4, 57), (57, 2, 58), (57, 1, 7), (57, 0, 200), (48, 3, 55), (55, 2, 56), (55, 1, 1), (55, 0, 50), (48, 2, 53), (53, 2, 54), (53, 1, 17), (53, 0, 10), (48, 1, 51), (51, 2, 52), (51, 1, 3), (51, 0, 30), (48, 0, 49), (49, 2, 50), (49, 1, 1), (49, 0, 6), (16, 0, 17), (43, 3, 47), (43, 2, 46), (43, 1, 45), (43, 0, 44), (17, 15, 1), (17, 12, 42), (17, 11, 40), (40, 2, 41), (40, 1, 83), (40, 0, 10), (17, 10, 38), (38, 2, 39), (38, 1, 3), (38, 0, 40), (17, 9, 36), (36, 2, 37), (36, 1, 6), (36, 0, 80), (17, 8, 34), (34, 2, 35), (34, 1, 4), (34, 0, 80), (17, 7, 32), (32, 2, 33), (32, 1, 2), (32, 0, 200), (17, 6, 30), (30, 2, 31), (30, 1, 5), (30, 0, 80), (17, 5, 28), (28, 2, 29), (28, 1, 3), (28, 0, 30), (17, 4, 26), (26, 2, 27), (26, 1, 7), (26, 0, 200), (17, 3, 24), (24, 2, 25), (24, 1, 1), (24, 0, 50), (17, 2, 22), (22, 2, 23), (22, 1, 17), (22, 0, 10), (17, 1, 20), (20, 2, 21), (20, 1, 3), (20, 0, 30), (17, 0, 18), (18, 2, 19), (18, 1, 1), (18, 0, 6)]
def kwTf : List (Nat × Nat × Int) := [(82, 0, 17), (82, 7, 95), (95, 2, 96), (95, 1, 3), (95, 0, 10), (82, 6, 93), (93, 2, 94), (93, 1, 1), (93, 0, 30), (82, 5, 91), (91, 2, 92), (91, 1, 1), (91, 0, 30), (82, 4, 89), (89, 2, 90), (89, 1, 1), (89, 0, 31), (82, 3, 87), (87, 2, 88), (87, 1, 1), (87, 0, 80), (82, 2, 85), (85, 2, 86), (85, 1, 40), (85, 0, 11), (82, 1, 83), (83, 2, 84), (83, 1, 30), (83, 0, 11), (16, 4, 79), (79, 0, 17), (79, 2, 81), (79, 1, 80), (16, 3, 74), (74, 0, 43), (74, 4, -1), (74, 3, -1), (74, 2, 75), (75, 1, 78), (75, 0, 76), (76, 2, 77), (76, 1, 4), (76, 0, 20), (16, 2, 43), (16, 1, 48), (48, 15, 1), (48, 12, 73), (48, 11, 71), (71, 2, 72), (71, 1, 83), (71, 0, 10), (48, 10, 69), (69, 2, 70), (69, 1, 3), (69, 0, 40), (48, 9, 67), (67, 2, 68), (67, 1, 6), (67, 0, 80), (48, 8, 65), (65, 2, 66), (65, 1, 4), (65, 0, 80), (48, 7, 63), (63, 2, 64), (63, 1, 2), (63, 0, 200), (48, 6, 61), (61, 2, 62), (61, 1, 5), (61, 0, 80), (48, 5, 59), (59, 2, 60), (59, 1, 3), (59, 0, 30), (48, 4, 57), (57, 2, 58), (57, 1, 7), (57, 0, 200), (48, 3, 55), (55, 2, 56), (55, 1, 1), (55, 0, 50), (48, 2, 53), (53, 2, 54), (53, 1, 17), (53, 0, 10), (48, 1, 51), (51, 2, 52), (51, 1, 3), (51, 0, 30), (48, 0, 49), (49, 2, 50), (49, 1, 1), (49, 0, 6), (16, 0, 17), (43, 3, 47), (43, 2, 46), (43, 1, 45), (43, 0, 44), (17, 15, 1), (17, 12, 42), (17, 11, 40), (40, 2, 41), (40, 1, 83), (40, 0, 10), (17, 10, 38), (38, 2, 39), (38, 1, 3), (38, 0, 40), (17, 9, 36), (36, 2, 37), (36, 1, 6), (36, 0, 80), (17, 8, 34), (34, 2, 35), (34, 1, 4), (34, 0, 80), (17, 7, 32), (32, 2, 33), (32, 1, 2), (32, 0, 200), (17, 6, 30), (30, 2, 31), (30, 1, 5), (30, 0, 80), (17, 5, 28), (28, 2, 29), (28, 1, 3), (28, 0, 30), (17, 4, 26), (26, 2, 27), (26, 1, 7), (26, 0, 200), (17, 3, 24), (24, 2, 25), (24, 1, 1), (24, 0, 50), (17, 2, 22), (22, 2, 23), (22, 1, 17), (22, 0, 10), (17, 1, 20), (20, 2, 21), (20, 1, 3), (20, 0, 30), (17, 0, 18), (18, 2, 19), (18, 1, 1), (18, 0, 6)]
def kwTg : List (Nat × Nat × Int) := [(97, 0, 98), (16, 5, 82), (82, 0, 17), (82, 7, 95), (95, 2, 96), (95, 1, 3), (95, 0, 10), (82, 6, 93), (93, 2, 94), (93, 1, 1), (93, 0, 30), (82, 5, 91), (91, 2, 92), (91, 1, 1), (91, 0, 30), (82, 4, 89), (89, 2, 90), (89, 1, 1), (89, 0, 31), (82, 3, 87), (87, 2, 88), (87, 1, 1), (87, 0, 80), (82, 2, 85), (85, 2, 86), (85, 1, 40), (85, 0, 11), (82, 1, 83), (83, 2, 84), (83, 1, 30), (83, 0, 11), (16, 4, 79), (79, 0, 17), (79, 2, 81), (79, 1, 80), (16, 3, 74), (74, 0, 43), (74, 4, -1), (74, 3, -1), (74, 2, 75), (75, 1, 78), (75, 0, 76), (76, 2, 77), (76, 1, 4), (76, 0, 20), (16, 2, 43), (16, 1, 48), (48, 15, 1), (48, 12, 73), (48, 11, 71), (71, 2, 72), (71, 1, 83), (71, 0, 10), (48, 10, 69), (69, 2, 70), (69, 1, 3), (69, 0, 40), (48, 9, 67), (67, 2, 68), (67, 1, 6), (67, 0, 80), (48, 8, 65), (65, 2, 66), (65, 1, 4), (65, 0, 80), (48, 7, 63), (63, 2, 64), (63, 1, 2), (63, 0, 200), (48, 6, 61), (61, 2, 62), (61, 1, 5), (61, 0, 80), (48, 5, 59), (59, 2, 60), (59, 1, 3), (59, 0, 30), (48, 4, 57), (57, 2, 58), (57, 1, 7), (57, 0, 200), (48, 3, 55), (55, 2, 56), (55, 1, 1), (55, 0, 50), (48, 2, 53), (53, 2, 54), (53, 1, 17), (53, 0, 10), (48, 1, 51), (51, 2, 52), (51, 1, 3), (51, 0, 30), (48, 0, 49), (49, 2, 50), (49, 1, 1), (49, 0, 6), (16, 0, 17), (43, 3, 47), (43, 2, 46), (43, 1, 45), (43, 0, 44), (17, 15, 1), (17, 12, 42), (17, 11, 40), (40, 2, 41), (40, 1, 83), (40, 0, 10), (17, 10, 38), (38, 2, 39), (38, 1, 3), (38, 0, 40), (17, 9, 36), (36, 2, 37), (36, 1, 6), (36, 0, 80), (17, 8, 34), (34, 2, 35), (34, 1, 4), (34, 0, 80), (17, 7, 32), (32, 2, 33), (32, 1, 2), (32, 0, 200), (17, 6, 30), (30, 2, 31), (30, 1, 5), (30, 0, 80), (17, 5, 28), (28, 2, 29), (28, 1, 3), (28, 0, 30), (17, 4, 26), (26, 2, 27), (26, 1, 7), (26, 0, 200), (17, 3, 24), (24, 2, 25), (24, 1, 1), (24, 0, 50), (17, 2, 22), (22, 2, 23), (22, 1, 17), (22, 0, 10), (17, 1, 20), (20, 2, 21), (20, 1, 3), (20, 0, 30), (17, 0, 18), (18, 2, 19), (18, 1, 1), (18, 0, 6)]
def kwT1 : List (Nat × Nat × Int) := [(16, 6, 97), (97, 0, 98), (16, 5, 82), (82, 0, 17), (82, 7, 95), (95, 2, 96), (95, 1, 3), (95, 0, 10), (82, 6, 93), (93, 2, 94), (93, 1, 1), (93, 0, 30), (82, 5, 91), (91, 2, 92), (91, 1, 1), (91, 0, 30), (82, 4, 89), (89, 2, 90), (89, 1, 1), (89, 0, 31), (82, 3, 87), (87, 2, 88), (87, 1, 1), (87, 0, 80), (82, 2, 85), (85, 2, 86), (85, 1, 40), (85, 0, 11), (82, 1, 83), (83, 2, 84), (83, 1, 30), (83, 0, 11), (16, 4, 79), (79, 0, 17), (79, 2, 81), (79, 1, 80), (16, 3, 74), (74, 0, 43), (74, 4, -1), (74, 3, -1), (74, 2, 75), (75, 1, 78), (75, 0, 76), (76, 2, 77), (76, 1, 4), (76, 0, 20), (16, 2, 43), (16, 1, 48), (48, 15, 1), (48, 12, 73), (48, 11, 71), (71, 2, 72), (71, 1, 83), (71, 0, 10), (48, 10, 69), (69, 2, 70), (69, 1, 3), (69, 0, 40), (48, 9, 67), (67, 2, 68), (67, 1, 6), (67, 0, 80), (48, 8, 65), (65, 2, 66), (65, 1, 4), (65, 0, 80), (48, 7, 63), (63, 2, 64), (63, 1, 2), (63, 0, 200), (48, 6, 61), (61, 2, 62), (61, 1, 5), (61, 0, 80), (48, 5, 59), (59, 2, 60), (59, 1, 3), (59, 0, 30), (48, 4, 57), (57, 2, 58), (57, 1, 7), (57, 0, 200), (48, 3, 55), (55, 2, 56), (55, 1, 1), (55, 0, 50), (48, 2, 53), (53, 2, 54), (53, 1, 17), (53, 0, 10), (48, 1, 51), (51, 2, 52), (51, 1, 3), (51, 0, 30), (48, 0, 49), (49, 2, 50), (49, 1, 1), (49, 0, 6), (16, 0, 17), (43, 3, 47), (43, 2, 46), (43, 1, 45), (43, 0, 44), (17, 15, 1), (17, 12, 42), (17, 11, 40), (40, 2, 41), (40, 1, 83), (40, 0, 10), (17, 10, 38), (38, 2, 39), (38, 1, 3), (38, 0, 40), (17, 9, 36), (36, 2, 37), (36, 1, 6), (36, 0, 80), (17, 8, 34), (34, 2, 35), (34, 1, 4), (34, 0, 80), (17, 7, 32), (32, 2, 33), (32, 1, 2), (32, 0, 200), (17, 6, 30), (30, 2, 31), (30, 1, 5), (30, 0, 80), (17, 5, 28), (28, 2, 29), (28, 1, 3), (28, 0, 30), (17, 4, 26), (26, 2, 27), (26, 1, 7), (26, 0, 200), (17, 3, 24), (24, 2, 25), (24, 1, 1), (24, 0, 50), (17, 2, 22), (22, 2, 23), (22, 1, 17), (22, 0, 10), (17, 1, 20), (20, 2, 21), (20, 1, 3), (20, 0, 30), (17, 0, 18), (18, 2, 19), (18, 1, 1), (18, 0, 6)]
def kwTh : List (Nat × Nat × Int) := [(16, 6, 93), (93, 0, 94), (16, 5, 78), (78, 0, 17), (78, 7, 91), (91, 2, 92), (91, 1, 3), (91, 0, 10), (78, 6, 89), (89, 2, 90), (89, 1, 1), (89, 0, 30), (78, 5, 87), (87, 2, 88), (87, 1, 1), (87, 0, 30), (78, 4, 85), (85, 2, 86), (85, 1, 1), (85, 0, 31), (78, 3, 83), (83, 2, 84), (83, 1, 1), (83, 0, 80), (78, 2, 81), (81, 2, 82), (81, 1, 40), (81, 0, 11), (78, 1, 79), (79, 2, 80), (79, 1, 30), (79, 0, 11), (16, 4, 75), (75, 0, 17), (75, 2, 77), (75, 1, 76), (16, 3, 74), (74, 0, 43), (74, 4, -1), (74, 3, -1), (74, 2, 15), (16, 2, 43), (16, 1, 48), (48, 15, 1), (48, 12, 73), (48, 11, 71), (71, 2, 72), (71, 1, 83), (71, 0, 10), (48, 10, 69), (69, 2, 70), (69, 1, 3), (69, 0, 40), (48, 9, 67), (67, 2, 68), (67, 1, 6), (67, 0, 80), (48, 8, 65), (65, 2, 66), (65, 1, 4), (65, 0, 80), (48, 7, 63), (63, 2, 64), (63, 1, 2), (63, 0, 200), (48, 6, 61), (61, 2, 62), (61, 1, 5), (61, 0, 80), (48, 5, 59), (59, 2, 60), (59, 1, 3), (59, 0, 30), (48, 4, 57), (57, 2, 58), (57, 1, 7), (57, 0, 200), (48, 3, 55), (55, 2, 56), (55, 1, 1), (55, 0, 50), (48, 2, 53), (53, 2, 54), (53, 1, 17), (53, 0, 10), (48, 1, 51), (51, 2, 52), (51, 1, 3), (51, 0, 30), (48, 0, 49), (49, 2, 50), (49, 1, 1), (49, 0, 6), (16, 0, 17), (43, 3, 47), (43, 2, 46), (43, 1, 45), (43, 0, 44), (17, 15, 1), (17, 12, 42), (17, 11, 40), (40, 2, 41), (40, 1, 83), (40, 0, 10), (17, 10, 38), (38, 2, 39), (38, 1, 3), (38, 0, 40), (17, 9, 36), (36, 2, 37), (36, 1, 6), (36, 0, 80), (17, 8, 34), (34, 2, 35), (34, 1, 4), (34, 0, 80), (17, 7, 32), (32, 2, 33), (32, 1, 2), (32, 0, 200), (17, 6, 30), (30, 2, 31), (30, 1, 5), (30, 0, 80), (17, 5, 28), (28, 2, 29), (28, 1, 3), (28, 0, 30), (17, 4, 26), (26, 2, 27), (26, 1, 7), (26, 0, 200), (17, 3, 24), (24, 2, 25), (24, 1, 1), (24, 0, 50), (17, 2, 22), (22, 2, 23), (22, 1, 17), (22, 0, 10), (17, 1, 20), (20, 2, 21), (20, 1, 3), (20, 0, 30), (17, 0, 18), (18, 2, 19), (18, 1, 1), (18, 0, 6)]
def kwTi : List (Nat × Nat × Int) := [(96, 14, 1), (95, 31, 110), (95, 30, 109), (95, 27, 108), (95, 26, 107), (95, 25, 106), (95, 24, 105), (95, 23, 104), (95, 22, 103), (95, 21, 102), (95, 17, 101), (95, 7, -1), (95, 6, -1), (95, 4, 100), (95, 3, 99), (95, 2, 98), (95, 1, 97), (95, 0, 96), (16, 6, 93), (93, 0, 94), (16, 5, 78), (78, 0, 17), (78, 7, 91), (91, 2, 92), (91, 1, 3), (91, 0, 10), (78, 6, 89), (89, 2, 90), (89, 1, 1), (89, 0, 30), (78, 5, 87), (87, 2, 88), (87, 1, 1), (87, 0, 30), (78, 4, 85), (85, 2, 86), (85, 1, 1), (85, 0, 31), (78, 3, 83), (83, 2, 84), (83, 1, 1), (83, 0, 80), (78, 2, 81), (81, 2, 82), (81, 1, 40), (81, 0, 11), (78, 1, 79), (79, 2, 80), (79, 1, 30), (79, 0, 11), (16, 4, 75), (75, 0, 17), (75, 2, 77), (75, 1, 76), (16, 3, 74), (74, 0, 43), (74, 4, -1), (74, 3, -1), (74, 2, 15), (16, 2, 43), (16, 1, 48), (48, 15, 1), (48, 12, 73), (48, 11, 71), (71, 2, 72), (71, 1, 83), (71, 0, 10), (48, 10, 69), (69, 2, 70), (69, 1, 3), (69, 0, 40), (48, 9, 67), (67, 2, 68), (67, 1, 6), (67, 0, 80), (48, 8, 65), (65, 2, 66), (65, 1, 4), (65, 0, 80), (48, 7, 63), (63, 2, 64), (63, 1, 2), (63, 0, 200), (48, 6, 61), (61, 2, 62), (61, 1, 5), (61, 0, 80), (48, 5, 59), (59, 2, 60), (59, 1, 3), (59, 0, 30), (48, 4, 57), (57, 2, 58), (57, 1, 7), (57, 0, 200), (48, 3, 55), (55, 2, 56), (55, 1, 1), (55, 0, 50), (48, 2, 53), (53, 2, 54), (53, 1, 17), (53, 0, 10), (48, 1, 51), (51, 2, 52), (51, 1, 3), (51, 0, 30), (48, 0, 49), (49, 2, 50), (49, 1, 1), (49, 0, 6), (16, 0, 17), (43, 3, 47), (43, 2, 46), (43, 1, 45), (43, 0, 44), (17, 15, 1), (17, 12, 42), (17, 11, 40), (40, 2, 41), (40, 1, 83), (40, 0, 10), (17, 10, 38), (38, 2, 39), (38, 1, 3), (38, 0, 40), (17, 9, 36), (36, 2, 37), (36, 1, 6), (36, 0, 80), (17, 8, 34), (34, 2, 35), (34, 1, 4), (34, 0, 80), (17, 7, 32), (32, 2, 33), (32, 1, 2), (32, 0, 200), (17, 6, 30), (30, 2, 31), (30, 1, 5), (30, 0, 80), (17, 5, 28), (28, 2, 29), (28, 1, 3), (28, 0, 30), (17, 4, 26), (26, 2, 27), (26, 1, 7), (26, 0, 200), (17, 3, 24), (24, 2, 25), (24, 1, 1), (24, 0, 50), (17, 2, 22), (22, 2, 23), (22, 1, 17), (22, 0, 10), (17, 1, 20), (20, 2, 21), (20, 1, 3), (20, 0, 30), (17, 0, 18), (18, 2, 19), (18, 1, 1), (18, 0, 6)]
set_option maxRecDepth 20000 in
theorem c_led17 {Q : xH → Prop} (hQ : Q (zK1.take 27, kwF kwTa)) : xSv g (D + 2) mX2_init [xr 17] (zK1.take 2, kwF []) Q := by
  refine x_entry (x_mc_ok (by decide +kernel)) (Nat.le_of_ble_eq_true rfl) ?_
  refine vX2_init_0 ⟨⟨2, 19, cis1 (by decide +kernel) (by decide)⟩, (by decide +kernel), ?_⟩
  dsimp only
  rw [zKl1 2 (by decide)]
  refine J1_eq 3 (by decide +kernel) (C_nw rfl (by decide +kernel)) ?_
  refine vX2_init_8 ⟨⟨5, 4, cis1 (by decide +kernel) (by decide)⟩, (by decide +kernel), ?_⟩
  refine c_rows (i := 2) (j := 4) (r := 18) (q := 19) 6 (by decide) (by decide) (by decide) (by decide +kernel) (by decide +kernel) (by decide +kernel) (by decide) (by decide) (by decide +kernel) ?_
  refine ⟨cis1 (by decide +kernel) (by decide), ?_⟩
  refine J1_eq 4 rfl (C_up (r' := 17) (j' := 0) (v' := 18) rfl (by decide +kernel) (by decide +kernel) (by decide +kernel)) ?_
  refine vX2_init_18 ⟨(by decide +kernel), ?_⟩
  dsimp only
  rw [zKl1 4 (by decide)]
  refine J1_eq 5 (by decide +kernel) (C_nw rfl (by decide +kernel)) ?_
  refine vX2_init_22 ⟨⟨5, 4, cis1 (by decide +kernel) (by decide)⟩, (by decide +kernel), ?_⟩
  refine c_rows (i := 4) (j := 6) (r := 20) (q := 21) 90 (by decide) (by decide) (by decide) (by decide +kernel) (by decide +kernel) (by decide +kernel) (by decide) (by decide) (by decide +kernel) ?_
  refine ⟨cis1 (by decide +kernel) (by decide), ?_⟩
  refine J1_eq 6 rfl (C_up (r' := 17) (j' := 1) (v' := 20) rfl (by decide +kernel) (by decide +kernel) (by decide +kernel)) ?_
  refine vX2_init_32 ⟨(by decide +kernel), ?_⟩
  dsimp only
  rw [zKl1 6 (by decide)]
  refine J1_eq 7 (by decide +kernel) (C_nw rfl (by decide +kernel)) ?_
  refine vX2_init_36 ⟨⟨5, 4, cis1 (by decide +kernel) (by decide)⟩, (by decide +kernel), ?_⟩
  refine c_rows (i := 6) (j := 8) (r := 22) (q := 23) 170 (by decide) (by decide) (by decide) (by decide +kernel) (by decide +kernel) (by decide +kernel) (by decide) (by decide) (by decide +kernel) ?_
  refine ⟨cis1 (by decide +kernel) (by decide), ?_⟩
  refine J1_eq 8 rfl (C_up (r' := 17) (j' := 2) (v' := 22) rfl (by decide +kernel) (by decide +kernel) (by decide +kernel)) ?_
  refine vX2_init_47 ⟨(by decide +kernel), ?_⟩
  dsimp only
  rw [zKl1 8 (by decide)]
  refine J1_eq 9 (by decide +kernel) (C_nw rfl (by decide +kernel)) ?_
  refine vX2_init_51 ⟨⟨5, 4, cis1 (by decide +kernel) (by decide)⟩, (by decide +kernel), ?_⟩
  refine c_rows (i := 8) (j := 10) (r := 24) (q := 25) 50 (by decide) (by decide) (by decide) (by decide +kernel) (by decide +kernel) (by decide +kernel) (by decide) (by decide) (by decide +kernel) ?_
  refine ⟨cis1 (by decide +kernel) (by decide), ?_⟩
  refine J1_eq 10 rfl (C_up (r' := 17) (j' := 3) (v' := 24) rfl (by decide +kernel) (by decide +kernel) (by decide +kernel)) ?_
  refine vX2_init_61 ⟨(by decide +kernel), ?_⟩
  dsimp only
  rw [zKl1 10 (by decide)]
  refine J1_eq 11 (by decide +kernel) (C_nw rfl (by decide +kernel)) ?_
  refine vX2_init_65 ⟨⟨5, 4, cis1 (by decide +kernel) (by decide)⟩, (by decide +kernel), ?_⟩
  refine c_rows (i := 10) (j := 12) (r := 26) (q := 27) 1400 (by decide) (by decide) (by decide) (by decide +kernel) (by decide +kernel) (by decide +kernel) (by decide) (by decide) (by decide +kernel) ?_
  refine ⟨cis1 (by decide +kernel) (by decide), ?_⟩
  refine J1_eq 12 rfl (C_up (r' := 17) (j' := 4) (v' := 26) rfl (by decide +kernel) (by decide +kernel) (by decide +kernel)) ?_
  refine vX2_init_77 ⟨(by decide +kernel), ?_⟩
  dsimp only
  rw [zKl1 12 (by decide)]
  refine J1_eq 13 (by decide +kernel) (C_nw rfl (by decide +kernel)) ?_
  refine vX2_init_81 ⟨⟨5, 4, cis1 (by decide +kernel) (by decide)⟩, (by decide +kernel), ?_⟩
  refine c_rows (i := 12) (j := 14) (r := 28) (q := 29) 90 (by decide) (by decide) (by decide) (by decide +kernel) (by decide +kernel) (by decide +kernel) (by decide) (by decide) (by decide +kernel) ?_
  refine ⟨cis1 (by decide +kernel) (by decide), ?_⟩
  refine J1_eq 14 rfl (C_up (r' := 17) (j' := 5) (v' := 28) rfl (by decide +kernel) (by decide +kernel) (by decide +kernel)) ?_
  refine vX2_init_91 ⟨(by decide +kernel), ?_⟩
  dsimp only
  rw [zKl1 14 (by decide)]
  refine J1_eq 15 (by decide +kernel) (C_nw rfl (by decide +kernel)) ?_
  refine vX2_init_95 ⟨⟨5, 4, cis1 (by decide +kernel) (by decide)⟩, (by decide +kernel), ?_⟩
  refine c_rows (i := 14) (j := 16) (r := 30) (q := 31) 400 (by decide) (by decide) (by decide) (by decide +kernel) (by decide +kernel) (by decide +kernel) (by decide) (by decide) (by decide +kernel) ?_
  refine ⟨cis1 (by decide +kernel) (by decide), ?_⟩
  refine J1_eq 16 rfl (C_up (r' := 17) (j' := 6) (v' := 30) rfl (by decide +kernel) (by decide +kernel) (by decide +kernel)) ?_
  refine vX2_init_105 ⟨(by decide +kernel), ?_⟩
  dsimp only
  rw [zKl1 16 (by decide)]
  refine J1_eq 17 (by decide +kernel) (C_nw rfl (by decide +kernel)) ?_
  refine vX2_init_109 ⟨⟨5, 4, cis1 (by decide +kernel) (by decide)⟩, (by decide +kernel), ?_⟩
  refine c_rows (i := 16) (j := 18) (r := 32) (q := 33) 400 (by decide) (by decide) (by decide) (by decide +kernel) (by decide +kernel) (by decide +kernel) (by decide) (by decide) (by decide +kernel) ?_
  refine ⟨cis1 (by decide +kernel) (by decide), ?_⟩
  refine J1_eq 18 rfl (C_up (r' := 17) (j' := 7) (v' := 32) rfl (by decide +kernel) (by decide +kernel) (by decide +kernel)) ?_
  refine vX2_init_120 ⟨(by decide +kernel), ?_⟩
  dsimp only
  rw [zKl1 18 (by decide)]
  refine J1_eq 19 (by decide +kernel) (C_nw rfl (by decide +kernel)) ?_
  refine vX2_init_124 ⟨⟨5, 4, cis1 (by decide +kernel) (by decide)⟩, (by decide +kernel), ?_⟩
  refine c_rows (i := 18) (j := 20) (r := 34) (q := 35) 320 (by decide) (by decide) (by decide) (by decide +kernel) (by decide +kernel) (by decide +kernel) (by decide) (by decide) (by decide +kernel) ?_
  refine ⟨cis1 (by decide +kernel) (by decide), ?_⟩
  refine J1_eq 20 rfl (C_up (r' := 17) (j' := 8) (v' := 34) rfl (by decide +kernel) (by decide +kernel) (by decide +kernel)) ?_
  refine vX2_init_134 ⟨(by decide +kernel), ?_⟩
  dsimp only
  rw [zKl1 20 (by decide)]
  refine J1_eq 21 (by decide +kernel) (C_nw rfl (by decide +kernel)) ?_
  refine vX2_init_138 ⟨⟨5, 4, cis1 (by decide +kernel) (by decide)⟩, (by decide +kernel), ?_⟩
  refine c_rows (i := 20) (j := 22) (r := 36) (q := 37) 480 (by decide) (by decide) (by decide) (by decide +kernel) (by decide +kernel) (by decide +kernel) (by decide) (by decide) (by decide +kernel) ?_
  refine ⟨cis1 (by decide +kernel) (by decide), ?_⟩
  refine J1_eq 22 rfl (C_up (r' := 17) (j' := 9) (v' := 36) rfl (by decide +kernel) (by decide +kernel) (by decide +kernel)) ?_
  refine vX2_init_149 ⟨(by decide +kernel), ?_⟩
  dsimp only
  rw [zKl1 22 (by decide)]
  refine J1_eq 23 (by decide +kernel) (C_nw rfl (by decide +kernel)) ?_
  refine vX2_init_153 ⟨⟨5, 4, cis1 (by decide +kernel) (by decide)⟩, (by decide +kernel), ?_⟩
  refine c_rows (i := 22) (j := 24) (r := 38) (q := 39) 120 (by decide) (by decide) (by decide) (by decide +kernel) (by decide +kernel) (by decide +kernel) (by decide) (by decide) (by decide +kernel) ?_
  refine ⟨cis1 (by decide +kernel) (by decide), ?_⟩
  refine J1_eq 24 rfl (C_up (r' := 17) (j' := 10) (v' := 38) rfl (by decide +kernel) (by decide +kernel) (by decide +kernel)) ?_
  refine vX2_init_163 ⟨(by decide +kernel), ?_⟩
  dsimp only
  rw [zKl1 24 (by decide)]
  refine J1_eq 25 (by decide +kernel) (C_nw rfl (by decide +kernel)) ?_
  refine vX2_init_167 ⟨⟨5, 4, cis1 (by decide +kernel) (by decide)⟩, (by decide +kernel), ?_⟩
  refine c_rows (i := 24) (j := 26) (r := 40) (q := 41) 830 (by decide) (by decide) (by decide) (by decide +kernel) (by decide +kernel) (by decide +kernel) (by decide) (by decide) (by decide +kernel) ?_
  refine ⟨cis1 (by decide +kernel) (by decide), ?_⟩
  refine J1_eq 26 rfl (C_up (r' := 17) (j' := 11) (v' := 40) rfl (by decide +kernel) (by decide +kernel) (by decide +kernel)) ?_
  refine vX2_init_178 ⟨(by decide +kernel), x_is_app (h := (zK1.take 26, kwF [])) (cis1 (by decide +kernel) (by decide)), ?_⟩
  dsimp only
  rw [zKl1 26 (by decide)]
  refine J1_eq 27 (by decide +kernel) (C_up (r' := 17) (j' := 12) (v' := 42) (C_nw rfl (by decide +kernel)) (by decide +kernel) (by decide +kernel) (by decide +kernel)) ?_
  refine vX2_init_187 ⟨cis1 (by decide +kernel) (by decide), Q1_eq 27 rfl (C_up (r' := 17) (j' := 15) (v' := 1) rfl (by decide +kernel) (by decide +kernel) (by decide +kernel)) hQ⟩
set_option maxRecDepth 20000 in
theorem c_tape {Q : xH → Prop} (hQ : Q (zK1.take 32, kwF kwTb)) : xSv g (D + 1) mX6_init [xr 43] (zK1.take 28, kwF kwTa) Q := by
  refine x_entry (x_mc_ok (by decide +kernel)) (Nat.le_of_ble_eq_true rfl) ?_
  refine vX6_init_0 ⟨⟨6, 6, cis1 (by decide +kernel) (by decide)⟩, (by decide +kernel), ⟨by decide, (by decide +kernel)⟩, (by decide +kernel), ⟨by decide, (by decide +kernel)⟩, (by decide +kernel), ⟨by decide, (by decide +kernel)⟩, (by decide +kernel), ⟨by decide, (by decide +kernel)⟩, Q1_eq 32 (by decide +kernel) (C_up (r' := 43) (j' := 3) (v' := 47) (C_nw (C_up (r' := 43) (j' := 2) (v' := 46) (C_nw (C_up (r' := 43) (j' := 1) (v' := 45) (C_nw (C_up (r' := 43) (j' := 0) (v' := 44) (C_nw rfl (by decide +kernel)) (by decide +kernel) (by decide +kernel) (by decide +kernel)) (by decide +kernel)) (by decide +kernel) (by decide +kernel) (by decide +kernel)) (by decide +kernel)) (by decide +kernel) (by decide +kernel) (by decide +kernel)) (by decide +kernel)) (by decide +kernel) (by decide +kernel) (by decide +kernel)) hQ⟩
set_option maxRecDepth 20000 in
theorem c_led48 {Q : xH → Prop} (hQ : Q (zK1.take 58, kwF kwTc)) : xSv g (D + 2) mX2_init [xr 48] (zK1.take 33, kwF ((16, 0, 17) :: kwTb)) Q := by
  refine x_entry (x_mc_ok (by decide +kernel)) (Nat.le_of_ble_eq_true rfl) ?_
  refine vX2_init_0 ⟨⟨2, 19, cis1 (by decide +kernel) (by decide)⟩, (by decide +kernel), ?_⟩
  dsimp only
  rw [zKl1 33 (by decide)]
  refine J1_eq 34 (by decide +kernel) (C_nw rfl (by decide +kernel)) ?_
  refine vX2_init_8 ⟨⟨5, 4, cis1 (by decide +kernel) (by decide)⟩, (by decide +kernel), ?_⟩
  refine c_rows (i := 33) (j := 35) (r := 49) (q := 50) 6 (by decide) (by decide) (by decide) (by decide +kernel) (by decide +kernel) (by decide +kernel) (by decide) (by decide) (by decide +kernel) ?_
  refine ⟨cis1 (by decide +kernel) (by decide), ?_⟩
  refine J1_eq 35 rfl (C_up (r' := 48) (j' := 0) (v' := 49) rfl (by decide +kernel) (by decide +kernel) (by decide +kernel)) ?_
  refine vX2_init_18 ⟨(by decide +kernel), ?_⟩
  dsimp only
  rw [zKl1 35 (by decide)]
  refine J1_eq 36 (by decide +kernel) (C_nw rfl (by decide +kernel)) ?_
  refine vX2_init_22 ⟨⟨5, 4, cis1 (by decide +kernel) (by decide)⟩, (by decide +kernel), ?_⟩
  refine c_rows (i := 35) (j := 37) (r := 51) (q := 52) 90 (by decide) (by decide) (by decide) (by decide +kernel) (by decide +kernel) (by decide +kernel) (by decide) (by decide) (by decide +kernel) ?_
  refine ⟨cis1 (by decide +kernel) (by decide), ?_⟩
  refine J1_eq 37 rfl (C_up (r' := 48) (j' := 1) (v' := 51) rfl (by decide +kernel) (by decide +kernel) (by decide +kernel)) ?_
  refine vX2_init_32 ⟨(by decide +kernel), ?_⟩
  dsimp only
  rw [zKl1 37 (by decide)]
  refine J1_eq 38 (by decide +kernel) (C_nw rfl (by decide +kernel)) ?_
  refine vX2_init_36 ⟨⟨5, 4, cis1 (by decide +kernel) (by decide)⟩, (by decide +kernel), ?_⟩
  refine c_rows (i := 37) (j := 39) (r := 53) (q := 54) 170 (by decide) (by decide) (by decide) (by decide +kernel) (by decide +kernel) (by decide +kernel) (by decide) (by decide) (by decide +kernel) ?_
  refine ⟨cis1 (by decide +kernel) (by decide), ?_⟩
  refine J1_eq 39 rfl (C_up (r' := 48) (j' := 2) (v' := 53) rfl (by decide +kernel) (by decide +kernel) (by decide +kernel)) ?_
  refine vX2_init_47 ⟨(by decide +kernel), ?_⟩
  dsimp only
  rw [zKl1 39 (by decide)]
  refine J1_eq 40 (by decide +kernel) (C_nw rfl (by decide +kernel)) ?_
  refine vX2_init_51 ⟨⟨5, 4, cis1 (by decide +kernel) (by decide)⟩, (by decide +kernel), ?_⟩
  refine c_rows (i := 39) (j := 41) (r := 55) (q := 56) 50 (by decide) (by decide) (by decide) (by decide +kernel) (by decide +kernel) (by decide +kernel) (by decide) (by decide) (by decide +kernel) ?_
  refine ⟨cis1 (by decide +kernel) (by decide), ?_⟩
  refine J1_eq 41 rfl (C_up (r' := 48) (j' := 3) (v' := 55) rfl (by decide +kernel) (by decide +kernel) (by decide +kernel)) ?_
  refine vX2_init_61 ⟨(by decide +kernel), ?_⟩
  dsimp only
  rw [zKl1 41 (by decide)]
  refine J1_eq 42 (by decide +kernel) (C_nw rfl (by decide +kernel)) ?_
  refine vX2_init_65 ⟨⟨5, 4, cis1 (by decide +kernel) (by decide)⟩, (by decide +kernel), ?_⟩
  refine c_rows (i := 41) (j := 43) (r := 57) (q := 58) 1400 (by decide) (by decide) (by decide) (by decide +kernel) (by decide +kernel) (by decide +kernel) (by decide) (by decide) (by decide +kernel) ?_
  refine ⟨cis1 (by decide +kernel) (by decide), ?_⟩
  refine J1_eq 43 rfl (C_up (r' := 48) (j' := 4) (v' := 57) rfl (by decide +kernel) (by decide +kernel) (by decide +kernel)) ?_
  refine vX2_init_77 ⟨(by decide +kernel), ?_⟩
  dsimp only
  rw [zKl1 43 (by decide)]
  refine J1_eq 44 (by decide +kernel) (C_nw rfl (by decide +kernel)) ?_
  refine vX2_init_81 ⟨⟨5, 4, cis1 (by decide +kernel) (by decide)⟩, (by decide +kernel), ?_⟩
  refine c_rows (i := 43) (j := 45) (r := 59) (q := 60) 90 (by decide) (by decide) (by decide) (by decide +kernel) (by decide +kernel) (by decide +kernel) (by decide) (by decide) (by decide +kernel) ?_
  refine ⟨cis1 (by decide +kernel) (by decide), ?_⟩
  refine J1_eq 45 rfl (C_up (r' := 48) (j' := 5) (v' := 59) rfl (by decide +kernel) (by decide +kernel) (by decide +kernel)) ?_
  refine vX2_init_91 ⟨(by decide +kernel), ?_⟩
  dsimp only
  rw [zKl1 45 (by decide)]
  refine J1_eq 46 (by decide +kernel) (C_nw rfl (by decide +kernel)) ?_
  refine vX2_init_95 ⟨⟨5, 4, cis1 (by decide +kernel) (by decide)⟩, (by decide +kernel), ?_⟩
  refine c_rows (i := 45) (j := 47) (r := 61) (q := 62) 400 (by decide) (by decide) (by decide) (by decide +kernel) (by decide +kernel) (by decide +kernel) (by decide) (by decide) (by decide +kernel) ?_
  refine ⟨cis1 (by decide +kernel) (by decide), ?_⟩
  refine J1_eq 47 rfl (C_up (r' := 48) (j' := 6) (v' := 61) rfl (by decide +kernel) (by decide +kernel) (by decide +kernel)) ?_
  refine vX2_init_105 ⟨(by decide +kernel), ?_⟩
  dsimp only
  rw [zKl1 47 (by decide)]
  refine J1_eq 48 (by decide +kernel) (C_nw rfl (by decide +kernel)) ?_
  refine vX2_init_109 ⟨⟨5, 4, cis1 (by decide +kernel) (by decide)⟩, (by decide +kernel), ?_⟩
  refine c_rows (i := 47) (j := 49) (r := 63) (q := 64) 400 (by decide) (by decide) (by decide) (by decide +kernel) (by decide +kernel) (by decide +kernel) (by decide) (by decide) (by decide +kernel) ?_
  refine ⟨cis1 (by decide +kernel) (by decide), ?_⟩
  refine J1_eq 49 rfl (C_up (r' := 48) (j' := 7) (v' := 63) rfl (by decide +kernel) (by decide +kernel) (by decide +kernel)) ?_
  refine vX2_init_120 ⟨(by decide +kernel), ?_⟩
  dsimp only
  rw [zKl1 49 (by decide)]
  refine J1_eq 50 (by decide +kernel) (C_nw rfl (by decide +kernel)) ?_
  refine vX2_init_124 ⟨⟨5, 4, cis1 (by decide +kernel) (by decide)⟩, (by decide +kernel), ?_⟩
  refine c_rows (i := 49) (j := 51) (r := 65) (q := 66) 320 (by decide) (by decide) (by decide) (by decide +kernel) (by decide +kernel) (by decide +kernel) (by decide) (by decide) (by decide +kernel) ?_
  refine ⟨cis1 (by decide +kernel) (by decide), ?_⟩
  refine J1_eq 51 rfl (C_up (r' := 48) (j' := 8) (v' := 65) rfl (by decide +kernel) (by decide +kernel) (by decide +kernel)) ?_
  refine vX2_init_134 ⟨(by decide +kernel), ?_⟩
  dsimp only
  rw [zKl1 51 (by decide)]
  refine J1_eq 52 (by decide +kernel) (C_nw rfl (by decide +kernel)) ?_
  refine vX2_init_138 ⟨⟨5, 4, cis1 (by decide +kernel) (by decide)⟩, (by decide +kernel), ?_⟩
  refine c_rows (i := 51) (j := 53) (r := 67) (q := 68) 480 (by decide) (by decide) (by decide) (by decide +kernel) (by decide +kernel) (by decide +kernel) (by decide) (by decide) (by decide +kernel) ?_
  refine ⟨cis1 (by decide +kernel) (by decide), ?_⟩
  refine J1_eq 53 rfl (C_up (r' := 48) (j' := 9) (v' := 67) rfl (by decide +kernel) (by decide +kernel) (by decide +kernel)) ?_
  refine vX2_init_149 ⟨(by decide +kernel), ?_⟩
  dsimp only
  rw [zKl1 53 (by decide)]
  refine J1_eq 54 (by decide +kernel) (C_nw rfl (by decide +kernel)) ?_
  refine vX2_init_153 ⟨⟨5, 4, cis1 (by decide +kernel) (by decide)⟩, (by decide +kernel), ?_⟩
  refine c_rows (i := 53) (j := 55) (r := 69) (q := 70) 120 (by decide) (by decide) (by decide) (by decide +kernel) (by decide +kernel) (by decide +kernel) (by decide) (by decide) (by decide +kernel) ?_
  refine ⟨cis1 (by decide +kernel) (by decide), ?_⟩
  refine J1_eq 55 rfl (C_up (r' := 48) (j' := 10) (v' := 69) rfl (by decide +kernel) (by decide +kernel) (by decide +kernel)) ?_
  refine vX2_init_163 ⟨(by decide +kernel), ?_⟩
  dsimp only
  rw [zKl1 55 (by decide)]
  refine J1_eq 56 (by decide +kernel) (C_nw rfl (by decide +kernel)) ?_
  refine vX2_init_167 ⟨⟨5, 4, cis1 (by decide +kernel) (by decide)⟩, (by decide +kernel), ?_⟩
  refine c_rows (i := 55) (j := 57) (r := 71) (q := 72) 830 (by decide) (by decide) (by decide) (by decide +kernel) (by decide +kernel) (by decide +kernel) (by decide) (by decide) (by decide +kernel) ?_
  refine ⟨cis1 (by decide +kernel) (by decide), ?_⟩
  refine J1_eq 57 rfl (C_up (r' := 48) (j' := 11) (v' := 71) rfl (by decide +kernel) (by decide +kernel) (by decide +kernel)) ?_
  refine vX2_init_178 ⟨(by decide +kernel), x_is_app (h := (zK1.take 57, kwF [])) (cis1 (by decide +kernel) (by decide)), ?_⟩
  dsimp only
  rw [zKl1 57 (by decide)]
  refine J1_eq 58 (by decide +kernel) (C_up (r' := 48) (j' := 12) (v' := 73) (C_nw rfl (by decide +kernel)) (by decide +kernel) (by decide +kernel) (by decide +kernel)) ?_
  refine vX2_init_187 ⟨cis1 (by decide +kernel) (by decide), Q1_eq 58 rfl (C_up (r' := 48) (j' := 15) (v' := 1) rfl (by decide +kernel) (by decide +kernel) (by decide +kernel)) hQ⟩
set_option maxRecDepth 20000 in
theorem c_draft {Q : xH → Prop} (hQ : Q (zK1.take 63, kwF kwTx)) : xSv g (D + 2) mX0_init [xr 75, xi 0] (zK1.take 60, kwF ((16, 2, 43) :: (16, 1, 48) :: kwTc)) Q := by
  refine x_entry (x_mc_ok (by decide +kernel)) (Nat.le_of_ble_eq_true rfl) ?_
  refine vX0_init_0 ⟨⟨0, 4, cis1 (by decide +kernel) (by decide)⟩, (by decide +kernel), ⟨5, 4, x_is_new⟩, (by decide +kernel), ?_⟩
  dsimp only
  rw [zKl1 60 (by decide)]
  refine S1_eq 61 (by decide +kernel) (C_nw rfl (by decide +kernel)) ?_
  refine c_rows (i := 60) (j := 62) (r := 76) (q := 77) 80 (by decide) (by decide) (by decide) (by decide +kernel) (by decide +kernel) (by decide +kernel) (by decide) (by decide) (by decide +kernel) ?_
  refine ⟨cis1 (by decide +kernel) (by decide), ⟨by decide, by decide, (by decide +kernel), (by decide +kernel)⟩, x_is_app (h := (zK1.take 62, kwF [])) (cis1 (by decide +kernel) (by decide)), Q1_eq 63 (by decide +kernel) (C_up (r' := 75) (j' := 1) (v' := 78) (C_nw (C_up (r' := 75) (j' := 0) (v' := 76) rfl (by decide +kernel) (by decide +kernel) (by decide +kernel)) (by decide +kernel)) (by decide +kernel) (by decide +kernel) (by decide +kernel)) hQ⟩
set_option maxRecDepth 20000 in
theorem c_reader {Q : xH → Prop} (hQ : Q (zK1.take 63, kwF kwTd)) : xSv g (D + 3) mX4_init [xr 74, xr 43] (zK1.take 59, kwF ((16, 2, 43) :: (16, 1, 48) :: kwTc)) Q := by
  refine x_entry (x_mc_ok (by decide +kernel)) (Nat.le_of_ble_eq_true rfl) ?_
  refine vX4_init_0 ⟨⟨4, 5, cis1 (by decide +kernel) (by decide)⟩, (by decide +kernel), ⟨0, 4, x_is_new⟩, (by decide +kernel), ?_⟩
  dsimp only
  rw [zKl1 59 (by decide)]
  refine S1_eq 60 (by decide +kernel) (C_nw rfl (by decide +kernel)) ?_
  refine c_draft ?_
  refine ⟨cis1 (by decide +kernel) (by decide), cis1 (by decide +kernel) (by decide), cis1 (by decide +kernel) (by decide), cis1 (by decide +kernel) (by decide), Q1_eq 63 rfl (C_up (r' := 74) (j' := 0) (v' := 43) (C_up (r' := 74) (j' := 4) (v' := (-1)) (C_up (r' := 74) (j' := 3) (v' := (-1)) (C_up (r' := 74) (j' := 2) (v' := 75) rfl (by decide +kernel) (by decide +kernel) (by decide +kernel)) (by decide +kernel) (by decide +kernel) (by decide +kernel)) (by decide +kernel) (by decide +kernel) (by decide +kernel)) (by decide +kernel) (by decide +kernel) (by decide +kernel)) hQ⟩
set_option maxRecDepth 20000 in
theorem c_bench {Q : xH → Prop} (hQ : Q (zK1.take 66, kwF kwTe)) : xSv g (D + 1) mX1_init [xr 79, xr 17] (zK1.take 64, kwF ((16, 3, 74) :: kwTd)) Q := by
  refine x_entry (x_mc_ok (by decide +kernel)) (Nat.le_of_ble_eq_true rfl) ?_
  refine vX1_init_0 ⟨⟨1, 5, cis1 (by decide +kernel) (by decide)⟩, (by decide +kernel), ⟨by decide, (by decide +kernel)⟩, (by decide +kernel), ⟨by decide, (by decide +kernel)⟩, ⟨by decide, (by decide +kernel)⟩, Q1_eq 66 (by decide +kernel) (C_up (r' := 79) (j' := 0) (v' := 17) (C_up (r' := 79) (j' := 2) (v' := 81) (C_nw (C_up (r' := 79) (j' := 1) (v' := 80) (C_nw rfl (by decide +kernel)) (by decide +kernel) (by decide +kernel) (by decide +kernel)) (by decide +kernel)) (by decide +kernel) (by decide +kernel) (by decide +kernel)) (by decide +kernel) (by decide +kernel) (by decide +kernel)) hQ⟩
set_option maxRecDepth 20000 in
theorem c_loom {Q : xH → Prop} (hQ : Q (zK1.take 81, kwF kwTf)) : xSv g (D + 2) mX3_init [xr 82, xr 17] (zK1.take 67, kwF ((16, 4, 79) :: kwTe)) Q := by
  refine x_entry (x_mc_ok (by decide +kernel)) (Nat.le_of_ble_eq_true rfl) ?_
  refine vX3_init_0 ⟨⟨3, 10, cis1 (by decide +kernel) (by decide)⟩, (by decide +kernel), ⟨5, 4, x_is_new⟩, (by decide +kernel), ?_⟩
  dsimp only
  rw [zKl1 67 (by decide)]
  refine S1_eq 68 (by decide +kernel) (C_nw rfl (by decide +kernel)) ?_
  refine c_rows (i := 67) (j := 69) (r := 83) (q := 84) 330 (by decide) (by decide) (by decide) (by decide +kernel) (by decide +kernel) (by decide +kernel) (by decide) (by decide) (by decide +kernel) ?_
  refine ⟨cis1 (by decide +kernel) (by decide), (by decide +kernel), ⟨5, 4, x_is_new⟩, (by decide +kernel), ?_⟩
  dsimp only
  rw [zKl1 69 (by decide)]
  refine S1_eq 70 (by decide +kernel) (C_nw (C_up (r' := 82) (j' := 1) (v' := 83) rfl (by decide +kernel) (by decide +kernel) (by decide +kernel)) (by decide +kernel)) ?_
  refine c_rows (i := 69) (j := 71) (r := 85) (q := 86) 440 (by decide) (by decide) (by decide) (by decide +kernel) (by decide +kernel) (by decide +kernel) (by decide) (by decide) (by decide +kernel) ?_
  refine ⟨cis1 (by decide +kernel) (by decide), (by decide +kernel), ⟨5, 4, x_is_new⟩, (by decide +kernel), ?_⟩
  dsimp only
  rw [zKl1 71 (by decide)]
  refine S1_eq 72 (by decide +kernel) (C_nw (C_up (r' := 82) (j' := 2) (v' := 85) rfl (by decide +kernel) (by decide +kernel) (by decide +kernel)) (by decide +kernel)) ?_
  refine c_rows (i := 71) (j := 73) (r := 87) (q := 88) 80 (by decide) (by decide) (by decide) (by decide +kernel) (by decide +kernel) (by decide +kernel) (by decide) (by decide) (by decide +kernel) ?_
  refine ⟨cis1 (by decide +kernel) (by decide), (by decide +kernel), ⟨5, 4, x_is_new⟩, (by decide +kernel), ?_⟩
  dsimp only
  rw [zKl1 73 (by decide)]
  refine S1_eq 74 (by decide +kernel) (C_nw (C_up (r' := 82) (j' := 3) (v' := 87) rfl (by decide +kernel) (by decide +kernel) (by decide +kernel)) (by decide +kernel)) ?_
  refine c_rows (i := 73) (j := 75) (r := 89) (q := 90) 31 (by decide) (by decide) (by decide) (by decide +kernel) (by decide +kernel) (by decide +kernel) (by decide) (by decide) (by decide +kernel) ?_
  refine ⟨cis1 (by decide +kernel) (by decide), (by decide +kernel), ⟨5, 4, x_is_new⟩, (by decide +kernel), ?_⟩
  dsimp only
  rw [zKl1 75 (by decide)]
  refine S1_eq 76 (by decide +kernel) (C_nw (C_up (r' := 82) (j' := 4) (v' := 89) rfl (by decide +kernel) (by decide +kernel) (by decide +kernel)) (by decide +kernel)) ?_
  refine c_rows (i := 75) (j := 77) (r := 91) (q := 92) 30 (by decide) (by decide) (by decide) (by decide +kernel) (by decide +kernel) (by decide +kernel) (by decide) (by decide) (by decide +kernel) ?_
  refine ⟨cis1 (by decide +kernel) (by decide), (by decide +kernel), ⟨5, 4, x_is_new⟩, (by decide +kernel), ?_⟩
  dsimp only
  rw [zKl1 77 (by decide)]
  refine S1_eq 78 (by decide +kernel) (C_nw (C_up (r' := 82) (j' := 5) (v' := 91) rfl (by decide +kernel) (by decide +kernel) (by decide +kernel)) (by decide +kernel)) ?_
  refine c_rows (i := 77) (j := 79) (r := 93) (q := 94) 30 (by decide) (by decide) (by decide) (by decide +kernel) (by decide +kernel) (by decide +kernel) (by decide) (by decide) (by decide +kernel) ?_
  refine ⟨cis1 (by decide +kernel) (by decide), (by decide +kernel), ⟨5, 4, x_is_new⟩, (by decide +kernel), ?_⟩
  dsimp only
  rw [zKl1 79 (by decide)]
  refine S1_eq 80 (by decide +kernel) (C_nw (C_up (r' := 82) (j' := 6) (v' := 93) rfl (by decide +kernel) (by decide +kernel) (by decide +kernel)) (by decide +kernel)) ?_
  refine c_rows (i := 79) (j := 81) (r := 95) (q := 96) 30 (by decide) (by decide) (by decide) (by decide +kernel) (by decide +kernel) (by decide +kernel) (by decide) (by decide) (by decide +kernel) ?_
  refine ⟨cis1 (by decide +kernel) (by decide), cis1 (by decide +kernel) (by decide), Q1_eq 81 rfl (C_up (r' := 82) (j' := 0) (v' := 17) (C_up (r' := 82) (j' := 7) (v' := 95) rfl (by decide +kernel) (by decide +kernel) (by decide +kernel)) (by decide +kernel) (by decide +kernel) (by decide +kernel)) hQ⟩
set_option maxRecDepth 20000 in
theorem c_urn {Q : xH → Prop} (hQ : Q (zK1.take 83, kwF kwTg)) : xSv g (D + 1) mX7_init [xr 97] (zK1.take 82, kwF ((16, 5, 82) :: kwTf)) Q := by
  refine x_entry (x_mc_ok (by decide +kernel)) (Nat.le_of_ble_eq_true rfl) ?_
  refine vX7_init_0 ⟨⟨7, 2, cis1 (by decide +kernel) (by decide)⟩, (by decide +kernel), ⟨by decide, (by decide +kernel)⟩, Q1_eq 83 (by decide +kernel) (C_up (r' := 97) (j' := 0) (v' := 98) (C_nw rfl (by decide +kernel)) (by decide +kernel) (by decide +kernel) (by decide +kernel)) hQ⟩
set_option maxRecDepth 20000 in
theorem c_board {Q : xH → Prop} (hQ : Q (zK1.take 83, kwF kwT1)) : xSv g (D + 4) mX8_init [xr 16] (zK1.take 1, kwF []) Q := by
  refine x_entry (x_mc_ok (by decide +kernel)) (Nat.le_of_ble_eq_true rfl) ?_
  refine vX8_init_0 ⟨⟨8, 7, cis1 (by decide +kernel) (by decide)⟩, (by decide +kernel), ⟨2, 19, x_is_new⟩, (by decide +kernel), ?_⟩
  dsimp only
  rw [zKl1 1 (by decide)]
  refine S1_eq 2 (by decide +kernel) (C_nw rfl (by decide +kernel)) ?_
  refine c_led17 ?_
  refine ⟨(by decide +kernel), ⟨6, 6, x_is_new⟩, (by decide +kernel), ?_⟩
  dsimp only
  rw [zKl1 27 (by decide)]
  refine S1_eq 28 (by decide +kernel) (C_nw rfl (by decide +kernel)) ?_
  refine c_tape ?_
  refine ⟨cis1 (by decide +kernel) (by decide), (by decide +kernel), ⟨2, 19, x_is_new⟩, (by decide +kernel), ?_⟩
  dsimp only
  rw [zKl1 32 (by decide)]
  refine S1_eq 33 (by decide +kernel) (C_nw (C_up (r' := 16) (j' := 0) (v' := 17) rfl (by decide +kernel) (by decide +kernel) (by decide +kernel)) (by decide +kernel)) ?_
  refine c_led48 ?_
  refine ⟨cis1 (by decide +kernel) (by decide), cis1 (by decide +kernel) (by decide), (by decide +kernel), ⟨4, 5, x_is_new⟩, (by decide +kernel), ?_⟩
  dsimp only
  rw [zKl1 58 (by decide)]
  refine S1_eq 59 (by decide +kernel) (C_nw (C_up (r' := 16) (j' := 2) (v' := 43) (C_up (r' := 16) (j' := 1) (v' := 48) rfl (by decide +kernel) (by decide +kernel) (by decide +kernel)) (by decide +kernel) (by decide +kernel) (by decide +kernel)) (by decide +kernel)) ?_
  refine c_reader ?_
  refine ⟨cis1 (by decide +kernel) (by decide), (by decide +kernel), ⟨1, 5, x_is_new⟩, (by decide +kernel), ?_⟩
  dsimp only
  rw [zKl1 63 (by decide)]
  refine S1_eq 64 (by decide +kernel) (C_nw (C_up (r' := 16) (j' := 3) (v' := 74) rfl (by decide +kernel) (by decide +kernel) (by decide +kernel)) (by decide +kernel)) ?_
  refine c_bench ?_
  refine ⟨cis1 (by decide +kernel) (by decide), (by decide +kernel), ⟨3, 10, x_is_new⟩, (by decide +kernel), ?_⟩
  dsimp only
  rw [zKl1 66 (by decide)]
  refine S1_eq 67 (by decide +kernel) (C_nw (C_up (r' := 16) (j' := 4) (v' := 79) rfl (by decide +kernel) (by decide +kernel) (by decide +kernel)) (by decide +kernel)) ?_
  refine c_loom ?_
  refine ⟨cis1 (by decide +kernel) (by decide), (by decide +kernel), ⟨7, 2, x_is_new⟩, (by decide +kernel), ?_⟩
  dsimp only
  rw [zKl1 81 (by decide)]
  refine S1_eq 82 (by decide +kernel) (C_nw (C_up (r' := 16) (j' := 5) (v' := 82) rfl (by decide +kernel) (by decide +kernel) (by decide +kernel)) (by decide +kernel)) ?_
  refine c_urn ?_
  refine ⟨cis1 (by decide +kernel) (by decide), ?_⟩
  exact Q1_eq 83 rfl (C_up (r' := 16) (j' := 6) (v' := 97) rfl (by decide +kernel) (by decide +kernel) (by decide +kernel)) hQ
set_option maxRecDepth 20000 in
theorem c_model {Q : xH → Prop} (hQ : xSv g D mX9_copy [xr 96, xr 97] (zK.take 95, kwF kwTi) Q) : xSv g (D + 1) mX9_init [xr 95] (zK.take 80, kwF kwTh) Q := by
  refine x_entry (x_mc_ok (by decide +kernel)) (Nat.le_of_ble_eq_true rfl) ?_
  refine vX9_init_0 ⟨⟨9, 32, cis (by decide +kernel) (by decide)⟩, (by decide +kernel), ?_⟩
  dsimp only
  rw [zKl 80 (by decide)]
  refine J_eq 81 (by decide +kernel) (C_nw rfl (by decide +kernel)) ?_
  refine vX9_init_10 ⟨cis (by decide +kernel) (by decide), ?_⟩
  refine J_eq 81 rfl (C_up (r' := 95) (j' := 0) (v' := 96) rfl (by decide +kernel) (by decide +kernel) (by decide +kernel)) ?_
  refine vX9_init_13 ⟨(by decide +kernel), ?_⟩
  dsimp only
  rw [zKl 81 (by decide)]
  refine J_eq 82 (by decide +kernel) (C_nw rfl (by decide +kernel)) ?_
  refine vX9_init_19 ⟨cis (by decide +kernel) (by decide), ?_⟩
  refine J_eq 82 rfl (C_up (r' := 95) (j' := 1) (v' := 97) rfl (by decide +kernel) (by decide +kernel) (by decide +kernel)) ?_
  refine vX9_init_22 ⟨(by decide +kernel), ?_⟩
  dsimp only
  rw [zKl 82 (by decide)]
  refine J_eq 83 (by decide +kernel) (C_nw rfl (by decide +kernel)) ?_
  refine vX9_init_27 ⟨cis (by decide +kernel) (by decide), ?_⟩
  refine J_eq 83 rfl (C_up (r' := 95) (j' := 2) (v' := 98) rfl (by decide +kernel) (by decide +kernel) (by decide +kernel)) ?_
  refine vX9_init_30 ⟨(by decide +kernel), ?_⟩
  dsimp only
  rw [zKl 83 (by decide)]
  refine J_eq 84 (by decide +kernel) (C_nw rfl (by decide +kernel)) ?_
  refine vX9_init_35 ⟨cis (by decide +kernel) (by decide), ?_⟩
  refine J_eq 84 rfl (C_up (r' := 95) (j' := 3) (v' := 99) rfl (by decide +kernel) (by decide +kernel) (by decide +kernel)) ?_
  refine vX9_init_38 ⟨(by decide +kernel), ?_⟩
  dsimp only
  rw [zKl 84 (by decide)]
  refine J_eq 85 (by decide +kernel) (C_nw rfl (by decide +kernel)) ?_
  refine vX9_init_44 ⟨cis (by decide +kernel) (by decide), ?_⟩
  refine J_eq 85 rfl (C_up (r' := 95) (j' := 4) (v' := 100) rfl (by decide +kernel) (by decide +kernel) (by decide +kernel)) ?_
  refine vX9_init_47 ⟨cis (by decide +kernel) (by decide), ?_⟩
  refine J_eq 85 rfl (C_up (r' := 95) (j' := 6) (v' := (-1)) rfl (by decide +kernel) (by decide +kernel) (by decide +kernel)) ?_
  refine vX9_init_52 ⟨cis (by decide +kernel) (by decide), ?_⟩
  refine J_eq 85 rfl (C_up (r' := 95) (j' := 7) (v' := (-1)) rfl (by decide +kernel) (by decide +kernel) (by decide +kernel)) ?_
  refine vX9_init_57 ⟨(by decide +kernel), ?_⟩
  dsimp only
  rw [zKl 85 (by decide)]
  refine J_eq 86 (by decide +kernel) (C_nw rfl (by decide +kernel)) ?_
  refine vX9_init_63 ⟨cis (by decide +kernel) (by decide), ?_⟩
  refine J_eq 86 rfl (C_up (r' := 95) (j' := 17) (v' := 101) rfl (by decide +kernel) (by decide +kernel) (by decide +kernel)) ?_
  refine vX9_init_66 ⟨(by decide +kernel), ?_⟩
  dsimp only
  rw [zKl 86 (by decide)]
  refine J_eq 87 (by decide +kernel) (C_nw rfl (by decide +kernel)) ?_
  refine vX9_init_71 ⟨cis (by decide +kernel) (by decide), ?_⟩
  refine J_eq 87 rfl (C_up (r' := 95) (j' := 21) (v' := 102) rfl (by decide +kernel) (by decide +kernel) (by decide +kernel)) ?_
  refine vX9_init_74 ⟨(by decide +kernel), ?_⟩
  dsimp only
  rw [zKl 87 (by decide)]
  refine J_eq 88 (by decide +kernel) (C_nw rfl (by decide +kernel)) ?_
  refine vX9_init_80 ⟨cis (by decide +kernel) (by decide), ?_⟩
  refine J_eq 88 rfl (C_up (r' := 95) (j' := 22) (v' := 103) rfl (by decide +kernel) (by decide +kernel) (by decide +kernel)) ?_
  refine vX9_init_83 ⟨(by decide +kernel), ?_⟩
  dsimp only
  rw [zKl 88 (by decide)]
  refine J_eq 89 (by decide +kernel) (C_nw rfl (by decide +kernel)) ?_
  refine vX9_init_89 ⟨cis (by decide +kernel) (by decide), ?_⟩
  refine J_eq 89 rfl (C_up (r' := 95) (j' := 23) (v' := 104) rfl (by decide +kernel) (by decide +kernel) (by decide +kernel)) ?_
  refine vX9_init_92 ⟨(by decide +kernel), ?_⟩
  dsimp only
  rw [zKl 89 (by decide)]
  refine J_eq 90 (by decide +kernel) (C_nw rfl (by decide +kernel)) ?_
  refine vX9_init_98 ⟨cis (by decide +kernel) (by decide), ?_⟩
  refine J_eq 90 rfl (C_up (r' := 95) (j' := 24) (v' := 105) rfl (by decide +kernel) (by decide +kernel) (by decide +kernel)) ?_
  refine vX9_init_101 ⟨(by decide +kernel), ?_⟩
  dsimp only
  rw [zKl 90 (by decide)]
  refine J_eq 91 (by decide +kernel) (C_nw rfl (by decide +kernel)) ?_
  refine vX9_init_106 ⟨cis (by decide +kernel) (by decide), ?_⟩
  refine J_eq 91 rfl (C_up (r' := 95) (j' := 25) (v' := 106) rfl (by decide +kernel) (by decide +kernel) (by decide +kernel)) ?_
  refine vX9_init_109 ⟨(by decide +kernel), ?_⟩
  dsimp only
  rw [zKl 91 (by decide)]
  refine J_eq 92 (by decide +kernel) (C_nw rfl (by decide +kernel)) ?_
  refine vX9_init_114 ⟨cis (by decide +kernel) (by decide), ?_⟩
  refine J_eq 92 rfl (C_up (r' := 95) (j' := 26) (v' := 107) rfl (by decide +kernel) (by decide +kernel) (by decide +kernel)) ?_
  refine vX9_init_117 ⟨(by decide +kernel), ?_⟩
  dsimp only
  rw [zKl 92 (by decide)]
  refine J_eq 93 (by decide +kernel) (C_nw rfl (by decide +kernel)) ?_
  refine vX9_init_122 ⟨cis (by decide +kernel) (by decide), ?_⟩
  refine J_eq 93 rfl (C_up (r' := 95) (j' := 27) (v' := 108) rfl (by decide +kernel) (by decide +kernel) (by decide +kernel)) ?_
  refine vX9_init_125 ⟨(by decide +kernel), ?_⟩
  dsimp only
  rw [zKl 93 (by decide)]
  refine J_eq 94 (by decide +kernel) (C_nw rfl (by decide +kernel)) ?_
  refine vX9_init_130 ⟨cis (by decide +kernel) (by decide), ?_⟩
  refine J_eq 94 rfl (C_up (r' := 95) (j' := 30) (v' := 109) rfl (by decide +kernel) (by decide +kernel) (by decide +kernel)) ?_
  refine vX9_init_133 ⟨(by decide +kernel), ?_⟩
  dsimp only
  rw [zKl 94 (by decide)]
  refine J_eq 95 (by decide +kernel) (C_nw rfl (by decide +kernel)) ?_
  refine vX9_init_138 ⟨cis (by decide +kernel) (by decide), ?_⟩
  refine J_eq 95 rfl (C_up (r' := 95) (j' := 31) (v' := 110) rfl (by decide +kernel) (by decide +kernel) (by decide +kernel)) ?_
  refine vX9_init_141 ⟨cis (by decide +kernel) (by decide), ⟨13700, cis (by decide +kernel) (by decide +kernel), by decide, by decide⟩, ?_⟩
  refine J_eq 95 rfl (C_up (r' := 96) (j' := 14) (v' := 1) rfl (by decide +kernel) (by decide +kernel) (by decide +kernel)) ?_
  refine vX9_init_149 ⟨cis (by decide +kernel) (by decide), cis (by decide +kernel) (by decide), ?_⟩
  have hQ2 : xSv g D mX9_copy [xr (kwF kwTi 95 0).toNat, xr (kwF kwTi 95 1).toNat] (zK.take 95, kwF kwTi) Q := by
    rw [show kwF kwTi 95 0 = 96 from by decide +kernel, show kwF kwTi 95 1 = 97 from by decide +kernel]
    exact hQ
  exact hQ2
end CT
