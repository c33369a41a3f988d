/-! the class begins to read: a new act -/
section RST
variable {g : xG} {D : Nat} {b : Nat → Int} {n : Nat}
theorem zSv_x {M : Nat} {args : List xV} {h : xH} {Q : xH → Prop} (kk : zSh h → xSv g D M args h (fun h2 => zSh h2 ∧ Q h2)) : zSv g D M args h Q := fun hs => xS_mono (kk hs) (fun r h1 q => by
  rcases r with x | x | r | u
  · exact q.elim
  · exact q.elim
  · exact q.elim
  · exact q)
theorem x_is_app {h : xH} {K2 : List (Nat × Nat)} {C : Nat → Nat → Int} {r c N : Nat} (q : x_is h r c N) : x_is (h.1 ++ K2, C) r c N := ⟨q.1, by
  have := (List.getElem?_eq_some_iff.mp q.2).1
  show (h.1 ++ K2)[r - 16]? = _
  rw [List.getElem?_append_left this]; exact q.2⟩
theorem x_is_new {K1 : List (Nat × Nat)} {C : Nat → Nat → Int} {c N : Nat} : x_is (K1 ++ [(c, N)], C) (K1.length + 16) c N := ⟨by omega, by
  show (K1 ++ [(c, N)])[K1.length + 16 - 16]? = _
  rw [show K1.length + 16 - 16 = K1.length by omega, List.getElem?_append_right (Nat.le_refl _)]; simp⟩
theorem s_actInit {h1 : xH} {T : Nat} {Q : xH → Prop} (hs1 : zSh h1) (hT : T ≤ 301) (hQ : ∀ h2 : xH, h2.1 = h1.1 ++ [(0, 4), (5, 4), (10, 80), (10, T)] → (∀ q, q < h1.1.length + 16 → h2.2 q = h1.2 q) → h2.2 (h1.1.length + 16) 0 = ((h1.1.length + 16 + 1 : Nat) : Int) → h2.2 (h1.1.length + 16) 1 = ((h1.1.length + 16 + 3 : Nat) : Int) → h2.2 (h1.1.length + 16) 2 = 0 → h2.2 (h1.1.length + 16) 3 = 0 → h2.2 (h1.1.length + 16 + 1) 0 = 20 → h2.2 (h1.1.length + 16 + 1) 1 = 4 → h2.2 (h1.1.length + 16 + 1) 2 = ((h1.1.length + 16 + 2 : Nat) : Int) → h2.2 (h1.1.length + 16 + 1) 3 = 0 → Q h2) : zSv g (D + 2) mX0_init [xr (h1.1.length + 16), xi (T : Int)] (h1.1 ++ [(0, 4)], x_nw h1.2 (h1.1.length + 16)) Q := by
  have l95 : 95 ≤ h1.1.length := by
    obtain ⟨⟨Ka, e⟩, -⟩ := hs1
    rw [e, List.length_append]
    show 95 ≤ 95 + Ka.length
    omega
  refine zSv_x (fun hs => ?_)
  refine x_entry (x_mc_ok (by decide +kernel)) (Nat.le_of_ble_eq_true rfl) ?_
  have r0 : x_is (h1.1 ++ [(0, 4)], x_nw h1.2 (h1.1.length + 16)) (h1.1.length + 16) 0 4 := x_is_new
  have la : (h1.1 ++ [((0 : Nat), (4 : Nat))]).length = h1.1.length + 1 := by rw [List.length_append]; rfl
  have lb : (h1.1 ++ [((0 : Nat), (4 : Nat))] ++ [((5 : Nat), (4 : Nat))]).length = h1.1.length + 2 := by rw [List.length_append, la]; rfl
  refine vX0_init_0 ⟨⟨0, 4, r0⟩, by decide, ⟨5, 4, x_is_new⟩, by decide, ?_⟩
  dsimp only
  rw [la]
  refine x_entry (x_mc_ok (by decide +kernel)) (Nat.le_of_ble_eq_true rfl) ?_
  have r1 : x_is (h1.1 ++ [(0, 4)] ++ [(5, 4)], x_nw (x_nw h1.2 (h1.1.length + 16)) (h1.1.length + 1 + 16)) (h1.1.length + 1 + 16) 5 4 := by
    have := x_is_new (K1 := h1.1 ++ [(0, 4)]) (C := x_nw (x_nw h1.2 (h1.1.length + 16)) (h1.1.length + 1 + 16)) (c := 5) (N := 4)
    rw [la] at this
    exact this
  refine vX5_init_0 ⟨⟨5, 4, r1⟩, r1, r1, ?_⟩
  rw [show max 0 (x32 (20 * 4)) = 80 by decide, show (80 : Int).toNat = 80 by decide]
  refine ⟨⟨by decide, by decide, by decide, by decide⟩, x_is_app r1, ?_⟩
  dsimp only
  rw [lb]
  rw [show max 0 (T : Int) = (T : Int) by omega, show ((T : Int)).toNat = T by omega]
  have lc : (h1.1 ++ [((0 : Nat), (4 : Nat))] ++ [((5 : Nat), (4 : Nat))] ++ [((10 : Nat), (80 : Nat))]).length = h1.1.length + 3 := by rw [List.length_append, lb]; rfl
  rw [lc]
  have n0 : ∀ q, q ≠ h1.1.length + 16 → q ≠ h1.1.length + 1 + 16 → q ≠ h1.1.length + 2 + 16 → q ≠ h1.1.length + 3 + 16 → ∀ (C : Nat → Nat → Int), C = x_up (x_nw (x_up (x_up (x_nw (x_up (x_up (x_nw (x_nw h1.2 (h1.1.length + 16)) (h1.1.length + 1 + 16)) (h1.1.length + 1 + 16) 0 20) (h1.1.length + 1 + 16) 1 4) (h1.1.length + 2 + 16)) (h1.1.length + 1 + 16) 2 ((h1.1.length + 2 + 16 : Nat) : Int)) (h1.1.length + 16) 0 ((h1.1.length + 1 + 16 : Nat) : Int)) (h1.1.length + 3 + 16)) (h1.1.length + 16) 1 ((h1.1.length + 3 + 16 : Nat) : Int) → C q = h1.2 q := by
    intro q q0 q1 q2 q3 C hC
    rw [hC, x_up_r q0]
    unfold x_nw
    rw [if_neg q3, x_up_r q0, x_up_r q1, if_neg q2, x_up_r q1, x_up_r q1, if_neg q1, if_neg q0]
  have r2 : x_is (h1.1 ++ [(0, 4)] ++ [(5, 4)] ++ [(10, 80)], x_up (x_nw (x_up (x_up (x_nw (x_nw h1.2 (h1.1.length + 16)) (h1.1.length + 1 + 16)) (h1.1.length + 1 + 16) 0 20) (h1.1.length + 1 + 16) 1 4) (h1.1.length + 2 + 16)) (h1.1.length + 1 + 16) 2 ((h1.1.length + 2 + 16 : Nat) : Int)) (h1.1.length + 16) 0 4 := by
    refine x_is_app (h := (h1.1 ++ [(0, 4)] ++ [(5, 4)], h1.2)) (x_is_app (h := (h1.1 ++ [(0, 4)], h1.2)) r0)
  refine ⟨r2, ⟨by omega, by omega, by decide, ?_⟩, x_is_app r2, ?_⟩
  · show 0 + 4 + x_bs 53 + T ≤ x_bs 0
    have e1 : x_bs 53 = 1400 := by decide +kernel
    have e2 : x_bs 0 = 1800 := by decide +kernel
    omega
  have ek : h1.1 ++ [((0 : Nat), (4 : Nat))] ++ [((5 : Nat), (4 : Nat))] ++ [((10 : Nat), (80 : Nat))] ++ [((10 : Nat), T)] = h1.1 ++ [(0, 4), (5, 4), (10, 80), (10, T)] := by simp [List.append_assoc]
  refine ⟨⟨?_, fun q j v hv => ?_⟩, hQ _ ek (fun q hq => n0 q (by omega) (by omega) (by omega) (by omega) _ rfl) ?_ ?_ ?_ ?_ ?_ ?_ ?_ ?_⟩
  · obtain ⟨⟨Ka, e⟩, -⟩ := hs1
    exact ⟨Ka ++ [(0, 4), (5, 4), (10, 80), (10, T)], by dsimp only; rw [ek, e, List.append_assoc]⟩
  · have := z_pt_lt hv
    dsimp only
    rw [n0 q (by omega) (by omega) (by omega) (by omega) _ rfl]
    exact hs1.2 q j v hv
  all_goals dsimp only
  · rw [x_up_j (by decide)]
    unfold x_nw
    rw [if_neg (by omega), x_up_eq, show h1.1.length + 1 + 16 = h1.1.length + 16 + 1 by omega]
  · rw [x_up_eq, show h1.1.length + 3 + 16 = h1.1.length + 16 + 3 by omega]
  · rw [x_up_j (by decide)]
    unfold x_nw
    rw [if_neg (by omega), x_up_j (by decide), x_up_r (by omega), if_neg (by omega), x_up_r (by omega), x_up_r (by omega), if_neg (by omega), if_pos rfl]
  · rw [x_up_j (by decide)]
    unfold x_nw
    rw [if_neg (by omega), x_up_j (by decide), x_up_r (by omega), if_neg (by omega), x_up_r (by omega), x_up_r (by omega), if_neg (by omega), if_pos rfl]
  all_goals rw [show h1.1.length + 16 + 1 = h1.1.length + 1 + 16 by omega]
  · rw [x_up_r (by omega)]
    unfold x_nw
    rw [if_neg (by omega), x_up_r (by omega), x_up_j (by decide), if_neg (by omega), x_up_j (by decide), x_up_eq]
  · rw [x_up_r (by omega)]
    unfold x_nw
    rw [if_neg (by omega), x_up_r (by omega), x_up_j (by decide), if_neg (by omega), x_up_eq]
  · rw [x_up_r (by omega)]
    unfold x_nw
    rw [if_neg (by omega), x_up_r (by omega), x_up_eq, show h1.1.length + 2 + 16 = h1.1.length + 16 + 2 by omega]
  · rw [x_up_r (by omega)]
    unfold x_nw
    rw [if_neg (by omega), x_up_r (by omega), x_up_j (by decide), if_neg (by omega), x_up_j (by decide), x_up_j (by decide), if_pos rfl]
/-- the tokens, the new act -/
theorem s_rstart {h : xH} {Q : xH → Prop} (Z : cB h b n) (hs : zSh h) (hQ : ∀ (h3 : xH) (E : Nat), h3.1 = h.1 ++ [(0, 4), (5, 4), (10, 80), (10, E + 1)] → (∀ q, q < h.1.length + 16 → q ≠ 43 → q ≠ 45 → q ≠ 46 → q ≠ 47 → q ≠ 74 → h3.2 q = h.2 q) → (∀ j, j ≠ 5 → h3.2 43 j = h.2 43 j) → rdC b n E (h.1.length + 16) h3 → rdW E (h.1.length + 16) h3 0 [] → rdK (h.1.length + 16) h3 [] → Q h3) : zSv g (D + 7) mX4_start [xr 74] h Q := by
  have l95 : 95 ≤ h.1.length := by
    obtain ⟨⟨Ka, e⟩, -⟩ := hs
    rw [e, List.length_append]
    show 95 ≤ 95 + Ka.length
    omega
  refine eX4_start (zX4_start_0 (s_split Z (fun h1 E f1 t1 => ?_)))
  have el : h1.1.length = h.1.length := by rw [f1.1]
  refine ⟨by decide, ⟨0, 4, x_is_new⟩, by decide, ?_⟩
  have n5 : x_nw h1.2 (h1.1.length + 16) 43 5 = ((E + 1 : Nat) : Int) := by
    unfold x_nw
    rw [if_neg (by omega), t1.1]; rfl
  rw [n5]
  have hE := t1.2.1
  have hn := Z.2.1
  have hs1 : zSh h1 := by
    refine ⟨by rw [f1.1]; exact hs.1, fun q j v hv => ?_⟩
    by_cases e43 : q = 43
    · subst e43
      have hj : j ≠ 5 := by
        intro z; subst z
        have : z_pt 43 5 = none := by decide +kernel
        rw [this] at hv; cases hv
      rw [f1.2.2 j hj]; exact hs.2 _ _ _ hv
    · by_cases e45 : q = 45
      · subst e45
        unfold z_pt at hv
        have : zPr.getD (45 - 16) [] = [] := by decide +kernel
        rw [this] at hv; cases hv
      · by_cases e46 : q = 46
        · subst e46
          unfold z_pt at hv
          have : zPr.getD (46 - 16) [] = [] := by decide +kernel
          rw [this] at hv; cases hv
        · by_cases e47 : q = 47
          · subst e47
            unfold z_pt at hv
            have : zPr.getD (47 - 16) [] = [] := by decide +kernel
            rw [this] at hv; cases hv
          · rw [f1.2.1 q e43 e45 e46 e47]; exact hs.2 _ _ _ hv
  refine s_actInit hs1 (by omega) (fun h2 k2 o2 a0 a1 a2 a3 c0 c1 c2 c3 => ?_)
  rw [el] at o2 a0 a1 a2 a3 c0 c1 c2 c3 ⊢
  have u : ∀ q, q ≠ 74 → x_up (x_up (x_up (x_up h2.2 74 2 ((h.1.length + 16 : Nat) : Int)) 74 1 0) 74 3 0) 74 4 (-1) q = h2.2 q := fun q hq => by rw [x_up_r hq, x_up_r hq, x_up_r hq, x_up_r hq]
  have kk : h2.1 = h.1 ++ [(0, 4), (5, 4), (10, 80), (10, E + 1)] := by rw [k2, f1.1]
  have gx : ∀ (j : Nat), j < 4 → (h.1 ++ [((0 : Nat), (4 : Nat)), (5, 4), (10, 80), (10, E + 1)])[h.1.length + j]? = ([((0 : Nat), (4 : Nat)), (5, 4), (10, 80), (10, E + 1)] : List (Nat × Nat))[j]? := fun j hj => by
    rw [List.getElem?_append_right (by omega), show h.1.length + j - h.1.length = j by omega]
  have w1 : rdW E (h.1.length + 16) (h2.1, x_up (x_up (x_up (x_up h2.2 74 2 ((h.1.length + 16 : Nat) : Int)) 74 1 0) 74 3 0) 74 4 (-1)) 0 [] := by
    refine ⟨?_, ?_, ?_, Nat.zero_le _, Nat.le_refl _, ?_, fun j hj => absurd hj (Nat.not_lt_zero j)⟩ <;> dsimp only
    · rw [x_up_j (by decide), x_up_j (by decide), x_up_eq]; rfl
    · rw [x_up_j (by decide), x_up_eq]
    · rw [x_up_eq]
    · rw [u _ (by omega)]; exact a3
  refine hQ _ E kk (fun q q0 q1 q2 q3 q4 q5 => ?_) (fun j hj => ?_) ⟨⟨?_, hE, t1.2.2.1, fun i hi => ?_, t1.2.2.2.2⟩, hn, Z.2.2.1, by omega, ?_, ?_, ?_, ?_, ?_, ?_, ?_, ?_, ?_, ?_⟩ w1 ⟨?_, by decide, fun c hc => absurd hc (Nat.not_lt_zero c), fun k hk => ?_⟩ <;> dsimp only
  · rw [u q q5, o2 q q0]; exact f1.2.1 q q1 q2 q3 q4
  · rw [u 43 (by decide), o2 43 (by omega)]; exact f1.2.2 j hj
  · rw [u 43 (by decide), o2 43 (by omega)]; exact t1.1
  · rw [u 45 (by decide), u 46 (by decide), u 47 (by decide), o2 45 (by omega), o2 46 (by omega), o2 47 (by omega)]; exact t1.2.2.2.1 i hi
  · rw [kk, show h.1.length + 16 - 16 = h.1.length + 0 by omega, gx 0 (by decide)]; rfl
  · rw [kk, show h.1.length + 16 + 1 - 16 = h.1.length + 1 by omega, gx 1 (by decide)]; rfl
  · rw [kk, show h.1.length + 16 + 2 - 16 = h.1.length + 2 by omega, gx 2 (by decide)]; rfl
  · rw [kk, show h.1.length + 16 + 3 - 16 = h.1.length + 3 by omega, gx 3 (by decide)]; rfl
  · rw [x_up_j (by decide), x_up_j (by decide), x_up_j (by decide), x_up_eq]
  · rw [u _ (by omega)]; exact a0
  · rw [u _ (by omega)]; exact a1
  · rw [u _ (by omega)]; exact c0
  · rw [u _ (by omega)]; exact c1
  · rw [u _ (by omega)]; exact c2
  · rw [u _ (by omega)]; exact c3
  · rw [u _ (by omega), a2, tb_0]
    exact ⟨fun z => absurd z (by decide), fun z => by obtain ⟨c, hc, -⟩ := z; exact absurd hc (by simp)⟩
end RST
