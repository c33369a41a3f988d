theorem cnt_m {A : Nat → Int} (m : pM A) {p : Nat} : ∀ d, cnt A p ≤ cnt A (p + d)
  | 0 => Int.le_refl _
  | d + 1 => by
    have ih := cnt_m m (p := p) d
    have s := cnt_s m (p + d)
    have n := sX_nn (P := tcb A (p + d)) (v := fun _ => 1) (A 11).toNat (fun _ _ _ => by decide)
    show cnt A p ≤ cnt A (p + d + 1)
    omega
/-- the trades of person x among the first q, from lo up to hi -/
def sgm (f A : Nat → Int) (x : Nat) (lo hi : Int) (q : Nat) : Prop := (∀ y : Nat, lo ≤ (y : Int) → (y : Int) < hi → ∃ j : Nat, f y = (j : Int) ∧ (j : Int) < A 11 ∧ tch A j x) ∧ ∀ j : Nat, j < q → (j : Int) < A 11 → tch A j x → ∃ y : Nat, lo ≤ (y : Int) ∧ (y : Int) < hi ∧ f y = (j : Int)
theorem sgm_cong {f f' A : Nat → Int} {x : Nat} {lo hi : Int} {q : Nat} (h : ∀ y : Nat, (y : Int) < hi → f' y = f y) (s : sgm f A x lo hi q) : sgm f' A x lo hi q := by
  refine ⟨fun y y1 y2 => by rw [h y y2]; exact s.1 y y1 y2, fun j j1 j2 j3 => ?_⟩
  obtain ⟨y, y1, y2, y3⟩ := s.2 j j1 j2 j3
  exact ⟨y, y1, y2, by rw [h y y2]; exact y3⟩
section ST
variable {g : xG} {D : Nat} {h : xH} {A : Nat → Int}
/-- behind p persons -/
def stI (A : Nat → Int) (h h' : xH) (p : Nat) : Prop := fL h h' ∧ (h'.2 91 3 = 0 ∧ h'.2 78 8 = 10000 ∧ h'.2 78 9 = 0) ∧ (∀ x, x < p → h'.2 80 x = dbS A x) ∧ (∀ x, x < p → h'.2 86 x = cnt A x) ∧ ∀ x, x < p → sgm (h'.2 84) A x (cnt A x) (cnt A (x + 1)) 100
theorem s_start {Q : xH → Prop} (m : pM A) (B : rB A) (t : tK A h) (hQ : ∀ h', fL h h' → h'.2 91 3 = 0 → h'.2 78 8 = 10000 → h'.2 78 9 = 0 → (∀ p : Nat, (p : Int) < A 2 → h'.2 80 p = dbS A p) → (∀ j : Nat, (j : Int) < A 11 → h'.2 82 j = 0) → adj A h' → Q h') : zSv g (D + 2) mX3_start [xr 78, xi (nO A (-1) 7 (A 0) 10)] h Q := by
  have z := pM_z m
  obtain ⟨N, hN⟩ : ∃ n : Nat, A 2 = (n : Int) := ⟨(A 2).toNat, by omega⟩
  obtain ⟨T, hT⟩ : ∃ n : Nat, A 11 = (n : Int) := ⟨(A 11).toNat, by omega⟩
  have hT' : (A 11).toNat = T := by omega
  -- the last loop
  have L4 : ∀ (mm j : Nat) {h' : xH} {w1 w3 : xV}, j + mm = T → stI A h h' N → h'.2 86 N = cnt A N → (∀ x, x < j → h'.2 82 x = 0) → zJ g (D + 2) mX3_start 0 0 181 [xr 78, w1, xi j, w3] [] h' (x_qv Q) := by
    intro mm
    induction mm with
    | zero =>
      intro j h' w1 w3 e I h86 d
      refine zX3_start_181 ?_
      rw [(fL_tK I.1 t).2.1, hT]
      refine ⟨fun _ => zX3_start_211 (hQ h' I.1 I.2.1.1 I.2.1.2.1 I.2.1.2.2 (fun p hp => I.2.2.1 p (by omega)) (fun x hx => d x (by omega)) (fun p hp => ?_)), fun q => by omega⟩
      have e0 := I.2.2.2.1 p (by omega)
      have e1 : h'.2 86 (p + 1) = cnt A (p + 1) := by
        by_cases q : p + 1 < N
        · exact I.2.2.2.1 _ q
        · rw [show p + 1 = N by omega]; exact h86
      have s := I.2.2.2.2 p (by omega)
      rw [e0, e1]
      exact ⟨(cnt_b m p).1, cnt_m m 1, (cnt_b m (p + 1)).2, s.1, fun j hj ht => s.2 j (by omega) hj ht⟩
    | succ mm ih =>
      intro j h' w1 w3 e I h86 d
      refine zJ_sh (fun hs => ?_)
      have S : pR h' 81 82 11 40 := z_R hs rfl rfl rfl rfl rfl (by decide)
      refine zX3_start_181 ?_
      rw [(fL_tK I.1 t).2.1, hT]
      refine ⟨fun q => by omega, fun q => s_set S (by omega) (by omega) (by omega) (by omega) (fun h1 hs1 he => ?_)⟩
      rw [show ((0 : Int) * ((40 : Nat) : Int) + (j : Int)).toNat = j by omega] at he
      subst he
      rw [x32_id (by omega) (by omega), show (j : Int) + 1 = ((j + 1 : Nat) : Int) by omega]
      refine ih (j + 1) (by omega) ⟨fL_up I.1 (by omega), ?_⟩ ?_ (fun x hx => ?_)
      · (try dsimp only)
        rw [x_up_r (show 91 ≠ 82 by decide), x_up_r (show 78 ≠ 82 by decide), x_up_r (show 80 ≠ 82 by decide), x_up_r (show 86 ≠ 82 by decide), x_up_r (show 84 ≠ 82 by decide)]
        exact I.2
      · (try dsimp only); rw [x_up_r (by decide)]; exact h86
      · (try dsimp only)
        rw [x_up_k]
        by_cases q2 : x = j
        · rw [if_pos q2]
        · rw [if_neg q2]; exact d x (by omega)
  have L2 : ∀ (mm p : Nat) {h' : xH} {w3 : xV}, p + mm = N → stI A h h' p → h'.2 83 3 = cnt A p → zJ g (D + 2) mX3_start 0 0 30 [xr 78, xi (nO A (-1) 7 (A 0) 10), xi p, w3] [] h' (x_qv Q) := by
    intro mm
    induction mm with
    | zero =>
      intro p h' w3 e I hsz
      have : p = N := by omega
      subst this
      have t' := fL_tK I.1 t
      refine zX3_start_30 ?_
      rw [t'.1, hN]
      refine ⟨fun _ => zX3_start_154 ?_, fun q => by omega⟩
      refine zS_sh (fun hs => ?_)
      have BG : pR h' 85 86 31 1 := z_R hs rfl rfl rfl rfl rfl (by decide)
      rw [t'.1, hN, hsz]
      refine s_set BG (by omega) (by omega) (by omega) (by omega) (fun h1 hs1 he => ?_)
      rw [show ((p : Int) * ((1 : Nat) : Int) + 0).toNat = p by omega] at he
      subst he
      refine L4 T 0 (by omega) ⟨fL_up I.1 (by omega), ?_⟩ ?_ (fun x hx => by omega)
      · (try dsimp only)
        rw [x_up_r (show 91 ≠ 86 by decide), x_up_r (show 78 ≠ 86 by decide), x_up_r (show 80 ≠ 86 by decide), x_up_r (show 84 ≠ 86 by decide)]
        refine ⟨I.2.1, I.2.2.1, fun x hx => ?_, I.2.2.2.2⟩
        rw [x_up_j (by omega)]; exact I.2.2.2.1 x hx
      · (try dsimp only); rw [x_up_eq]
    | succ mm ih =>
      intro p h' w3 e I hsz
      have t' := fL_tK I.1 t
      have sb := dbS_b m B (p := p) (by omega)
      -- one person's trades
      have L3 : ∀ (kk q : Nat) {h2 : xH}, q + kk = T → fL h h2 → (h2.2 91 3 = 0 ∧ h2.2 78 8 = 10000 ∧ h2.2 78 9 = 0) → (∀ x, x < p + 1 → h2.2 80 x = dbS A x) → (∀ x, x < p + 1 → h2.2 86 x = cnt A x) → (∀ x, x < p → sgm (h2.2 84) A x (cnt A x) (cnt A (x + 1)) 100) → h2.2 83 3 = cnt A p + sX (tcb A p) (fun _ => 1) q → sgm (h2.2 84) A p (cnt A p) (cnt A p + sX (tcb A p) (fun _ => 1) q) q → zJ g (D + 2) mX3_start 0 0 85 [xr 78, xi (nO A (-1) 7 (A 0) 10), xi p, xi q] [] h2 (x_qv Q) := by
        intro kk
        induction kk with
        | zero =>
          intro q h2 e2 f c1 c2 c3 c4 c5 c6
          have : q = T := by omega
          subst this
          have cs := cnt_s m p
          rw [hT'] at cs
          rw [cs] at c5 c6
          refine zX3_start_85 ?_
          rw [(fL_tK f t).2.1, hT]
          refine ⟨fun _ => zX3_start_148 ?_, fun q => by omega⟩
          rw [x32_id (by omega) (by omega), show (p : Int) + 1 = ((p + 1 : Nat) : Int) by omega]
          refine ih (p + 1) (by omega) ⟨f, c1, c2, c3, fun x hx => ?_⟩ c5
          by_cases q2 : x = p
          · subst q2
            exact ⟨c6.1, fun j j1 j2 j3 => c6.2 j (by omega) j2 j3⟩
          · exact c4 x (by omega)
        | succ kk ih2 =>
          intro q h2 e2 f c1 c2 c3 c4 c5 c6
          have t2 := fL_tK f t
          have tq := t2.2.2.2 q (by omega)
          have r := tr_r m (j := q) (by omega)
          have ef : A (12530 + 3 * q) = (dbF A q : Int) := by unfold dbF; omega
          have et : A (12531 + 3 * q) = (dbT A q : Int) := by unfold dbT; omega
          have pre := sX_pre (P := tcb A p) (v := fun _ => 1) (k := q + 1) (T - (q + 1)) (fun _ _ => by decide)
          rw [show q + 1 + (T - (q + 1)) = T by omega] at pre
          have cs := cnt_s m p
          rw [hT'] at cs
          have cb := cnt_b m (p + 1)
          have cb0 := cnt_b m p
          have s0 := sX_nn (P := tcb A p) (v := fun _ => 1) q (fun _ _ _ => by decide)
          -- it is one of the person's
          have yes : tch A q p → zSi g (D + 1) mX5_add [xr 83, xi q, xi 0, xi 0] h2 (fun x3 h3 => zJ g (D + 2) mX3_start 0 0 85 [xr 78, xi (nO A (-1) 7 (A 0) 10), xi p, xi (x32 ((q : Int) + 1))] [] h3 (x_qv Q)) := by
            intro ht
            have ey : sX (tcb A p) (fun _ => 1) (q + 1) = sX (tcb A p) (fun _ => 1) q + 1 := sX_y (decide_eq_true ht)
            refine zS_sh (fun hs => ?_)
            have TO : pR h2 83 84 80 1 := z_R hs rfl rfl rfl rfl rfl (by decide)
            obtain ⟨n, hn⟩ : ∃ n : Nat, cnt A p + sX (tcb A p) (fun _ => 1) q = (n : Int) := ⟨(cnt A p + sX (tcb A p) (fun _ => 1) q).toNat, by omega⟩
            rw [hn] at c5 c6
            refine s_add1 TO c5 (by omega) (by decide) (fun h3 k1 k2 k3 k4 k5 => ?_)
            rw [x32_id (by omega) (by omega), show (q : Int) + 1 = ((q + 1 : Nat) : Int) by omega]
            have en : cnt A p + sX (tcb A p) (fun _ => 1) (q + 1) = (n : Int) + 1 := by omega
            refine ih2 (q + 1) (by omega) ⟨k1.trans f.1, fun x hx => by rw [k2 x (by omega) (by omega)]; exact f.2 x hx⟩ ?_ ?_ ?_ (fun x hx => ?_) (by rw [en]; exact k3) ?_
            · rw [k2 91 (by decide) (by decide), k2 78 (by decide) (by decide)]; exact c1
            · rw [k2 80 (by decide) (by decide)]; exact c2
            · rw [k2 86 (by decide) (by decide)]; exact c3
            · refine sgm_cong (fun y hy => k5 y ?_) (c4 x hx)
              have := cnt_m m (p := x + 1) (p - (x + 1))
              rw [show x + 1 + (p - (x + 1)) = p by omega] at this
              omega
            · rw [en]
              refine ⟨fun y y1 y2 => ?_, fun j j1 j2 j3 => ?_⟩
              · by_cases q2 : y = n
                · subst q2; exact ⟨q, k4, by omega, ht⟩
                · rw [k5 y q2]; exact c6.1 y y1 (by omega)
              · by_cases q2 : j = q
                · subst q2; exact ⟨n, by omega, by omega, k4⟩
                · obtain ⟨y, y1, y2, y3⟩ := c6.2 j (by omega) j2 j3
                  exact ⟨y, y1, by omega, by rw [k5 y (by omega)]; exact y3⟩
          have no : ¬ tch A q p → zJ g (D + 2) mX3_start 0 0 142 [xr 78, xi (nO A (-1) 7 (A 0) 10), xi p, xi q] [] h2 (x_qv Q) := by
            intro ht
            have ey : sX (tcb A p) (fun _ => 1) (q + 1) = sX (tcb A p) (fun _ => 1) q := sX_n (decide_eq_false ht)
            refine zX3_start_142 ?_
            rw [x32_id (by omega) (by omega), show (q : Int) + 1 = ((q + 1 : Nat) : Int) by omega]
            refine ih2 (q + 1) (by omega) f c1 c2 c3 c4 (by rw [ey]; exact c5) ?_
            rw [ey]
            refine ⟨c6.1, fun j j1 j2 j3 => c6.2 j ?_ j2 j3⟩
            have : j ≠ q := fun e => ht (e ▸ j3)
            omega
          refine zJ_sh (fun hs => ?_)
          have TR : pR h2 38 39 40 3 := z_R hs rfl rfl rfl rfl rfl (by decide)
          refine zX3_start_85 ?_
          rw [t2.2.1, hT]
          refine ⟨fun q => by omega, fun _ => s_get TR (by omega) (by omega) (by omega) (by omega) ?_⟩
          rw [show ((q : Int) * ((3 : Nat) : Int) + 0).toNat = q * 3 by omega, tq.1, ef]
          refine ⟨fun q2 => zX3_start_131 (yes (Or.inl (by omega))), fun q2 => s_get TR (by omega) (by omega) (by omega) (by omega) ?_⟩
          rw [show ((q : Int) * ((3 : Nat) : Int) + 1).toNat = q * 3 + 1 by omega, tq.2.1, et]
          exact ⟨fun q3 => no (fun ht => by rcases ht with a | a <;> omega), fun q3 => yes (Or.inr (by omega))⟩
      refine zJ_sh (fun hs => ?_)
      have R : pR h' 20 21 30 3 := z_R hs rfl rfl rfl rfl rfl (by decide)
      have S : pR h' 79 80 11 30 := z_R hs rfl rfl rfl rfl rfl (by decide)
      refine zX3_start_30 ?_
      rw [t'.1, hN]
      refine ⟨fun q => by omega, fun q => s_get R (by omega) (by omega) (by omega) (by omega) ?_⟩
      rw [show ((p : Int) * ((3 : Nat) : Int) + 2).toNat = p * 3 + 2 by omega, t'.2.2.1 p (by omega), show A (32 + 4 * p) * nO A (-1) 7 (A 0) 10 = dbS A p from rfl, x32_id (by omega) (by omega)]
      refine s_set S (by omega) (by omega) (by omega) (by omega) (fun h1 hs1 he => ?_)
      rw [show ((0 : Int) * ((30 : Nat) : Int) + (p : Int)).toNat = p by omega] at he
      have BG : pR h1 85 86 31 1 := z_R hs1 rfl rfl rfl rfl rfl (by decide)
      have o1 : ∀ x, x ≠ 80 → h1.2 x = h'.2 x := fun x hx => by rw [he]; (try dsimp only); rw [x_up_r hx]
      rw [o1 83 (by decide), hsz]
      refine s_set BG (by omega) (by omega) (by omega) (by omega) (fun h2 hs2 he2 => ?_)
      rw [show ((p : Int) * ((1 : Nat) : Int) + 0).toNat = p by omega] at he2
      have o2 : ∀ x, x ≠ 86 → h2.2 x = h1.2 x := fun x hx => by rw [he2]; (try dsimp only); rw [x_up_r hx]
      refine L3 T 0 (by omega) ⟨by rw [he2, he]; exact I.1.1, fun x hx => by rw [o2 x (by omega), o1 x (by omega)]; exact I.1.2 x hx⟩ ?_ (fun x hx => ?_) (fun x hx => ?_) (fun x hx => ?_) ?_ ?_
      · rw [o2 91 (by decide), o1 91 (by decide), o2 78 (by decide), o1 78 (by decide)]; exact I.2.1
      · rw [o2 80 (by decide), he]
        (try dsimp only)
        rw [x_up_k]
        by_cases q2 : x = p
        · rw [if_pos q2, q2]
        · rw [if_neg q2]; exact I.2.2.1 x (by omega)
      · rw [he2]
        (try dsimp only)
        rw [x_up_k]
        by_cases q2 : x = p
        · rw [if_pos q2, q2]
        · rw [if_neg q2, o1 86 (by decide)]; exact I.2.2.2.1 x (by omega)
      · rw [o2 84 (by decide), o1 84 (by decide)]; exact I.2.2.2.2 x hx
      · rw [o2 83 (by decide), o1 83 (by decide), hsz]; show cnt A p = cnt A p + 0; omega
      · refine ⟨fun y y1 y2 => ?_, fun j j1 => by omega⟩
        have y2 : (y : Int) < cnt A p + 0 := y2
        omega
  refine eX3_start (zX3_start_0 ?_)
  refine L2 N 0 (by omega) ⟨⟨rfl, fun x hx => ?_⟩, ?_, fun x hx => by omega, fun x hx => by omega, fun x hx => by omega⟩ ?_
  · (try dsimp only); rw [x_up_r (by omega), x_up_r (by omega), x_up_r (by omega), x_up_r (by omega)]
  · (try dsimp only)
    refine ⟨?_, ?_, ?_⟩
    · rw [x_up_r (by decide), x_up_r (by decide), x_up_r (by decide), x_up_eq]
    · rw [x_up_r (by decide), x_up_j (by decide), x_up_eq]
    · rw [x_up_r (by decide), x_up_eq]
  · (try dsimp only)
    rw [x_up_eq]
    unfold cnt
    rw [sX_0 _ (fun i _ hh => absurd (of_decide_eq_true hh) (by omega)), sX_0 _ (fun i _ hh => absurd (of_decide_eq_true hh) (by omega))]
    rfl
end ST
