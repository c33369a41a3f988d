/-! the class's looms -/
/-- stock and what was sent: supplies go to the kept webs, and w pounds to person x besides -/
def kI (A : Nat → Int) (a : Nat) (keep : Nat → Bool) (k : Nat) (w : Int) (x : Nat) (st sn : Nat → Int) : Prop := (∀ p : Nat, (p : Int) < A 2 → 0 ≤ st p ∧ st p ≤ 9801) ∧ (∀ j : Nat, (j : Int) < A 11 → 0 ≤ sn j ∧ sn j ≤ dbC A j) ∧ ∀ X : Nat → Bool, sX (fun i => keep i && X (dbO A a i)) (fun i => nd A (a + i)) k + bL w (X x) + sX X st (A 2).toNat + sX (fun j => X (dbF A j)) sn (A 11).toNat = sX X (dbS A) (A 2).toNat + sX (fun j => X (dbT A j)) sn (A 11).toNat
theorem kI_can {A : Nat → Int} {a k x : Nat} {keep : Nat → Bool} {st sn : Nat → Int} (K : kI A a keep k 0 x st sn) : dbX A a keep k := by
  intro X
  have e := K.2.2 X
  rw [show bL 0 (X x) = 0 by unfold bL; split <;> rfl] at e
  have s0 : 0 ≤ sX X st (A 2).toNat := sX_nn _ (fun i hi _ => (K.1 i (by omega)).1)
  have r := sX_rel (P1 := fun j => X (dbT A j)) (v1 := sn) (P2 := fun _ => false) (v2 := sn) (P3 := fun j => X (dbT A j) && !X (dbF A j)) (v3 := dbC A) (P4 := fun j => X (dbF A j)) (v4 := sn) (A 11).toNat (fun i hi => by
    have := K.2.1 i (by omega)
    cases X (dbT A i) <;> cases X (dbF A i) <;> simp <;> omega)
  rw [sX_0 (P := fun _ => false) (v := sn) _ (fun i _ h => absurd h (by decide))] at r
  omega
/-- nothing more can come: persons lack -/
theorem kI_stuck {A : Nat → Int} {a k x : Nat} {keep keep' : Nat → Bool} {st sn : Nat → Int} {w : Int} {R : Nat → Bool} (K : kI A a keep k w x st sn) (hx : R x = true) (hw : w < nd A (a + k)) (ho : dbO A a k = x) (hk : ∀ i, i < k → keep' i = keep i) (hk1 : keep' k = true) (r1 : ∀ p : Nat, (p : Int) < A 2 → R p = true → st p ≤ 0) (r2 : ∀ j : Nat, (j : Int) < A 11 → R (dbT A j) = true → R (dbF A j) = false → dbC A j ≤ sn j) (r3 : ∀ j : Nat, (j : Int) < A 11 → R (dbF A j) = true → R (dbT A j) = false → sn j ≤ 0) : ¬ dbX A a keep' (k + 1) := by
  intro C
  have c := C R
  have e := K.2.2 R
  rw [hx, show bL w true = w from rfl] at e
  have c2 : sX (fun i => keep' i && R (dbO A a i)) (fun i => nd A (a + i)) (k + 1) = sX (fun i => keep' i && R (dbO A a i)) (fun i => nd A (a + i)) k + nd A (a + k) := sX_y (by (try dsimp only); rw [hk1, ho, hx]; rfl)
  have c3 : sX (fun i => keep' i && R (dbO A a i)) (fun i => nd A (a + i)) k = sX (fun i => keep i && R (dbO A a i)) (fun i => nd A (a + i)) k := sX_cong k (fun i hi => ⟨by rw [hk i hi], rfl⟩)
  rw [c2, c3] at c
  have s0 : sX R st (A 2).toNat = 0 := sX_0 _ (fun i hi h => by
    have := r1 i (by omega) h
    have := (K.1 i (by omega)).1
    omega)
  have r := sX_rel (P3 := fun j => R (dbT A j)) (v3 := sn) (P4 := fun _ => false) (v4 := sn) (P1 := fun j => R (dbT A j) && !R (dbF A j)) (v1 := dbC A) (P2 := fun j => R (dbF A j)) (v2 := sn) (A 11).toNat (fun i hi => by
    have := K.2.1 i (by omega)
    have q2 := r2 i (by omega)
    have q3 := r3 i (by omega)
    cases t : R (dbT A i) <;> cases f : R (dbF A i) <;> simp
    · have := q3 f t; omega
    · have := q2 t f; omega)
  rw [sX_0 (P := fun _ => false) (v := sn) _ (fun i _ h => absurd h (by decide))] at r
  omega
/-- the whole web is woven -/
theorem kI_done {A : Nat → Int} {a k x : Nat} {keep keep' : Nat → Bool} {st sn : Nat → Int} (K : kI A a keep k (nd A (a + k)) x st sn) (ho : dbO A a k = x) (hk : ∀ i, i < k → keep' i = keep i) (hk1 : keep' k = true) : kI A a keep' (k + 1) 0 x st sn := by
  refine ⟨K.1, K.2.1, fun X => ?_⟩
  have e := K.2.2 X
  rw [show bL 0 (X x) = 0 by unfold bL; split <;> rfl]
  have c3 : sX (fun i => keep' i && X (dbO A a i)) (fun i => nd A (a + i)) k = sX (fun i => keep i && X (dbO A a i)) (fun i => nd A (a + i)) k := sX_cong k (fun i hi => ⟨by rw [hk i hi], rfl⟩)
  have c2 : sX (fun i => keep' i && X (dbO A a i)) (fun i => nd A (a + i)) (k + 1) = sX (fun i => keep' i && X (dbO A a i)) (fun i => nd A (a + i)) k + bL (nd A (a + k)) (X x) := by
    show _ + (if (keep' k && X (dbO A a k)) = true then nd A (a + k) else 0) = _
    rw [hk1, ho, Bool.true_and]; rfl
  rw [c2, c3]; omega
/-- a web left out -/
theorem kI_out {A : Nat → Int} {a k x y : Nat} {keep keep' : Nat → Bool} {st sn : Nat → Int} (K : kI A a keep k 0 x st sn) (hk : ∀ i, i < k → keep' i = keep i) (hk1 : keep' k = false) : kI A a keep' (k + 1) 0 y st sn := by
  refine ⟨K.1, K.2.1, fun X => ?_⟩
  have e := K.2.2 X
  rw [show bL 0 (X x) = 0 by unfold bL; split <;> rfl] at e
  rw [show bL 0 (X y) = 0 by unfold bL; split <;> rfl]
  have c3 : sX (fun i => keep' i && X (dbO A a i)) (fun i => nd A (a + i)) k = sX (fun i => keep i && X (dbO A a i)) (fun i => nd A (a + i)) k := sX_cong k (fun i hi => ⟨by rw [hk i hi], rfl⟩)
  have c2 : sX (fun i => keep' i && X (dbO A a i)) (fun i => nd A (a + i)) (k + 1) = sX (fun i => keep' i && X (dbO A a i)) (fun i => nd A (a + i)) k := sX_n (by (try dsimp only); rw [hk1]; rfl)
  rw [c2, c3]; omega
/-- what the looms read of the ledger -/
def tK (A : Nat → Int) (h : xH) : Prop := h.2 20 3 = A 2 ∧ h.2 38 3 = A 11 ∧ (∀ p : Nat, (p : Int) < A 2 → h.2 21 (p * 3 + 2) = A (32 + 4 * p)) ∧ ∀ j : Nat, (j : Int) < A 11 → h.2 39 (j * 3) = A (12530 + 3 * j) ∧ h.2 39 (j * 3 + 1) = A (12531 + 3 * j) ∧ h.2 39 (j * 3 + 2) = A (12532 + 3 * j)
theorem tK_inv {h : xH} (I : zInv h) : tK (h.2 96) h := by
  refine ⟨((I.2.2.1.1 1 (by decide)) (by decide)).1, ((I.2.2.1.1 10 (by decide)) (by decide)).1, fun p hp => ?_, fun j hj => ?_⟩
  · have c2 : h.2 21 (p * 3 + 2) = h.2 96 (30 + 4 * p + 2) := ((I.2.2.1.1 1 (by decide)) (by decide)).2 p hp (2, 2) (by decide)
    rw [show 30 + 4 * p + 2 = 32 + 4 * p by omega] at c2
    exact c2
  · have cc := ((I.2.2.1.1 10 (by decide)) (by decide)).2 j hj
    have c0 : h.2 39 (j * 3 + 0) = h.2 96 (12530 + 3 * j + 0) := cc (0, 0) (by decide)
    have c1 : h.2 39 (j * 3 + 1) = h.2 96 (12530 + 3 * j + 1) := cc (1, 1) (by decide)
    have c2 : h.2 39 (j * 3 + 2) = h.2 96 (12530 + 3 * j + 2) := cc (2, 2) (by decide)
    rw [show 12530 + 3 * j + 0 = 12530 + 3 * j by omega] at c0
    rw [show 12530 + 3 * j + 1 = 12531 + 3 * j by omega] at c1
    rw [show 12530 + 3 * j + 2 = 12532 + 3 * j by omega] at c2
    exact ⟨c0, c1, c2⟩
def fL (h h' : xH) : Prop := h'.1 = h.1 ∧ ∀ r, ¬ (78 ≤ r ∧ r ≤ 92) → h'.2 r = h.2 r
theorem fL_refl (h : xH) : fL h h := ⟨rfl, fun _ _ => rfl⟩
theorem fL_trans {h h1 h2 : xH} (a : fL h h1) (b : fL h1 h2) : fL h h2 := ⟨b.1.trans a.1, fun r hr => (b.2 r hr).trans (a.2 r hr)⟩
theorem fL_tK {A : Nat → Int} {h h' : xH} (f : fL h h') (t : tK A h) : tK A h' := by
  unfold tK
  rw [f.2 20 (by omega), f.2 38 (by omega), f.2 21 (by omega), f.2 39 (by omega)]
  exact t
theorem fL_up {h h' : xH} {r j : Nat} {v : Int} (f : fL h h') (hr : 78 ≤ r ∧ r ≤ 92) : fL h (h'.1, x_up h'.2 r j v) := ⟨f.1, fun q hq => by (try dsimp only); rw [x_up_r (by omega)]; exact f.2 q hq⟩
section LO
variable {g : xG} {D : Nat} {h : xH} {A : Nat → Int}
theorem s_otherOf {j p : Nat} {Q : Int → xH → Prop} (m : pM A) (t : tK A h) (hj : (j : Int) < A 11) (hQ : Q (((if dbF A j = p then dbT A j else dbF A j : Nat) : Int)) h) : zSi g (D + 1) mX3_otherOf [xr 78, xi j, xi p] h Q := by
  refine zS_sh (fun hs => ?_)
  have z := pM_z m
  have r := tr_r m hj
  have c := t.2.2.2 j hj
  have T : pR h 38 39 40 3 := z_R hs rfl rfl rfl rfl rfl (by decide)
  have ef : A (12530 + 3 * j) = (dbF A j : Int) := by unfold dbF; omega
  have et : A (12531 + 3 * j) = (dbT A j : Int) := by unfold dbT; omega
  refine eX3_otherOf (zX3_otherOf_0 (s_get T (by omega) (by omega) (by omega) (by omega) ?_))
  rw [show ((j : Int) * ((3 : Nat) : Int) + 0).toNat = j * 3 by omega, c.1, ef]
  refine ⟨fun q => zX3_otherOf_33 ?_, fun q => s_get T (by omega) (by omega) (by omega) (by omega) ?_⟩
  · rw [if_neg (by omega)] at hQ; exact hQ
  · rw [show ((j : Int) * ((3 : Nat) : Int) + 1).toNat = j * 3 + 1 by omega, c.2.1, et]
    rw [if_pos (by omega)] at hQ; exact hQ
theorem s_roomFrom {r j p : Nat} {Q : Int → xH → Prop} (m : pM A) (t : tK A h) (hr : r < 11) (hj : (j : Int) < A 11) (hb : 0 ≤ h.2 82 (40 * r + j) ∧ h.2 82 (40 * r + j) ≤ 9999) (hQ : Q (if dbF A j = p then dbC A j - h.2 82 (40 * r + j) else h.2 82 (40 * r + j)) h) : zSi g (D + 1) mX3_roomFrom [xr 78, xi r, xi j, xi p] h Q := by
  refine zS_sh (fun hs => ?_)
  have z := pM_z m
  have rr := tr_r m hj
  have c := t.2.2.2 j hj
  have T : pR h 38 39 40 3 := z_R hs rfl rfl rfl rfl rfl (by decide)
  have S : pR h 81 82 11 40 := z_R hs rfl rfl rfl rfl rfl (by decide)
  have ef : A (12530 + 3 * j) = (dbF A j : Int) := by unfold dbF; omega
  refine eX3_roomFrom (zX3_roomFrom_0 (s_get S (by omega) (by omega) (by omega) (by omega) (s_get T (by omega) (by omega) (by omega) (by omega) ?_)))
  rw [show ((j : Int) * ((3 : Nat) : Int) + 0).toNat = j * 3 by omega, c.1, ef, show ((r : Int) * ((40 : Nat) : Int) + (j : Int)).toNat = 40 * r + j by omega]
  refine ⟨fun q => zX3_roomFrom_45 ?_, fun q => s_get T (by omega) (by omega) (by omega) (by omega) ?_⟩
  · rw [if_neg (by omega)] at hQ; exact hQ
  · have e2 : A (12532 + 3 * j) = dbC A j := rfl
    rw [show ((j : Int) * ((3 : Nat) : Int) + 2).toNat = j * 3 + 2 by omega, c.2.2, x32_id (by omega) (by omega), e2]
    rw [if_pos (by omega)] at hQ; exact hQ
theorem s_standAs {r : Nat} {Q : xH → Prop} (m : pM A) (t : tK A h) (hr : r < 10) (hQ : ∀ h', h'.1 = h.1 → (∀ q, q ≠ 80 → q ≠ 82 → h'.2 q = h.2 q) → (∀ i, ¬ (30 * (r + 1) ≤ i ∧ i < 30 * (r + 1) + 30) → h'.2 80 i = h.2 80 i) → (∀ i, ¬ (40 * (r + 1) ≤ i ∧ i < 40 * (r + 1) + 40) → h'.2 82 i = h.2 82 i) → (∀ p : Nat, (p : Int) < A 2 → h'.2 80 (30 * (r + 1) + p) = h.2 80 (30 * r + p)) → (∀ j : Nat, (j : Int) < A 11 → h'.2 82 (40 * (r + 1) + j) = h.2 82 (40 * r + j)) → Q h') : zSv g (D + 1) mX3_standAs [xr 78, xi r] h Q := by
  have z := pM_z m
  obtain ⟨n, hn⟩ : ∃ n : Nat, A 2 = (n : Int) := ⟨(A 2).toNat, by omega⟩
  obtain ⟨tn, htn⟩ : ∃ n : Nat, A 11 = (n : Int) := ⟨(A 11).toNat, by omega⟩
  have L2 : ∀ (mm j : Nat) {h' : xH}, j + mm = tn → h'.1 = h.1 → (∀ q, q ≠ 80 → q ≠ 82 → h'.2 q = h.2 q) → (∀ i, ¬ (30 * (r + 1) ≤ i ∧ i < 30 * (r + 1) + 30) → h'.2 80 i = h.2 80 i) → (∀ i, ¬ (40 * (r + 1) ≤ i ∧ i < 40 * (r + 1) + 40) → h'.2 82 i = h.2 82 i) → (∀ p : Nat, (p : Int) < A 2 → h'.2 80 (30 * (r + 1) + p) = h.2 80 (30 * r + p)) → (∀ x : Nat, x < j → h'.2 82 (40 * (r + 1) + x) = h.2 82 (40 * r + x)) → zJ g (D + 1) mX3_standAs 0 0 44 [xr 78, xi r, xi j] [] h' (x_qv Q) := by
    intro mm
    induction mm with
    | zero =>
      intro j h' e e1 e2 e3 e4 e5 e6
      refine zX3_standAs_44 ?_
      rw [e2 38 (by decide) (by decide), t.2.1, htn]
      exact ⟨fun _ => zX3_standAs_84 (hQ h' e1 e2 e3 e4 e5 (fun x hx => e6 x (by omega))), fun q => by omega⟩
    | succ mm ih =>
      intro j h' e e1 e2 e3 e4 e5 e6
      refine zJ_sh (fun hs => ?_)
      have S : pR h' 81 82 11 40 := z_R hs rfl rfl rfl rfl rfl (by decide)
      refine zX3_standAs_44 ?_
      rw [e2 38 (by decide) (by decide), t.2.1, htn]
      refine ⟨fun q => by omega, fun q => s_get S (by omega) (by omega) (by omega) (by omega) ?_⟩
      rw [show ((r : Int) * ((40 : Nat) : Int) + (j : Int)).toNat = 40 * r + j by omega, x32_id (show -2147483648 ≤ (r : Int) + 1 by omega) (by omega), x32_id (show -2147483648 ≤ (j : Int) + 1 by omega) (by omega), show (r : Int) + 1 = ((r + 1 : Nat) : Int) by omega, show (j : Int) + 1 = ((j + 1 : Nat) : Int) by omega]
      refine s_set S (by omega) (by omega) (by omega) (by omega) (fun h1 hs1 he => ?_)
      subst he
      rw [show (((r + 1 : Nat) : Int) * ((40 : Nat) : Int) + (j : Int)).toNat = 40 * (r + 1) + j by omega]
      refine ih (j + 1) (by omega) e1 (fun q q1 q2 => ?_) (fun i hi => ?_) (fun i hi => ?_) (fun p hp => ?_) (fun x hx => ?_)
      · (try dsimp only); rw [x_up_r q2]; exact e2 q q1 q2
      · (try dsimp only); rw [x_up_r (by decide)]; exact e3 i hi
      · (try dsimp only); rw [x_up_j (by omega)]; exact e4 i hi
      · (try dsimp only); rw [x_up_r (by decide)]; exact e5 p hp
      · (try dsimp only)
        rw [x_up_k]
        by_cases q3 : x = j
        · subst q3; rw [if_pos rfl, e4 _ (by omega)]
        · rw [if_neg (by omega)]; exact e6 x (by omega)
  have L1 : ∀ (mm p : Nat) {h' : xH}, p + mm = n → h'.1 = h.1 → (∀ q, q ≠ 80 → h'.2 q = h.2 q) → (∀ i, ¬ (30 * (r + 1) ≤ i ∧ i < 30 * (r + 1) + 30) → h'.2 80 i = h.2 80 i) → (∀ x : Nat, x < p → h'.2 80 (30 * (r + 1) + x) = h.2 80 (30 * r + x)) → zJ g (D + 1) mX3_standAs 0 0 2 [xr 78, xi r, xi p] [] h' (x_qv Q) := by
    intro mm
    induction mm with
    | zero =>
      intro p h' e e1 e2 e3 e5
      refine zX3_standAs_2 ?_
      rw [e2 20 (by decide), t.1, hn]
      exact ⟨fun _ => zX3_standAs_42 (L2 tn 0 (by omega) e1 (fun q q1 q2 => e2 q q1) e3 (fun i hi => by rw [e2 82 (by decide)]) (fun x hx => e5 x (by omega)) (fun x hx => by omega)), fun q => by omega⟩
    | succ mm ih =>
      intro p h' e e1 e2 e3 e5
      refine zJ_sh (fun hs => ?_)
      have S : pR h' 79 80 11 30 := z_R hs rfl rfl rfl rfl rfl (by decide)
      refine zX3_standAs_2 ?_
      rw [e2 20 (by decide), t.1, hn]
      refine ⟨fun q => by omega, fun q => s_get S (by omega) (by omega) (by omega) (by omega) ?_⟩
      rw [show ((r : Int) * ((30 : Nat) : Int) + (p : Int)).toNat = 30 * r + p by omega, x32_id (show -2147483648 ≤ (r : Int) + 1 by omega) (by omega), x32_id (show -2147483648 ≤ (p : Int) + 1 by omega) (by omega), show (r : Int) + 1 = ((r + 1 : Nat) : Int) by omega, show (p : Int) + 1 = ((p + 1 : Nat) : Int) by omega]
      refine s_set S (by omega) (by omega) (by omega) (by omega) (fun h1 hs1 he => ?_)
      subst he
      rw [show (((r + 1 : Nat) : Int) * ((30 : Nat) : Int) + (p : Int)).toNat = 30 * (r + 1) + p by omega]
      refine ih (p + 1) (by omega) e1 (fun q q1 => ?_) (fun i hi => ?_) (fun x hx => ?_)
      · (try dsimp only); rw [x_up_r q1]; exact e2 q q1
      · (try dsimp only); rw [x_up_j (by omega)]; exact e3 i hi
      · (try dsimp only)
        rw [x_up_k]
        by_cases q3 : x = p
        · subst q3; rw [if_pos rfl, e3 _ (by omega)]
        · rw [if_neg (by omega)]; exact e5 x (by omega)
  exact eX3_standAs (zX3_standAs_0 (L1 n 0 (by omega) rfl (fun _ _ => rfl) (fun _ _ => rfl) (fun x hx => by omega)))
end LO
