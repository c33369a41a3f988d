/-! the reference's test of a set of webs -/
def dbS (A : Nat → Int) (p : Nat) : Int := A (32 + 4 * p) * nO A (-1) 7 (A 0) 10
def dbF (A : Nat → Int) (j : Nat) : Nat := (A (12530 + 3 * j)).toNat
def dbT (A : Nat → Int) (j : Nat) : Nat := (A (12531 + 3 * j)).toNat
def dbC (A : Nat → Int) (j : Nat) : Int := A (12532 + 3 * j)
def dbO (A : Nat → Int) (a i : Nat) : Nat := (A (350 + (a + i))).toNat
def dbX (A : Nat → Int) (a : Nat) (keep : Nat → Bool) (k : Nat) : Prop := ∀ X : Nat → Bool, sX (fun i => keep i && X (dbO A a i)) (fun i => nd A (a + i)) k ≤ sX X (dbS A) (A 2).toNat + sX (fun j => X (dbT A j) && !X (dbF A j)) (dbC A) (A 11).toNat
theorem dbS_b {A : Nat → Int} (m : pM A) (B : rB A) {p : Nat} (hp : (p : Int) < A 2) : 0 ≤ dbS A p ∧ dbS A p ≤ 9801 := by
  have y : 1 ≤ nO A (-1) 7 (A 0) 10 ∧ nO A (-1) 7 (A 0) 10 ≤ 99 := nO_b B.1 (Or.inl rfl : (-1 : Int) = -1 ∨ _) 7 (A 0) 10 1 99 (by decide) (Or.inr (Or.inl ⟨rfl, rfl, rfl⟩))
  have r1 : (0 ≤ A (30 + 4 * p) ∧ A (30 + 4 * p) < A 1) ∧ (0 ≤ A (31 + 4 * p) ∧ A (31 + 4 * p) ≤ 9) ∧ 0 ≤ A (32 + 4 * p) ∧ A (32 + 4 * p) ≤ 99 := m.2.2 1 (by decide) (by decide) p hp
  unfold dbS
  have m1 : 0 ≤ A (32 + 4 * p) * nO A (-1) 7 (A 0) 10 := Int.mul_nonneg r1.2.2.1 (by omega)
  have m2 : A (32 + 4 * p) * nO A (-1) 7 (A 0) 10 ≤ 99 * 99 := Int.mul_le_mul r1.2.2.2 y.2 (by omega) (by omega)
  omega
/-- the rooms, as they are filled -/
def rI (A : Nat → Int) (a : Nat) (keep : Nat → Bool) (rm : Nat → Int) (p j q : Nat) : Prop := (∀ i, i < 1024 → 0 ≤ rm i ∧ rm i ≤ 10000 + 10000 * (j : Int) + 2000 * (q : Int)) ∧ (∀ X : Nat → Bool, oR X rm = sX (fun i => X 30 && !X i) (dbS A) p + sX (fun i => X (dbF A i) && !X (dbT A i)) (dbC A) j + sX (fun i => keep i && (X (dbO A a i) && !X 31)) (fun i => nd A (a + i)) q) ∧ ∀ u : Nat, A 2 ≤ (u : Int) → u < 32 → rm (32 * u + 31) = 0
/-- what ways leave -/
def vI (rm rm' : Nat → Int) (V : Int) : Prop := (∀ i, i < 1024 → 0 ≤ rm' i) ∧ (∀ X, oR X rm' = oR X rm + bL V (X 31) - bL V (X 30)) ∧ (∀ u v, u < 32 → v < 32 → rm' (32 * u + v) + rm' (32 * v + u) = rm (32 * u + v) + rm (32 * v + u)) ∧ ∀ u, u < 32 → rm' (32 * u + 31) ≤ rm (32 * u + 31)
theorem bL_add {V L : Int} {b : Bool} : bL (V + L) b = bL V b + bL L b := by unfold bL; cases b <;> simp
theorem vI_go {rm rm1 rm2 : Nat → Int} {V L : Int} (v : vI rm rm1 V) (G : gI rm1 rm2 L 30) : vI rm rm2 (V + L) := by
  refine ⟨G.1, fun X => ?_, fun x y hx hy => (G.2.2.1 x y hx hy).trans (v.2.2.1 x y hx hy), fun u hu => Int.le_trans (G.2.2.2 u hu) (v.2.2.2 u hu)⟩
  rw [G.2.1 X, v.2.1 X, bL_add, bL_add]; omega
theorem oR_nn {rm : Nat → Int} (X : Nat → Bool) (hn : ∀ i, i < 1024 → 0 ≤ rm i) : 0 ≤ oR X rm := sX_nn 1024 (fun i hi _ => hn i hi)
def nt (u : Nat) : Bool := decide (u ≠ 31)
/-- all needs -/
theorem rI_all {A : Nat → Int} {a : Nat} {keep : Nat → Bool} {rm : Nat → Int} {q : Nat} (m : pM A) (B : rB A) (hq : (a : Int) + q ≤ A 4) (r : rI A a keep rm (A 2).toNat (A 11).toNat q) : oR nt rm = sX keep (fun i => nd A (a + i)) q := by
  have z := pM_z m
  rw [r.2.1 nt]
  have e1 : sX (fun i => nt 30 && !nt i) (dbS A) (A 2).toNat = 0 := sX_0 _ (fun i hi h => by
    have : nt i = true := decide_eq_true (by omega)
    rw [this] at h; simp at h)
  have e2 : sX (fun i => nt (dbF A i) && !nt (dbT A i)) (dbC A) (A 11).toNat = 0 := sX_0 _ (fun i hi h => by
    have t := tr_r m (j := i) (by omega)
    have : nt (dbT A i) = true := decide_eq_true (by unfold dbT; omega)
    rw [this] at h; simp at h)
  have e3 : sX (fun i => keep i && (nt (dbO A a i) && !nt 31)) (fun i => nd A (a + i)) q = sX keep (fun i => nd A (a + i)) q := sX_cong _ (fun i hi => ⟨by
    have o := B.2.2.2.2.2.1 (a + i) (by omega)
    have : nt (dbO A a i) = true := decide_eq_true (by unfold dbO; omega)
    rw [this, show nt 31 = false from rfl]; simp, rfl⟩)
  rw [e1, e2, e3]; omega
theorem sX_two {keep Y : Nat → Bool} {v : Nat → Int} (n : Nat) : sX keep v n = sX (fun i => keep i && Y i) v n + sX (fun i => keep i && !Y i) v n := by
  have a := sX_rel (P1 := keep) (P2 := fun _ => false) (P3 := fun i => keep i && Y i) (P4 := fun i => keep i && !Y i) (v1 := v) (v2 := v) (v3 := v) (v4 := v) n (fun i hi => by cases keep i <;> cases Y i <;> simp)
  have b := sX_rel (P1 := fun i => keep i && Y i) (P2 := fun i => keep i && !Y i) (P3 := keep) (P4 := fun _ => false) (v1 := v) (v2 := v) (v3 := v) (v4 := v) n (fun i hi => by cases keep i <;> cases Y i <;> simp)
  have c : sX (fun _ => false) v n = 0 := sX_0 n (fun i _ h => absurd h (by decide))
  omega
/-- all needs are met: no persons lack -/
theorem can_y {A : Nat → Int} {a : Nat} {keep : Nat → Bool} {rm rm' : Nat → Int} {q : Nat} {V : Int} (m : pM A) (B : rB A) (hq : (a : Int) + q ≤ A 4) (r : rI A a keep rm (A 2).toNat (A 11).toNat q) (v : vI rm rm' V) (h0 : ∀ p : Nat, (p : Int) < A 2 → rm' (32 * p + 31) ≤ 0) : dbX A a keep q := by
  intro X
  have z := pM_z m
  have t := rI_all m B hq r
  have tz : oR nt rm' = 0 := by
    refine sX_0 1024 (fun i hi h => ?_)
    have h31 : i % 32 = 31 := by
      simp [nt] at h; exact h.2
    have e : i = 32 * (i / 32) + 31 := by omega
    have n0 := v.1 i hi
    by_cases q1 : ((i / 32 : Nat) : Int) < A 2
    · have := h0 _ q1
      rw [← e] at this; omega
    · have c := v.2.2.2 (i / 32) (by omega)
      rw [r.2.2 (i / 32) (by omega) (by omega), ← e] at c
      omega
  have v1 := v.2.1 nt
  rw [tz, t, show bL V (nt 31) = 0 from rfl, show bL V (nt 30) = V from rfl] at v1
  generalize hY : (fun u => if u = 30 then true else if u = 31 then false else !X u) = Y
  have y30 : Y 30 = true := by rw [← hY]; rfl
  have y31 : Y 31 = false := by rw [← hY]; rfl
  have yi : ∀ i, i < 30 → Y i = !X i := fun i hi => by rw [← hY]; (try dsimp only); rw [if_neg (by omega), if_neg (by omega)]
  have v2 := v.2.1 Y
  have n2 := oR_nn Y v.1
  rw [y30, y31, show bL V false = 0 from rfl, show bL V true = V from rfl, r.2.1 Y] at v2
  have e1 : sX (fun i => Y 30 && !Y i) (dbS A) (A 2).toNat = sX X (dbS A) (A 2).toNat := sX_cong _ (fun i hi => ⟨by rw [y30, yi i (by omega)]; simp, rfl⟩)
  have e2 : sX (fun i => Y (dbF A i) && !Y (dbT A i)) (dbC A) (A 11).toNat = sX (fun j => X (dbT A j) && !X (dbF A j)) (dbC A) (A 11).toNat := sX_cong _ (fun i hi => ⟨by
    have t := tr_r m (j := i) (by omega)
    rw [yi _ (by unfold dbF; omega), yi _ (by unfold dbT; omega)]
    cases X (dbT A i) <;> cases X (dbF A i) <;> rfl, rfl⟩)
  have e3 : sX (fun i => keep i && (Y (dbO A a i) && !Y 31)) (fun i => nd A (a + i)) q = sX (fun i => keep i && !X (dbO A a i)) (fun i => nd A (a + i)) q := sX_cong _ (fun i hi => ⟨by
    have o := B.2.2.2.2.2.1 (a + i) (by omega)
    rw [yi _ (by unfold dbO; omega), y31]; simp, rfl⟩)
  rw [e1, e2, e3] at v2
  have w := sX_two (keep := keep) (Y := fun i => X (dbO A a i)) (v := fun i => nd A (a + i)) q
  omega
/-- a need is left, and there is no way: persons lack -/
theorem can_n {A : Nat → Int} {a : Nat} {keep : Nat → Bool} {rm rm' cf : Nat → Int} {q p : Nat} {V : Int} (m : pM A) (B : rB A) (hq : (a : Int) + q ≤ A 4) (r : rI A a keep rm (A 2).toNat (A 11).toNat q) (v : vI rm rm' V) (hp : (p : Int) < A 2) (h0 : 0 < rm' (32 * p + 31)) (c30 : 0 ≤ cf 30) (c31 : cf 31 < 0) (cl : ∀ u v, u < 32 → v < 32 → 0 ≤ cf u → cf v < 0 → rm' (32 * u + v) ≤ 0) : ¬ dbX A a keep q := by
  intro C
  have z := pM_z m
  have t := rI_all m B hq r
  have v1 := v.2.1 nt
  rw [t, show bL V (nt 31) = 0 from rfl, show bL V (nt 30) = V from rfl] at v1
  have tp : rm' (32 * p + 31) ≤ oR nt rm' := by
    refine sX_pos 1024 (fun i hi _ => v.1 i hi) (by omega) ?_
    (try dsimp only)
    rw [show (32 * p + 31) / 32 = p by omega, show (32 * p + 31) % 32 = 31 by omega, show nt 31 = false from rfl, show nt p = true from decide_eq_true (by omega)]
    rfl
  have zr : oR (rch cf) rm' = 0 := by
    refine sX_0 1024 (fun i hi h => ?_)
    (try dsimp only at h)
    unfold rch at h
    simp at h
    have := cl (i / 32) (i % 32) (by omega) (by omega) h.1 (by omega)
    have n0 := v.1 i hi
    rw [show 32 * (i / 32) + i % 32 = i by omega] at this
    omega
  have v2 := v.2.1 (rch cf)
  have r30 : rch cf 30 = true := decide_eq_true c30
  have r31 : rch cf 31 = false := decide_eq_false (by omega)
  rw [zr, r30, r31, show bL V false = 0 from rfl, show bL V true = V from rfl, r.2.1] at v2
  have e1 : sX (fun i => rch cf 30 && !rch cf i) (dbS A) (A 2).toNat = sX (fun i => !rch cf i) (dbS A) (A 2).toNat := sX_cong _ (fun i hi => ⟨by rw [r30]; simp, rfl⟩)
  have e3 : sX (fun i => keep i && (rch cf (dbO A a i) && !rch cf 31)) (fun i => nd A (a + i)) q = sX (fun i => keep i && rch cf (dbO A a i)) (fun i => nd A (a + i)) q := sX_cong _ (fun i hi => ⟨by rw [r31]; simp, rfl⟩)
  have c := C (fun i => !rch cf i)
  have e2 : sX (fun j => !rch cf (dbT A j) && !!rch cf (dbF A j)) (dbC A) (A 11).toNat = sX (fun i => rch cf (dbF A i) && !rch cf (dbT A i)) (dbC A) (A 11).toNat := sX_cong _ (fun i hi => ⟨by cases rch cf (dbF A i) <;> cases rch cf (dbT A i) <;> rfl, rfl⟩)
  rw [e1, e3] at v2
  (try dsimp only at c)
  rw [e2] at c
  have w := sX_two (keep := keep) (Y := fun i => rch cf (dbO A a i)) (v := fun i => nd A (a + i)) q
  omega
