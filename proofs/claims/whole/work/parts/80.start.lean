/-! the looms made ready: how many trades -/
def cnt (A : Nat → Int) (p : Nat) : Int := sX (fun j => decide (dbF A j < p)) (fun _ => 1) (A 11).toNat + sX (fun j => decide (dbT A j < p)) (fun _ => 1) (A 11).toNat
def tcb (A : Nat → Int) (p j : Nat) : Bool := decide (dbF A j = p ∨ dbT A j = p)
theorem sX_sum3 {P1 P2 P3 P4 P5 : Nat → Bool} : ∀ n, (∀ i, i < n → (if P1 i = true then (1 : Int) else 0) + (if P2 i = true then 1 else 0) + (if P3 i = true then 1 else 0) = (if P4 i = true then 1 else 0) + (if P5 i = true then 1 else 0)) → sX P1 (fun _ => 1) n + sX P2 (fun _ => 1) n + sX P3 (fun _ => 1) n = sX P4 (fun _ => 1) n + sX P5 (fun _ => 1) n
  | 0, _ => rfl
  | n + 1, h => by
    have ih := sX_sum3 n (fun i hi => h i (by omega))
    have := h n (by omega)
    show sX P1 (fun _ => 1) n + (if P1 n = true then (1 : Int) else 0) + (sX P2 (fun _ => 1) n + (if P2 n = true then (1 : Int) else 0)) + (sX P3 (fun _ => 1) n + (if P3 n = true then (1 : Int) else 0)) = sX P4 (fun _ => 1) n + (if P4 n = true then (1 : Int) else 0) + (sX P5 (fun _ => 1) n + (if P5 n = true then (1 : Int) else 0))
    omega
theorem cnt_s {A : Nat → Int} (m : pM A) (p : Nat) : cnt A p + sX (tcb A p) (fun _ => 1) (A 11).toNat = cnt A (p + 1) := by
  unfold cnt
  refine sX_sum3 _ (fun i hi => ?_)
  have b := oth_b m (j := i) (p := p) (by omega)
  unfold tcb
  simp only [decide_eq_true_eq]
  repeat' split
  all_goals omega
theorem cnt_b {A : Nat → Int} (m : pM A) (p : Nat) : 0 ≤ cnt A p ∧ cnt A p ≤ 80 := by
  have z := pM_z m
  have a1 := sX_b (P := fun j => decide (dbF A j < p)) (v := fun _ => 1) (M := 1) (n := (A 11).toNat) (by decide) (fun i hi => by decide) _ (Nat.le_refl _)
  have a2 := sX_b (P := fun j => decide (dbT A j < p)) (v := fun _ => 1) (M := 1) (n := (A 11).toNat) (by decide) (fun i hi => by decide) _ (Nat.le_refl _)
  unfold cnt
  omega
