/-! A PURE READER over the tokens' kinds K and numbers N: (fault, token, steps), by fuel -/
abbrev Rs : Type := Int × Nat × List (Int × Int)
def bnd (x : Rs) (k : Nat → List (Int × Int) → Rs) : Rs := if x.1 = 0 then k x.2.1 x.2.2 else x
theorem bnd_0 {x : Rs} {k : Nat → List (Int × Int) → Rs} (h : x.1 = 0) : bnd x k = k x.2.1 x.2.2 := if_pos h
theorem bnd_f {x : Rs} {k : Nat → List (Int × Int) → Rs} (h : x.1 ≠ 0) : bnd x k = x := if_neg h
/-- a name's number -/
def nmv (k : Int) : Int := if k = 0 then 5 else if k = 15 then 6 else k - 10
def opc (k : Int) : Int × Int := (k - 22, 0)
def cmc (k : Int) : Int × Int := (if k = 21 then 10 else if k = 33 then 11 else if k = 22 then 12 else if k = 34 then 13 else if k = 23 then 14 else 15, 0)
def isCm (k : Int) : Prop := k = 21 ∨ k = 22 ∨ k = 23 ∨ k = 24 ∨ k = 33 ∨ k = 34
section PAR
variable (K N : Nat → Int)
def pBr (S : Nat → Nat → Rs) (o : Nat) (pr : Int) (i : Nat) : Rs :=
  if K i ≠ 29 then (1, i, []) else if 8 ≤ o then (3, i, []) else bnd (S (o + 1) (i + 1)) fun i1 s1 =>
    if pr = -1 then (if K i1 = 30 then (0, i1 + 1, s1) else (1, i1, []))
    else if K i1 ≠ 31 then (1, i1, []) else bnd (S (o + 1) (i1 + 1)) fun i2 s2 => if K i2 = 30 then (0, i2 + 1, s1 ++ s2 ++ [(pr - 12, 0)]) else (1, i2, [])
def pOne (O S : Nat → Nat → Rs) (o i : Nat) : Rs :=
  if K i = 35 then (if 9999 < N i then (2, i, []) else (0, i + 1, [(0, N i)]))
  else if K i = 0 ∨ (10 ≤ K i ∧ K i ≤ 15) then (0, i + 1, [(1, nmv (K i))])
  else if K i = 19 ∨ K i = 20 then pBr K S o (K i) (i + 1)
  else if K i = 26 then (if 8 ≤ o then (3, i, []) else bnd (O (o + 1) (i + 1)) fun i1 s1 => (0, i1, s1 ++ [(2, 0)]))
  else pBr K S o (-1) i
def pPrd (O P : Nat → Nat → Rs) (o i : Nat) : Rs :=
  if K i = 27 ∨ K i = 28 then bnd (O o (i + 1)) fun i1 s1 => bnd (P o i1) fun i2 s2 => (0, i2, s1 ++ [opc (K i)] ++ s2) else (0, i, [])
def jop (j : Int) : List (Int × Int) := if j = -1 then [] else [opc j]
def pSml (O P : Nat → Nat → Rs) (L : Nat → Int → Nat → Rs) (o : Nat) (j : Int) (i : Nat) : Rs :=
  bnd (O o i) fun i1 s1 => bnd (P o i1) fun i2 s2 => if K i2 = 25 ∨ K i2 = 26 then bnd (L o (K i2) (i2 + 1)) fun i3 s3 => (0, i3, s1 ++ s2 ++ jop j ++ s3) else (0, i2, s1 ++ s2 ++ jop j)
/-- ones, products behind a one, sums -/
def pp : Nat → (Nat → Nat → Rs) × (Nat → Nat → Rs) × (Nat → Int → Nat → Rs)
  | 0 => (fun _ i => (1, i, []), fun _ i => (1, i, []), fun _ _ i => (1, i, []))
  | m + 1 =>
    (pOne K N (pp m).1 (fun o i => (pp m).2.2 o (-1) i),
     pPrd K (pp m).1 (pp m).2.1,
     pSml K (pOne K N (pp m).1 (fun o i => (pp m).2.2 o (-1) i)) (pPrd K (pp m).1 (pp m).2.1) (pp m).2.2)
def pAsk (S : Nat → Nat → Rs) : Nat → Nat → Nat → Rs
  | 0, _, i => (1, i, [])
  | m + 1, o, i => if K i = 18 then (if 8 ≤ o then (3, i, []) else bnd (pAsk S m (o + 1) (i + 1)) fun i1 s1 => (0, i1, s1 ++ [(20, 0)]))
    else bnd (S o i) fun i1 s1 => if K i1 = 21 ∨ K i1 = 22 ∨ K i1 = 23 ∨ K i1 = 24 ∨ K i1 = 33 ∨ K i1 = 34 then bnd (S o (i1 + 1)) fun i2 s2 => (0, i2, s1 ++ s2 ++ [cmc (K i1)]) else (1, i1, [])
/-- behind an ask: {and ask} -/
def pAnd (A : Nat → Rs) : Nat → Nat → Rs
  | 0, i => (1, i, [])
  | m + 1, i => if K i = 16 then bnd (A (i + 1)) fun i1 s1 => bnd (pAnd A m i1) fun i2 s2 => (0, i2, s1 ++ [(21, 0)] ++ s2) else (0, i, [])
def orp (e : Bool) : List (Int × Int) := if e = true then [(22, 0)] else []
def pEit (A : Nat → Rs) (B : Nat → Rs) : Nat → Bool → Nat → Rs
  | 0, _, i => (1, i, [])
  | m + 1, e, i => bnd (A i) fun i1 s1 => bnd (B i1) fun i2 s2 => if K i2 = 17 then bnd (pEit A B m true (i2 + 1)) fun i3 s3 => (0, i3, s1 ++ s2 ++ orp e ++ s3) else (0, i2, s1 ++ s2 ++ orp e)
end PAR
/-! how deep steps pile -/
def dl : List (Int × Int) → Nat × Nat → Option (Nat × Nat)
  | [], s => some s
  | e :: l, s => (dStep e.1 s).bind (dl l)
theorem dl_app (a c : List (Int × Int)) : ∀ s : Nat × Nat, dl (a ++ c) s = (dl a s).bind (dl c) := by
  induction a with
  | nil => intro s; rfl
  | cons e l ih =>
    intro s
    show (dStep e.1 s).bind (dl (l ++ c)) = ((dStep e.1 s).bind (dl l)).bind (dl c)
    cases q : dStep e.1 s with
    | none => rfl
    | some t => exact ih t
theorem dl_ap {a c : List (Int × Int)} {s t u : Nat × Nat} (h1 : dl a s = some t) (h2 : dl c t = some u) : dl (a ++ c) s = some u := by rw [dl_app, h1]; exact h2
theorem dl_1 {x : Int × Int} {s t : Nat × Nat} (h : dStep x.1 s = some t) : dl [x] s = some t := by
  show (dStep x.1 s).bind (dl []) = _
  rw [h]; rfl
theorem dS_push {x : Int} {t v : Nat} (h : x = 0 ∨ x = 1) (hv : t + v + 1 ≤ 60) : dStep x (t, v) = some (t, v + 1) := by
  unfold dStep; rw [if_pos (by omega), if_pos (by show t + v < 60; omega)]
theorem dS_neg {t v : Nat} (hv : 1 ≤ v) : dStep 2 (t, v) = some (t, v) := by
  unfold dStep; rw [if_neg (by omega), if_pos rfl, if_pos (by exact hv)]
theorem dS_bin {x : Int} {t v : Nat} (h : 2 < x ∧ x < 10) : dStep x (t, v + 2) = some (t, v + 1) := by
  unfold dStep; rw [if_neg (by omega), if_neg (by omega), if_pos h.2, if_pos (by show 2 ≤ v + 2; omega)]; rfl
theorem dS_cmp {x : Int} {t : Nat} (h : 10 ≤ x ∧ x < 20) : dStep x (t, 2) = some (t + 1, 0) := by
  unfold dStep; rw [if_neg (by omega), if_neg (by omega), if_neg (by omega), if_pos h.2, if_pos rfl]
theorem dS_not {t : Nat} (h : 1 ≤ t) : dStep 20 (t, 0) = some (t, 0) := by
  unfold dStep; rw [if_neg (by omega), if_neg (by omega), if_neg (by omega), if_neg (by omega), if_pos rfl, if_pos (by exact ⟨rfl, h⟩)]
theorem dS_log {x : Int} {t : Nat} (h : x = 21 ∨ x = 22) : dStep x (t + 2, 0) = some (t + 1, 0) := by
  unfold dStep; rw [if_neg (by omega), if_neg (by omega), if_neg (by omega), if_neg (by omega), if_neg (by omega), if_pos (by show 0 = 0 ∧ 2 ≤ t + 2; omega)]; rfl
/-! what the pure reader's answers are -/
def rsF (E i : Nat) (x : Rs) : Prop := x.1 ≠ 0 → i ≤ x.2.1 ∧ x.2.1 ≤ E ∧ 1 ≤ x.1 ∧ x.1 ≤ 3
def okS (s : List (Int × Int)) : Prop := ∀ e ∈ s, cok e.1 e.2
theorem okS_app {a c : List (Int × Int)} (h1 : okS a) (h2 : okS c) : okS (a ++ c) := fun e he => (List.mem_append.mp he).elim (h1 e) (h2 e)
theorem okS_1 {x : Int × Int} (h : cok x.1 x.2) : okS [x] := fun e he => by rw [List.mem_singleton.mp he]; exact h
theorem okS_0 : okS [] := fun e he => by cases he
def rsO (E o i : Nat) (x : Rs) : Prop := rsF E i x ∧ (x.1 = 0 → i < x.2.1 ∧ x.2.1 ≤ E ∧ x.2.2.length + i ≤ x.2.1 ∧ okS x.2.2 ∧ ∀ t v, t + v + 3 * (8 - o) + 1 ≤ 60 → dl x.2.2 (t, v) = some (t, v + 1))
def rsP (E o i : Nat) (x : Rs) : Prop := rsF E i x ∧ (x.1 = 0 → i ≤ x.2.1 ∧ x.2.1 ≤ E ∧ x.2.2.length + i ≤ x.2.1 ∧ okS x.2.2 ∧ ∀ t v, 1 ≤ v → t + v + 3 * (8 - o) + 1 ≤ 60 → dl x.2.2 (t, v) = some (t, v))
def rsL (E o : Nat) (j : Int) (i : Nat) (x : Rs) : Prop := rsF E i x ∧ (x.1 = 0 → i < x.2.1 ∧ x.2.1 ≤ E ∧ (x.2.2.length + i ≤ x.2.1 + if j = -1 then 0 else 1) ∧ okS x.2.2 ∧ ∀ t v, t + v + 3 * (8 - o) + 3 ≤ 60 → dl x.2.2 (t, if j = -1 then v else v + 1) = some (t, v + 1))
