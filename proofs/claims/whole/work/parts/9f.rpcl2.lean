/-! a clause, read by the reference -/
def rpT (b : Nat → Int) (n t0 : Nat) (h : xH) (x : Tx) : Prop := (x.1 = 0 ∧ rpS0 b n t0 h x.2.1 x.2.2.2 0 ∧ rpK t0 h x.2.2.1) ∨ (x.1 ≠ 0 ∧ h.2 95 9 = (ps b n x.2.1 : Int))
def kE (g : xG) (b : Nat → Int) (n t0 i : Nat) (x : Rs) : Prop := ∀ (D : Nat) (h : xH) (w : List (Int × Int)) (Q : Int → xH → Prop), rpB b n t0 h → rpS0 b n t0 h i w 0 → w.length ≤ i → (x.1 ≠ 0 → ∀ h1, rpf t0 h h1 → h1.2 95 9 = (ps b n x.2.1 : Int) → Q x.1 h1) → (x.1 = 0 → ∀ h1, rpf t0 h h1 → rpS b n t0 h1 x.2.1 (w ++ x.2.2) [] 0 1 → Q 0 h1) → zSi g (D + 7) mX9_either [xr 95] h Q
section RC3
variable {g : xG} {D : Nat} {b : Nat → Int} {n t0 E : Nat} {h : xH} {Q : Int → xH → Prop}
theorem rpS0_95 {i o j : Nat} {v : Int} {w : List (Int × Int)} (hj : j = 14 ∨ j = 16) (Rr : rpS0 b n t0 h i w o) : rpS0 b n t0 (h.1, x_up h.2 95 j v) i w o := by
  obtain ⟨s1, s2, s3, s4, s7⟩ := Rr
  refine ⟨rQ_c (fun k j1 j2 => by dsimp only; rw [x_up_j (by omega)]) s1, ?_, ?_, fun k hk => ?_, ?_⟩ <;> (try dsimp only)
  · rw [x_up_j (by omega)]; exact s2
  · rw [x_up_j (by omega)]; exact s3
  · rw [x_up_r (by decide)]; exact s4 k hk
  · rw [x_up_j (by omega)]; exact s7
theorem k_209 {cl : List Cl} {k v : Int} {s i : Nat} {w : List (Int × Int)} {w1 w3 : xV} (Bb : rpB b n t0 h) (Rr : rpS0 b n t0 h i w 0) (Oo : rpO t0 h cl k) (nv : k = 0 ∨ 6 ≤ k → h.2 96 (t0 + 2 + 12 * cl.length) = v) (st : h.2 96 (t0 + 3 + 12 * cl.length) = (s : Int))
    (h1 : kt b n i = 32 → ∀ h1, rpg t0 h h1 → rpS0 b n t0 h1 (i + 1) w 0 → rpK t0 h1 (cl ++ [(k, v, s, w.length)]) → Q 0 h1) (h0 : kt b n i ≠ 32 → ∀ h1, rpg t0 h h1 → h1.2 95 9 = (ps b n i : Int) → Q 1 h1) : zJ g (D + 3) 182 0 0 209 [xr 95, w1, xi ((t0 + 1 + 12 * cl.length : Nat) : Int), w3] [] h (x_qi Q) := by
  have b2 := Bb.2.1
  have b3 := Bb.2.2
  have hc := Oo.2.1
  have t59 := (tk_i (b := b) (n := n) (q := ps b n i)).2.2.2.2.2.1
  rw [← Rr.1.2.2.1] at t59
  have e1 : x32 (((t0 + 1 + 12 * cl.length : Nat) : Int) + 3) = ((t0 + 4 + 12 * cl.length : Nat) : Int) := by rw [x32_id (by omega) (by omega)]; omega
  refine zX9_clause_209 ?_
  rw [e1, Rr.2.2.1, x_up_r (show 95 ≠ 96 by decide), show (((t0 + 4 + 12 * cl.length : Nat) : Int)).toNat = t0 + 4 + 12 * cl.length by omega]
  have f1 : rpg t0 h (h.1, x_up h.2 96 (t0 + 4 + 12 * cl.length) (w.length : Int)) := rpg_96 (by omega)
  have R1 : rpS0 b n t0 (h.1, x_up h.2 96 (t0 + 4 + 12 * cl.length) (w.length : Int)) i w 0 := rpS0_96 Rr (by omega)
  have O1 : rpO t0 (h.1, x_up h.2 96 (t0 + 4 + 12 * cl.length) (w.length : Int)) cl k := rpO_96 Oo (by omega)
  refine ⟨by omega, fun z => zX9_clause_232 ?_, fun z => h0 (fun y => z (t59.mpr y)) _ f1 R1.1.2.1⟩
  have e14 : x_up h.2 96 (t0 + 4 + 12 * cl.length) (w.length : Int) 95 14 = (cl.length : Int) := O1.1
  dsimp only
  rw [e14, x32_id (by omega) (by omega)]
  have f2 : rpg t0 h (h.1, x_up (x_up h.2 96 (t0 + 4 + 12 * cl.length) (w.length : Int)) 95 14 ((cl.length : Int) + 1)) := rpg_trans f1 (rpg_95 (j := 14) (v := (cl.length : Int) + 1) (by omega))
  have R2 : rpS0 b n t0 (h.1, x_up (x_up h.2 96 (t0 + 4 + 12 * cl.length) (w.length : Int)) 95 14 ((cl.length : Int) + 1)) i w 0 := rpS0_95 (Or.inl rfl) R1
  refine r_nextZ (rpB_g Bb f2) R2 (fun h3 f3 R3 => h1 (t59.mp z) h3 (rpg_trans f2 (rpg_f f3)) R3 ?_)
  have o : ∀ a, a < t0 + 250 → h3.2 96 a = x_up h.2 96 (t0 + 4 + 12 * cl.length) (w.length : Int) 96 a := fun a ha => by
    rw [f3.2.2.2 a (by omega)]; dsimp only; rw [x_up_r (by decide)]
  obtain ⟨q1, q2, q3, q4, q5⟩ := Oo
  refine ⟨?_, by rw [List.length_append]; exact q2, fun c hc2 => ?_, fun j hj => ?_⟩
  · rw [f3.2.2.1 14 (by omega)]; dsimp only; rw [x_up_eq, List.length_append]; rfl
  · rw [List.length_append] at hc2
    by_cases y : c = cl.length
    · subst y
      rw [gc_r, o _ (by omega), o _ (by omega), o _ (by omega), o _ (by omega), x_up_j (by omega), x_up_j (by omega), x_up_j (by omega), x_up_eq]
      exact ⟨q5, nv, st, rfl⟩
    · have hc3 : c < cl.length := by have : c < cl.length + 1 := hc2; omega
      rw [gc_l hc3, o _ (by omega), o _ (by omega), o _ (by omega), o _ (by omega), x_up_j (by omega), x_up_j (by omega), x_up_j (by omega), x_up_j (by omega)]
      exact q3 c hc3
  · rw [f3.2.2.1 16 (by omega)]
    dsimp only
    rw [x_up_j (by decide), x_up_r (by decide), q4 j hj]
    constructor
    · intro z
      rcases z with ⟨c, c1, c2⟩ | z
      · exact ⟨c, List.mem_append_left _ c1, c2⟩
      · exact ⟨(k, v, s, w.length), List.mem_append_right _ (List.mem_singleton.mpr rfl), z⟩
    · rintro ⟨c, c1, c2⟩
      rcases List.mem_append.mp c1 with c1 | c1
      · exact Or.inl ⟨c, c1, c2⟩
      · rw [List.mem_singleton.mp c1] at c2; exact Or.inr c2
/-- a clause with a body -/
theorem k_103a {A C : Nat → Rs} {cl : List Cl} {k v : Int} {i : Nat} {w : List (Int × Int)} {w3 : xV} (hE3 : E ≤ 300) (hi : i ≤ E) (hk : 0 ≤ k ∧ k ≤ 5) (hw : w.length ≤ i) (kEs : kE g b n t0 i (A i)) (kSs : kS g b n t0 0 i (C i)) (pC : rsL E 0 (-1) i (C i)) (Bb : rpB b n t0 h) (Rr : rpS0 b n t0 h i w 0) (Oo : rpO t0 h cl k) (nv : k = 0 → h.2 96 (t0 + 2 + 12 * cl.length) = v)
    (h1 : (pBd A C k i).1 = 0 → kt b n (pBd A C k i).2.1 = 32 → ∀ h1, rpg t0 h h1 → rpS0 b n t0 h1 ((pBd A C k i).2.1 + 1) (w ++ (pBd A C k i).2.2) 0 → rpK t0 h1 (cl ++ [(k, v, w.length, (w ++ (pBd A C k i).2.2).length)]) → Q 0 h1)
    (h0 : (pBd A C k i).1 = 0 → kt b n (pBd A C k i).2.1 ≠ 32 → ∀ h1, rpg t0 h h1 → h1.2 95 9 = (ps b n (pBd A C k i).2.1 : Int) → Q 1 h1)
    (hf : (pBd A C k i).1 ≠ 0 → ∀ h1, rpg t0 h h1 → h1.2 95 9 = (ps b n (pBd A C k i).2.1 : Int) → Q (pBd A C k i).1 h1) : zJ g (D + 8) 182 0 0 103 [xr 95, xi (k + 1), xi ((t0 + 1 + 12 * cl.length : Nat) : Int), w3] [] h (x_qi Q) := by
  have b2 := Bb.2.1
  have b3 := Bb.2.2
  have hc := Oo.2.1
  have e1 : x32 (((t0 + 1 + 12 * cl.length : Nat) : Int) + 2) = ((t0 + 3 + 12 * cl.length : Nat) : Int) := by rw [x32_id (by omega) (by omega)]; omega
  refine zX9_clause_103 ?_
  rw [e1, Rr.2.2.1, show (((t0 + 3 + 12 * cl.length : Nat) : Int)).toNat = t0 + 3 + 12 * cl.length by omega]
  have f1 : rpg t0 h (h.1, x_up h.2 96 (t0 + 3 + 12 * cl.length) (w.length : Int)) := rpg_96 (by omega)
  have R1 : rpS0 b n t0 (h.1, x_up h.2 96 (t0 + 3 + 12 * cl.length) (w.length : Int)) i w 0 := rpS0_96 Rr (by omega)
  have O1 : rpO t0 (h.1, x_up h.2 96 (t0 + 3 + 12 * cl.length) (w.length : Int)) cl k := rpO_96 Oo (by omega)
  have B1 := rpB_g Bb f1
  have ok : ∀ {x : Rs} {w1 : xV}, pBd A C k i = x → x.1 = 0 → ∀ h2, rpf t0 (h.1, x_up h.2 96 (t0 + 3 + 12 * cl.length) (w.length : Int)) h2 → rpS b n t0 h2 x.2.1 (w ++ x.2.2) [] 0 1 → zJ g (D + 8) 182 0 0 203 [xr 95, w1, xi ((t0 + 1 + 12 * cl.length : Nat) : Int), xi 0] [] h2 (x_qi Q) := by
    intro x w1 ex z1 h2 f2 R2
    rw [ex] at h1 h0
    refine zX9_clause_203 ⟨fun _ => k_209 (v := v) (s := w.length) (rpB_f B1 f2) (rpS0_of R2) (rpO_f f2 O1) (fun y => ?_) ?_ (fun k1 h3 f3 R3 K3 => h1 z1 k1 h3 (rpg_trans (rpg_trans f1 (rpg_f f2)) f3) R3 K3) (fun k1 h3 f3 e3 => h0 z1 k1 h3 (rpg_trans (rpg_trans f1 (rpg_f f2)) f3) e3), fun y => absurd rfl y⟩
    · rw [f2.2.2.2 _ (by omega)]; dsimp only; rw [x_up_j (by omega)]; exact nv (by omega)
    · rw [f2.2.2.2 _ (by omega)]; dsimp only; rw [x_up_eq]
  have bad : ∀ {x : Rs} {w1 : xV}, pBd A C k i = x → x.1 ≠ 0 → ∀ h2, rpf t0 (h.1, x_up h.2 96 (t0 + 3 + 12 * cl.length) (w.length : Int)) h2 → h2.2 95 9 = (ps b n x.2.1 : Int) → zJ g (D + 8) 182 0 0 203 [xr 95, w1, xi ((t0 + 1 + 12 * cl.length : Nat) : Int), xi x.1] [] h2 (x_qi Q) := by
    intro x w1 ex z1 h2 f2 e2
    rw [ex] at hf
    exact zX9_clause_203 ⟨fun y => absurd y z1, fun _ => hf z1 h2 (rpg_trans f1 (rpg_f f2)) e2⟩
  refine ⟨by omega, fun z => zX9_clause_128 ⟨fun y => by omega, fun _ => ?_⟩, fun z => ?_⟩
  · have ex : pBd A C k i = C i := by unfold pBd; rw [if_neg (by omega), if_pos (by omega)]
    refine r_summed0 kSs (by decide) B1 R1 hw (by omega) (fun y => ?_) (fun y h2 f2 e2 => bad ex y h2 f2 e2) (fun y h2 f2 R2 => ok ex y h2 f2 R2)
    obtain ⟨a1, a2, a3, -, -⟩ := pC.2 y
    rw [if_pos rfl] at a3
    omega
  · have ex : pBd A C k i = A i := by unfold pBd; rw [if_pos (by omega)]
    exact kEs D _ w _ B1 R1 hw (fun y h2 f2 e2 => bad ex y h2 f2 e2) (fun y h2 f2 R2 => ok ex y h2 f2 R2)
/-- a clause with a number alone -/
theorem k_103b {cl : List Cl} {k : Int} {i : Nat} {w : List (Int × Int)} {w3 : xV} (hk : 6 ≤ k ∧ k ≤ 9) (Bb : rpB b n t0 h) (Rr : rpS0 b n t0 h i w 0) (Oo : rpO t0 h cl k)
    (h1 : (pTl (kt b n) (nmt b n) k i).1 = 0 → kt b n (pTl (kt b n) (nmt b n) k i).2.1 = 32 → ∀ h1, rpg t0 h h1 → rpS0 b n t0 h1 ((pTl (kt b n) (nmt b n) k i).2.1 + 1) w 0 → rpK t0 h1 (cl ++ [(k, (pTl (kt b n) (nmt b n) k i).2.2, w.length, w.length)]) → Q 0 h1)
    (h0 : (pTl (kt b n) (nmt b n) k i).1 = 0 → kt b n (pTl (kt b n) (nmt b n) k i).2.1 ≠ 32 → ∀ h1, rpg t0 h h1 → h1.2 95 9 = (ps b n (pTl (kt b n) (nmt b n) k i).2.1 : Int) → Q 1 h1)
    (hf : (pTl (kt b n) (nmt b n) k i).1 ≠ 0 → ∀ h1, rpg t0 h h1 → h1.2 95 9 = (ps b n (pTl (kt b n) (nmt b n) k i).2.1 : Int) → Q (pTl (kt b n) (nmt b n) k i).1 h1) : zJ g (D + 8) 182 0 0 103 [xr 95, xi (k + 1), xi ((t0 + 1 + 12 * cl.length : Nat) : Int), w3] [] h (x_qi Q) := by
  have b2 := Bb.2.1
  have b3 := Bb.2.2
  have hc := Oo.2.1
  have e1 : x32 (((t0 + 1 + 12 * cl.length : Nat) : Int) + 2) = ((t0 + 3 + 12 * cl.length : Nat) : Int) := by rw [x32_id (by omega) (by omega)]; omega
  have e2 : x32 (((t0 + 1 + 12 * cl.length : Nat) : Int) + 1) = ((t0 + 2 + 12 * cl.length : Nat) : Int) := by rw [x32_id (by omega) (by omega)]; omega
  unfold pTl at h1 h0 hf
  rw [if_pos (Or.inr hk.1)] at h1 h0 hf
  refine zX9_clause_103 ?_
  rw [e1, Rr.2.2.1, show (((t0 + 3 + 12 * cl.length : Nat) : Int)).toNat = t0 + 3 + 12 * cl.length by omega]
  have f1 : rpg t0 h (h.1, x_up h.2 96 (t0 + 3 + 12 * cl.length) (w.length : Int)) := rpg_96 (by omega)
  have R1 : rpS0 b n t0 (h.1, x_up h.2 96 (t0 + 3 + 12 * cl.length) (w.length : Int)) i w 0 := rpS0_96 Rr (by omega)
  have O1 : rpO t0 (h.1, x_up h.2 96 (t0 + 3 + 12 * cl.length) (w.length : Int)) cl k := rpO_96 Oo (by omega)
  have B1 := rpB_g Bb f1
  -- the number
  have tk : ∀ {lo hi : Int} {w1 w3 : xV}, lo = x_ltv 0 k.toNat → hi = x_ltv 1 k.toNat → hi ≤ 9999 → zJ g (D + 8) 182 0 0 196 [xr 95, w1, xi ((t0 + 1 + 12 * cl.length : Nat) : Int), w3] [xi hi, xi lo, xr 95] (h.1, x_up h.2 96 (t0 + 3 + 12 * cl.length) (w.length : Int)) (x_qi Q) := by
    intro lo hi w1 w3 el eh hh
    rw [← el, ← eh] at h1 h0 hf
    refine zX9_clause_196 ?_
    rw [e2]
    refine r_take hh B1 R1 (by omega) (fun k1 => ?_) (fun k1 k2 => ?_) (fun k1 k2 h3 f3 R3 => ?_)
    · rw [if_pos k1] at hf
      exact zX9_clause_203 ⟨fun y => absurd y (by decide), fun _ => hf (show (1 : Int) ≠ 0 by decide) _ f1 R1.1.2.1⟩
    · rw [if_neg (fun y => y k1), if_pos k2] at hf
      exact zX9_clause_203 ⟨fun y => absurd y (by decide), fun _ => hf (show (2 : Int) ≠ 0 by decide) _ f1 R1.1.2.1⟩
    · rw [if_neg (fun y => y k1), if_neg k2] at h1 h0
      have f2 : rpg t0 (h.1, x_up h.2 96 (t0 + 3 + 12 * cl.length) (w.length : Int)) (h.1, x_up (x_up h.2 96 (t0 + 3 + 12 * cl.length) (w.length : Int)) 96 (t0 + 2 + 12 * cl.length) (nmt b n i)) := rpg_96 (by omega)
      have f03 := rpg_trans (rpg_trans f1 f2) (rpg_f f3)
      have O2 : rpO t0 (h.1, x_up (x_up h.2 96 (t0 + 3 + 12 * cl.length) (w.length : Int)) 96 (t0 + 2 + 12 * cl.length) (nmt b n i)) cl k := rpO_96 O1 (Nat.le_refl _)
      refine zX9_clause_203 ⟨fun _ => k_209 (v := nmt b n i) (s := w.length) (rpB_g Bb f03) R3 (rpO_f f3 O2) (fun _ => ?_) ?_ (fun k3 h4 f4 R4 K4 => h1 rfl k3 h4 (rpg_trans f03 f4) R4 K4) (fun k3 h4 f4 e4 => h0 rfl k3 h4 (rpg_trans f03 f4) e4), fun y => absurd rfl y⟩
      · rw [f3.2.2.2 _ (by omega)]; dsimp only; rw [x_up_eq]
      · rw [f3.2.2.2 _ (by omega)]; dsimp only; rw [x_up_j (by omega), x_up_eq]
  refine ⟨by omega, fun z => zX9_clause_128 ⟨fun _ => zX9_clause_142 ?_, fun y => by omega⟩, fun z => by omega⟩
  rcases (show k = 6 ∨ k = 7 ∨ k = 8 ∨ k = 9 by omega) with y | y | y | y <;> subst y
  · exact ⟨fun _ => zX9_clause_155 (zX9_clause_160 ⟨fun y => absurd rfl y, fun _ => tk (by decide) (by decide) (by decide)⟩), fun y => absurd rfl y⟩
  · exact ⟨fun y => absurd y (by decide), fun _ => ⟨fun _ => zX9_clause_159 (zX9_clause_160 ⟨fun _ => zX9_clause_171 ⟨fun y => absurd rfl y, fun _ => tk (by decide) (by decide) (by decide)⟩, fun y => absurd y (by decide)⟩), fun y => absurd y (by decide)⟩⟩
  · exact ⟨fun y => absurd y (by decide), fun _ => ⟨fun _ => zX9_clause_159 (zX9_clause_160 ⟨fun _ => zX9_clause_171 ⟨fun _ => zX9_clause_182 ⟨fun y => absurd rfl y, fun _ => tk (by decide) (by decide) (by decide)⟩, fun y => absurd y (by decide)⟩, fun y => absurd y (by decide)⟩), fun y => absurd y (by decide)⟩⟩
  · exact ⟨fun y => absurd y (by decide), fun _ => ⟨fun y => absurd rfl y, fun _ => zX9_clause_155 (zX9_clause_160 ⟨fun _ => zX9_clause_171 ⟨fun _ => zX9_clause_182 ⟨fun _ => zX9_clause_194 (tk (by decide) (by decide) (by decide)), fun y => absurd y (by decide)⟩, fun y => absurd y (by decide)⟩, fun y => absurd y (by decide)⟩)⟩⟩
end RC3
