/-! the reference's pile reads ones as the pure reader does -/
def Hd (g : xG) (D : Nat) (h : xH) (Q : Int → xH → Prop) : Prop := ∀ w1 : xV, zJ g (D + 5) 176 0 0 10 [xr 95, w1] [] h (x_qi Q)
def hd40 (P : List Int) : Prop := ∀ x P', P = x :: P' → 40 ≤ x
def hd2 (P : List Int) : Prop := ∀ x P', P = x :: P' → x ≠ 2
/-- a one, whose pile has c signs on top of P0 -/
def kO (g : xG) (b : Nat → Int) (n t0 o i : Nat) (x : Rs) : Prop := ∀ (D : Nat) (h : xH) (w : List (Int × Int)) (P0 : List Int) (c o1 : Nat) (Q : Int → xH → Prop), o = o1 + c → o ≤ 8 → P0.length ≤ 3 * o1 + 2 → hd2 P0 → rpB b n t0 h → rpS b n t0 h i w (List.replicate c 2 ++ P0) o 0 → w.length + c + P0.length ≤ i → i ≤ 300 → (x.1 ≠ 0 → ∀ h1, rpf t0 h h1 → h1.2 95 9 = (ps b n x.2.1 : Int) → Q x.1 h1) → (x.1 = 0 → ∀ h1, rpf t0 h h1 → rpS b n t0 h1 x.2.1 (w ++ x.2.2 ++ List.replicate c (2, 0)) P0 o1 1 → Hd g D h1 Q) → Hd g D h Q
/-- a sum above P0, behind it what is still to come of it -/
def kS (g : xG) (b : Nat → Int) (n t0 o i : Nat) (x : Rs) : Prop := ∀ (D : Nat) (h : xH) (w : List (Int × Int)) (P0 : List Int) (Q : Int → xH → Prop), o ≤ 8 → P0.length ≤ 3 * o → hd40 P0 → rpB b n t0 h → rpS b n t0 h i w P0 o 0 → w.length + P0.length ≤ i → i ≤ 300 → (x.1 ≠ 0 → ∀ h1, rpf t0 h h1 → h1.2 95 9 = (ps b n x.2.1 : Int) → Q x.1 h1) → (x.1 = 0 → ∀ (h1 : xH) (w' : List (Int × Int)) (U : List Int), rpf t0 h h1 → (∀ u ∈ U, 3 ≤ u ∧ u < 40) → U.length ≤ 2 → w' ++ U.map (fun u => (u, 0)) = w ++ x.2.2 → ¬ (25 ≤ kt b n x.2.1 ∧ kt b n x.2.1 ≤ 28) → rpS b n t0 h1 x.2.1 w' (U ++ P0) o 1 → Hd g D h1 Q) → Hd g D h Q
section RPO
variable {g : xG} {D : Nat} {b : Nat → Int} {n t0 E : Nat} {h : xH} {Q : Int → xH → Prop}
theorem hd_0 (s8 : h.2 95 20 = 0) (kk : zSi g (D + 4) mX9_beginOne [xr 95] h (fun x1 h1 => zJ g (D + 5) 176 0 0 42 [xr 95, xu] [xi x1] h1 (x_qi Q))) : Hd g D h Q := fun w1 =>
  zX9_summed_10 ⟨fun _ => zX9_summed_24 ⟨fun _ => zX9_summed_38 kk, fun z => absurd s8 z⟩, fun z => absurd s8 z⟩
theorem hd_r0 (kk : Hd g D h Q) : zJ g (D + 5) 176 0 0 42 [xr 95, xu] [xi 0] h (x_qi Q) := zX9_summed_42 ⟨fun _ => zX9_summed_49 (kk xu), fun z => absurd rfl z⟩
theorem hd_rf {f : Int} (hf : f ≠ 0) (hQ : Q f h) : zJ g (D + 5) 176 0 0 42 [xr 95, xu] [xi f] h (x_qi Q) := zX9_summed_42 ⟨fun z => absurd z hf, fun _ => hQ⟩
/-- whole, and it goes on -/
theorem hd_1 {i o : Nat} {w : List (Int × Int)} {P : List Int} (S : rpS b n t0 h i w P o 1) (hl : P.length ≤ 100) (hg : (25 ≤ kt b n i ∧ kt b n i ≤ 28) ∨ ((kt b n i = 30 ∨ kt b n i = 31) ∧ ∃ x ∈ P, 40 ≤ x)) (kk : zSi g (D + 4) mX9_behindOne [xr 95] h (fun x1 h1 => zJ g (D + 5) 176 0 0 42 [xr 95, xu] [xi x1] h1 (x_qi Q))) : Hd g D h Q := fun w1 => by
  have s8 : h.2 95 20 = 1 := S.2.2.2.2.2.2.2
  exact zX9_summed_10 ⟨fun z => absurd (s8.symm.trans z) (by decide), fun _ => r_goesOn S hl (fun _ => ⟨fun z => absurd z (by decide), fun _ => zX9_summed_24 ⟨fun z => absurd (s8.symm.trans z) (by decide), fun _ => kk⟩⟩) (fun z => absurd hg z)⟩
/-- whole, and it doesn't -/
theorem hd_e {i o : Nat} {w : List (Int × Int)} {P U : List Int} (B : rpB b n t0 h) (S : rpS b n t0 h i w (U ++ P) o 1) (hP : hd40 P) (hU : ∀ u ∈ U, 3 ≤ u ∧ u < 40) (hc : U.length ≤ 30) (hl : P.length ≤ 60) (hw : w.length + U.length ≤ 310) (hg : ¬ ((25 ≤ kt b n i ∧ kt b n i ≤ 28) ∨ ((kt b n i = 30 ∨ kt b n i = 31) ∧ ∃ x ∈ U ++ P, 40 ≤ x))) (h0 : P = [] → ∀ h1, rpf t0 h h1 → rpS b n t0 h1 i (w ++ U.map (fun u => (u, 0))) [] o 1 → Q 0 h1) (h1 : P ≠ [] → ∀ h1, rpf t0 h h1 → h1.2 95 9 = (ps b n i : Int) → Q 1 h1) : Hd g D h Q := fun w1 => by
  have s8 : h.2 95 20 = 1 := S.2.2.2.2.2.2.2
  have lu : (U ++ P).length = U.length + P.length := List.length_append
  refine zX9_summed_10 ⟨fun z => absurd (s8.symm.trans z) (by decide), fun _ => r_goesOn S (by omega) (fun z => absurd z hg) (fun _ => ⟨fun _ => zX9_summed_52 (r_settle (fun x P' e => Or.inl (hP x P' e)) hl hc hU B S hw (fun h2 f2 S2 => ?_)), fun z => absurd rfl z⟩)⟩
  rw [S2.2.2.2.2.1]
  cases P with
  | nil => exact ⟨fun _ => zX9_summed_68 (h0 rfl h2 f2 S2), fun z => absurd z (by decide)⟩
  | cons x P' => exact ⟨fun z => by have l : ((x :: P').length : Int) = (P'.length : Int) + 1 := rfl; omega, fun _ => h1 (by simp) h2 f2 S2.1.2.1⟩
/-- a bracket's sum is whole: what stands behind it -/
theorem hd_b {i o : Nat} {w w' : List (Int × Int)} {P U : List Int} {op : Int} (B : rpB b n t0 h) (S : rpS b n t0 h i w' (U ++ op :: P) o 1) (hop : 40 ≤ op ∧ op ≤ 44) (hU : ∀ u ∈ U, 3 ≤ u ∧ u < 40) (hc : U.length ≤ 30) (hl : P.length ≤ 50) (hw : w'.length + U.length ≤ 310) (hg : ¬ (25 ≤ kt b n i ∧ kt b n i ≤ 28)) (he : w' ++ U.map (fun u => (u, 0)) = w)
    (hc1 : kt b n i = 31 → (op = 41 ∨ op = 42) → ∀ h1, rpf t0 h h1 → rpS b n t0 h1 (i + 1) w ((op + 2) :: P) o 0 → Hd g D h1 Q)
    (hs : kt b n i = 30 → (op = 40 ∨ op = 43 ∨ op = 44) → ∀ h1, rpf t0 h h1 → rpS b n t0 h1 i w (op :: P) o 1 → zJ g (D + 4) 175 0 0 160 [xr 95, xu, xi op] [] h1 (x_qi (fun x1 h1 => zJ g (D + 5) 176 0 0 42 [xr 95, xu] [xi x1] h1 (x_qi Q))))
    (hf : (kt b n i = 31 → ¬ (op = 41 ∨ op = 42)) → (kt b n i = 30 → op = 41 ∨ op = 42) → ∀ h1, rpf t0 h h1 → h1.2 95 9 = (ps b n i : Int) → Q 1 h1) : Hd g D h Q := by
  have h40 : hd40 (op :: P) := fun x P' e => by injection e with e1 e2; omega
  have lp : (op :: P).length = P.length + 1 := rfl
  have lu : (U ++ op :: P).length = U.length + (P.length + 1) := List.length_append
  have mem : ∃ x ∈ U ++ op :: P, 40 ≤ x := ⟨op, List.mem_append_right _ List.mem_cons_self, hop.1⟩
  by_cases k : kt b n i = 30 ∨ kt b n i = 31
  · obtain ⟨-, -, -, t41, t44, -, t43, t45, t42, t47, -⟩ := tk_i (b := b) (n := n) (q := ps b n i)
    rw [← S.1.2.2.1] at t41 t44 t43 t45 t42 t47
    have ek : kt b n i = kd b n (ps b n i) := rfl
    refine hd_1 S (by omega) (Or.inr ⟨k, mem⟩) (eX9_behindOne (zX9_behindOne_0 ⟨fun z => by have := t43.mp z; omega, fun _ => ⟨fun _ => zX9_behindOne_45 ⟨fun z => by have := t42.mp z; omega, fun _ => ⟨fun _ => zX9_behindOne_86 ?_, fun z => by have := t47.mp z; omega⟩⟩, fun z => by have := t45.mp z; omega⟩⟩))
    refine r_settle (fun x P' e => Or.inl (h40 x P' e)) (by omega) hc hU B S hw (fun h2 f2 S2 => ?_)
    rw [he] at S2
    have s5 : h2.2 95 18 = (P.length : Int) + 1 := S2.2.2.2.2.1
    have s6 := S2.2.2.2.2.2.1
    rw [s5, x32_id (by omega) (by omega), show ((P.length : Int) + 1 - 1).toNat = P.length by omega, s6.1]
    refine ⟨by omega, fun z => zX9_behindOne_146 ?_, fun z => ?_⟩
    · have k30 : kt b n i = 30 := by
        rcases k with k | k
        · exact k
        · exact absurd (t44.mpr k) z
      refine ⟨fun z1 => zX9_behindOne_158 (hd_rf (by decide) (hf (fun y => by omega) (fun _ => Or.inl z1) h2 f2 S2.1.2.1)), fun z1 => ⟨fun z2 => hs k30 (by omega) h2 f2 S2, fun z2 => hd_rf (by decide) (hf (fun y => by omega) (fun _ => Or.inr z2) h2 f2 S2.1.2.1)⟩⟩
    · have k31 : kt b n i = 31 := t44.mp z
      have go : op = 41 ∨ op = 42 → zJ g (D + 4) 175 0 0 123 [xr 95, xi (h.2 95 10), xi op] [] h2 (x_qi (fun x1 h1 => zJ g (D + 5) 176 0 0 42 [xr 95, xu] [xi x1] h1 (x_qi Q))) := by
        intro o41
        refine zX9_behindOne_123 ?_
        rw [s5, x32_id (x := (P.length : Int) + 1 - 1) (by omega) (by omega), show ((P.length : Int) + 1 - 1).toNat = P.length by omega, s6.1, x32_id (by omega) (by omega)]
        refine ⟨by omega, by omega, Or.inl rfl, ?_⟩
        have f3 : rpf t0 h2 (h2.1, x_up (x_up h2.2 101 P.length (op + 2)) 95 20 0) := ⟨rfl, fun q q1 q2 q3 => by dsimp only; rw [x_up_r q1, x_up_r q3], fun j hj => by dsimp only; rw [x_up_j (by omega), x_up_r (by decide)], fun a _ => by dsimp only; rw [x_up_r (by decide), x_up_r (by decide)]⟩
        have S3 : rpS b n t0 (h2.1, x_up (x_up h2.2 101 P.length (op + 2)) 95 20 0) i w ((op + 2) :: P) o 0 := by
          obtain ⟨a1, a2, a3, a4, a5, a6, a7, a8⟩ := S2
          refine ⟨rQ_c (fun j j1 j2 => by dsimp only; rw [x_up_j (by omega), x_up_r (by decide)]) a1, ?_, ?_, fun j hj => ?_, ?_, ?_, ?_, ?_⟩ <;> (try dsimp only)
          · rw [x_up_j (by decide), x_up_r (by decide)]; exact a2
          · rw [x_up_j (by decide), x_up_r (by decide)]; exact a3
          · rw [x_up_r (by decide), x_up_r (by decide)]; exact a4 j hj
          · rw [x_up_j (by decide), x_up_r (by decide)]; exact a5
          · rw [x_up_r (by decide)]
            exact ⟨x_up_eq, plH_congr P (fun j hj => by rw [x_up_j (by omega)]) a6.2⟩
          · rw [x_up_j (by decide), x_up_r (by decide)]; exact a7
          · rw [x_up_eq]
        exact r_nextS (rpB_f (rpB_f B f2) f3) S3 (fun h4 f4 S4 => hd_r0 (hc1 k31 o41 h4 (rpf_trans (rpf_trans f2 f3) f4) S4))
      exact ⟨fun z1 => go (Or.inl z1), fun z1 => ⟨fun z2 => go (Or.inr z2), fun z2 => hd_rf (by decide) (hf (fun _ => by omega) (fun y => by omega) h2 f2 S2.1.2.1)⟩⟩
  · refine hd_e B S h40 hU hc (by omega) hw (fun z => ?_) (fun z => absurd z (by simp)) (fun _ h2 f2 e2 => hf (fun y => absurd (Or.inr y) k) (fun y => absurd (Or.inl y) k) h2 f2 e2)
    rcases z with z | z
    · exact hg z
    · exact k z.1
end RPO
