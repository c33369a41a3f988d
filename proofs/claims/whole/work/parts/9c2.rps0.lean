/-! the reader's state without its pile -/
def rpS0 (b : Nat → Int) (n t0 : Nat) (h : xH) (i : Nat) (w : List (Int × Int)) (o : Nat) : Prop := rS h b n i ∧ h.2 95 13 = (t0 : Int) ∧ h.2 95 15 = (w.length : Int) ∧ (∀ j, j < w.length → h.2 96 (t0 + 250 + 2 * j) = (gl w j).1 ∧ h.2 96 (t0 + 250 + 2 * j + 1) = (gl w j).2) ∧ h.2 95 19 = (o : Int)
section RP0
variable {g : xG} {D : Nat} {b : Nat → Int} {n t0 E : Nat} {h : xH} {Q : Int → xH → Prop}
theorem rpS0_of {i o : Nat} {w : List (Int × Int)} {P : List Int} {wh : Int} (R : rpS b n t0 h i w P o wh) : rpS0 b n t0 h i w o := ⟨R.1, R.2.1, R.2.2.1, R.2.2.2.1, R.2.2.2.2.2.2.1⟩
theorem r_nextZ {i o : Nat} {w : List (Int × Int)} {Q : xH → Prop} (B : rpB b n t0 h) (S : rpS0 b n t0 h i w o) (hQ : ∀ h1, rpf t0 h h1 → rpS0 b n t0 h1 (i + 1) w o → Q h1) : zSv g (D + 2) mX9_nextToken [xr 95] h Q := by
  obtain ⟨s1, s2, s3, s4, s7⟩ := S
  refine r_next B.1 s1 (fun h1 f1 S1 => hQ h1 (rpf_N f1) ⟨S1, ?_, ?_, ?_, ?_⟩)
  · rw [f1.2.2 13 (by decide) (by decide) (by decide) (by decide) (by decide)]; exact s2
  · rw [f1.2.2 15 (by decide) (by decide) (by decide) (by decide) (by decide)]; exact s3
  · rw [f1.2.1 96 (by decide)]; exact s4
  · rw [f1.2.2 19 (by decide) (by decide) (by decide) (by decide) (by decide)]; exact s7
theorem rpS0_19 {i o o2 : Nat} {w : List (Int × Int)} (S : rpS0 b n t0 h i w o) : rpS0 b n t0 (h.1, x_up h.2 95 19 (o2 : Int)) i w o2 := by
  obtain ⟨s1, s2, s3, s4, s7⟩ := S
  refine ⟨rQ_c (fun j j1 j2 => by dsimp only; rw [x_up_j (by omega)]) s1, ?_, ?_, fun j hj => ?_, ?_⟩ <;> (try dsimp only)
  · rw [x_up_j (by decide)]; exact s2
  · rw [x_up_j (by decide)]; exact s3
  · rw [x_up_r (by decide)]; exact s4 j hj
  · rw [x_up_eq]
/-- a row of the clauses changes -/
theorem rpS0_96 {i o a : Nat} {v : Int} {w : List (Int × Int)} (S : rpS0 b n t0 h i w o) (ha : a < t0 + 250) : rpS0 b n t0 (h.1, x_up h.2 96 a v) i w o := by
  obtain ⟨s1, s2, s3, s4, s7⟩ := S
  refine ⟨rQ_c (fun j j1 j2 => by dsimp only; rw [x_up_r (by decide)]) s1, ?_, ?_, fun j hj => ?_, ?_⟩ <;> (try dsimp only)
  · rw [x_up_r (by decide)]; exact s2
  · rw [x_up_r (by decide)]; exact s3
  · rw [x_up_j (by omega), x_up_j (by omega)]; exact s4 j hj
  · rw [x_up_r (by decide)]; exact s7
theorem r_summed0 {o i : Nat} {w : List (Int × Int)} {x : Rs} (kk : kS g b n t0 o i x) (ho : o ≤ 8) (B : rpB b n t0 h) (R : rpS0 b n t0 h i w o) (hw : w.length ≤ i) (hi : i ≤ 300) (hx : x.1 = 0 → x.2.2.length + i ≤ x.2.1 ∧ x.2.1 ≤ 300) (hf : x.1 ≠ 0 → ∀ h1, rpf t0 h h1 → h1.2 95 9 = (ps b n x.2.1 : Int) → Q x.1 h1) (h0 : x.1 = 0 → ∀ h1, rpf t0 h h1 → rpS b n t0 h1 x.2.1 (w ++ x.2.2) [] o 1 → Q 0 h1) : zSi g (D + 5) mX9_summed [xr 95] h Q := by
  have f1 : rpf t0 h (h.1, x_up h.2 95 18 0) := rpf_95 (by decide)
  have f2 : rpf t0 h (h.1, x_up (x_up h.2 95 18 0) 95 20 0) := rpf_trans f1 (rpf_95 (j := 20) (v := 0) (by decide))
  have R1 : rpS b n t0 (h.1, x_up h.2 95 18 0) i w [] o (h.2 95 20) := by
    obtain ⟨s1, s2, s3, s4, s7⟩ := R
    refine ⟨rQ_c (fun j j1 j2 => by dsimp only; rw [x_up_j (by omega)]) s1, ?_, ?_, fun j hj => ?_, ?_, trivial, ?_, ?_⟩ <;> (try dsimp only)
    · rw [x_up_j (by decide)]; exact s2
    · rw [x_up_j (by decide)]; exact s3
    · rw [x_up_r (by decide)]; exact s4 j hj
    · rw [x_up_eq]; rfl
    · rw [x_up_j (by decide)]; exact s7
    · rw [x_up_j (by decide)]
  refine eX9_summed (zX9_summed_0 ⟨Or.inl rfl, ?_⟩)
  refine kk D (h.1, x_up (x_up h.2 95 18 0) 95 20 0) w [] Q ho (by show 0 ≤ _; omega) (fun x P' e => by cases e) (rpB_f B f2) (rpS_95 R1) (by show _ + 0 ≤ _; omega) hi (fun z h1 f3 e => hf z h1 (rpf_trans f2 f3) e) (fun z h1 w' U f3 hU lU he hg R3 => ?_) xu
  have lw : w'.length + U.length = w.length + x.2.2.length := by
    have e2 := congrArg List.length he
    rw [List.length_append, List.length_append, List.length_map] at e2
    exact e2
  have hx := hx z
  refine hd_e (rpB_f (rpB_f B f2) f3) R3 (fun x P' e => by cases e) hU (by omega) (by show 0 ≤ 60; omega) (by omega) (fun y => ?_) (fun _ h4 f4 R4 => h0 z h4 (rpf_trans (rpf_trans f2 f3) f4) (by rw [← he]; exact R4)) (fun y => absurd rfl y)
  rcases y with y | ⟨-, u, hu, hu2⟩
  · exact hg y
  · rw [List.append_nil] at hu
    have := hU u hu
    omega
end RP0
