/-! THE SHAPE OF THE HEAP behind the constructors: kinds and lengths of the first cells, and what their final fields hold -/
def zK : List (Nat × Nat) := [(8, 7), (2, 19), (5, 4), (10, 6), (5, 4), (10, 90), (5, 4), (10, 170), (5, 4), (10, 50), (5, 4), (10, 1400), (5, 4), (10, 90), (5, 4), (10, 400), (5, 4), (10, 400), (5, 4), (10, 320), (5, 4), (10, 480), (5, 4), (10, 120), (5, 4), (10, 830), (13, 10), (6, 6), (10, 300), (10, 301), (10, 301), (10, 301), (2, 19), (5, 4), (10, 6), (5, 4), (10, 90), (5, 4), (10, 170), (5, 4), (10, 50), (5, 4), (10, 1400), (5, 4), (10, 90), (5, 4), (10, 400), (5, 4), (10, 400), (5, 4), (10, 320), (5, 4), (10, 480), (5, 4), (10, 120), (5, 4), (10, 830), (13, 10), (4, 5), (1, 5), (10, 16), (11, 64), (3, 10), (5, 4), (10, 330), (5, 4), (10, 440), (5, 4), (10, 80), (5, 4), (10, 31), (5, 4), (10, 30), (5, 4), (10, 30), (5, 4), (10, 30), (7, 2), (10, 40), (9, 32), (10, 13700), (10, 13700), (11, 31), (11, 31), (10, 300), (10, 160), (10, 7), (11, 330), (12, 330), (10, 1024), (10, 32), (10, 32), (10, 10), (10, 64), (12, 50)]
/-- by cell: place, what it holds -/
def zPr : List (List (Nat × Nat)) := [[(0, 17), (1, 48), (2, 43), (3, 74), (4, 75), (5, 78), (6, 93)], [(0, 18), (1, 20), (2, 22), (3, 24), (4, 26), (5, 28), (6, 30), (7, 32), (8, 34), (9, 36), (10, 38), (11, 40), (12, 42)], [(0, 6), (1, 1), (2, 19)], [], [(0, 30), (1, 3), (2, 21)], [], [(0, 10), (1, 17), (2, 23)], [], [(0, 50), (1, 1), (2, 25)], [], [(0, 200), (1, 7), (2, 27)], [], [(0, 30), (1, 3), (2, 29)], [], [(0, 80), (1, 5), (2, 31)], [], [(0, 200), (1, 2), (2, 33)], [], [(0, 80), (1, 4), (2, 35)], [], [(0, 80), (1, 6), (2, 37)], [], [(0, 40), (1, 3), (2, 39)], [], [(0, 10), (1, 83), (2, 41)], [], [], [(0, 44), (1, 45), (2, 46), (3, 47)], [], [], [], [], [(0, 49), (1, 51), (2, 53), (3, 55), (4, 57), (5, 59), (6, 61), (7, 63), (8, 65), (9, 67), (10, 69), (11, 71), (12, 73)], [(0, 6), (1, 1), (2, 50)], [], [(0, 30), (1, 3), (2, 52)], [], [(0, 10), (1, 17), (2, 54)], [], [(0, 50), (1, 1), (2, 56)], [], [(0, 200), (1, 7), (2, 58)], [], [(0, 30), (1, 3), (2, 60)], [], [(0, 80), (1, 5), (2, 62)], [], [(0, 200), (1, 2), (2, 64)], [], [(0, 80), (1, 4), (2, 66)], [], [(0, 80), (1, 6), (2, 68)], [], [(0, 40), (1, 3), (2, 70)], [], [(0, 10), (1, 83), (2, 72)], [], [], [(0, 43)], [(0, 17), (1, 76), (2, 77)], [], [], [(0, 17), (1, 79), (2, 81), (3, 83), (4, 85), (5, 87), (6, 89), (7, 91)], [(0, 11), (1, 30), (2, 80)], [], [(0, 11), (1, 40), (2, 82)], [], [(0, 80), (1, 1), (2, 84)], [], [(0, 31), (1, 1), (2, 86)], [], [(0, 30), (1, 1), (2, 88)], [], [(0, 30), (1, 1), (2, 90)], [], [(0, 10), (1, 3), (2, 92)], [], [(0, 94)], [], [(0, 96), (1, 97), (2, 98), (3, 99), (4, 100), (17, 101), (21, 102), (22, 103), (23, 104), (24, 105), (25, 106), (26, 107), (27, 108), (30, 109), (31, 110)], [], [], [], [], [], [], [], [], [], [], [], [], [], [], []]
/-- what a final field of a first cell holds -/
def z_pt (r j : Nat) : Option Nat := ((zPr.getD (r - 16) []).find? fun q => q.1 == j).map fun q => q.2
def z_kd (r : Nat) : Option (Nat × Nat) := if r < 16 then none else zK[r - 16]?
def zSh (h : xH) : Prop := (∃ Ka, h.1 = zK ++ Ka) ∧ ∀ r j v, z_pt r j = some v → h.2 r j = (v : Int)
theorem z_is {h : xH} {r c N : Nat} (hs : zSh h) (hk : z_kd r = some (c, N)) : x_is h r c N := by
  unfold z_kd at hk
  split at hk
  · cases hk
  · obtain ⟨⟨Ka, e1⟩, -⟩ := hs
    refine ⟨by omega, ?_⟩
    rw [e1, List.getElem?_append_left (List.getElem?_eq_some_iff.mp hk).1]
    exact hk
theorem z_pt_lt {r j v : Nat} (h : z_pt r j = some v) : r - 16 < 95 := by
  rcases Nat.lt_or_ge (r - 16) 95 with z | z
  · exact z
  · exfalso
    unfold z_pt at h
    rw [List.getD_eq_getElem?_getD, List.getElem?_eq_none (by show 95 ≤ r - 16; exact z)] at h
    simp at h
/-- the places that are held are final fields of objects -/
theorem z_fin0 : ∀ i, i < 95 → ∀ q ∈ zPr.getD i [], (zK.getD i (99, 0)).1 < 10 ∧ (x_T (zK.getD i (99, 0)).1 q.1).2.2.2 = true := by decide +kernel
theorem z_16 : ∀ q ∈ zPr.getD 0 [], q.1 < 7 := by decide +kernel
theorem z_up {h : xH} {r c N j : Nat} {v : Int} (hs : zSh h) (hr : x_is h r c N) (hf : 10 ≤ c ∨ (x_T c j).2.2.2 = false) : zSh (h.1, x_up h.2 r j v) := by
  refine ⟨hs.1, fun r2 j2 v2 hp => ?_⟩
  show x_up h.2 r j v r2 j2 = (v2 : Int)
  unfold x_up
  by_cases e1 : r2 = r
  · by_cases e2 : j2 = j
    · exfalso
      subst e1; subst e2
      have h1 := z_pt_lt hp
      obtain ⟨⟨Ka, e3⟩, -⟩ := hs
      have h2 : zK[r2 - 16]? = some (c, N) := by
        have h3 := hr.2
        rw [e3, List.getElem?_append_left h1] at h3
        exact h3
      unfold z_pt at hp
      cases hfi : (zPr.getD (r2 - 16) []).find? fun q => q.1 == j2 with
      | none => rw [hfi] at hp; cases hp
      | some q =>
        have h4 := z_fin0 _ h1 q (List.mem_of_find?_eq_some hfi)
        have e5 : zK.getD (r2 - 16) (99, 0) = (c, N) := by rw [List.getD_eq_getElem?_getD, h2]; rfl
        have e6 : q.1 = j2 := by simpa using List.find?_some hfi
        rw [e5, e6] at h4
        rcases hf with z | z
        · have z1 : c < 10 := h4.1; omega
        · have z2 : (x_T c j2).2.2.2 = true := h4.2
          rw [z] at z2; cases z2
    · rw [if_pos e1, if_neg e2]; exact hs.2 r2 j2 v2 hp
  · rw [if_neg e1]; exact hs.2 r2 j2 v2 hp
theorem z_nw {h : xH} {e : Nat × Nat} (hs : zSh h) : zSh (h.1 ++ [e], x_nw h.2 (h.1.length + 16)) := by
  obtain ⟨⟨Ka, e1⟩, h2⟩ := hs
  refine ⟨⟨Ka ++ [e], by rw [e1, List.append_assoc]⟩, fun r j v hp => ?_⟩
  have h3 := z_pt_lt hp
  have h4 : h.1.length = 95 + Ka.length := by rw [e1, List.length_append]; rfl
  show x_nw h.2 (h.1.length + 16) r j = (v : Int)
  rw [x_nw_lt (by omega)]
  exact h2 r j v hp
def zQ (Q : xV → xH → Prop) : xV → xH → Prop := fun r h => zSh h ∧ Q r h
def zJ (g : xG) (D M k n pc : Nat) (ls st : List xV) (h : xH) (Q : xV → xH → Prop) : Prop := zSh h → xJ g D M k n pc ls st h (zQ Q)
def zS (g : xG) (D M : Nat) (args : List xV) (h : xH) (Q : xV → xH → Prop) : Prop := zSh h → xS g D M args h (zQ Q)
def zSi (g : xG) (D M : Nat) (args : List xV) (h : xH) (Q : Int → xH → Prop) : Prop := zS g D M args h (x_qi Q)
def zSl (g : xG) (D M : Nat) (args : List xV) (h : xH) (Q : Int → xH → Prop) : Prop := zS g D M args h (x_ql2 Q)
def zSr (g : xG) (D M : Nat) (args : List xV) (h : xH) (Q : Nat → xH → Prop) : Prop := zS g D M args h (x_qr Q)
def zSv (g : xG) (D M : Nat) (args : List xV) (h : xH) (Q : xH → Prop) : Prop := zS g D M args h (x_qv Q)
theorem z_entry {g : xG} {D M : Nat} {h : xH} {Q : xV → xH → Prop} {args : List xV} (hm : x_mok M) (ha : (x_en args).length ≤ x_ml M) (kk : zJ g D M 0 0 0 (x_l0 M args) [] h Q) : zS g D M args h Q := fun hs => x_entry hm ha (kk hs)
theorem zJ_sh {g : xG} {D M k n pc : Nat} {ls st : List xV} {h : xH} {Q : xV → xH → Prop} (kk : zSh h → zJ g D M k n pc ls st h Q) : zJ g D M k n pc ls st h Q := fun hs => kk hs hs
theorem zS_sh {g : xG} {D M : Nat} {args : List xV} {h : xH} {Q : xV → xH → Prop} (kk : zSh h → zS g D M args h Q) : zS g D M args h Q := fun hs => kk hs hs
theorem zS_mono {g : xG} {D M : Nat} {args : List xV} {h : xH} {Q1 Q2 : xV → xH → Prop} (hs : zS g D M args h Q1) (hq : ∀ r h1, zSh h1 → Q1 r h1 → Q2 r h1) : zS g D M args h Q2 := fun z => xS_mono (hs z) (fun r h1 hz => ⟨hz.1, hq r h1 hz.1 hz.2⟩)
def z_ck2 (c : Nat) (g : xG) (D M : Nat) (args : List xV) (h : xH) (st : List xV) (nx : List xV → xH → Prop) : Prop := match c with
  | 0 => zSi g D M args h (fun x h1 => nx (xi x :: st) h1)
  | 1 => zSl g D M args h (fun x h1 => nx (xl x :: st) h1)
  | 2 => zSr g D M args h (fun x h1 => nx (xr x :: st) h1)
  | _ => zSv g D M args h (fun h1 => nx st h1)
theorem z_ck2_ok {c : Nat} {g : xG} {D M : Nat} {args : List xV} {h : xH} {st : List xV} {nx : List xV → xH → Prop} (hs : zSh h) (hw : z_ck2 c g D M args h st nx) : x_ck2 c g D M args h st (fun st h1 => zSh h1 ∧ nx st h1) := by
  unfold z_ck2 at hw
  unfold x_ck2
  split
  · refine xS_mono (hw hs) (fun r h1 hq => ?_)
    rcases r with x | x | r | u
    · exact hq
    · exact hq.2.elim
    · exact hq.2.elim
    · exact hq.2.elim
  · refine xS_mono (hw hs) (fun r h1 hq => ?_)
    rcases r with x | x | r | u
    · exact hq.2.elim
    · exact hq
    · exact hq.2.elim
    · exact hq.2.elim
  · refine xS_mono (hw hs) (fun r h1 hq => ?_)
    rcases r with x | x | r | u
    · exact hq.2.elim
    · exact hq.2.elim
    · exact hq
    · exact hq.2.elim
  · rename_i c0 c1 c2
    have hw : zSv g D M args h (fun h1 => nx st h1) := by
      split at hw
      · exact (c0 rfl).elim
      · exact (c1 rfl).elim
      · exact (c2 rfl).elim
      · exact hw
    refine xS_mono (hw hs) (fun r h1 hq => ?_)
    rcases r with x | x | r | u
    · exact hq.2.elim
    · exact hq.2.elim
    · exact hq.2.elim
    · exact hq
/-- a cell of a kind: looked up (f = 0: asked) -/
def z_g (f : Nat) (h : xH) (r c N : Nat) (R : Prop) : Prop := match f with
  | 0 => x_is h r c N ∧ R
  | _ => (match z_kd r with
    | some (c', N') => (bif c' == c && N' == N then R else False)
    | none => False)
def z_a (f : Nat) (h : xH) (r c : Nat) (j : Int) (R : Prop) : Prop := match f with
  | 0 => (∃ N : Nat, x_is h r c N ∧ 0 ≤ j ∧ j < N) ∧ R
  | 1 => (match z_kd r with
    | some (c', N) => (bif c' == c then ((0 ≤ j ∧ j < (N : Int)) ∧ R) else False)
    | none => False)
  | _ => (match z_kd r with
    | some (c', N) => (bif c' == c && (decide (0 ≤ j) && decide (j < (N : Int))) then R else False)
    | none => False)
def z_v (f : Nat) (h : xH) (r j t : Nat) : xV := match f with
  | 0 => x_gv t (h.2 r j)
  | _ => (match z_pt r j with
    | some v => x_gv t (v : Int)
    | none => x_gv t (h.2 r j))
def z_l (f : Nat) (h : xH) (r c : Nat) (R : Nat → Prop) : Prop := match f with
  | 0 => ∃ N : Nat, x_is h r c N ∧ R N
  | _ => (match z_kd r with
    | some (c', N) => (bif c' == c then R N else False)
    | none => False)
theorem z_g_ok {f : Nat} {h : xH} {r c N : Nat} {R : Prop} (hs : zSh h) (hw : z_g f h r c N R) : x_is h r c N ∧ R := by
  unfold z_g at hw
  split at hw
  · exact hw
  · split at hw
    · rename_i c' N' hk
      cases hb : (c' == c && N' == N) with
      | false => rw [hb] at hw; exact hw.elim
      | true =>
        rw [hb] at hw
        simp only [Bool.and_eq_true, beq_iff_eq] at hb
        rw [hb.1, hb.2] at hk
        exact ⟨z_is hs hk, hw⟩
    · exact hw.elim
theorem z_l_ok {f : Nat} {h : xH} {r c : Nat} {R : Nat → Prop} (hs : zSh h) (hw : z_l f h r c R) : ∃ N : Nat, x_is h r c N ∧ R N := by
  unfold z_l at hw
  split at hw
  · exact hw
  · split at hw
    · rename_i c' N' hk
      cases hb : (c' == c) with
      | false => rw [hb] at hw; exact hw.elim
      | true =>
        rw [hb] at hw
        simp only [beq_iff_eq] at hb
        rw [hb] at hk
        exact ⟨N', z_is hs hk, hw⟩
    · exact hw.elim
theorem z_a_ok {f : Nat} {h : xH} {r c : Nat} {j : Int} {R : Prop} (hs : zSh h) (hw : z_a f h r c j R) : (∃ N : Nat, x_is h r c N ∧ 0 ≤ j ∧ j < N) ∧ R := by
  unfold z_a at hw
  split at hw
  · exact hw
  · split at hw
    · rename_i c' N' hk
      cases hb : (c' == c) with
      | false => rw [hb] at hw; exact hw.elim
      | true =>
        rw [hb] at hw
        simp only [beq_iff_eq] at hb
        rw [hb] at hk
        exact ⟨⟨N', z_is hs hk, hw.1⟩, hw.2⟩
    · exact hw.elim
  · split at hw
    · rename_i c' N' hk
      cases hb : (c' == c && (decide (0 ≤ j) && decide (j < (N' : Int)))) with
      | false => rw [hb] at hw; exact hw.elim
      | true =>
        rw [hb] at hw
        simp only [Bool.and_eq_true, beq_iff_eq, decide_eq_true_eq] at hb
        rw [hb.1] at hk
        exact ⟨⟨N', z_is hs hk, hb.2⟩, hw⟩
    · exact hw.elim
theorem z_v_ok {f : Nat} {h : xH} {r j t : Nat} (hs : zSh h) : z_v f h r j t = x_gv t (h.2 r j) := by
  unfold z_v
  split
  · rfl
  · split
    · rename_i v hv
      rw [hs.2 r j v hv]
    · rfl
def z_wp1 (g : xG) (D M : Nat) (f : Nat) (i : xI) (pc k n : Nat) (ls st : List xV) (h : xH) (Q : xV → xH → Prop) (nx : Nat → Nat → List xV → List xV → xH → Prop) : Prop :=
  match i.1 with
  | .iconst c => nx k n ls (xi c :: st) h
  | .bipush c => nx k n ls (xi c :: st) h
  | .sipush c => nx k n ls (xi c :: st) h
  | .ldc _ => (match i.2.2.1 with
    | 0 => nx k n ls (xi i.2.2.2.2.2 :: st) h
    | r => nx k n ls (xr r :: st) h)
  | .ldc_w _ => nx k n ls (xi i.2.2.2.2.2 :: st) h
  | .ldc2_w _ => nx k n ls (xl i.2.2.2.2.2 :: st) h
  | .lconst _ => nx k n ls (xl i.2.2.2.2.2 :: st) h
  | .aconst_null => nx k n ls (xr 0 :: st) h
  | .iload _ => (match ls[i.2.2.1]? with
    | some (.inl x) => nx k n ls (xi x :: st) h
    | _ => False)
  | .iload_n _ => (match ls[i.2.2.1]? with
    | some (.inl x) => nx k n ls (xi x :: st) h
    | _ => False)
  | .lload _ => (match ls[i.2.2.1]? with
    | some (.inr (.inl x)) => nx k n ls (xl x :: st) h
    | _ => False)
  | .lload_n _ => (match ls[i.2.2.1]? with
    | some (.inr (.inl x)) => nx k n ls (xl x :: st) h
    | _ => False)
  | .aload _ => (match ls[i.2.2.1]? with
    | some (.inr (.inr (.inl x))) => nx k n ls (xr x :: st) h
    | _ => False)
  | .aload_n _ => (match ls[i.2.2.1]? with
    | some (.inr (.inr (.inl x))) => nx k n ls (xr x :: st) h
    | _ => False)
  | .istore _ => (match st with
    | .inl x :: st => nx k n (x_st1 ls i.2.2.1 (xi x)) st h
    | _ => False)
  | .istore_n _ => (match st with
    | .inl x :: st => nx k n (x_st1 ls i.2.2.1 (xi x)) st h
    | _ => False)
  | .lstore _ => (match st with
    | .inr (.inl x) :: st => nx k n (x_st2 ls i.2.2.1 (xl x)) st h
    | _ => False)
  | .lstore_n _ => (match st with
    | .inr (.inl x) :: st => nx k n (x_st2 ls i.2.2.1 (xl x)) st h
    | _ => False)
  | .astore _ => (match st with
    | .inr (.inr (.inl x)) :: st => nx k n (x_st1 ls i.2.2.1 (xr x)) st h
    | _ => False)
  | .astore_n _ => (match st with
    | .inr (.inr (.inl x)) :: st => nx k n (x_st1 ls i.2.2.1 (xr x)) st h
    | _ => False)
  | .iinc _ c => (match ls[i.2.2.1]? with
    | some (.inl x) => nx k n (x_st1 ls i.2.2.1 (xi (x32 (x + c)))) st h
    | _ => False)
  | .iadd => (match st with
    | .inl y :: .inl x :: st => nx k n ls (xi (x32 (x + y)) :: st) h
    | _ => False)
  | .isub => (match st with
    | .inl y :: .inl x :: st => nx k n ls (xi (x32 (x - y)) :: st) h
    | _ => False)
  | .imul => (match st with
    | .inl y :: .inl x :: st => nx k n ls (xi (x32 (x * y)) :: st) h
    | _ => False)
  | .iand => (match st with
    | .inl y :: .inl x :: st => nx k n ls (xi (x_and x y) :: st) h
    | _ => False)
  | .ior => (match st with
    | .inl y :: .inl x :: st => nx k n ls (xi (x_or x y) :: st) h
    | _ => False)
  | .ishl => (match st with
    | .inl y :: .inl x :: st => nx k n ls (xi (x_shl x y) :: st) h
    | _ => False)
  | .ishr => (match st with
    | .inl y :: .inl x :: st => nx k n ls (xi (x_shr x y) :: st) h
    | _ => False)
  | .iushr => (match st with
    | .inl y :: .inl x :: st => nx k n ls (xi (x_ushr x y) :: st) h
    | _ => False)
  | .idiv => (match st with
    | .inl y :: .inl x :: st => y ≠ 0 ∧ nx k n ls (xi (x32 (x.tdiv y)) :: st) h
    | _ => False)
  | .irem => (match st with
    | .inl y :: .inl x :: st => y ≠ 0 ∧ nx k n ls (xi (x32 (x.tmod y)) :: st) h
    | _ => False)
  | .ladd => (match st with
    | .inr (.inl y) :: .inr (.inl x) :: st => nx k n ls (xl (x64 (x + y)) :: st) h
    | _ => False)
  | .lsub => (match st with
    | .inr (.inl y) :: .inr (.inl x) :: st => nx k n ls (xl (x64 (x - y)) :: st) h
    | _ => False)
  | .lmul => (match st with
    | .inr (.inl y) :: .inr (.inl x) :: st => nx k n ls (xl (x64 (x * y)) :: st) h
    | _ => False)
  | .land => (match st with
    | .inr (.inl y) :: .inr (.inl x) :: st => nx k n ls (xl (x_andL x y) :: st) h
    | _ => False)
  | .lor => (match st with
    | .inr (.inl y) :: .inr (.inl x) :: st => nx k n ls (xl (x_orL x y) :: st) h
    | _ => False)
  | .ldiv => (match st with
    | .inr (.inl y) :: .inr (.inl x) :: st => y ≠ 0 ∧ nx k n ls (xl (x64 (x.tdiv y)) :: st) h
    | _ => False)
  | .lcmp => (match st with
    | .inr (.inl y) :: .inr (.inl x) :: st => nx k n ls (xi (x_cmp x y) :: st) h
    | _ => False)
  | .lshl => (match st with
    | .inl y :: .inr (.inl x) :: st => nx k n ls (xl (x_shlL x y) :: st) h
    | _ => False)
  | .ineg => (match st with
    | .inl x :: st => nx k n ls (xi (x32 (-x)) :: st) h
    | _ => False)
  | .lneg => (match st with
    | .inr (.inl x) :: st => nx k n ls (xl (x64 (-x)) :: st) h
    | _ => False)
  | .i2l => (match st with
    | .inl x :: st => nx k n ls (xl x :: st) h
    | _ => False)
  | .l2i => (match st with
    | .inr (.inl x) :: st => nx k n ls (xi (x32 x) :: st) h
    | _ => False)
  | .i2c => (match st with
    | .inl x :: st => nx k n ls (xi (x_i2c x) :: st) h
    | _ => False)
  | .dup => (match st with
    | .inl x :: st => nx k n ls (xi x :: xi x :: st) h
    | .inr (.inr (.inl x)) :: st => nx k n ls (xr x :: xr x :: st) h
    | _ => False)
  | .pop => (match st with
    | .inl _ :: st => nx k n ls st h
    | .inr (.inr (.inl _)) :: st => nx k n ls st h
    | _ => False)
  | .dup2 => (match st with
    | .inl x :: .inr (.inr (.inl r)) :: st => nx k n ls (xi x :: xr r :: xi x :: xr r :: st) h
    | .inr (.inl x) :: st => nx k n ls (xl x :: xl x :: st) h
    | _ => False)
  | .if_icmp c _ => (match st with
    | .inl y :: .inl x :: st => x_icmp c x y (zJ g D M k n i.2.2.1 ls st h Q) (nx k n ls st h)
    | _ => False)
  | .ifCond c _ => (match st with
    | .inl x :: st => x_icmp c x 0 (zJ g D M k n i.2.2.1 ls st h Q) (nx k n ls st h)
    | _ => False)
  | .ifnull _ => (match st with
    | .inr (.inr (.inl r)) :: st => (r = 0 → zJ g D M k n i.2.2.1 ls st h Q) ∧ (¬ r = 0 → nx k n ls st h)
    | _ => False)
  | .ifnonnull _ => (match st with
    | .inr (.inr (.inl r)) :: st => (¬ r = 0 → zJ g D M k n i.2.2.1 ls st h Q) ∧ (r = 0 → nx k n ls st h)
    | _ => False)
  | .goto _ => nx k n ls st h
  | .tableswitch d lo hi offs => (match st with
    | .inl x :: st => ((x < lo ∨ hi < x) → zJ g D M k n ((pc : Int) + d).toNat ls st h Q) ∧ x_sw (fun t => zJ g D M k n t ls st h Q) pc x lo offs.toList
    | _ => False)
  | .getfield _ => (match st with
    | .inr (.inr (.inl r)) :: st => z_g f h r i.2.2.1 i.2.2.2.2.1 (nx k n ls (z_v f h r i.2.2.2.1 i.2.2.2.2.2.toNat :: st) h)
    | _ => False)
  | .putfield _ => (match st with
    | v :: .inr (.inr (.inl r)) :: st => z_g f h r i.2.2.1 i.2.2.2.2.1 (x_fitk i.2.2.2.2.2.toNat v (nx k n ls st (h.1, x_up h.2 r i.2.2.2.1 (x_pl v))))
    | _ => False)
  | .getstatic _ => nx k n ls (xr (2 + i.2.2.1) :: st) h
  | .new _ => (k + 1 ≤ x_bc M ∧ n + i.2.2.2.1 ≤ x_bs M) ∧ nx (k + 1) (n + i.2.2.2.1) ls (xr (h.1.length + 16) :: st) (h.1 ++ [(i.2.2.1, i.2.2.2.1)], x_nw h.2 (h.1.length + 16))
  | .newarray _ => (match st with
    | .inl N :: st => (0 ≤ N ∧ N < 1000000 ∧ k + 1 ≤ x_bc M ∧ n + N.toNat ≤ x_bs M) ∧ nx (k + 1) (n + N.toNat) ls (xr (h.1.length + 16) :: st) (h.1 ++ [(i.2.2.1, N.toNat)], x_nw h.2 (h.1.length + 16))
    | _ => False)
  | .anewarray _ => (match st with
    | .inl N :: st => (0 ≤ N ∧ N < 1000000 ∧ k + 1 ≤ x_bc M ∧ n + N.toNat ≤ x_bs M) ∧ nx (k + 1) (n + N.toNat) ls (xr (h.1.length + 16) :: st) (h.1 ++ [(13, N.toNat)], x_nw h.2 (h.1.length + 16))
    | _ => False)
  | .iaload => (match i.2.2.1, st with
    | 0, .inl j :: .inr (.inr (.inl r)) :: st => z_a f h r 10 j (nx k n ls (xi (h.2 r j.toNat) :: st) h)
    | 1, .inl j :: .inr (.inr (.inl 1)) :: st => (0 ≤ j ∧ j < g.L) ∧ nx k n ls (xi (g.xs j.toNat).toInt :: st) h
    | 2, .inl j :: .inr (.inr (.inl 2)) :: st => (0 ≤ j ∧ j < 10) ∧ nx k n ls (xi (x_ltv 0 j.toNat) :: st) h
    | 2, .inl j :: .inr (.inr (.inl 3)) :: st => (0 ≤ j ∧ j < 10) ∧ nx k n ls (xi (x_ltv 1 j.toNat) :: st) h
    | 2, .inl j :: .inr (.inr (.inl 4)) :: st => (0 ≤ j ∧ j < 10) ∧ nx k n ls (xi (x_ltv 2 j.toNat) :: st) h
    | _, _ => False)
  | .laload => (match st with
    | .inl j :: .inr (.inr (.inl r)) :: st => z_a f h r 11 j (nx k n ls (xl (h.2 r j.toNat) :: st) h)
    | _ => False)
  | .baload => (match st with
    | .inl j :: .inr (.inr (.inl r)) :: st => z_a f h r 12 j (nx k n ls (xi (h.2 r j.toNat) :: st) h)
    | _ => False)
  | .aaload => (match st with
    | .inl j :: .inr (.inr (.inl r)) :: st => z_a f h r 13 j (nx k n ls (xr (h.2 r j.toNat).toNat :: st) h)
    | _ => False)
  | .iastore => (match st with
    | .inl x :: .inl j :: .inr (.inr (.inl r)) :: st => z_a f h r 10 j (nx k n ls st (h.1, x_up h.2 r j.toNat x))
    | _ => False)
  | .lastore => (match st with
    | .inr (.inl x) :: .inl j :: .inr (.inr (.inl r)) :: st => z_a f h r 11 j (nx k n ls st (h.1, x_up h.2 r j.toNat x))
    | _ => False)
  | .bastore => (match st with
    | .inl x :: .inl j :: .inr (.inr (.inl r)) :: st => z_a f h r 12 j ((x = 0 ∨ x = 1) ∧ nx k n ls st (h.1, x_up h.2 r j.toNat x))
    | _ => False)
  | .aastore => (match st with
    | .inr (.inr (.inl v)) :: .inl j :: .inr (.inr (.inl r)) :: st => z_a f h r 13 j ((∃ N2 : Nat, x_is h v 0 N2) ∧ nx k n ls st (h.1, x_up h.2 r j.toNat v))
    | _ => False)
  | .arraylength => (match i.2.2.1, st with
    | 0, .inr (.inr (.inl r)) :: st => z_l f h r i.2.2.2.1 (fun N => nx k n ls (xi (N : Int) :: st) h)
    | 1, .inr (.inr (.inl 1)) :: st => nx k n ls (xi (g.L : Int) :: st) h
    | 2, .inr (.inr (.inl 2)) :: st => nx k n ls (xi 10 :: st) h
    | 2, .inr (.inr (.inl 3)) :: st => nx k n ls (xi 10 :: st) h
    | 2, .inr (.inr (.inl 4)) :: st => nx k n ls (xi 10 :: st) h
    | _, _ => False)
  | .invokevirtual _ => (match D with
    | 0 => False
    | D + 1 => (match st.drop (x_np i.2.2.1) with
      | .inr (.inr (.inl r)) :: st' => (bif Nat.ble (x_wd st') 8 then
          (z_g f h r i.2.2.2.1 (x_ft.getD i.2.2.2.1 []).length
            (bif i.2.2.2.2.2 == 0 then z_ck2 i.2.2.2.2.1 g D i.2.2.1 (xr r :: (st.take (x_np i.2.2.1)).reverse) h st' (fun st h => nx k n ls st h)
             else ((k + x_bc i.2.2.1 ≤ x_bc M ∧ n + x_bs i.2.2.1 ≤ x_bs M) ∧ z_ck2 i.2.2.2.2.1 g D i.2.2.1 (xr r :: (st.take (x_np i.2.2.1)).reverse) h st' (fun st h => nx (k + x_bc i.2.2.1) (n + x_bs i.2.2.1) ls st h)))) else False)
      | _ => False))
  | .invokespecial _ => (match D with
    | 0 => False
    | D + 1 => (bif i.2.2.2.2.1 == 9 then
        (match st with
        | .inr (.inr (.inl r)) :: st' => (bif Nat.ble (x_wd st') 8 then ((∃ c N : Nat, x_is h r c N) ∧ nx k n ls st' h) else False)
        | _ => False)
      else (match st.drop (x_np i.2.2.1) with
      | .inr (.inr (.inl r)) :: st' => (bif Nat.ble (x_wd st') 8 then
          ((∃ c N : Nat, x_is h r c N) ∧ (k + x_bc i.2.2.1 ≤ x_bc M ∧ n + x_bs i.2.2.1 ≤ x_bs M) ∧ z_ck2 3 g D i.2.2.1 (xr r :: (st.take (x_np i.2.2.1)).reverse) h st' (fun st h => nx (k + x_bc i.2.2.1) (n + x_bs i.2.2.1) ls st h)) else False)
      | _ => False)))
  | .invokestatic _ => (match D with
    | 0 => False
    | D + 1 => (match i.2.2.2.2.1 with
      | 20 => (match st with
        | .inl y :: .inl x :: st' => (bif Nat.ble (x_wd st') 8 then nx k n ls (xi (max x y) :: st') h else False)
        | _ => False)
      | 21 => (match st with
        | .inl y :: .inl x :: st' => (bif Nat.ble (x_wd st') 8 then nx k n ls (xi (min x y) :: st') h else False)
        | _ => False)
      | 22 => (match st with
        | .inr (.inl y) :: .inr (.inl x) :: st' => (bif Nat.ble (x_wd st') 8 then nx k n ls (xl (max x y) :: st') h else False)
        | _ => False)
      | 23 => (match st with
        | .inr (.inl y) :: .inr (.inl x) :: st' => (bif Nat.ble (x_wd st') 8 then nx k n ls (xl (min x y) :: st') h else False)
        | _ => False)
      | c => (bif Nat.ble (x_np i.2.2.1) st.length && Nat.ble (x_wd (st.drop (x_np i.2.2.1))) 8 then z_ck2 c g D i.2.2.1 (st.take (x_np i.2.2.1)).reverse h (st.drop (x_np i.2.2.1)) (fun st h => nx k n ls st h) else False)))
  | .ireturn => (match i.2.2.1, st with
    | 0, [.inl x] => Q (xi x) h
    | 3, [.inl x] => (x = 0 ∨ x = 1) ∧ Q (xi x) h
    | _, _ => False)
  | .lreturn => (match st with
    | [.inr (.inl x)] => Q (xl x) h
    | _ => False)
  | .areturn => (match st with
    | [.inr (.inr (.inl x))] => Q (xr x) h
    | _ => False)
  | .return_ => (match st with
    | [] => Q xu h
    | _ => False)
  | _ => False

abbrev zI : Type := Nat × xI
def z_wp (g : xG) (D M : Nat) (Q : xV → xH → Prop) : List zI → Nat → Nat → Nat → List xV → List xV → xH → Prop
  | [], pc, k, n, ls, st, h => zJ g D M k n pc ls st h Q
  | i :: is, pc, k, n, ls, st, h => z_wp1 g D M i.1 i.2 pc k n ls st h Q (fun k n ls st h => z_wp g D M Q is (x_npc pc i.2) k n ls st h)
theorem x_icmp_mono {c : Jvm.ClassFile.Cond} {x y : Int} {P N P' N' : Prop} (h1 : P → P') (h2 : N → N') (h : x_icmp c x y P N) : x_icmp c x y P' N' := by
  cases c <;> exact ⟨fun z => h1 (h.1 z), fun z => h2 (h.2 z)⟩
theorem x_sw_mono {J J' : Nat → Prop} {pc : Nat} {x : Int} (hJ : ∀ t, J t → J' t) : ∀ (os : List Int) (lo : Int), x_sw J pc x lo os → x_sw J' pc x lo os := by
  intro os
  induction os with
  | nil => intro lo _; trivial
  | cons o os ih => intro lo hs; exact ⟨fun z => hJ _ (hs.1 z), ih _ hs.2⟩
theorem x_bif {b : Bool} {P : Prop} (h : b = true) (p : P) : (bif b then P else False) := by rw [h]; exact p
theorem x_fitk_mono {t : Nat} {v : xV} {P P' : Prop} (h1 : P → P') (h : x_fitk t v P) : x_fitk t v P' := by
  unfold x_fitk at h ⊢
  split at h
  · exact h1 h
  · exact h1 h
  · exact h1 h
  · exact ⟨h.1, h1 h.2⟩
  · exact h.elim
set_option maxHeartbeats 4000000 in
theorem z2x {g : xG} {D M pc k n len f : Nat} {ins : Instr} {o : xO} {ls st : List xV} {h : xH} {Q : xV → xH → Prop} {nx : Nat → Nat → List xV → List xV → xH → Prop} (hni : (x_y M).name ≠ "<init>") (hc : x_ck3 M pc (ins, len, o) = true) (hs : zSh h) (hw : z_wp1 g D M f (ins, len, o) pc k n ls st h Q nx) :
    x_wp1 g D M (ins, len, o) pc k n ls st h (zQ Q) (fun k n ls st h => zSh h ∧ nx k n ls st h) := by
  obtain ⟨a, b, c, v⟩ := o
  cases ins with
  | iconst c0 =>
    exact ⟨hs, hw⟩
  | bipush c0 =>
    exact ⟨hs, hw⟩
  | sipush c0 =>
    exact ⟨hs, hw⟩
  | ldc_w j =>
    exact ⟨hs, hw⟩
  | ldc2_w j =>
    exact ⟨hs, hw⟩
  | lconst c0 =>
    exact ⟨hs, hw⟩
  | aconst_null =>
    exact ⟨hs, hw⟩
  | getstatic j =>
    exact ⟨hs, hw⟩
  | goto off =>
    exact ⟨hs, hw⟩
  | ldc j =>
    simp only [z_wp1] at hw
    simp only [x_wp1]
    cases a with
    | zero => exact ⟨hs, hw⟩
    | succ a => exact ⟨hs, hw⟩
  | iadd =>
    simp only [z_wp1] at hw
    split at hw
    · exact ⟨hs, hw⟩
    · exact hw.elim
  | isub =>
    simp only [z_wp1] at hw
    split at hw
    · exact ⟨hs, hw⟩
    · exact hw.elim
  | imul =>
    simp only [z_wp1] at hw
    split at hw
    · exact ⟨hs, hw⟩
    · exact hw.elim
  | iand =>
    simp only [z_wp1] at hw
    split at hw
    · exact ⟨hs, hw⟩
    · exact hw.elim
  | ior =>
    simp only [z_wp1] at hw
    split at hw
    · exact ⟨hs, hw⟩
    · exact hw.elim
  | ishl =>
    simp only [z_wp1] at hw
    split at hw
    · exact ⟨hs, hw⟩
    · exact hw.elim
  | ishr =>
    simp only [z_wp1] at hw
    split at hw
    · exact ⟨hs, hw⟩
    · exact hw.elim
  | iushr =>
    simp only [z_wp1] at hw
    split at hw
    · exact ⟨hs, hw⟩
    · exact hw.elim
  | ladd =>
    simp only [z_wp1] at hw
    split at hw
    · exact ⟨hs, hw⟩
    · exact hw.elim
  | lsub =>
    simp only [z_wp1] at hw
    split at hw
    · exact ⟨hs, hw⟩
    · exact hw.elim
  | lmul =>
    simp only [z_wp1] at hw
    split at hw
    · exact ⟨hs, hw⟩
    · exact hw.elim
  | land =>
    simp only [z_wp1] at hw
    split at hw
    · exact ⟨hs, hw⟩
    · exact hw.elim
  | lor =>
    simp only [z_wp1] at hw
    split at hw
    · exact ⟨hs, hw⟩
    · exact hw.elim
  | lcmp =>
    simp only [z_wp1] at hw
    split at hw
    · exact ⟨hs, hw⟩
    · exact hw.elim
  | lshl =>
    simp only [z_wp1] at hw
    split at hw
    · exact ⟨hs, hw⟩
    · exact hw.elim
  | ineg =>
    simp only [z_wp1] at hw
    split at hw
    · exact ⟨hs, hw⟩
    · exact hw.elim
  | lneg =>
    simp only [z_wp1] at hw
    split at hw
    · exact ⟨hs, hw⟩
    · exact hw.elim
  | i2l =>
    simp only [z_wp1] at hw
    split at hw
    · exact ⟨hs, hw⟩
    · exact hw.elim
  | l2i =>
    simp only [z_wp1] at hw
    split at hw
    · exact ⟨hs, hw⟩
    · exact hw.elim
  | i2c =>
    simp only [z_wp1] at hw
    split at hw
    · exact ⟨hs, hw⟩
    · exact hw.elim
  | istore j =>
    simp only [z_wp1] at hw
    split at hw
    · exact ⟨hs, hw⟩
    · exact hw.elim
  | istore_n j =>
    simp only [z_wp1] at hw
    split at hw
    · exact ⟨hs, hw⟩
    · exact hw.elim
  | lstore j =>
    simp only [z_wp1] at hw
    split at hw
    · exact ⟨hs, hw⟩
    · exact hw.elim
  | lstore_n j =>
    simp only [z_wp1] at hw
    split at hw
    · exact ⟨hs, hw⟩
    · exact hw.elim
  | astore j =>
    simp only [z_wp1] at hw
    split at hw
    · exact ⟨hs, hw⟩
    · exact hw.elim
  | astore_n j =>
    simp only [z_wp1] at hw
    split at hw
    · exact ⟨hs, hw⟩
    · exact hw.elim
  | idiv =>
    simp only [z_wp1] at hw
    split at hw
    · exact ⟨hw.1, hs, hw.2⟩
    · exact hw.elim
  | irem =>
    simp only [z_wp1] at hw
    split at hw
    · exact ⟨hw.1, hs, hw.2⟩
    · exact hw.elim
  | ldiv =>
    simp only [z_wp1] at hw
    split at hw
    · exact ⟨hw.1, hs, hw.2⟩
    · exact hw.elim
  | iload j =>
    simp only [z_wp1] at hw
    simp only [x_wp1]
    split at hw
    · rename_i hx
      rw [hx]
      exact ⟨hs, hw⟩
    · exact hw.elim
  | iload_n j =>
    simp only [z_wp1] at hw
    simp only [x_wp1]
    split at hw
    · rename_i hx
      rw [hx]
      exact ⟨hs, hw⟩
    · exact hw.elim
  | lload j =>
    simp only [z_wp1] at hw
    simp only [x_wp1]
    split at hw
    · rename_i hx
      rw [hx]
      exact ⟨hs, hw⟩
    · exact hw.elim
  | lload_n j =>
    simp only [z_wp1] at hw
    simp only [x_wp1]
    split at hw
    · rename_i hx
      rw [hx]
      exact ⟨hs, hw⟩
    · exact hw.elim
  | aload j =>
    simp only [z_wp1] at hw
    simp only [x_wp1]
    split at hw
    · rename_i hx
      rw [hx]
      exact ⟨hs, hw⟩
    · exact hw.elim
  | aload_n j =>
    simp only [z_wp1] at hw
    simp only [x_wp1]
    split at hw
    · rename_i hx
      rw [hx]
      exact ⟨hs, hw⟩
    · exact hw.elim
  | iinc j c0 =>
    simp only [z_wp1] at hw
    simp only [x_wp1]
    split at hw
    · rename_i hx
      rw [hx]
      exact ⟨hs, hw⟩
    · exact hw.elim
  | dup =>
    simp only [z_wp1] at hw
    split at hw
    · exact ⟨hs, hw⟩
    · exact ⟨hs, hw⟩
    · exact hw.elim
  | pop =>
    simp only [z_wp1] at hw
    split at hw
    · exact ⟨hs, hw⟩
    · exact ⟨hs, hw⟩
    · exact hw.elim
  | dup2 =>
    simp only [z_wp1] at hw
    split at hw
    · exact ⟨hs, hw⟩
    · exact ⟨hs, hw⟩
    · exact hw.elim
  | if_icmp c0 off =>
    simp only [z_wp1] at hw
    split at hw
    · exact x_icmp_mono (fun z => z hs) (fun z => ⟨hs, z⟩) hw
    · exact hw.elim
  | ifCond c0 off =>
    simp only [z_wp1] at hw
    split at hw
    · exact x_icmp_mono (fun z => z hs) (fun z => ⟨hs, z⟩) hw
    · exact hw.elim
  | ifnull off =>
    simp only [z_wp1] at hw
    split at hw
    · exact ⟨fun z => hw.1 z hs, fun z => ⟨hs, hw.2 z⟩⟩
    · exact hw.elim
  | ifnonnull off =>
    simp only [z_wp1] at hw
    split at hw
    · exact ⟨fun z => hw.1 z hs, fun z => ⟨hs, hw.2 z⟩⟩
    · exact hw.elim
  | tableswitch d lo hi offs =>
    simp only [z_wp1] at hw
    split at hw
    · exact ⟨fun z => hw.1 z hs, x_sw_mono (fun t z => z hs) _ _ hw.2⟩
    · exact hw.elim
  | getfield j =>
    simp only [z_wp1] at hw
    split at hw
    · obtain ⟨h1, h2⟩ := z_g_ok hs hw
      rw [z_v_ok hs] at h2
      exact ⟨h1, hs, h2⟩
    · exact hw.elim
  | putfield j =>
    simp only [x_ck3, Bool.and_eq_true, Bool.or_eq_true, Bool.not_eq_true', decide_eq_true_eq] at hc
    have hfin : (x_T a b).2.2.2 = false := by
      rcases hc.2 with z | z
      · exact z
      · exact absurd z.1 hni
    simp only [z_wp1] at hw
    split at hw
    · obtain ⟨h1, h2⟩ := z_g_ok hs hw
      exact ⟨h1, x_fitk_mono (fun z => ⟨z_up hs h1 (Or.inr hfin), z⟩) h2⟩
    · exact hw.elim
  | new j =>
    exact ⟨hw.1, z_nw hs, hw.2⟩
  | newarray t =>
    simp only [z_wp1] at hw
    split at hw
    · exact ⟨hw.1, z_nw hs, hw.2⟩
    · exact hw.elim
  | anewarray j =>
    simp only [z_wp1] at hw
    split at hw
    · exact ⟨hw.1, z_nw hs, hw.2⟩
    · exact hw.elim
  | iaload =>
    simp only [z_wp1] at hw
    split at hw
    · obtain ⟨h1, h2⟩ := z_a_ok hs hw
      exact ⟨h1, hs, h2⟩
    · exact ⟨hw.1, hs, hw.2⟩
    · exact ⟨hw.1, hs, hw.2⟩
    · exact ⟨hw.1, hs, hw.2⟩
    · exact ⟨hw.1, hs, hw.2⟩
    · exact hw.elim
  | laload =>
    simp only [z_wp1] at hw
    split at hw
    · obtain ⟨h1, h2⟩ := z_a_ok hs hw
      exact ⟨h1, hs, h2⟩
    · exact hw.elim
  | baload =>
    simp only [z_wp1] at hw
    split at hw
    · obtain ⟨h1, h2⟩ := z_a_ok hs hw
      exact ⟨h1, hs, h2⟩
    · exact hw.elim
  | aaload =>
    simp only [z_wp1] at hw
    split at hw
    · obtain ⟨h1, h2⟩ := z_a_ok hs hw
      exact ⟨h1, hs, h2⟩
    · exact hw.elim
  | iastore =>
    simp only [z_wp1] at hw
    split at hw
    · obtain ⟨⟨N, h1⟩, h2⟩ := z_a_ok hs hw
      exact ⟨⟨N, h1⟩, z_up hs h1.1 (Or.inl (by decide)), h2⟩
    · exact hw.elim
  | lastore =>
    simp only [z_wp1] at hw
    split at hw
    · obtain ⟨⟨N, h1⟩, h2⟩ := z_a_ok hs hw
      exact ⟨⟨N, h1⟩, z_up hs h1.1 (Or.inl (by decide)), h2⟩
    · exact hw.elim
  | bastore =>
    simp only [z_wp1] at hw
    split at hw
    · obtain ⟨⟨N, h1⟩, h2⟩ := z_a_ok hs hw
      exact ⟨⟨N, h1⟩, h2.1, z_up hs h1.1 (Or.inl (by decide)), h2.2⟩
    · exact hw.elim
  | aastore =>
    simp only [z_wp1] at hw
    split at hw
    · obtain ⟨⟨N, h1⟩, h2⟩ := z_a_ok hs hw
      exact ⟨⟨N, h1⟩, h2.1, z_up hs h1.1 (Or.inl (by decide)), h2.2⟩
    · exact hw.elim
  | arraylength =>
    simp only [z_wp1] at hw
    split at hw
    · obtain ⟨N, h1, h2⟩ := z_l_ok hs hw
      exact ⟨N, h1, hs, h2⟩
    · exact ⟨hs, hw⟩
    · exact ⟨hs, hw⟩
    · exact ⟨hs, hw⟩
    · exact ⟨hs, hw⟩
    · exact hw.elim
  | invokevirtual j =>
    simp only [z_wp1] at hw
    simp only [x_wp1]
    split at hw
    · exact hw.elim
    · split at hw
      · rename_i r st' hst
        rw [hst]
        cases hwd : Nat.ble (x_wd st') 8 with
        | false => rw [hwd] at hw; exact hw.elim
        | true =>
          rw [hwd] at hw
          simp only [hwd]
          obtain ⟨h1, h2⟩ := z_g_ok hs hw
          refine ⟨h1, ?_⟩
          cases hv : (v == 0) with
          | true =>
            rw [hv] at h2
            exact z_ck2_ok hs h2
          | false =>
            rw [hv] at h2
            exact ⟨h2.1, z_ck2_ok hs h2.2⟩
      · exact hw.elim
  | invokespecial j =>
    simp only [z_wp1] at hw
    simp only [x_wp1]
    split at hw
    · exact hw.elim
    · cases h9 : (c == 9) with
      | true =>
        rw [h9] at hw
        simp only [cond_true] at hw ⊢
        split at hw
        · rename_i r st'
          cases hwd : Nat.ble (x_wd st') 8 with
          | false => rw [hwd] at hw; exact hw.elim
          | true =>
            rw [hwd] at hw
            simp only [hwd]
            exact ⟨hw.1, hs, hw.2⟩
        · exact hw.elim
      | false =>
        rw [h9] at hw
        simp only [cond_false] at hw ⊢
        split at hw
        · rename_i r st' hst
          rw [hst]
          cases hwd : Nat.ble (x_wd st') 8 with
          | false => rw [hwd] at hw; exact hw.elim
          | true =>
            rw [hwd] at hw
            simp only [hwd]
            exact ⟨hw.1, hw.2.1, z_ck2_ok hs hw.2.2⟩
        · exact hw.elim
  | invokestatic j =>
    simp only [z_wp1] at hw
    simp only [x_wp1]
    split at hw
    · exact hw.elim
    · split at hw
      · split at hw
        · rename_i st'
          cases hwd : Nat.ble (x_wd st') 8 with
          | false => rw [hwd] at hw; exact hw.elim
          | true =>
            rw [hwd] at hw
            simp only [hwd]
            exact ⟨hs, hw⟩
        · exact hw.elim
      · split at hw
        · rename_i st'
          cases hwd : Nat.ble (x_wd st') 8 with
          | false => rw [hwd] at hw; exact hw.elim
          | true =>
            rw [hwd] at hw
            simp only [hwd]
            exact ⟨hs, hw⟩
        · exact hw.elim
      · split at hw
        · rename_i st'
          cases hwd : Nat.ble (x_wd st') 8 with
          | false => rw [hwd] at hw; exact hw.elim
          | true =>
            rw [hwd] at hw
            simp only [hwd]
            exact ⟨hs, hw⟩
        · exact hw.elim
      · split at hw
        · rename_i st'
          cases hwd : Nat.ble (x_wd st') 8 with
          | false => rw [hwd] at hw; exact hw.elim
          | true =>
            rw [hwd] at hw
            simp only [hwd]
            exact ⟨hs, hw⟩
        · exact hw.elim
      · rename_i c1 c2 c3 c4
        dsimp only
        split
        · exact (c1 rfl).elim
        · exact (c2 rfl).elim
        · exact (c3 rfl).elim
        · exact (c4 rfl).elim
        · cases hwd : (Nat.ble (x_np a) st.length && Nat.ble (x_wd (st.drop (x_np a))) 8) with
          | false => rw [hwd] at hw; exact hw.elim
          | true =>
            rw [hwd] at hw
            exact z_ck2_ok hs hw
  | ireturn =>
    simp only [z_wp1] at hw
    split at hw
    · exact ⟨hs, hw⟩
    · exact ⟨hw.1, hs, hw.2⟩
    · exact hw.elim
  | lreturn =>
    simp only [z_wp1] at hw
    split at hw
    · exact ⟨hs, hw⟩
    · exact hw.elim
  | areturn =>
    simp only [z_wp1] at hw
    split at hw
    · exact ⟨hs, hw⟩
    · exact hw.elim
  | return_ =>
    simp only [z_wp1] at hw
    split at hw
    · exact ⟨hs, hw⟩
    · exact hw.elim
  | _ => exact hw.elim
theorem z_blk {g : xG} {D M : Nat} {Q : xV → xH → Prop} (hM : M < 279) (hni : (x_y M).name ≠ "<init>") : ∀ (is : List zI) {pc k n : Nat} {ls st : List xV} {h : xH}, x_okb M pc (is.map fun q => q.2) = true → z_wp g D M Q is pc k n ls st h → zJ g D M k n pc ls st h Q := by
  intro is
  induction is with
  | nil => intro pc k n ls st h _ hw; exact hw
  | cons i is ih =>
    intro pc k n ls st h hc hw hs
    simp only [List.map_cons, x_okb, Bool.and_eq_true, decide_eq_true_eq] at hc
    obtain ⟨⟨h1, h2⟩, h3⟩ := hc
    exact x_wp1_ok hM h1 h2 (z2x hni h2 hs hw) (fun k n ls st h hq => ih h3 hq.2 hq.1)
theorem zj_mask {g : xG} {D M k n pc : Nat} {ls st : List xV} {h : xH} {Q : xV → xH → Prop} (bs : List Bool) (kk : zJ g D M k n pc (x_mask bs ls) st h Q) : zJ g D M k n pc ls st h Q := fun hs => xj_mask bs (kk hs)
