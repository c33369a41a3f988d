/-! a clause, read by the class -/
section RC2
variable {g : xG} {D : Nat} {b : Nat → Int} {n E r : Nat} {h : xH}
def jE (g : xG) (b : Nat → Int) (n E r i : Nat) (x : Rs) : Prop := ∀ (D : Nat) (h : xH) (w : List (Int × Int)) (Q : xH → Prop), 30 ≤ D → rdC b n E r h → rdW E r h i w → (∀ h1, rdf r h h1 → rdR b n E r h1 x.1 x.2.1 (w ++ x.2.2) → Q h1) → zSv g D mX4_readEither [xr 74] h Q
theorem f_97 {f k : Int} {i c : Nat} {Q : xH → Prop} (C : rdC b n E r h) (F : rdF b n E h f i) (hc : c < 20) (hQ : ∀ h1, rdg r h h1 → rdF b n E h1 f i → Q h1) : zJ g (D + 2) 46 0 0 97 [xr 74, xi k, xi (c : Int)] [] h (x_qv Q) :=
  zX4_readClause_97 ⟨fun _ => zX4_readClause_109 ⟨fun _ => f_119 C F hc hQ, fun _ => s_sumF (rdF_n F) (f_119 C F hc hQ)⟩, fun _ => s_eitF (rdF_n F) (f_119 C F hc hQ)⟩
theorem c_97 {A B : Nat → Rs} {cl : List Cl} {k v : Int} {s i : Nat} {w : List (Int × Int)} {Q : xH → Prop} (hD : 29 ≤ D) (jEs : jE g b n E r i (A i)) (jSs : jS g b n E r 0 i (B i)) (C : rdC b n E r h) (W : rdW E r h i w) (O : rdO r h cl k v s)
    (h1 : (pBd A B k i).1 = 0 → kt b n (pBd A B k i).2.1 = 32 → ∀ h1, rdg r h h1 → rdW E r h1 ((pBd A B k i).2.1 + 1) (w ++ (pBd A B k i).2.2) → rdK r h1 (cl ++ [(k, v, s, (w ++ (pBd A B k i).2.2).length)]) → Q h1)
    (h0 : (pBd A B k i).1 = 0 → kt b n (pBd A B k i).2.1 ≠ 32 → ∀ h1, rdg r h h1 → rdF b n E h1 1 (pBd A B k i).2.1 → Q h1)
    (hf : (pBd A B k i).1 ≠ 0 → ∀ h1, rdg r h h1 → rdF b n E h1 (pBd A B k i).1 (pBd A B k i).2.1 → Q h1) : zJ g (D + 2) 46 0 0 97 [xr 74, xi k, xi (cl.length : Int)] [] h (x_qv Q) := by
  have hr := C.2.2.2.1
  have fin : ∀ {h1 : xH} {w1 : xV}, rdf r h h1 → rdR b n E r h1 (pBd A B k i).1 (pBd A B k i).2.1 (w ++ (pBd A B k i).2.2) → zJ g (D + 2) 46 0 0 119 [xr 74, w1, xi (cl.length : Int)] [] h1 (x_qv Q) := by
    intro h2 w1 f2 R2
    rcases R2 with ⟨z1, W2⟩ | ⟨z1, F2⟩
    · exact c_119 (rdC_f C f2) W2 (rdO_f hr f2 O) (fun k1 h3 f3 W3 K3 => h1 z1 k1 h3 (rdg_trans (rdg_f hr f2) f3) W3 K3) (fun k1 h3 f3 F3 => h0 z1 k1 h3 (rdg_trans (rdg_f hr f2) f3) F3)
    · exact f_119 (rdC_f C f2) F2 O.2.1 (fun h3 f3 F3 => hf z1 h3 (rdg_trans (rdg_f hr f2) f3) F3)
  unfold pBd at fin
  refine zX4_readClause_97 ⟨fun z => zX4_readClause_109 ⟨fun z2 => ?_, fun z2 => ?_⟩, fun z => ?_⟩
  · rw [if_neg (by omega), if_neg (by omega)] at fin
    exact fin (rdf_refl h) (rdR_0 (by dsimp only; rw [List.append_nil]; exact W))
  · rw [if_neg (by omega), if_pos z2] at fin
    exact jSs (D + 1) h w _ (by omega) C W (fun h2 f2 R2 => fin f2 R2)
  · rw [if_pos z] at fin
    exact jEs (D + 1) h w _ (by omega) C W (fun h2 f2 R2 => fin f2 R2)
theorem c_Cl {A B : Nat → Rs} {cl : List Cl} {i : Nat} {w : List (Int × Int)} {Q : xH → Prop} (hD : 29 ≤ D) (jEs : ∀ i, i ≤ E → jE g b n E r i (A i)) (jSs : ∀ i, i ≤ E → jS g b n E r 0 i (B i)) (C : rdC b n E r h) (W : rdW E r h i w) (L : rdK r h cl) (hQ : ∀ h1, rdg r h h1 → rdT b n E r h1 (pCl (kt b n) (nmt b n) A B cl w i) → Q h1) : zSv g (D + 2) mX4_readClause [xr 74] h Q := by
  have hr := C.2.2.2.1
  have hE := W.2.2.2.1
  have hK := (rd_E C).1
  have e3 := (rd_E C).2.1
  have wl := W.2.2.2.2.1
  have e2 : (h.2 74 2).toNat = r := by rw [C.2.2.2.2.2.2.2.2.1]; omega
  have er : (h.2 r 0).toNat = r + 1 := by rw [C.2.2.2.2.2.2.2.2.2.1]; omega
  unfold pCl at hQ
  have bad : ∀ {D' : Nat} {f : Int}, f ≠ 0 → (∀ h1, rdg r h h1 → rdT b n E r h1 (f, i, cl, w) → Q h1) → zSv g D' mX4_fail [xr 74, xi f] h (fun h2 => Q h2) := fun hf hq => s_fail C W hf (fun h1 f1 F1 => hq h1 (rdg_f hr f1) (Or.inr ⟨hf, F1⟩))
  refine eX4_readClause (zX4_readClause_0 (s_token C W.1 hE ⟨fun z => zX4_readClause_15 ?_, fun z => ⟨fun z2 => zX4_readClause_23 ?_, fun z2 => ?_⟩⟩))
  · rw [if_pos (Or.inl z)] at hQ; exact bad (by decide) hQ
  rotate_left
  · rw [if_pos (Or.inr z2)] at hQ; exact bad (by decide) hQ
  rw [if_neg (by omega)] at hQ
  obtain ⟨k, hk⟩ : ∃ k : Nat, kt b n i = (k : Int) := ⟨(kt b n i).toNat, by omega⟩
  have l1 := L.2.2.2 k (by omega)
  have e0 := lt_E (K := kt b n) hK hE hk (by omega)
  -- it may stand there
  have k47 : ¬ (3 ≤ kt b n i ∧ ∃ c ∈ cl, c.1 = kt b n i) → ∀ {w2 : xV}, zJ g (D + 2) 46 0 0 47 [xr 74, xi (kt b n i), w2] [] h (x_qv Q) := by
    intro k1 w2
    rw [if_neg k1] at hQ
    refine zX4_readClause_47 ?_
    rw [e2, er]
    refine ⟨(rd_is C).1, (rd_pR C).1, s_isFull (rd_pR C).1 (fun v hv => ⟨fun q => ?_, fun q => ?_⟩)⟩
    rotate_left
    · have : 20 ≤ cl.length := by
        have := (rd_pR C).2.2.1
        have := L.1
        omega
      rw [if_pos this] at hQ; exact bad (by decide) hQ
    have hc : cl.length < 20 := by
      have := (rd_pR C).2.2.1
      have := L.1
      omega
    rw [if_neg (by omega)] at hQ
    refine zX4_readClause_68 ?_
    rw [e2]
    refine ⟨(rd_is C).1, ?_⟩
    obtain ⟨D, rfl⟩ : ∃ D', D = D' + 1 := ⟨D - 1, by omega⟩
    -- the row
    have i1 := (rd_is C).1
    have u : ∀ q, q ≠ r → x_up h.2 r 2 (x_or (h.2 r 2) (x_shl 1 (kt b n i))) q = h.2 q := fun q hq => x_up_r hq
    have u2 : ∀ j, j ≠ 2 → x_up h.2 r 2 (x_or (h.2 r 2) (x_shl 1 (kt b n i))) r j = h.2 r j := fun j hj => x_up_j hj
    have ea : (x_up h.2 r 2 (x_or (h.2 r 2) (x_shl 1 (kt b n i))) r 0).toNat = r + 1 := by rw [u2 0 (by decide)]; exact er
    have eb : x_up h.2 r 2 (x_or (h.2 r 2) (x_shl 1 (kt b n i))) r 3 = (w.length : Int) := by rw [u2 3 (by decide)]; exact W.2.2.2.2.2.1
    refine eX0_open (zX0_open_0 ⟨i1, i1, i1, i1, ?_⟩)
    rw [ea, eb]
    have R := rd_pR C
    have R1 : pR (h.1, x_up h.2 r 2 (x_or (h.2 r 2) (x_shl 1 (kt b n i)))) (r + 1) (r + 2) 20 4 := by
      refine ⟨R.1, R.2.1, ?_, ?_, ?_, by decide⟩ <;> dsimp only <;> rw [u (r + 1) (by omega)]
      · exact R.2.2.1
      · exact R.2.2.2.1
      · exact R.2.2.2.2.1
    refine ⟨R.1, s_add R1 (n := cl.length) (by dsimp only; rw [u (r + 1) (by omega)]; exact L.1) hc (by omega) (by decide) (fun h1 hs1 k1 e1 => ?_)⟩
    dsimp only at k1 e1
    have o : ∀ q, q ≠ r → q ≠ r + 1 → q ≠ r + 2 → h1.2 q = h.2 q := fun q q1 q2 q3 => by
      rw [e1]; funext j; unfold p_add; rw [if_neg (by omega), if_neg (by omega), u q q1]
    have o0 : ∀ j, j ≠ 2 → h1.2 r j = h.2 r j := fun j hj => by rw [e1]; unfold p_add; rw [if_neg (by omega), if_neg (by omega), u2 j hj]
    have o0b : h1.2 r 2 = x_or (h.2 r 2) (x_shl 1 (kt b n i)) := by rw [e1]; unfold p_add; rw [if_neg (by omega), if_neg (by omega), x_up_eq]
    have o1 : ∀ j, j ≠ 3 → h1.2 (r + 1) j = h.2 (r + 1) j := fun j hj => by rw [e1]; unfold p_add; rw [if_neg (by omega), if_neg (by omega), u (r + 1) (by omega)]
    have o1b : h1.2 (r + 1) 3 = (cl.length : Int) + 1 := by rw [e1]; unfold p_add; rw [if_pos ⟨rfl, rfl⟩]
    have o2 : ∀ j, h1.2 (r + 2) j = if cl.length * 4 ≤ j ∧ j < cl.length * 4 + 4 then p_row (kt b n i) 0 (w.length : Int) (j - cl.length * 4) else h.2 (r + 2) j := fun j => by
      rw [e1]; unfold p_add
      rw [if_neg (by omega), u (r + 2) (by omega)]
      by_cases y : cl.length * 4 ≤ j ∧ j < cl.length * 4 + 4
      · rw [if_pos ⟨rfl, y⟩, if_pos y]
      · rw [if_neg (fun z => y z.2), if_neg y]
    have f1 : rdg r h h1 := ⟨k1, fun q q1 q2 q3 q4 q5 => o q q2 q3 q4, by rw [o 74 (by omega) (by omega) (by omega)], by rw [o 74 (by omega) (by omega) (by omega)], ⟨o0 0 (by decide), o0 1 (by decide)⟩, o1 0 (by decide), o1 1 (by decide), o1 2 (by decide)⟩
    have C1 := rdC_g C f1
    have W1 : rdW E r h1 i w := by
      unfold rdW
      rw [o 74 (by omega) (by omega) (by omega), o0 3 (by decide), o (r + 3) (by omega) (by omega) (by omega)]
      exact W
    have O1 : rdO r h1 cl (kt b n i) 0 w.length := by
      refine ⟨o1b, hc, fun c hc2 => ?_, fun j hj => ?_, ?_, fun _ => ?_, ?_⟩
      · rw [o2, o2, o2, o2, if_neg (by omega), if_neg (by omega), if_neg (by omega), if_neg (by omega)]; exact L.2.2.1 c hc2
      · rw [o0b, hk, tb_put (by omega) (by omega), Bool.or_eq_true, decide_eq_true_eq]
        have := L.2.2.2 j hj
        constructor
        · intro y
          rcases y with y | y
          · exact Or.inl (this.mp y)
          · right; omega
        · intro y
          rcases y with y | y
          · exact Or.inl (this.mpr y)
          · right; omega
      · rw [o2, if_pos (by omega), show cl.length * 4 - cl.length * 4 = 0 by omega]; rfl
      · rw [o2, if_pos (by omega), show cl.length * 4 + 1 - cl.length * 4 = 1 by omega]; rfl
      · rw [o2, if_pos (by omega), show cl.length * 4 + 2 - cl.length * 4 = 2 by omega]; rfl
    clear e1 o o0 o0b o1 o1b o2 u u2 ea eb
    refine s_pass C1 W1 (by omega) (fun h2 f2 W2 => ?_)
    have C2 := rdC_f C1 f2
    have O2 := rdO_f hr f2 O1
    have f02 := rdg_trans f1 (rdg_f hr f2)
    have told : kt b n i = 0 ∨ 6 ≤ kt b n i → zJ g (D + 1 + 2) 46 0 0 91 [xr 74, xi (kt b n i), xi (cl.length : Int)] [] h2 (x_qv Q) := by
      intro kk
      refine zX4_readClause_91 (c_Told C2 W2 (by omega) O2 (fun tf h3 f3 F3 => ?_) (fun tf h3 f3 W3 O3 => ?_))
      · rw [if_pos tf] at hQ
        exact f_97 (rdC_g C2 f3) F3 hc (fun h4 f4 F4 => hQ h4 (rdg_trans (rdg_trans f02 f3) f4) (Or.inr ⟨tf, F4⟩))
      · rw [if_neg (fun y => y tf)] at hQ
        have hi3 := W3.2.2.2.1
        refine c_97 (by omega) (jEs _ hi3) (jSs _ hi3) (rdC_g C2 f3) W3 O3 (fun z1 z2 h4 f4 W4 K4 => ?_) (fun z1 z2 h4 f4 F4 => ?_) (fun z1 h4 f4 F4 => ?_)
        · rw [if_neg (fun y => y z1), if_neg (fun y => y z2)] at hQ
          refine hQ h4 (rdg_trans (rdg_trans f02 f3) f4) (Or.inl ⟨rfl, W4, ?_⟩)
          rw [List.length_append] at K4
          exact K4
        · rw [if_neg (fun y => y z1), if_pos z2] at hQ
          exact hQ h4 (rdg_trans (rdg_trans f02 f3) f4) (Or.inr ⟨show (1 : Int) ≠ 0 by decide, F4⟩)
        · rw [if_pos z1] at hQ
          exact hQ h4 (rdg_trans (rdg_trans f02 f3) f4) (Or.inr ⟨z1, F4⟩)
    refine ⟨fun y => told (Or.inl y), fun y => ⟨fun y2 => ?_, fun y2 => told (Or.inr y2)⟩⟩
    have te : pTl (kt b n) (nmt b n) (kt b n i) (i + 1) = (0, i + 1, 0) := by unfold pTl; rw [if_neg (by omega)]
    rw [te] at hQ
    rw [if_neg (fun y => y rfl)] at hQ
    have hi3 := W2.2.2.2.1
    refine c_97 (by omega) (jEs _ hi3) (jSs _ hi3) C2 W2 O2 (fun z1 z2 h4 f4 W4 K4 => ?_) (fun z1 z2 h4 f4 F4 => ?_) (fun z1 h4 f4 F4 => ?_)
    · rw [if_neg (fun y => y z1), if_neg (fun y => y z2)] at hQ
      refine hQ h4 (rdg_trans f02 f4) (Or.inl ⟨rfl, W4, ?_⟩)
      rw [List.length_append] at K4
      exact K4
    · rw [if_neg (fun y => y z1), if_pos z2] at hQ
      exact hQ h4 (rdg_trans f02 f4) (Or.inr ⟨show (1 : Int) ≠ 0 by decide, F4⟩)
    · rw [if_pos z1] at hQ
      exact hQ h4 (rdg_trans f02 f4) (Or.inr ⟨z1, F4⟩)
  refine ⟨fun z3 => k47 (by omega), fun z3 => ?_⟩
  rw [e2]
  refine ⟨(rd_is C).1, eX0_tells (zX0_tells_0 ⟨(rd_is C).1, fun q => zX0_tells_16 ⟨Or.inl rfl, ⟨fun _ => k47 (fun y => q ?_), fun y => absurd rfl y⟩⟩, fun q => ⟨Or.inr rfl, ⟨fun y => absurd y (by decide), fun _ => ?_⟩⟩⟩)⟩
  · rw [hk]
    refine (tb_shr (by omega)).1.mpr (l1.mpr ?_)
    rw [← hk]; exact y.2
  · rw [hk] at q
    have := l1.mp ((tb_shr (by omega)).1.mp q)
    rw [← hk] at this
    rw [if_pos ⟨z3, this⟩] at hQ
    exact bad (by decide) hQ
end RC2
