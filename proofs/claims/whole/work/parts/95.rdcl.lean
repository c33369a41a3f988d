/-! CLAUSES: the pure reader, the class's -/
abbrev Cl : Type := Int × Int × Nat × Nat
abbrev Tx : Type := Int × Nat × List Cl × List (Int × Int)
def gc (cl : List Cl) (c : Nat) : Cl := cl.getD c (0, 0, 0, 0)
theorem gc_l {cl s : List Cl} {j : Nat} (h : j < cl.length) : gc (cl ++ s) j = gc cl j := by
  unfold gc
  rw [List.getD_eq_getElem?_getD, List.getD_eq_getElem?_getD, List.getElem?_append_left h]
theorem gc_r {cl : List Cl} {x : Cl} : gc (cl ++ [x]) cl.length = x := by
  unfold gc
  rw [List.getD_eq_getElem?_getD, List.getElem?_append_right (Nat.le_refl _)]
  simp
section PCL
variable (K N : Nat → Int)
def pTl (k : Int) (i : Nat) : Int × Nat × Int := if k = 0 ∨ 6 ≤ k then (if K i ≠ 35 then (1, i, 0) else if N i < x_ltv 0 k.toNat ∨ x_ltv 1 k.toNat < N i then (2, i, 0) else (0, i + 1, N i)) else (0, i, 0)
def pBd (A B : Nat → Rs) (k : Int) (i : Nat) : Rs := if k ≤ 2 then A i else if k ≤ 5 then B i else (0, i, [])
def pCl (A B : Nat → Rs) (cl : List Cl) (w : List (Int × Int)) (i : Nat) : Tx :=
  if K i < 0 ∨ 9 < K i then (1, i, cl, w) else if 3 ≤ K i ∧ ∃ c ∈ cl, c.1 = K i then (4, i, cl, w) else if 20 ≤ cl.length then (5, i, cl, w)
  else if (pTl K N (K i) (i + 1)).1 ≠ 0 then ((pTl K N (K i) (i + 1)).1, (pTl K N (K i) (i + 1)).2.1, cl, w)
  else if (pBd A B (K i) (pTl K N (K i) (i + 1)).2.1).1 ≠ 0 then ((pBd A B (K i) (pTl K N (K i) (i + 1)).2.1).1, (pBd A B (K i) (pTl K N (K i) (i + 1)).2.1).2.1, cl, w)
  else if K (pBd A B (K i) (pTl K N (K i) (i + 1)).2.1).2.1 ≠ 32 then (1, (pBd A B (K i) (pTl K N (K i) (i + 1)).2.1).2.1, cl, w)
  else (0, (pBd A B (K i) (pTl K N (K i) (i + 1)).2.1).2.1 + 1, cl ++ [(K i, (pTl K N (K i) (i + 1)).2.2, w.length, w.length + (pBd A B (K i) (pTl K N (K i) (i + 1)).2.1).2.2.length)], w ++ (pBd A B (K i) (pTl K N (K i) (i + 1)).2.1).2.2)
end PCL
/-- what a clause's reading may change -/
def rdg (r : Nat) (h h' : xH) : Prop := h'.1 = h.1 ∧ (∀ q, q ≠ 74 → q ≠ r → q ≠ r + 1 → q ≠ r + 2 → q ≠ r + 3 → h'.2 q = h.2 q) ∧ h'.2 74 0 = h.2 74 0 ∧ h'.2 74 2 = h.2 74 2 ∧ (h'.2 r 0 = h.2 r 0 ∧ h'.2 r 1 = h.2 r 1) ∧ h'.2 (r + 1) 0 = h.2 (r + 1) 0 ∧ h'.2 (r + 1) 1 = h.2 (r + 1) 1 ∧ h'.2 (r + 1) 2 = h.2 (r + 1) 2
theorem rdg_refl {r : Nat} (h : xH) : rdg r h h := ⟨rfl, fun _ _ _ _ _ _ => rfl, rfl, rfl, ⟨rfl, rfl⟩, rfl, rfl, rfl⟩
theorem rdg_trans {r : Nat} {h h1 h2 : xH} (a : rdg r h h1) (c : rdg r h1 h2) : rdg r h h2 := ⟨c.1.trans a.1, fun q q1 q2 q3 q4 q5 => (c.2.1 q q1 q2 q3 q4 q5).trans (a.2.1 q q1 q2 q3 q4 q5), c.2.2.1.trans a.2.2.1, c.2.2.2.1.trans a.2.2.2.1, ⟨c.2.2.2.2.1.1.trans a.2.2.2.2.1.1, c.2.2.2.2.1.2.trans a.2.2.2.2.1.2⟩, c.2.2.2.2.2.1.trans a.2.2.2.2.2.1, c.2.2.2.2.2.2.1.trans a.2.2.2.2.2.2.1, c.2.2.2.2.2.2.2.trans a.2.2.2.2.2.2.2⟩
theorem rdg_f {r : Nat} {h h1 : xH} (hr : 111 ≤ r) (f : rdf r h h1) : rdg r h h1 := by
  have o := f.2.1 (r + 1) (by omega) (by omega) (by omega)
  exact ⟨f.1, fun q q1 q2 q3 q4 q5 => f.2.1 q q1 q2 q5, f.2.2.2.1, f.2.2.2.2, ⟨f.2.2.1 0 (by decide), f.2.2.1 1 (by decide)⟩, by rw [o], by rw [o], by rw [o]⟩
section RDC
variable {g : xG} {D : Nat} {b : Nat → Int} {n E r : Nat} {h : xH}
theorem rdC_g {h1 : xH} (C : rdC b n E r h) (f : rdg r h h1) : rdC b n E r h1 := by
  obtain ⟨c1, c2, c3, c4, c5, c6, c7, c8, c9, c10, c11, c12, c13, c14⟩ := C
  obtain ⟨t1, t2, t3, t4, t5⟩ := c1
  have o : ∀ q, q ≠ 74 → q ≠ r → q ≠ r + 1 → q ≠ r + 2 → q ≠ r + 3 → h1.2 q = h.2 q := f.2.1
  refine ⟨⟨by rw [o 43 (by omega) (by omega) (by omega) (by omega) (by omega)]; exact t1, t2, t3, fun i hi => ?_, t5⟩, c2, c3, c4, by rw [f.1]; exact c5, by rw [f.1]; exact c6, by rw [f.1]; exact c7, by rw [f.1]; exact c8, by rw [f.2.2.2.1]; exact c9, by rw [f.2.2.2.2.1.1]; exact c10, by rw [f.2.2.2.2.1.2]; exact c11, by rw [f.2.2.2.2.2.1]; exact c12, by rw [f.2.2.2.2.2.2.1]; exact c13, by rw [f.2.2.2.2.2.2.2]; exact c14⟩
  rw [o 45 (by omega) (by omega) (by omega) (by omega) (by omega), o 46 (by omega) (by omega) (by omega) (by omega) (by omega), o 47 (by omega) (by omega) (by omega) (by omega) (by omega)]; exact t4 i hi
theorem rd_pR (C : rdC b n E r h) : pR h (r + 1) (r + 2) 20 4 := by
  obtain ⟨c1, c2, c3, c4, c5, c6, c7, c8, c9, c10, c11, c12, c13, c14⟩ := C
  exact ⟨⟨by omega, c6⟩, ⟨by omega, c7⟩, c12, c13, c14, by decide⟩
/-- the clauses that were read -/
def rdK (r : Nat) (h : xH) (cl : List Cl) : Prop := h.2 (r + 1) 3 = (cl.length : Int) ∧ cl.length ≤ 20 ∧ (∀ c, c < cl.length → h.2 (r + 2) (c * 4) = (gc cl c).1 ∧ ((gc cl c).1 = 0 ∨ 6 ≤ (gc cl c).1 → h.2 (r + 2) (c * 4 + 1) = (gc cl c).2.1) ∧ h.2 (r + 2) (c * 4 + 2) = ((gc cl c).2.2.1 : Int) ∧ h.2 (r + 2) (c * 4 + 3) = ((gc cl c).2.2.2 : Int)) ∧ ∀ k : Nat, k < 10 → (tb (h.2 r 2) k = true ↔ ∃ c ∈ cl, c.1 = (k : Int))
theorem rdK_f {h1 : xH} {cl : List Cl} (hr : 111 ≤ r) (f : rdf r h h1) (k : rdK r h cl) : rdK r h1 cl := by
  have o1 := f.2.1 (r + 1) (by omega) (by omega) (by omega)
  have o2 := f.2.1 (r + 2) (by omega) (by omega) (by omega)
  unfold rdK
  rw [o1, o2, f.2.2.1 2 (by decide)]
  exact k
/-- the clause that is being read: row cl.length -/
def rdO (r : Nat) (h : xH) (cl : List Cl) (k v : Int) (s : Nat) : Prop := h.2 (r + 1) 3 = (cl.length : Int) + 1 ∧ cl.length < 20 ∧ (∀ c, c < cl.length → h.2 (r + 2) (c * 4) = (gc cl c).1 ∧ ((gc cl c).1 = 0 ∨ 6 ≤ (gc cl c).1 → h.2 (r + 2) (c * 4 + 1) = (gc cl c).2.1) ∧ h.2 (r + 2) (c * 4 + 2) = ((gc cl c).2.2.1 : Int) ∧ h.2 (r + 2) (c * 4 + 3) = ((gc cl c).2.2.2 : Int)) ∧ (∀ j : Nat, j < 10 → (tb (h.2 r 2) j = true ↔ (∃ c ∈ cl, c.1 = (j : Int)) ∨ k = (j : Int))) ∧ h.2 (r + 2) (cl.length * 4) = k ∧ (k = 0 ∨ 6 ≤ k → h.2 (r + 2) (cl.length * 4 + 1) = v) ∧ h.2 (r + 2) (cl.length * 4 + 2) = (s : Int)
theorem rdO_f {h1 : xH} {cl : List Cl} {k v : Int} {s : Nat} (hr : 111 ≤ r) (f : rdf r h h1) (q : rdO r h cl k v s) : rdO r h1 cl k v s := by
  have o1 := f.2.1 (r + 1) (by omega) (by omega) (by omega)
  have o2 := f.2.1 (r + 2) (by omega) (by omega) (by omega)
  unfold rdO
  rw [o1, o2, f.2.2.1 2 (by decide)]
  exact q
theorem s_eitF {Q : xH → Prop} (hf : h.2 74 3 ≠ 0) (hQ : Q h) : zSv g (D + 1) mX4_readEither [xr 74] h Q :=
  eX4_readEither (zX4_readEither_0 (zX4_readEither_4 ⟨fun _ => zX4_readEither_112 hQ, fun _ => ⟨fun z => absurd z (by decide), fun _ => ⟨fun _ => zX4_readEither_112 hQ, fun z => absurd z hf⟩⟩⟩))
theorem c_Told {cl : List Cl} {k : Int} {i s : Nat} {w : List (Int × Int)} {Q : xH → Prop} (C : rdC b n E r h) (W : rdW E r h i w) (hk : k = 0 ∨ (6 ≤ k ∧ k ≤ 9)) (O : rdO r h cl k 0 s)
    (h0 : (pTl (kt b n) (nmt b n) k i).1 ≠ 0 → ∀ h1, rdg r h h1 → rdF b n E h1 (pTl (kt b n) (nmt b n) k i).1 (pTl (kt b n) (nmt b n) k i).2.1 → Q h1)
    (h1 : (pTl (kt b n) (nmt b n) k i).1 = 0 → ∀ h1, rdg r h h1 → rdW E r h1 (pTl (kt b n) (nmt b n) k i).2.1 w → rdO r h1 cl k (pTl (kt b n) (nmt b n) k i).2.2 s → Q h1) : zSv g (D + 1) mX4_readTold [xr 74, xi (cl.length : Int), xi k] h Q := by
  have hr := C.2.2.2.1
  have hE := W.2.2.2.1
  unfold pTl at h0 h1
  rw [if_pos (by omega)] at h0 h1
  refine eX4_readTold (zX4_readTold_0 ⟨fun z => by omega, fun _ => ⟨fun z => by omega, fun _ => ⟨fun z => by omega, fun _ => s_token C W.1 hE ⟨fun k1 => zX4_readTold_37 (s_number C W.1 hE k1 ⟨by omega, by omega, s_win (fun v hv => ⟨fun q => zX4_readTold_65 ?_, fun q => ?_⟩)⟩), fun k1 => ?_⟩⟩⟩⟩)
  · rw [if_neg (fun z => z k1), if_neg (by show ¬ (nb b n (ps b n i) < _ ∨ _ < nb b n (ps b n i)); omega)] at h1
    have e2 : (h.2 74 2).toNat = r := by rw [C.2.2.2.2.2.2.2.2.1]; omega
    have e3 : (h.2 r 0).toNat = r + 1 := by rw [C.2.2.2.2.2.2.2.2.2.1]; omega
    rw [e2, e3]
    have R := rd_pR C
    refine ⟨(rd_is C).1, s_number C W.1 hE k1 ⟨R.1, s_set R (by omega) (by have := O.2.1; show ((cl.length : Nat) : Int) < ((20 : Nat) : Int); omega) (by decide) (by decide) (fun h2 hs2 e => ?_)⟩⟩
    rw [show ((cl.length : Int) * ((4 : Nat) : Int) + 1).toNat = cl.length * 4 + 1 by omega] at e
    have o : ∀ q, q ≠ r + 2 → h2.2 q = h.2 q := fun q hq => by rw [e]; dsimp only; rw [x_up_r hq]
    have o2 : ∀ j, j ≠ cl.length * 4 + 1 → h2.2 (r + 2) j = h.2 (r + 2) j := fun j hj => by rw [e]; dsimp only; rw [x_up_j hj]
    have f2 : rdg r h h2 := ⟨by rw [e], fun q q1 q2 q3 q4 q5 => o q q4, by rw [o 74 (by omega)], by rw [o 74 (by omega)], ⟨by rw [o r (by omega)], by rw [o r (by omega)]⟩, by rw [o (r + 1) (by omega)], by rw [o (r + 1) (by omega)], by rw [o (r + 1) (by omega)]⟩
    have W2 : rdW E r h2 i w := by unfold rdW; rw [o 74 (by omega), o r (by omega), o (r + 3) (by omega)]; exact W
    have C2 := rdC_g C f2
    have O2 : rdO r h2 cl k (nmt b n i) s := by
      obtain ⟨q1, q2, q3, q4, q5, q6, q7⟩ := O
      refine ⟨by rw [o (r + 1) (by omega)]; exact q1, q2, fun c hc => ?_, by rw [o r (by omega)]; exact q4, by rw [o2 _ (by omega)]; exact q5, fun _ => ?_, by rw [o2 _ (by omega)]; exact q7⟩
      · rw [o2 _ (by omega), o2 _ (by omega), o2 _ (by omega), o2 _ (by omega)]; exact q3 c hc
      · rw [e]; dsimp only; rw [x_up_eq]
    exact s_pass C2 W2 (by rw [k1]; decide) (fun h3 f3 W3 => h1 rfl h3 (rdg_trans f2 (rdg_f hr f3)) W3 (rdO_f hr f3 O2))
  · rw [if_neg (fun z => z k1), if_pos (by show nb b n (ps b n i) < _ ∨ _ < nb b n (ps b n i); omega)] at h0
    exact s_fail C W (by decide) (fun h2 f2 F2 => h0 (show (2 : Int) ≠ 0 by decide) h2 (rdg_f hr f2) F2)
  · rw [if_pos k1] at h0
    exact s_fail C W (by decide) (fun h2 f2 F2 => h0 (show (1 : Int) ≠ 0 by decide) h2 (rdg_f hr f2) F2)
def rdT (b : Nat → Int) (n E r : Nat) (h : xH) (x : Tx) : Prop := (x.1 = 0 ∧ rdW E r h x.2.1 x.2.2.2 ∧ rdK r h x.2.2.1) ∨ (x.1 ≠ 0 ∧ rdF b n E h x.1 x.2.1)
theorem s_setF {a c v : Int} {Q : xH → Prop} (C : rdC b n E r h) (ha : 0 ≤ a ∧ a < 20) (hc : 0 ≤ c ∧ c < 4) (hQ : ∀ h1, rdg r h h1 → h1.2 74 = h.2 74 → Q h1) : zSv g D mX5_set [xr (r + 1), xi a, xi c, xi v] h Q := by
  have hr := C.2.2.2.1
  refine s_set (rd_pR C) ha.1 ha.2 hc.1 hc.2 (fun h2 hs2 e => hQ h2 ?_ ?_)
  · have o : ∀ q, q ≠ r + 2 → h2.2 q = h.2 q := fun q hq => by rw [e]; dsimp only; rw [x_up_r hq]
    exact ⟨by rw [e], fun q q1 q2 q3 q4 q5 => o q q4, by rw [o 74 (by omega)], by rw [o 74 (by omega)], ⟨by rw [o r (by omega)], by rw [o r (by omega)]⟩, by rw [o (r + 1) (by omega)], by rw [o (r + 1) (by omega)], by rw [o (r + 1) (by omega)]⟩
  · rw [e]; dsimp only; rw [x_up_r (by omega)]
/-- behind the clause's body: failed -/
theorem f_119 {f : Int} {i c : Nat} {w1 : xV} {Q : xH → Prop} (C : rdC b n E r h) (F : rdF b n E h f i) (hc : c < 20) (hQ : ∀ h1, rdg r h h1 → rdF b n E h1 f i → Q h1) : zJ g (D + 2) 46 0 0 119 [xr 74, w1, xi (c : Int)] [] h (x_qv Q) := by
  have e2 : (h.2 74 2).toNat = r := by rw [C.2.2.2.2.2.2.2.2.1]; omega
  have e3 : (h.2 r 0).toNat = r + 1 := by rw [C.2.2.2.2.2.2.2.2.2.1]; omega
  refine zX4_readClause_119 (s_expectF C F.1 F.2.2.2.2 (rdF_n F) ?_)
  rw [e2, e3]
  exact ⟨(rd_is C).1, (rd_is C).1, (rd_pR C).1, s_setF C (by omega) (by decide) (fun h1 f1 e => hQ h1 f1 (rdF_74 F e))⟩
/-- behind the clause's body -/
theorem c_119 {cl : List Cl} {k v : Int} {s i : Nat} {w : List (Int × Int)} {w1 : xV} {Q : xH → Prop} (C : rdC b n E r h) (W : rdW E r h i w) (O : rdO r h cl k v s)
    (h1 : kt b n i = 32 → ∀ h1, rdg r h h1 → rdW E r h1 (i + 1) w → rdK r h1 (cl ++ [(k, v, s, w.length)]) → Q h1) (h0 : kt b n i ≠ 32 → ∀ h1, rdg r h h1 → rdF b n E h1 1 i → Q h1) : zJ g (D + 2) 46 0 0 119 [xr 74, w1, xi (cl.length : Int)] [] h (x_qv Q) := by
  have hr := C.2.2.2.1
  have hc := O.2.1
  refine zX4_readClause_119 (s_expect C W (by decide) (fun k1 h2 f2 W2 => ?_) (fun k1 h2 f2 F2 => ?_))
  · have C2 := rdC_f C f2
    have O2 := rdO_f hr f2 O
    have e2 : (h2.2 74 2).toNat = r := by rw [C2.2.2.2.2.2.2.2.2.1]; omega
    have e3 : (h2.2 r 0).toNat = r + 1 := by rw [C2.2.2.2.2.2.2.2.2.2.1]; omega
    rw [e2, e3]
    refine ⟨(rd_is C2).1, (rd_is C2).1, (rd_pR C2).1, s_set (rd_pR C2) (by omega) (by show ((cl.length : Nat) : Int) < ((20 : Nat) : Int); omega) (by decide) (by decide) (fun h3 hs3 e => ?_)⟩
    rw [show ((cl.length : Int) * ((4 : Nat) : Int) + 3).toNat = cl.length * 4 + 3 by omega, W2.2.2.2.2.2.1] at e
    have o : ∀ q, q ≠ r + 2 → h3.2 q = h2.2 q := fun q hq => by rw [e]; dsimp only; rw [x_up_r hq]
    have o2 : ∀ j, j ≠ cl.length * 4 + 3 → h3.2 (r + 2) j = h2.2 (r + 2) j := fun j hj => by rw [e]; dsimp only; rw [x_up_j hj]
    have f3 : rdg r h2 h3 := ⟨by rw [e], fun q q1 q2 q3 q4 q5 => o q q4, by rw [o 74 (by omega)], by rw [o 74 (by omega)], ⟨by rw [o r (by omega)], by rw [o r (by omega)]⟩, by rw [o (r + 1) (by omega)], by rw [o (r + 1) (by omega)], by rw [o (r + 1) (by omega)]⟩
    refine h1 k1 h3 (rdg_trans (rdg_f hr f2) f3) (by unfold rdW; rw [o 74 (by omega), o r (by omega), o (r + 3) (by omega)]; exact W2) ?_
    obtain ⟨q1, q2, q3, q4, q5, q6, q7⟩ := O2
    refine ⟨by rw [o (r + 1) (by omega), q1, List.length_append]; rfl, by rw [List.length_append]; exact hc, fun c hc2 => ?_, fun j hj => ?_⟩
    · rw [List.length_append] at hc2
      by_cases y : c = cl.length
      · subst y
        rw [gc_r, o2 _ (by omega), o2 _ (by omega), o2 _ (by omega)]
        exact ⟨q5, q6, q7, by rw [e]; dsimp only; rw [x_up_eq]⟩
      · have hc3 : c < cl.length := by have : c < cl.length + 1 := hc2; omega
        rw [gc_l hc3, o2 _ (by omega), o2 _ (by omega), o2 _ (by omega), o2 _ (by omega)]
        exact q3 c hc3
    · rw [o r (by omega), q4 j hj]
      constructor
      · intro z
        rcases z with ⟨c, c1, c2⟩ | z
        · exact ⟨c, List.mem_append_left _ c1, c2⟩
        · exact ⟨(k, v, s, w.length), List.mem_append_right _ (List.mem_singleton.mpr rfl), z⟩
      · rintro ⟨c, c1, c2⟩
        rcases List.mem_append.mp c1 with c1 | c1
        · exact Or.inl ⟨c, c1, c2⟩
        · rw [List.mem_singleton.mp c1] at c2; exact Or.inr c2
  · have C2 := rdC_f C f2
    have e2 : (h2.2 74 2).toNat = r := by rw [C2.2.2.2.2.2.2.2.2.1]; omega
    have e3 : (h2.2 r 0).toNat = r + 1 := by rw [C2.2.2.2.2.2.2.2.2.2.1]; omega
    rw [e2, e3]
    exact ⟨(rd_is C2).1, (rd_is C2).1, (rd_pR C2).1, s_setF C2 (by omega) (by decide) (fun h3 f3 e => h0 k1 h3 (rdg_trans (rdg_f hr f2) f3) (rdF_74 F2 e))⟩
end RDC
