/-! the class's reader: its state, its small steps -/
def gl (w : List (Int × Int)) (j : Nat) : Int × Int := w.getD j (0, 0)
theorem gl_l {w s : List (Int × Int)} {j : Nat} (h : j < w.length) : gl (w ++ s) j = gl w j := by
  unfold gl
  rw [List.getD_eq_getElem?_getD, List.getD_eq_getElem?_getD, List.getElem?_append_left h]
theorem gl_r {w : List (Int × Int)} {x : Int × Int} : gl (w ++ [x]) w.length = x := by
  unfold gl
  rw [List.getD_eq_getElem?_getD, List.getElem?_append_right (Nat.le_refl _)]
  simp
def cwp (x : Int × Int) : Int := cw x.1 x.2
/-- what stays while clauses are read -/
def rdC (b : Nat → Int) (n E r : Nat) (h : xH) : Prop := tE h b n E ∧ n ≤ 300 ∧ bok8 b n ∧ 111 ≤ r ∧ h.1[r - 16]? = some (0, 4) ∧ h.1[r + 1 - 16]? = some (5, 4) ∧ h.1[r + 2 - 16]? = some (10, 80) ∧ h.1[r + 3 - 16]? = some (10, E + 1) ∧ h.2 74 2 = (r : Int) ∧ h.2 r 0 = ((r + 1 : Nat) : Int) ∧ h.2 r 1 = ((r + 3 : Nat) : Int) ∧ h.2 (r + 1) 0 = 20 ∧ h.2 (r + 1) 1 = 4 ∧ h.2 (r + 1) 2 = ((r + 2 : Nat) : Int)
/-- the reader stands at token i and has put w -/
def rdW (E r : Nat) (h : xH) (i : Nat) (w : List (Int × Int)) : Prop := h.2 74 1 = (i : Int) ∧ h.2 74 3 = 0 ∧ h.2 74 4 = -1 ∧ i ≤ E ∧ w.length ≤ i ∧ h.2 r 3 = (w.length : Int) ∧ ∀ j, j < w.length → h.2 (r + 3) j = cwp (gl w j)
/-- it has failed at token i -/
def rdF (b : Nat → Int) (n E : Nat) (h : xH) (f : Int) (i : Nat) : Prop := h.2 74 1 = (i : Int) ∧ h.2 74 3 = f ∧ f ≠ 0 ∧ h.2 74 4 = (ps b n i : Int) ∧ i ≤ E
def rdR (b : Nat → Int) (n E r : Nat) (h : xH) (f : Int) (i : Nat) (w : List (Int × Int)) : Prop := (f = 0 ∧ rdW E r h i w) ∨ (f ≠ 0 ∧ rdF b n E h f i)
/-- what a reading of a sum or a condition may change -/
def rdf (r : Nat) (h h' : xH) : Prop := h'.1 = h.1 ∧ (∀ q, q ≠ 74 → q ≠ r → q ≠ r + 3 → h'.2 q = h.2 q) ∧ (∀ j, j ≠ 3 → h'.2 r j = h.2 r j) ∧ h'.2 74 0 = h.2 74 0 ∧ h'.2 74 2 = h.2 74 2
theorem rdf_refl {r : Nat} (h : xH) : rdf r h h := ⟨rfl, fun _ _ _ _ => rfl, fun _ _ => rfl, rfl, rfl⟩
theorem rdf_trans {r : Nat} {h h1 h2 : xH} (a : rdf r h h1) (c : rdf r h1 h2) : rdf r h h2 := ⟨c.1.trans a.1, fun q q1 q2 q3 => (c.2.1 q q1 q2 q3).trans (a.2.1 q q1 q2 q3), fun j hj => (c.2.2.1 j hj).trans (a.2.2.1 j hj), c.2.2.2.1.trans a.2.2.2.1, c.2.2.2.2.trans a.2.2.2.2⟩
theorem rdf_74 {r j : Nat} {v : Int} {h : xH} (hr : 111 ≤ r) (h0 : j ≠ 0) (h2 : j ≠ 2) : rdf r h (h.1, x_up h.2 74 j v) := ⟨rfl, fun q q1 _ _ => by dsimp only; rw [x_up_r q1], fun i _ => by dsimp only; rw [x_up_r (by omega)], by dsimp only; rw [x_up_j (fun z => h0 z.symm)], by dsimp only; rw [x_up_j (fun z => h2 z.symm)]⟩
section RD
variable {g : xG} {D : Nat} {b : Nat → Int} {n E r : Nat} {h : xH}
theorem rdC_f {h1 : xH} (C : rdC b n E r h) (f : rdf r h h1) : rdC b n E r h1 := by
  obtain ⟨c1, c2, c3, c4, c5, c6, c7, c8, c9, c10, c11, c12, c13, c14⟩ := C
  obtain ⟨t1, t2, t3, t4, t5⟩ := c1
  have o : ∀ q, q ≠ 74 → q ≠ r → q ≠ r + 3 → h1.2 q = h.2 q := f.2.1
  refine ⟨⟨by rw [o 43 (by omega) (by omega) (by omega)]; exact t1, t2, t3, fun i hi => ?_, t5⟩, c2, c3, c4, by rw [f.1]; exact c5, by rw [f.1]; exact c6, by rw [f.1]; exact c7, by rw [f.1]; exact c8, by rw [f.2.2.2.2]; exact c9, by rw [f.2.2.1 0 (by decide)]; exact c10, by rw [f.2.2.1 1 (by decide)]; exact c11, ?_, ?_, ?_⟩
  · rw [o 45 (by omega) (by omega) (by omega), o 46 (by omega) (by omega) (by omega), o 47 (by omega) (by omega) (by omega)]; exact t4 i hi
  · rw [o (r + 1) (by omega) (by omega) (by omega)]; exact c12
  · rw [o (r + 1) (by omega) (by omega) (by omega)]; exact c13
  · rw [o (r + 1) (by omega) (by omega) (by omega)]; exact c14
theorem rd_E (C : rdC b n E r h) : kt b n E = 36 ∧ E ≤ 300 ∧ ∀ i, i < E → kt b n i ≠ 36 := by
  have t := C.1
  have c2 := C.2.1
  refine ⟨(kd_r b n _).2.2.mpr (by have := t.2.2.1; omega), by have := t.2.1; omega, fun i hi z => ?_⟩
  have := (kd_r b n (ps b n i)).2.2.mp z
  have := t.2.2.2.2 i hi
  omega
theorem s_token {i : Nat} {Q : Int → xH → Prop} (C : rdC b n E r h) (hi : h.2 74 1 = (i : Int)) (hE : i ≤ E) (hQ : Q (kt b n i) h) : zSi g D mX4_token [xr 74] h Q := by
  have e := (rd_E C).2.1
  refine eX4_token (zX4_token_0 ⟨fun z => by omega, fun _ => ⟨fun z => by omega, fun _ => ⟨by omega, ?_⟩⟩⟩)
  rw [hi, show ((i : Int)).toNat = i by omega, (C.1.2.2.2.1 i hE).1]
  exact hQ
theorem s_number {i : Nat} {Q : Int → xH → Prop} (C : rdC b n E r h) (hi : h.2 74 1 = (i : Int)) (hE : i ≤ E) (hk : kt b n i = 35) (hQ : Q (nb b n (ps b n i)) h) : zSi g D mX4_number [xr 74] h Q := by
  have e := (rd_E C).2.1
  refine eX4_number (zX4_number_0 ⟨fun z => by omega, fun _ => ⟨fun z => by omega, fun _ => ⟨by omega, ?_⟩⟩⟩)
  rw [hi, show ((i : Int)).toNat = i by omega, (C.1.2.2.2.1 i hE).2.2 hk]
  exact hQ
theorem s_passF {Q : xH → Prop} (hf : h.2 74 3 ≠ 0) (hQ : Q h) : zSv g D mX4_pass [xr 74] h Q := eX4_pass (zX4_pass_0 ⟨fun _ => zX4_pass_33 hQ, fun z => absurd z hf⟩)
theorem s_failF {f : Int} {Q : xH → Prop} (hf : h.2 74 3 ≠ 0) (hQ : Q h) : zSv g D mX4_fail [xr 74, xi f] h Q := eX4_fail (zX4_fail_0 ⟨fun _ => zX4_fail_60 hQ, fun z => absurd z hf⟩)
theorem s_pass {i : Nat} {w : List (Int × Int)} {Q : xH → Prop} (C : rdC b n E r h) (S : rdW E r h i w) (hk : kt b n i ≠ 36) (hQ : ∀ h1, rdf r h h1 → rdW E r h1 (i + 1) w → Q h1) : zSv g D mX4_pass [xr 74] h Q := by
  obtain ⟨k1, k2, k3⟩ := rd_E C
  obtain ⟨s1, s2, s3, s4, s5, s6, s7⟩ := S
  have hE : i < E := by
    rcases Nat.lt_or_ge i E with z | z
    · exact z
    · exact absurd (by rw [show i = E by omega]; exact k1) hk
  refine eX4_pass (zX4_pass_0 ⟨fun z => absurd s2 z, fun _ => ?_⟩)
  rw [s1, x32_id (by omega) (by omega), C.1.1]
  refine ⟨fun z => by omega, fun _ => hQ _ (rdf_74 C.2.2.2.1 (by decide) (by decide)) ⟨?_, ?_, ?_, hE, by omega, ?_, fun j hj => ?_⟩⟩ <;> dsimp only
  · rw [x_up_eq]; omega
  · rw [x_up_j (by decide)]; exact s2
  · rw [x_up_j (by decide)]; exact s3
  · rw [x_up_r (by have := C.2.2.2.1; omega)]; exact s6
  · rw [x_up_r (by have := C.2.2.2.1; omega)]; exact s7 j hj
theorem s_fail {i : Nat} {f : Int} {w : List (Int × Int)} {Q : xH → Prop} (C : rdC b n E r h) (S : rdW E r h i w) (hf : f ≠ 0) (hQ : ∀ h1, rdf r h h1 → rdF b n E h1 f i → Q h1) : zSv g D mX4_fail [xr 74, xi f] h Q := by
  obtain ⟨k1, k2, k3⟩ := rd_E C
  obtain ⟨s1, s2, s3, s4, s5, s6, s7⟩ := S
  have hr := C.2.2.2.1
  refine eX4_fail (zX4_fail_0 ⟨fun z => absurd s2 z, fun _ => ?_⟩)
  have e1 : x_up h.2 74 3 f 74 1 = (i : Int) := by rw [x_up_j (by decide)]; exact s1
  rw [e1]
  refine ⟨fun z => by omega, fun _ => ⟨fun z => by omega, fun _ => ⟨by omega, ?_⟩⟩⟩
  rw [show ((i : Int)).toNat = i by omega, x_up_r (show 46 ≠ 74 by decide), (C.1.2.2.2.1 i s4).2.1]
  refine hQ _ (rdf_trans (rdf_74 hr (by decide) (by decide)) (rdf_74 (h := (h.1, x_up h.2 74 3 f)) hr (by decide) (by decide))) ⟨?_, ?_, hf, ?_, s4⟩ <;> dsimp only
  · rw [x_up_j (by decide)]; exact e1
  · rw [x_up_j (by decide), x_up_eq]
  · rw [x_up_eq]
theorem s_expectF {k : Int} {i : Nat} {Q : xH → Prop} (C : rdC b n E r h) (hi : h.2 74 1 = (i : Int)) (hE : i ≤ E) (hf : h.2 74 3 ≠ 0) (hQ : Q h) : zSv g (D + 1) mX4_expect [xr 74, xi k] h Q :=
  eX4_expect (zX4_expect_0 (s_token C hi hE ⟨fun _ => zX4_expect_15 (s_failF hf hQ), fun _ => s_passF hf hQ⟩))
theorem s_expect {k : Int} {i : Nat} {w : List (Int × Int)} {Q : xH → Prop} (C : rdC b n E r h) (S : rdW E r h i w) (hk : k ≠ 36) (h1 : kt b n i = k → ∀ h1, rdf r h h1 → rdW E r h1 (i + 1) w → Q h1) (h0 : kt b n i ≠ k → ∀ h1, rdf r h h1 → rdF b n E h1 1 i → Q h1) : zSv g (D + 1) mX4_expect [xr 74, xi k] h Q :=
  eX4_expect (zX4_expect_0 (s_token C S.1 S.2.2.2.1 ⟨fun z => zX4_expect_15 (s_fail C S (by decide) (h0 z)), fun z => s_pass C S (by rw [z]; exact hk) (h1 z)⟩))
theorem rd_is (C : rdC b n E r h) : x_is h r 0 4 ∧ x_is h (r + 3) 10 (E + 1) := by
  obtain ⟨c1, c2, c3, c4, c5, c6, c7, c8, -⟩ := C
  exact ⟨⟨by omega, c5⟩, ⟨by omega, c8⟩⟩
theorem s_dput {i : Nat} {v : Int} {x : Int × Int} {w : List (Int × Int)} {Q : xH → Prop} (C : rdC b n E r h) (S : rdW E r h i w) (hv : v = cwp x) (hl : w.length + 1 ≤ i ∨ kt b n i ≠ 36) (hQ : ∀ h1, rdf r h h1 → h1.2 74 = h.2 74 → h1.2 r 3 = (w.length : Int) + 1 → (∀ j, j < w.length + 1 → h1.2 (r + 3) j = cwp (gl (w ++ [x]) j)) → Q h1) : zSv g D mX0_put [xr r, xi v] h Q := by
  obtain ⟨i1, i2⟩ := rd_is C
  obtain ⟨k1, k2, k3⟩ := rd_E C
  obtain ⟨s1, s2, s3, s4, s5, s6, s7⟩ := S
  have hr := C.2.2.2.1
  have er : h.2 r 1 = ((r + 3 : Nat) : Int) := C.2.2.2.2.2.2.2.2.2.2.1
  have hE : w.length < E + 1 := by omega
  refine eX0_put (zX0_put_0 ⟨i1, fun z => by omega, fun _ => ⟨i1, i1, E + 1, by rw [er]; exact i2, fun z => by omega, fun _ => ⟨i1, i1, ⟨E + 1, by rw [er]; exact i2, by omega, by omega⟩, i1, i1, ?_⟩⟩⟩)
  rw [er, s6, show ((((r + 3 : Nat) : Int))).toNat = r + 3 by omega, show ((w.length : Int)).toNat = w.length by omega, x_up_r (show r ≠ r + 3 by omega), s6, x32_id (by omega) (by omega)]
  refine hQ _ ⟨rfl, fun q q1 q2 q3 => ?_, fun j hj => ?_, ?_, ?_⟩ ?_ ?_ (fun j hj => ?_) <;> dsimp only
  · rw [x_up_r q2, x_up_r q3]
  · rw [x_up_j hj, x_up_r (by omega)]
  · rw [x_up_r (by omega), x_up_r (by omega)]
  · rw [x_up_r (by omega), x_up_r (by omega)]
  · rw [x_up_r (by omega), x_up_r (by omega)]
  · rw [x_up_eq]
  · rw [x_up_r (by omega)]
    by_cases e : j = w.length
    · subst e; rw [x_up_eq, gl_r]; exact hv
    · rw [x_up_j e, gl_l (by omega)]; exact s7 j (by omega)
/-- a step is put whose token has been passed -/
theorem s_emit {i : Nat} {v : Int} {x : Int × Int} {w : List (Int × Int)} {Q : xH → Prop} (C : rdC b n E r h) (S : rdW E r h i w) (hv0 : 0 ≤ v ∧ v ≤ 40) (hv : 10000 + v = cwp x) (hl : w.length + 1 ≤ i) (hQ : ∀ h1, rdf r h h1 → rdW E r h1 i (w ++ [x]) → Q h1) : zSv g (D + 1) mX4_emit [xr 74, xi v] h Q := by
  have e2 : (h.2 74 2).toNat = r := by rw [C.2.2.2.2.2.2.2.2.1]; omega
  refine eX4_emit (zX4_emit_0 ?_)
  rw [e2, x32_id (by omega) (by omega)]
  refine ⟨(rd_is C).1, s_dput C S hv (Or.inl hl) (fun h1 f d74 d3 dj => hQ h1 f ⟨by rw [d74]; exact S.1, by rw [d74]; exact S.2.1, by rw [d74]; exact S.2.2.1, S.2.2.2.1, ?_, ?_, ?_⟩)⟩
  · rw [List.length_append]; exact hl
  · rw [List.length_append, d3]; rfl
  · rw [List.length_append]; exact dj
/-- the same, behind a fault: nothing counts -/
theorem s_dputF {v : Int} {Q : xH → Prop} (C : rdC b n E r h) (hQ : ∀ h1, rdf r h h1 → h1.2 74 = h.2 74 → Q h1) : zSv g D mX0_put [xr r, xi v] h Q := by
  obtain ⟨i1, i2⟩ := rd_is C
  have hr := C.2.2.2.1
  have er : h.2 r 1 = ((r + 3 : Nat) : Int) := C.2.2.2.2.2.2.2.2.2.2.1
  refine eX0_put (zX0_put_0 ⟨i1, fun z => zX0_put_39 (hQ h (rdf_refl h) rfl), fun z => ⟨i1, i1, E + 1, by rw [er]; exact i2, fun z => zX0_put_39 (hQ h (rdf_refl h) rfl), fun z2 => ⟨i1, i1, ⟨E + 1, by rw [er]; exact i2, z, z2⟩, i1, i1, ?_⟩⟩⟩)
  rw [er, show ((((r + 3 : Nat) : Int))).toNat = r + 3 by omega]
  refine hQ _ ⟨rfl, fun q q1 q2 q3 => ?_, fun j hj => ?_, ?_, ?_⟩ ?_ <;> dsimp only
  · rw [x_up_r q2, x_up_r q3]
  · rw [x_up_j hj, x_up_r (by omega)]
  · rw [x_up_r (by omega), x_up_r (by omega)]
  · rw [x_up_r (by omega), x_up_r (by omega)]
  · rw [x_up_r (by omega), x_up_r (by omega)]
theorem rdF_74 {h1 : xH} {f : Int} {i : Nat} (F : rdF b n E h f i) (e : h1.2 74 = h.2 74) : rdF b n E h1 f i := by unfold rdF; rw [e]; exact F
theorem s_emitF {v : Int} {f : Int} {i : Nat} {Q : xH → Prop} (C : rdC b n E r h) (F : rdF b n E h f i) (hQ : ∀ h1, rdf r h h1 → rdF b n E h1 f i → Q h1) : zSv g (D + 1) mX4_emit [xr 74, xi v] h Q := by
  have e2 : (h.2 74 2).toNat = r := by rw [C.2.2.2.2.2.2.2.2.1]; omega
  refine eX4_emit (zX4_emit_0 ?_)
  rw [e2]
  exact ⟨(rd_is C).1, s_dputF C (fun h1 f e => hQ h1 f (rdF_74 F e))⟩
end RD
