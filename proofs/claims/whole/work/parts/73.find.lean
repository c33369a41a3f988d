/-! the first of the least sets to leave out -/
def stq (len : Nat → Int) (fe : Nat → Bool) (q : Nat) (st : Int × Nat) : Int × Nat := if len q < st.1 ∧ fe q = true then (len q, q) else st
def fo (len : Nat → Int) (fe : Nat → Bool) (a : Nat) : Nat → Int × Nat → Int × Nat
  | 0, st => st
  | k + 1, st => stq len fe (a + k) (fo len fe a k st)
theorem stq_le {len : Nat → Int} {fe : Nat → Bool} {q : Nat} {st : Int × Nat} : (stq len fe q st).1 ≤ st.1 ∧ (fe q = true → (stq len fe q st).1 ≤ len q) := by
  unfold stq
  split
  · rename_i c
    exact ⟨by have := c.1; show len q ≤ st.1; omega, fun _ => Int.le_refl _⟩
  · rename_i c
    refine ⟨Int.le_refl _, fun f => ?_⟩
    have : ¬ len q < st.1 := fun z => c ⟨z, f⟩
    omega
theorem fo_le {len : Nat → Int} {fe : Nat → Bool} {a : Nat} : ∀ (k : Nat) (st : Int × Nat), (fo len fe a k st).1 ≤ st.1 ∧ ∀ q, a ≤ q → q < a + k → fe q = true → (fo len fe a k st).1 ≤ len q
  | 0, st => ⟨Int.le_refl _, fun q h1 h2 => by omega⟩
  | k + 1, st => by
    have ih := fo_le (len := len) (fe := fe) (a := a) k st
    have s := stq_le (len := len) (fe := fe) (q := a + k) (st := fo len fe a k st)
    refine ⟨Int.le_trans s.1 ih.1, fun q h1 h2 f => ?_⟩
    by_cases e : q = a + k
    · subst e; exact s.2 f
    · exact Int.le_trans s.1 (ih.2 q h1 (by omega) f)
theorem fo_add {len : Nat → Int} {fe : Nat → Bool} {a k : Nat} {st : Int × Nat} : ∀ l, fo len fe a (k + l) st = fo len fe (a + k) l (fo len fe a k st)
  | 0 => rfl
  | l + 1 => by
    show stq len fe (a + (k + l)) (fo len fe a (k + l) st) = stq len fe (a + k + l) _
    rw [fo_add l, Nat.add_assoc]
theorem fo_skip {len : Nat → Int} {fe : Nat → Bool} {a : Nat} {st : Int × Nat} : ∀ k, (∀ q, a ≤ q → q < a + k → fe q = true → st.1 ≤ len q) → fo len fe a k st = st
  | 0, _ => rfl
  | k + 1, h => by
    show stq len fe (a + k) (fo len fe a k st) = st
    rw [fo_skip k (fun q h1 h2 => h q h1 (by omega))]
    unfold stq
    rw [if_neg]
    intro c
    have := h (a + k) (by omega) (by omega) c.2
    omega
/-- a web's length -/
def yl (A : Nat → Int) (web : Nat) : Int := if mO A web (A 0) (A 0) < 0 then 0 else A (404 + 8 * (mO A web (A 0) (A 0)).toNat)
theorem yl_b {A : Nat → Int} (B : rB A) {web : Nat} : 0 ≤ yl A web ∧ yl A web ≤ 60 := by
  unfold yl
  rcases mO_c B.2.2.1.2.2.2.1 web (A 0) (A 0) with e | ⟨x, e1, e2, -⟩
  · rw [e, if_pos (by decide)]; omega
  · rw [e1, if_neg (by omega), show ((x : Int)).toNat = x by omega]
    have := B.2.2.2.2.2.2 x e2
    omega
def oq (N q i : Nat) : Bool := q.testBit (N - 1 - i)
def lq (A : Nat → Int) (a N q : Nat) : Nat → Int := sX (oq N q) (fun i => yl A (a + i))
theorem lq_b {A : Nat → Int} (B : rB A) {a N q i : Nat} (hi : i ≤ 10) : 0 ≤ lq A a N q i ∧ lq A a N q i ≤ 600 := by
  have := sX_b (P := oq N q) (v := fun i => yl A (a + i)) (M := 60) (n := i) (by decide) (fun j hj => yl_b B) i (Nat.le_refl i)
  unfold lq
  omega
theorem dbX_cong {A : Nat → Int} {a k : Nat} {keep keep' : Nat → Bool} (h : ∀ i, i < k → keep' i = keep i) (d : dbX A a keep k) : dbX A a keep' k := by
  intro X
  have e : sX (fun i => keep' i && X (dbO A a i)) (fun i => nd A (a + i)) k = sX (fun i => keep i && X (dbO A a i)) (fun i => nd A (a + i)) k := sX_cong k (fun i hi => ⟨by rw [h i hi], rfl⟩)
  rw [e]
  exact d X
theorem dbX_none {A : Nat → Int} (m : pM A) (B : rB A) {a k : Nat} {keep : Nat → Bool} (h : ∀ i, i < k → keep i = false) : dbX A a keep k := by
  intro X
  rw [sX_0 k (fun i hi q => by rw [h i hi, Bool.false_and] at q; exact absurd q (by decide))]
  have a1 : 0 ≤ sX X (dbS A) (A 2).toNat := sX_nn _ (fun i hi _ => (dbS_b m B (by omega)).1)
  have a2 : 0 ≤ sX (fun j => X (dbT A j) && !X (dbF A j)) (dbC A) (A 11).toNat := sX_nn _ (fun i hi _ => (tr_r m (j := i) (by omega)).2.2.2.1)
  omega
theorem tb_nat {q j : Nat} (hj : j < 32) : tb (q : Int) j = q.testBit j := by
  unfold tb
  show (BitVec.ofInt 32 (q : Int)).getLsbD j = _
  rw [BitVec.ofInt_natCast, BitVec.getLsbD_ofNat]
  simp [hj]
theorem tb_nn {v : Int32} (h : tb v.toInt 31 = false) : 0 ≤ v.toInt := by
  unfold tb at h
  rw [tb_back] at h
  show 0 ≤ v.toBitVec.toInt
  rw [BitVec.toInt_eq_msb_cond, BitVec.msb_eq_getLsbD_last]
  rw [show 32 - 1 = 31 from rfl, h]
  simp
def oI (N q : Nat) (out : Int) (i : Nat) : Prop := (∃ v : Int32, out = v.toInt) ∧ ∀ j, j < 32 → tb out j = (decide (j < i) && oq N q j)
theorem oI_0 {N q : Nat} : oI N q 0 0 := ⟨⟨0, rfl⟩, fun j hj => by rw [tb_0]; simp⟩
theorem oI_n {N q i : Nat} {out : Int} (o : oI N q out i) (h : oq N q i = false) : oI N q out (i + 1) := by
  refine ⟨o.1, fun j hj => ?_⟩
  rw [o.2 j hj]
  by_cases e : j = i
  · subst e; rw [h]; simp
  · by_cases l : j < i
    · rw [decide_eq_true l, decide_eq_true (show j < i + 1 by omega)]
    · rw [decide_eq_false l, decide_eq_false (show ¬ j < i + 1 by omega)]
theorem oI_y {N q i : Nat} {out : Int} (o : oI N q out i) (hi : i < 31) (h : oq N q i = true) : oI N q (x_or out (x_shl 1 (i : Int))) (i + 1) := by
  refine ⟨⟨_, rfl⟩, fun j hj => ?_⟩
  rw [tb_put (by omega) hj, o.2 j hj]
  by_cases e : j = i
  · subst e; rw [h]; simp
  · rw [decide_eq_false e]
    by_cases l : j < i
    · rw [decide_eq_true l, decide_eq_true (show j < i + 1 by omega)]; simp
    · rw [decide_eq_false l, decide_eq_false (show ¬ j < i + 1 by omega)]; simp
theorem oI_nn {N q i : Nat} {out : Int} (o : oI N q out i) (hi : i < 31) : 0 ≤ out := by
  obtain ⟨⟨v, hv⟩, o2⟩ := o
  rw [hv]
  refine tb_nn ?_
  rw [← hv, o2 31 (by decide), decide_eq_false (by omega)]
  rfl
def fD (h h' : xH) : Prop := h'.1 = h.1 ∧ (∀ r, r ≠ 95 → ¬ ((75 ≤ r ∧ r ≤ 94) ∨ (101 ≤ r ∧ r ≤ 110)) → h'.2 r = h.2 r) ∧ (∀ j, j ≠ 28 → j ≠ 29 → h'.2 95 j = h.2 95 j) ∧ h'.2 75 3 = h.2 75 3
theorem fD_96 {h h' : xH} (f : fD h h') : h'.2 96 = h.2 96 := f.2.1 96 (by decide) (by omega)
theorem fD_inv {h h' : xH} (f : fD h h') (I : zInv h) : zInv h' := by
  refine inv_tp I f.1 (fun r hr => f.2.1 r (by omega) (by omega)) ?_
  obtain ⟨q1, q2, q3, q4, q5, q6, q7, q8⟩ := I.2.2.2.2
  unfold pTp
  rw [f.2.1 43 (by decide) (by omega), f.2.1 44 (by decide) (by omega), f.2.1 100 (by decide) (by omega), f.2.1 74 (by decide) (by omega), f.2.2.1 5 (by decide) (by decide), f.2.2.1 6 (by decide) (by decide), f.2.2.1 7 (by decide) (by decide), f.2.2.2]
  exact ⟨q1, q2, q3, q4, q5, q6, q7, q8⟩
/-- the reference's frame -/
def fE (h h' : xH) : Prop := h'.1 = h.1 ∧ (∀ r, r ≠ 95 → ¬ (101 ≤ r ∧ r ≤ 110) → h'.2 r = h.2 r) ∧ ∀ j, j ≠ 28 → j ≠ 29 → h'.2 95 j = h.2 95 j
theorem fE_96 {h h' : xH} (f : fE h h') : h'.2 96 = h.2 96 := f.2.1 96 (by decide) (by omega)
theorem fE_fD {h h' : xH} (f : fE h h') : fD h h' := ⟨f.1, fun r h1 h2 => f.2.1 r h1 (by omega), f.2.2, by rw [f.2.1 75 (by decide) (by omega)]⟩
section FD
variable {g : xG} {D : Nat} {h : xH}
def sC (h' : xH) (N : Nat) (st : Int × Nat) : Prop := (h'.2 95 28 < 0 ∧ st.1 = 10000) ∨ (0 ≤ h'.2 95 28 ∧ h'.2 95 29 = st.1 ∧ ∀ i, i < N → tb (h'.2 95 28) i = oq N st.2 i)
theorem r_findDoubt {a N : Nat} {fe : Nat → Bool} {Q : xH → Prop} (m : pM (h.2 96)) (B : rB (h.2 96)) (h1 : 1 ≤ N) (h10 : N ≤ 10) (hk : (a : Int) + N ≤ h.2 96 4) (hfe : ∀ q, q < 2 ^ N → (fe q = true ↔ dbX (h.2 96) a (fun i => !oq N q i) N)) (hQ : ∀ h', fE h h' → h'.2 95 29 = (fo (fun q => lq (h.2 96) a N q N) fe 0 (2 ^ N) (10000, 0)).1 → (∀ i, i < N → tb (h'.2 95 28) i = oq N (fo (fun q => lq (h.2 96) a N q N) fe 0 (2 ^ N) (10000, 0)).2 i) → Q h') : zSv g (D + 6) mX9_findDoubt [xr 95, xi a, xi (a + (N : Int) - 1)] h Q := by
  have z := pM_z m
  have p2 : 2 ^ N ≤ 1024 := Nat.pow_le_pow_right (by decide) h10
  have p2p : 0 < 2 ^ N := Nat.pow_pos (by decide)
  have sh : x_shl 1 (N : Int) = ((2 ^ N : Nat) : Int) := by rw [(x_shl_e N (by omega)).1]; simp
  -- the sets
  have L2 : ∀ (mm q : Nat) {h' : xH} {w2 w5 w6 w7 w8 : xV}, q + mm = 2 ^ N → fE h h' → (∀ i, i < N → h'.2 108 i = nd (h.2 96) (a + i)) → sC h' N (fo (fun q => lq (h.2 96) a N q N) fe 0 q (10000, 0)) → zJ g (D + 6) mX9_findDoubt 0 0 44 [xr 95, xi a, w2, xi N, xi q, w5, w6, w7, w8] [] h' (x_qv Q) := by
    intro mm
    induction mm with
    | zero =>
      intro q h' w2 w5 w6 w7 w8 e f hN s
      have : q = 2 ^ N := by omega
      subst this
      refine zX9_findDoubt_44 ?_
      rw [sh]
      refine ⟨fun _ => zX9_findDoubt_192 ?_, fun q => by omega⟩
      rcases s with ⟨s1, s2⟩ | ⟨s1, s2, s3⟩
      · have l := (fo_le (len := fun q => lq (h.2 96) a N q N) (fe := fe) (a := 0) (2 ^ N) (10000, 0)).2 (2 ^ N - 1) (by omega) (by omega) ((hfe _ (by omega)).mpr (dbX_none m B (fun i hi => by
          unfold oq
          rw [Nat.testBit_two_pow_sub_one, decide_eq_true (by omega)]; rfl)))
        have b := lq_b B (a := a) (N := N) (q := 2 ^ N - 1) (i := N) h10
        omega
      · exact hQ h' f s2 s3
    | succ mm ih =>
      intro q h' w2 w5 w6 w7 w8 e f hN s
      refine zX9_findDoubt_44 ?_
      rw [sh]
      refine ⟨fun q => by omega, fun _ => ?_⟩
      have fs : fo (fun q => lq (h.2 96) a N q N) fe 0 (q + 1) (10000, 0) = stq (fun q => lq (h.2 96) a N q N) fe q (fo (fun q => lq (h.2 96) a N q N) fe 0 q (10000, 0)) := by
        show stq _ fe (0 + q) _ = _
        rw [Nat.zero_add]
      have lb := lq_b B (a := a) (N := N) (q := q) (i := N) h10
      have nx : ∀ {h2 : xH} {w2 w5 w6 w7 w8 : xV}, fE h h2 → (∀ i, i < N → h2.2 108 i = nd (h.2 96) (a + i)) → sC h2 N (stq (fun q => lq (h.2 96) a N q N) fe q (fo (fun q => lq (h.2 96) a N q N) fe 0 q (10000, 0))) → zJ g (D + 6) mX9_findDoubt 0 0 44 [xr 95, xi a, w2, xi N, xi (x32 ((q : Int) + 1)), w5, w6, w7, w8] [] h2 (x_qv Q) := by
        intro h2 w2 w5 w6 w7 w8 f2 hN2 s2
        rw [x32_id (by omega) (by omega), show (q : Int) + 1 = ((q + 1 : Nat) : Int) by omega]
        rw [← fs] at s2
        exact ih (q + 1) (by omega) f2 hN2 s2
      -- one set
      have L3 : ∀ (kk i : Nat) {out : Int} {w2 w8 : xV}, i + kk = N → oI N q out i → zJ g (D + 6) mX9_findDoubt 0 0 61 [xr 95, xi a, w2, xi N, xi q, xi out, xi (lq (h.2 96) a N q i), xi i, w8] [] h' (x_qv Q) := by
        intro kk
        induction kk with
        | zero =>
          intro i out w2 w8 e2 o
          have : i = N := by omega
          subst this
          refine zX9_findDoubt_61 ⟨fun _ => zX9_findDoubt_144 ?_, fun q => by omega⟩
          have tst : (fo (fun q => lq (h.2 96) a i q i) fe 0 q (10000, 0)).1 > lq (h.2 96) a i q i → zJ g (D + 6) mX9_findDoubt 0 0 160 [xr 95, xi a, xu, xi i, xi q, xi out, xi (lq (h.2 96) a i q i), xu, xu] [] h' (x_qv Q) := by
            intro hl
            have e96 := fE_96 f
            have ke : ∀ x, x < i → (fun x => !tb out x) x = (fun x => !oq i q x) x := fun x hx => by
              show (!tb out x) = (!oq i q x)
              rw [o.2 x (by omega), decide_eq_true hx]; rfl
            refine zX9_findDoubt_160 (r_can (by rw [e96]; exact m) (by rw [e96]; exact B) (by rw [e96]; exact hk) h10 (fun x hx => by rw [e96]; exact hN x hx) (fun d h2 f2 => ⟨fun _ => zX9_findDoubt_174 ?_, fun q => absurd q (by decide)⟩) (fun d h2 f2 => ⟨fun q => absurd rfl q, fun _ => ?_⟩))
            · rw [e96] at d
              have d2 := dbX_cong (fun x hx => (ke x hx).symm) d
              refine nx ⟨f2.1.trans f.1, fun r r1 r2 => ?_, fun j j1 j2 => ?_⟩ (fun x hx => ?_) ?_
              · (try dsimp only)
                rw [x_up_r r1, x_up_r r1, f2.2 r (by omega) (by omega) (by omega)]; exact f.2.1 r r1 r2
              · (try dsimp only)
                rw [x_up_j j2, x_up_j j1, f2.2 95 (by decide) (by decide) (by decide)]; exact f.2.2 j j1 j2
              · (try dsimp only)
                rw [x_up_r (by decide), x_up_r (by decide), f2.2 108 (by decide) (by decide) (by decide)]; exact hN x hx
              · have es : stq (fun q => lq (h.2 96) a i q i) fe q (fo (fun q => lq (h.2 96) a i q i) fe 0 q (10000, 0)) = (lq (h.2 96) a i q i, q) := by
                  unfold stq
                  rw [if_pos ⟨hl, (hfe q (by omega)).mpr d2⟩]
                rw [es]
                refine Or.inr ?_
                (try dsimp only)
                rw [x_up_eq, x_up_j (by decide), x_up_eq]
                refine ⟨oI_nn o (by omega), rfl, fun x hx => ?_⟩
                rw [o.2 x (by omega), decide_eq_true hx]; rfl
            · rw [e96] at d
              refine nx ⟨f2.1.trans f.1, fun r r1 r2 => by rw [f2.2 r (by omega) (by omega) (by omega)]; exact f.2.1 r r1 r2, fun j j1 j2 => by rw [f2.2 95 (by decide) (by decide) (by decide)]; exact f.2.2 j j1 j2⟩ (fun x hx => by rw [f2.2 108 (by decide) (by decide) (by decide)]; exact hN x hx) ?_
              have es : stq (fun q => lq (h.2 96) a i q i) fe q (fo (fun q => lq (h.2 96) a i q i) fe 0 q (10000, 0)) = fo (fun q => lq (h.2 96) a i q i) fe 0 q (10000, 0) := by
                unfold stq
                rw [if_neg]
                intro c
                exact d (dbX_cong ke ((hfe q (by omega)).mp c.2))
              rw [es]
              unfold sC
              rw [f2.2 95 (by decide) (by decide) (by decide)]
              exact s
          refine ⟨fun c => tst ?_, fun c => ⟨fun c2 => zX9_findDoubt_186 (nx f hN ?_), fun c2 => tst ?_⟩⟩
          · rcases s with ⟨s1, s2⟩ | ⟨s1, s2, s3⟩
            · rw [s2]; omega
            · omega
          · have es : stq (fun q => lq (h.2 96) a i q i) fe q (fo (fun q => lq (h.2 96) a i q i) fe 0 q (10000, 0)) = fo (fun q => lq (h.2 96) a i q i) fe 0 q (10000, 0) := by
              unfold stq
              rw [if_neg]
              intro c
              rcases s with ⟨s1, s2⟩ | ⟨s1, s2, s3⟩
              · omega
              · have this : lq (h.2 96) a i q i < (fo (fun q => lq (h.2 96) a i q i) fe 0 q (10000, 0)).1 := c.1
                rw [← s2] at this
                omega
            rw [es]; exact s
          · rcases s with ⟨s1, s2⟩ | ⟨s1, s2, s3⟩
            · omega
            · rw [← s2]; omega
        | succ kk ih2 =>
          intro i out w2 w8 e2 o
          have t := tb_shr (K := (q : Int)) (k := N - 1 - i) (by omega)
          rw [tb_nat (by omega)] at t
          have lb2 := lq_b B (a := a) (N := N) (q := q) (i := i) (by omega)
          have yb := yl_b B (web := a + i)
          refine zX9_findDoubt_61 ⟨fun q => by omega, fun _ => ?_⟩
          rw [x32_id (show -2147483648 ≤ (N : Int) - 1 by omega) (by omega), x32_id (show -2147483648 ≤ (N : Int) - 1 - (i : Int) by omega) (by omega), show (N : Int) - 1 - (i : Int) = ((N - 1 - i : Nat) : Int) by omega]
          refine ⟨fun c => zX9_findDoubt_84 ?_, fun c => ?_⟩
          · have hb : oq N q i = true := by
              unfold oq
              cases c2 : q.testBit (N - 1 - i)
              · exact absurd (t.2.mpr c2) c
              · rfl
            have e96 := fE_96 f
            have ly : lq (h.2 96) a N q (i + 1) = lq (h.2 96) a N q i + yl (h.2 96) (a + i) := sX_y hb
            rw [e96, x32_id (by omega) (by omega), show (a : Int) + (i : Int) = ((a + i : Nat) : Int) by omega]
            refine r_meas (by rw [e96]; exact B) (fun e => ⟨fun c => absurd c (by decide), fun _ => ?_⟩) (fun x e hx => ⟨fun _ => zX9_findDoubt_126 ?_, fun c => by omega⟩)
            · rw [e96] at e
              have y0 : yl (h.2 96) (a + i) = 0 := by unfold yl; rw [e, if_pos (by decide)]
              rw [x32_id (by omega) (by omega), x32_id (by omega) (by omega), show (i : Int) + 1 = ((i + 1 : Nat) : Int) by omega, show lq (h.2 96) a N q i + 0 = lq (h.2 96) a N q (i + 1) by omega]
              exact ih2 (i + 1) (by omega) (oI_y o (by omega) hb)
            · rw [e96] at e hx
              have y0 : yl (h.2 96) (a + i) = h.2 96 (404 + 8 * x) := by unfold yl; rw [e, if_neg (by omega)]; rfl
              rw [y0] at ly yb
              rw [e96, x32_id (show -2147483648 ≤ ((400 + 8 * x : Nat) : Int) + 4 by omega) (by omega), show (((400 + 8 * x : Nat) : Int) + 4).toNat = 404 + 8 * x by omega, x32_id (by omega) (by omega), x32_id (by omega) (by omega), show (i : Int) + 1 = ((i + 1 : Nat) : Int) by omega, ← ly]
              exact ⟨by omega, ih2 (i + 1) (by omega) (oI_y o (by omega) hb)⟩
          · have hb : oq N q i = false := t.2.mp c
            have ly : lq (h.2 96) a N q (i + 1) = lq (h.2 96) a N q i := sX_n hb
            rw [x32_id (by omega) (by omega), show (i : Int) + 1 = ((i + 1 : Nat) : Int) by omega, ← ly]
            exact ih2 (i + 1) (by omega) (oI_n o hb)
      exact L3 N 0 (by omega) oI_0
  -- the needs
  have L1 : ∀ (mm i : Nat) {h' : xH} {w2 w5 w6 w7 w8 : xV}, i + mm = N → fE h h' → (∀ x, x < i → h'.2 108 x = nd (h.2 96) (a + x)) → zJ g (D + 6) mX9_findDoubt 0 0 9 [xr 95, xi a, w2, xi N, xi i, w5, w6, w7, w8] [] h' (x_qv Q) := by
    intro mm
    induction mm with
    | zero =>
      intro i h' w2 w5 w6 w7 w8 e f hN
      have : i = N := by omega
      subst this
      refine zX9_findDoubt_9 ⟨fun _ => zX9_findDoubt_36 ?_, fun q => by omega⟩
      refine L2 (2 ^ i) 0 (by omega) ⟨f.1, fun r r1 r2 => ?_, fun j j1 j2 => ?_⟩ (fun x hx => ?_) (Or.inl ⟨?_, rfl⟩)
      · (try dsimp only); rw [x_up_r r1]; exact f.2.1 r r1 r2
      · (try dsimp only); rw [x_up_j j1]; exact f.2.2 j j1 j2
      · (try dsimp only); rw [x_up_r (by decide)]; exact hN x hx
      · (try dsimp only); rw [x_up_eq]; decide
    | succ mm ih =>
      intro i h' w2 w5 w6 w7 w8 e f hN
      have e96 := fE_96 f
      refine zX9_findDoubt_9 ⟨fun q => by omega, fun _ => ?_⟩
      rw [x32_id (by omega) (by omega), show (a : Int) + (i : Int) = ((a + i : Nat) : Int) by omega]
      refine r_needOf (by rw [e96]; exact B) (by rw [e96]; omega) (fun h2 f2 => ⟨by omega, ?_⟩)
      rw [e96, x32_id (by omega) (by omega), show (i : Int) + 1 = ((i + 1 : Nat) : Int) by omega, show ((i : Int)).toNat = i by omega]
      refine ih (i + 1) (by omega) ⟨f2.1.trans f.1, fun r r1 r2 => ?_, fun j j1 j2 => ?_⟩ (fun x hx => ?_)
      · (try dsimp only); rw [x_up_r (by omega), f2.2 r (by omega) (by omega) (by omega)]; exact f.2.1 r r1 r2
      · (try dsimp only); rw [x_up_r (by decide), f2.2 95 (by decide) (by decide) (by decide)]; exact f.2.2 j j1 j2
      · (try dsimp only)
        rw [x_up_k]
        by_cases q : x = i
        · rw [if_pos q, q]
        · rw [if_neg q, f2.2 108 (by decide) (by decide) (by decide)]; exact hN x (by omega)
  refine eX9_findDoubt (zX9_findDoubt_0 ?_)
  rw [x32_id (show -2147483648 ≤ (a : Int) + (N : Int) - 1 - (a : Int) by omega) (by omega), x32_id (by omega) (by omega), show (a : Int) + (N : Int) - 1 - (a : Int) + 1 = (N : Int) by omega]
  exact L1 N 0 (by omega) ⟨rfl, fun _ _ _ => rfl, fun _ _ _ => rfl⟩ (fun x hx => by omega)
end FD
