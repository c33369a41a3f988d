theorem rI_tr {A : Nat → Int} {a : Nat} {keep : Nat → Bool} {rm rm' : Nat → Int} {p j q : Nat} (m : pM A) (r : rI A a keep rm p j q) (hj : (j : Int) < A 11) (e1 : rm' (32 * dbF A j + dbT A j) = rm (32 * dbF A j + dbT A j) + dbC A j) (e2 : ∀ i, i ≠ 32 * dbF A j + dbT A j → rm' i = rm i) : rI A a keep rm' p (j + 1) q := by
  have z := pM_z m
  have t := tr_r m hj
  have b1 : dbF A j < 30 := by unfold dbF; omega
  have b2 : dbT A j < 30 := by unfold dbT; omega
  have b3 : 0 ≤ dbC A j ∧ dbC A j ≤ 9999 := t.2.2.2
  refine ⟨fun i hi => ?_, fun X => ?_, fun u h1 h2 => ?_⟩
  · have := r.1 i hi
    by_cases e : i = 32 * dbF A j + dbT A j
    · rw [e] at this ⊢
      rw [e1]; omega
    · rw [e2 i e]; omega
  · rw [oR_up (by omega) (by omega) e2, e1, r.2.1 X]
    show _ = _ + (sX (fun i => X (dbF A i) && !X (dbT A i)) (dbC A) j + (if (X (dbF A j) && !X (dbT A j)) = true then dbC A j else 0)) + _
    unfold bL
    rw [show rm (32 * dbF A j + dbT A j) + dbC A j - rm (32 * dbF A j + dbT A j) = dbC A j by omega]
    omega
  · rw [e2 _ (by omega)]; exact r.2.2 u h1 h2
theorem rI_web {A : Nat → Int} {a : Nat} {keep : Nat → Bool} {rm rm' : Nat → Int} {p j q : Nat} (m : pM A) (B : rB A) (r : rI A a keep rm p j q) (hq : ((a + q : Nat) : Int) < A 4) (hk : keep q = true) (e1 : rm' (32 * dbO A a q + 31) = rm (32 * dbO A a q + 31) + nd A (a + q)) (e2 : ∀ i, i ≠ 32 * dbO A a q + 31 → rm' i = rm i) : rI A a keep rm' p j (q + 1) := by
  have z := pM_z m
  have o := B.2.2.2.2.2.1 (a + q) hq
  have b0 : (dbO A a q : Int) < A 2 := by unfold dbO; omega
  have b3 := nd_b B hq
  refine ⟨fun i hi => ?_, fun X => ?_, fun u h1 h2 => ?_⟩
  · have := r.1 i hi
    by_cases e : i = 32 * dbO A a q + 31
    · rw [e] at this ⊢
      rw [e1]; omega
    · rw [e2 i e]; omega
  · rw [oR_up (by omega) (by omega) e2, e1, r.2.1 X]
    show _ = _ + _ + (sX (fun i => keep i && (X (dbO A a i) && !X 31)) (fun i => nd A (a + i)) q + (if (keep q && (X (dbO A a q) && !X 31)) = true then nd A (a + q) else 0))
    unfold bL
    rw [show rm (32 * dbO A a q + 31) + nd A (a + q) - rm (32 * dbO A a q + 31) = nd A (a + q) by omega, hk, Bool.true_and]
    omega
  · rw [e2 _ (by omega)]; exact r.2.2 u h1 h2
theorem rI_skip {A : Nat → Int} {a : Nat} {keep : Nat → Bool} {rm : Nat → Int} {p j q : Nat} (r : rI A a keep rm p j q) (hk : keep q = false) : rI A a keep rm p j (q + 1) := by
  refine ⟨fun i hi => by have := r.1 i hi; omega, fun X => ?_, r.2.2⟩
  rw [r.2.1 X]
  show _ = _ + _ + (sX (fun i => keep i && (X (dbO A a i) && !X 31)) (fun i => nd A (a + i)) q + (if (keep q && (X (dbO A a q) && !X 31)) = true then nd A (a + q) else 0))
  rw [hk, Bool.false_and, if_neg (by decide)]
  omega
theorem rI_person {A : Nat → Int} {a : Nat} {keep : Nat → Bool} {rm rm' : Nat → Int} {p : Nat} (m : pM A) (B : rB A) (r : rI A a keep rm p 0 0) (hp : (p : Int) < A 2) (h0 : rm (32 * 30 + p) = 0) (e1 : rm' (32 * 30 + p) = dbS A p) (e2 : ∀ i, i ≠ 32 * 30 + p → rm' i = rm i) : rI A a keep rm' (p + 1) 0 0 := by
  have z := pM_z m
  have b3 := dbS_b m B hp
  refine ⟨fun i hi => ?_, fun X => ?_, fun u h1 h2 => ?_⟩
  · have := r.1 i hi
    by_cases e : i = 32 * 30 + p
    · rw [e, e1]; omega
    · rw [e2 i e]; exact this
  · rw [oR_up (by omega) (by omega) e2, e1, h0, r.2.1 X]
    show _ = sX (fun i => X 30 && !X i) (dbS A) p + (if (X 30 && !X p) = true then dbS A p else 0) + _ + _
    unfold bL
    rw [show dbS A p - 0 = dbS A p by omega]
    omega
  · rw [e2 _ (by omega)]; exact r.2.2 u h1 h2
def fV (h h' : xH) : Prop := h'.1 = h.1 ∧ ∀ r, r ≠ 105 → r ≠ 106 → r ≠ 107 → h'.2 r = h.2 r
theorem fV_96 {h h' : xH} (f : fV h h') : h'.2 96 = h.2 96 := f.2 96 (by decide) (by decide) (by decide)
section CN
variable {g : xG} {D : Nat} {h : xH}
theorem r_can {a k : Nat} {out : Int} {Q : Int → xH → Prop} (m : pM (h.2 96)) (B : rB (h.2 96)) (hk : (a : Int) + k ≤ h.2 96 4) (h10 : k ≤ 10) (hN : ∀ i, i < k → h.2 108 i = nd (h.2 96) (a + i)) (hQ1 : dbX (h.2 96) a (fun i => !tb out i) k → ∀ h', fV h h' → Q 1 h') (hQ0 : ¬ dbX (h.2 96) a (fun i => !tb out i) k → ∀ h', fV h h' → Q 0 h') : zSi g (D + 4) mX9_can [xr 95, xi a, xi k, xi out] h Q := by
  have z := pM_z m
  obtain ⟨n, hn⟩ : ∃ n : Nat, h.2 96 2 = (n : Int) := ⟨(h.2 96 2).toNat, by omega⟩
  obtain ⟨tn, htn⟩ : ∃ n : Nat, h.2 96 11 = (n : Int) := ⟨(h.2 96 11).toNat, by omega⟩
  have hn' : (h.2 96 2).toNat = n := by omega
  have htn' : (h.2 96 11).toNat = tn := by omega
  -- the last loop
  have Lf : ∀ {rm : Nat → Int} {V : Int} (mm p : Nat) {h' : xH} {w1 w2 w3 w4 : xV}, rI (h.2 96) a (fun i => !tb out i) rm (h.2 96 2).toNat (h.2 96 11).toNat k → p + mm = n → fV h h' → vI rm (h'.2 105) V → 0 ≤ h'.2 106 30 → h'.2 106 31 < 0 → (∀ u v, u < 32 → v < 32 → 0 ≤ h'.2 106 u → h'.2 106 v < 0 → h'.2 105 (32 * u + v) ≤ 0) → (∀ x, x < p → h'.2 105 (32 * x + 31) ≤ 0) → zJ g (D + 4) mX9_can 0 0 233 [xr 95, w1, w2, w3, w4, xi p] [] h' (x_qi Q) := by
    intro rm V mm
    induction mm with
    | zero =>
      intro p h' w1 w2 w3 w4 r e f v c30 c31 cl d
      refine zX9_can_233 ?_
      rw [fV_96 f, hn]
      exact ⟨fun _ => zX9_can_268 ⟨Or.inr rfl, hQ1 (can_y m B hk r v (fun x hx => d x (by omega))) h' f⟩, fun q => by omega⟩
    | succ mm ih =>
      intro p h' w1 w2 w3 w4 r e f v c30 c31 cl d
      refine zX9_can_233 ?_
      rw [fV_96 f, hn, x32_id (show -2147483648 ≤ 32 * (p : Int) by omega) (by omega), x32_id (by omega) (by omega), show (32 * (p : Int) + 31).toNat = 32 * p + 31 by omega]
      refine ⟨fun q => by omega, fun q => ⟨by omega, fun q2 => zX9_can_262 ?_, fun q2 => ⟨Or.inl rfl, hQ0 (can_n (p := p) m B hk r v (by omega) q2 c30 c31 cl) h' f⟩⟩⟩
      rw [x32_id (by omega) (by omega), show (p : Int) + 1 = ((p + 1 : Nat) : Int) by omega]
      refine ih (p + 1) r (by omega) f v c30 c31 cl (fun x hx => ?_)
      by_cases q3 : x = p
      · subst q3; exact q2
      · exact d x (by omega)
  -- ways
  have Lw : ∀ {rm : Nat → Int} (M : Nat) {V : Int} {h' : xH} {w1 w2 w3 w4 w5 : xV}, rI (h.2 96) a (fun i => !tb out i) rm (h.2 96 2).toNat (h.2 96 11).toNat k → fV h h' → vI rm (h'.2 105) V → oR nt (h'.2 105) ≤ (M : Int) → zJ g (D + 4) mX9_can 0 0 216 [xr 95, w1, w2, w3, w4, w5] [] h' (x_qi Q) := by
    intro rm M
    induction M with
    | zero =>
      intro V h' w1 w2 w3 w4 w5 r f v hM
      refine zX9_can_216 (r_isWay (fun h1 rk f1 w c31 => ?_) (fun h1 f1 c30 c31 cl => ⟨fun _ => zX9_can_230 ?_, fun q => absurd rfl q⟩))
      · refine ⟨fun q => absurd q (by decide), fun _ => ?_⟩
        have e105 : h1.2 105 = h'.2 105 := f1.2 105 (by decide) (by decide)
        rw [← e105] at w v hM
        refine r_goOn w c31 v.1 (fun u x hu hx => ?_) (fun h2 L l1 k1 k2 G => ?_)
        · rw [v.2.2.1 u x hu hx]
          have := r.1 (32 * u + x) (by omega)
          have := r.1 (32 * x + u) (by omega)
          omega
        · have t := G.2.1 nt
          rw [show bL L (nt 31) = 0 from rfl, show bL L (nt 30) = L from rfl] at t
          have n0 := oR_nn nt G.1
          omega
      · have e105 : h1.2 105 = h'.2 105 := f1.2 105 (by decide) (by decide)
        exact Lf n 0 r (by omega) ⟨f1.1.trans f.1, fun r0 r1 r2 r3 => (f1.2 r0 r2 r3).trans (f.2 r0 r1 r2 r3)⟩ (by rw [e105]; exact v) (by omega) c31 (by rw [e105]; exact cl) (fun x hx => by omega)
    | succ M ih =>
      intro V h' w1 w2 w3 w4 w5 r f v hM
      refine zX9_can_216 (r_isWay (fun h1 rk f1 w c31 => ?_) (fun h1 f1 c30 c31 cl => ⟨fun _ => zX9_can_230 ?_, fun q => absurd rfl q⟩))
      · refine ⟨fun q => absurd q (by decide), fun _ => ?_⟩
        have e105 : h1.2 105 = h'.2 105 := f1.2 105 (by decide) (by decide)
        rw [← e105] at w v hM
        refine r_goOn w c31 v.1 (fun u x hu hx => ?_) (fun h2 L l1 k1 k2 G => ?_)
        · rw [v.2.2.1 u x hu hx]
          have := r.1 (32 * u + x) (by omega)
          have := r.1 (32 * x + u) (by omega)
          omega
        · have t := G.2.1 nt
          rw [show bL L (nt 31) = 0 from rfl, show bL L (nt 30) = L from rfl] at t
          exact ih r ⟨k1.trans (f1.1.trans f.1), fun r0 r1 r2 r3 => (k2 r0 r1).trans ((f1.2 r0 r2 r3).trans (f.2 r0 r1 r2 r3))⟩ (vI_go v G) (by omega)
      · have e105 : h1.2 105 = h'.2 105 := f1.2 105 (by decide) (by decide)
        exact Lf n 0 r (by omega) ⟨f1.1.trans f.1, fun r0 r1 r2 r3 => (f1.2 r0 r2 r3).trans (f.2 r0 r1 r2 r3)⟩ (by rw [e105]; exact v) (by omega) c31 (by rw [e105]; exact cl) (fun x hx => by omega)
  -- webs
  have L4 : ∀ (mm q : Nat) {h' : xH} {w4 : xV}, q + mm = k → fV h h' → rI (h.2 96) a (fun i => !tb out i) (h'.2 105) (h.2 96 2).toNat (h.2 96 11).toNat q → zJ g (D + 4) mX9_can 0 0 161 [xr 95, xi a, xi k, xi out, w4, xi q] [] h' (x_qi Q) := by
    intro mm
    induction mm with
    | zero =>
      intro q h' w4 e f r
      have : q = k := by omega
      subst this
      refine zX9_can_161 ⟨fun _ => Lw (oR nt (h'.2 105)).toNat (V := 0) r f ⟨fun i hi => (r.1 i hi).1, fun X => by unfold bL; simp, fun _ _ _ _ => rfl, fun _ _ => Int.le_refl _⟩ (by omega), fun z => by omega⟩
    | succ mm ih =>
      intro q h' w4 e f r
      have t := tb_shr (K := out) (k := q) (by omega)
      have e96 := fV_96 f
      have e108 : h'.2 108 q = nd (h.2 96) (a + q) := by rw [f.2 108 (by decide) (by decide) (by decide)]; exact hN q (by omega)
      have hw : ((a + q : Nat) : Int) < h.2 96 4 := by omega
      have ow := B.2.2.2.2.2.1 (a + q) hw
      have b3 := nd_b B hw
      obtain ⟨o, ho⟩ : ∃ o : Nat, h.2 96 (350 + (a + q)) = (o : Int) := ⟨(h.2 96 (350 + (a + q))).toNat, by omega⟩
      have hdo : dbO (h.2 96) a q = o := by unfold dbO; rw [ho]; rfl
      rw [ho] at ow
      have rb := r.1 (32 * o + 31) (by omega)
      refine zX9_can_161 ⟨fun z => by omega, fun z => ⟨fun z2 => zX9_can_210 ?_, fun z2 => ?_⟩⟩
      · rw [x32_id (by omega) (by omega), show (q : Int) + 1 = ((q + 1 : Nat) : Int) by omega]
        refine ih (q + 1) (by omega) f (rI_skip r ?_)
        cases q3 : tb out q
        · exact absurd (t.2.mpr q3) z2
        · simp [q3]
      · have t0 := t.2.mp z2
        rw [x32_id (show -2147483648 ≤ 350 + (a : Int) by omega) (by omega), x32_id (show -2147483648 ≤ 350 + (a : Int) + (q : Int) by omega) (by omega), show (350 + (a : Int) + (q : Int)).toNat = 350 + (a + q) by omega, e96, ho, x32_id (show -2147483648 ≤ 32 * (o : Int) by omega) (by omega), x32_id (show -2147483648 ≤ 32 * (o : Int) + 31 by omega) (by omega), show (32 * (o : Int) + 31).toNat = 32 * o + 31 by omega, show ((q : Int)).toNat = q by omega, e108, x32_id (by omega) (by omega), x32_id (by omega) (by omega), show (q : Int) + 1 = ((q + 1 : Nat) : Int) by omega]
        refine ⟨by omega, by omega, by omega, by omega, ?_⟩
        refine ih (q + 1) (by omega) ⟨f.1, fun r0 r1 r2 r3 => by (try dsimp only); rw [x_up_r r1]; exact f.2 r0 r1 r2 r3⟩ (rI_web m B r hw (by simp [t0]) ?_ (fun i hi => ?_))
        · (try dsimp only)
          rw [hdo, x_up_eq]
        · (try dsimp only)
          rw [hdo] at hi
          rw [x_up_j hi]
  -- trades
  have L3 : ∀ (mm j : Nat) {h' : xH} {w4 : xV}, j + mm = tn → fV h h' → rI (h.2 96) a (fun i => !tb out i) (h'.2 105) (h.2 96 2).toNat j 0 → zJ g (D + 4) mX9_can 0 0 85 [xr 95, xi a, xi k, xi out, w4, xi j] [] h' (x_qi Q) := by
    intro mm
    induction mm with
    | zero =>
      intro j h' w4 e f r
      have : j = tn := by omega
      subst this
      refine zX9_can_85 ?_
      rw [fV_96 f, htn]
      refine ⟨fun _ => zX9_can_158 (L4 k 0 (by omega) f ?_), fun q => by omega⟩
      rw [htn']; exact r
    | succ mm ih =>
      intro j h' w4 e f r
      have e96 := fV_96 f
      have t := tr_r m (j := j) (by omega)
      obtain ⟨o, ho⟩ : ∃ o : Nat, h.2 96 (12530 + 3 * j) = (o : Int) := ⟨(h.2 96 (12530 + 3 * j)).toNat, by omega⟩
      obtain ⟨p, hp⟩ : ∃ o : Nat, h.2 96 (12531 + 3 * j) = (o : Int) := ⟨(h.2 96 (12531 + 3 * j)).toNat, by omega⟩
      have hdo : dbF (h.2 96) j = o := by unfold dbF; rw [ho]; rfl
      have hdp : dbT (h.2 96) j = p := by unfold dbT; rw [hp]; rfl
      rw [ho, hp] at t
      have rb := r.1 (32 * o + p) (by omega)
      refine zX9_can_85 ?_
      rw [e96, htn]
      refine ⟨fun q => by omega, fun q => ?_⟩
      rw [x32_id (show -2147483648 ≤ 3 * (j : Int) by omega) (by omega), x32_id (show -2147483648 ≤ 12530 + 3 * (j : Int) by omega) (by omega), x32_id (show -2147483648 ≤ 12530 + 3 * (j : Int) + 1 by omega) (by omega), x32_id (show -2147483648 ≤ 12530 + 3 * (j : Int) + 2 by omega) (by omega), show (12530 + 3 * (j : Int)).toNat = 12530 + 3 * j by omega, show (12530 + 3 * (j : Int) + 1).toNat = 12531 + 3 * j by omega, show (12530 + 3 * (j : Int) + 2).toNat = 12532 + 3 * j by omega, ho, hp, x32_id (show -2147483648 ≤ 32 * (o : Int) by omega) (by omega), x32_id (show -2147483648 ≤ 32 * (o : Int) + (p : Int) by omega) (by omega), show (32 * (o : Int) + (p : Int)).toNat = 32 * o + p by omega, x32_id (by omega) (by omega), x32_id (by omega) (by omega), show (j : Int) + 1 = ((j + 1 : Nat) : Int) by omega]
      refine ⟨by omega, by omega, by omega, by omega, by omega, ?_⟩
      refine ih (j + 1) (by omega) ⟨f.1, fun r0 r1 r2 r3 => by (try dsimp only); rw [x_up_r r1]; exact f.2 r0 r1 r2 r3⟩ (rI_tr m r (by omega) ?_ (fun i hi => ?_))
      · (try dsimp only)
        rw [hdo, hdp, x_up_eq]
        rfl
      · (try dsimp only)
        rw [hdo, hdp] at hi
        rw [x_up_j hi]
  -- persons
  have L2 : ∀ (mm p : Nat) {h' : xH}, p + mm = n → fV h h' → rI (h.2 96) a (fun i => !tb out i) (h'.2 105) p 0 0 → (∀ i, p ≤ i → i < 30 → h'.2 105 (32 * 30 + i) = 0) → zJ g (D + 4) mX9_can 0 0 44 [xr 95, xi a, xi k, xi out, xi (nO (h.2 96) (-1) 7 (h.2 96 0) 10), xi p] [] h' (x_qi Q) := by
    intro mm
    induction mm with
    | zero =>
      intro p h' e f r d
      have : p = n := by omega
      subst this
      refine zX9_can_44 ?_
      rw [fV_96 f, hn]
      refine ⟨fun _ => zX9_can_82 (L3 tn 0 (by omega) f ?_), fun q => by omega⟩
      rw [hn']; exact r
    | succ mm ih =>
      intro p h' e f r d
      have e96 := fV_96 f
      have sb := dbS_b m B (p := p) (by omega)
      refine zX9_can_44 ?_
      rw [e96, hn]
      refine ⟨fun q => by omega, fun q => r_personAt (c := 2) (by omega) (by decide) ?_⟩
      rw [e96, show 30 + 4 * p + 2 = 32 + 4 * p by omega, show h.2 96 (32 + 4 * p) * nO (h.2 96) (-1) 7 (h.2 96 0) 10 = dbS (h.2 96) p from rfl, x32_id (show -2147483648 ≤ 960 + (p : Int) by omega) (by omega), x32_id (by omega) (by omega), x32_id (by omega) (by omega), show (960 + (p : Int)).toNat = 32 * 30 + p by omega, show (p : Int) + 1 = ((p + 1 : Nat) : Int) by omega]
      refine ⟨by omega, ?_⟩
      refine ih (p + 1) (by omega) ⟨f.1, fun r0 r1 r2 r3 => by (try dsimp only); rw [x_up_r r1]; exact f.2 r0 r1 r2 r3⟩ (rI_person m B r (by omega) (d p (Nat.le_refl p) (by omega)) ?_ (fun i hi => ?_)) (fun i h1 h2 => ?_)
      · (try dsimp only); rw [x_up_eq]
      · (try dsimp only); rw [x_up_j hi]
      · (try dsimp only); rw [x_up_j (by omega)]; exact d i (by omega) h2
  -- zeros
  have L1 : ∀ (mm i : Nat) {h' : xH} {w5 : xV}, i + mm = 1024 → fV h h' → (∀ x, x < i → h'.2 105 x = 0) → zJ g (D + 4) mX9_can 0 0 3 [xr 95, xi a, xi k, xi out, xi i, w5] [] h' (x_qi Q) := by
    intro mm
    induction mm with
    | zero =>
      intro i h' w5 e f d
      refine zX9_can_3 ⟨fun _ => zX9_can_25 ?_, fun q => by omega⟩
      refine r_numberOf (k := 7) (by rw [fV_96 f]; exact B.1) ?_
      rw [fV_96 f]
      refine L2 n 0 (by omega) f ⟨fun x hx => by rw [d x (by omega)]; omega, fun X => ?_, fun u h1 h2 => d _ (by omega)⟩ (fun x h1 h2 => d _ (by omega))
      show oR X (h'.2 105) = 0 + 0 + 0
      exact sX_0 1024 (fun x hx _ => d x (by omega))
    | succ mm ih =>
      intro i h' w5 e f d
      refine zX9_can_3 ⟨fun q => by omega, fun q => ⟨by omega, ?_⟩⟩
      rw [x32_id (by omega) (by omega), show ((i : Int)).toNat = i by omega, show (i : Int) + 1 = ((i + 1 : Nat) : Int) by omega]
      refine ih (i + 1) (by omega) ⟨f.1, fun r0 r1 r2 r3 => by (try dsimp only); rw [x_up_r r1]; exact f.2 r0 r1 r2 r3⟩ (fun x hx => ?_)
      (try dsimp only)
      rw [x_up_k]
      by_cases q2 : x = i
      · rw [if_pos q2]
      · rw [if_neg q2]; exact d x (by omega)
  exact eX9_can (zX9_can_0 (L1 1024 0 (by omega) ⟨rfl, fun _ _ _ _ => rfl⟩ (fun x hx => by omega)))
end CN
