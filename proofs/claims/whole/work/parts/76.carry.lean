/-! pounds go along the way -/
def pB (P : Nat → Prop) (A rb : Nat → Int) (wv : Nat) : Nat → Nat → Prop
  | 0, _ => True
  | m + 1, p => p = wv ∨ (P p ∧ pB P A rb wv m (oth A (rb p).toNat p))
theorem pB_up {P P' : Nat → Prop} {A sn rb : Nat → Int} {rk : Nat → Nat} {wv : Nat} (mm : pM A) (G : gOk A sn rb rk wv) : ∀ (m p : Nat), (p : Int) < A 2 → rb p ≠ -2 → (∀ x : Nat, (x : Int) < A 2 → rb x ≠ -2 → x ≠ wv → rk x ≤ rk p → P x → P' x) → pB P A rb wv m p → pB P' A rb wv m p
  | 0, _, _, _, _, _ => trivial
  | m + 1, p, hp, h0, hP, h => by
    by_cases q : p = wv
    · exact Or.inl q
    · rcases h with e | ⟨e1, e2⟩
      · exact absurd e q
      · obtain ⟨j, g1, g2, g3, g4, g5, g6⟩ := G.2 p hp h0 q
        have ej : (rb p).toNat = j := by omega
        refine Or.inr ⟨hP p hp h0 q (Nat.le_refl _) e1, ?_⟩
        rw [ej] at e2 ⊢
        exact pB_up mm G m _ (oth_b mm (p := p) g2).2.2.2 g4 (fun x x1 x2 x3 x4 => hP x x1 x2 x3 (by omega)) e2
def fK (r : Nat) (h h' : xH) : Prop := h'.1 = h.1 ∧ (∀ q, q ≠ 80 → q ≠ 82 → h'.2 q = h.2 q) ∧ (∀ i, ¬ (30 * r ≤ i ∧ i < 30 * r + 30) → h'.2 80 i = h.2 80 i) ∧ ∀ i, ¬ (40 * r ≤ i ∧ i < 40 * r + 40) → h'.2 82 i = h.2 82 i
theorem fK_refl (r : Nat) (h : xH) : fK r h h := ⟨rfl, fun _ _ _ => rfl, fun _ _ => rfl, fun _ _ => rfl⟩
theorem fK_fL {r : Nat} {h h' : xH} (f : fK r h h') : fL h h' := ⟨f.1, fun q hq => f.2.1 q (by omega) (by omega)⟩
theorem bL_neg {L : Int} {b : Bool} : bL (-L) b = - bL L b := by unfold bL; cases b <;> simp
section CA
variable {g : xG} {D : Nat} {h : xH} {A : Nat → Int}
theorem l_ca1 {r p wv : Nat} {rk : Nat → Nat} {Q : Int → xH → Prop} (m : pM A) (t : tK A h) (hr : r < 11) (hsn : ∀ j : Nat, (j : Int) < A 11 → 0 ≤ h.2 82 (40 * r + j) ∧ h.2 82 (40 * r + j) ≤ dbC A j) (G : gOk A (fun j => h.2 82 (40 * r + j)) (h.2 90) rk wv) : ∀ (f c s : Nat) (least : Int) {w4 w8 w9 : xV}, rk c < f → s + rk c < 30 → (c : Int) < A 2 → h.2 90 c ≠ -2 → 1 ≤ least → (∀ (L : Int) {w4 w6 w7 w8 w9 : xV}, 1 ≤ L → L ≤ least → pB (fun x => L ≤ rmv A (fun j => h.2 82 (40 * r + j)) (h.2 90 x).toNat x) A (h.2 90) wv f c → zJ g (D + 2) mX3_carry 0 0 79 [xr 78, xi r, xi p, xi wv, w4, xi L, w6, w7, w8, w9] [] h (x_qi Q)) → zJ g (D + 2) mX3_carry 0 0 22 [xr 78, xi r, xi p, xi wv, w4, xi least, xi c, xi s, w8, w9] [] h (x_qi Q)
  | 0, c, s, least, w4, w8, w9, hf, _, _, _, _, _ => by omega
  | f + 1, c, s, least, w4, w8, w9, hf, hs, hc, h0, hl, hQ => by
    by_cases q : c = wv
    · subst q
      exact zX3_carry_22 ⟨fun z => by omega, fun z => ⟨fun _ => hQ least hl (Int.le_refl _) (Or.inl rfl), fun z2 => absurd rfl z2⟩⟩
    · obtain ⟨j, g1, g2, g3, g4, g5, g6⟩ := G.2 c hc h0 q
      have z := pM_z m
      have sb := hsn j g2
      have cb : dbC A j ≤ 9999 := (tr_r m g2).2.2.2.2
      have ob := (oth_b m (p := c) g2).2.2.2
      refine zJ_sh (fun hsh => ?_)
      have RB : pR h 89 90 30 1 := z_R hsh rfl rfl rfl rfl rfl (by decide)
      refine zX3_carry_22 ⟨fun z => by omega, fun _ => ⟨fun z => by omega, fun _ => s_get RB (by omega) (by omega) (by omega) (by omega) ?_⟩⟩
      rw [show ((c : Int) * ((1 : Nat) : Int) + 0).toNat = c by omega, g1]
      refine s_roomFrom m t hr g2 (by omega) ?_
      rw [show (if dbF A j = c then dbC A j - h.2 82 (40 * r + j) else h.2 82 (40 * r + j)) = rmv A (fun j => h.2 82 (40 * r + j)) j c from rfl]
      refine s_otherOf m t g2 ?_
      rw [show (if dbF A j = c then dbT A j else dbF A j) = oth A j c from rfl, x32_id (by omega) (by omega), show (s : Int) + 1 = ((s + 1 : Nat) : Int) by omega]
      refine l_ca1 m t hr hsn G f (oth A j c) (s + 1) _ (by omega) (by omega) ob g4 (by omega) (fun L w4 w6 w7 w8 w9 l1 l2 l3 => hQ L l1 (by omega) (Or.inr ⟨?_, ?_⟩))
      · show L ≤ rmv A (fun j => h.2 82 (40 * r + j)) (h.2 90 c).toNat c
        rw [g1, show ((j : Int)).toNat = j by omega]; omega
      · rw [g1, show ((j : Int)).toNat = j by omega]; exact l3
/-- under way: L pounds stand at c -/
def cI (A sn sn' : Nat → Int) (L : Int) (p c : Nat) : Prop := (∀ j : Nat, (j : Int) < A 11 → 0 ≤ sn' j ∧ sn' j ≤ dbC A j) ∧ ∀ X : Nat → Bool, sX (fun j => X (dbT A j)) sn' (A 11).toNat + sX (fun j => X (dbF A j)) sn (A 11).toNat + bL L (X p) = sX (fun j => X (dbF A j)) sn' (A 11).toNat + sX (fun j => X (dbT A j)) sn (A 11).toNat + bL L (X c)
theorem cI_step {A sn sn1 sn2 : Nat → Int} {L : Int} {p c j : Nat} (m : pM A) (C : cI A sn sn1 L p c) (hj : (j : Int) < A 11) (ht : tch A j c) (hL : 1 ≤ L) (hr : L ≤ rmv A sn1 j c) (e1 : sn2 j = sn1 j + (if dbF A j = c then L else -L)) (e2 : ∀ i, i ≠ j → sn2 i = sn1 i) : cI A sn sn2 L p (oth A j c) := by
  have z := pM_z m
  have b := oth_b m (p := c) hj
  have cj := C.1 j hj
  refine ⟨fun i hi => ?_, fun X => ?_⟩
  · by_cases q : i = j
    · subst q
      rw [e1]
      unfold rmv at hr
      by_cases q2 : dbF A i = c
      · rw [if_pos q2] at hr ⊢; omega
      · rw [if_neg q2] at hr ⊢; omega
    · rw [e2 i q]; exact C.1 i hi
  · have e := C.2 X
    rw [sX_up (P := fun j => X (dbT A j)) e2 (A 11).toNat (by omega), sX_up (P := fun j => X (dbF A j)) e2 (A 11).toNat (by omega), e1]
    unfold oth
    by_cases q2 : dbF A j = c
    · rw [if_pos q2, if_pos q2, show sn1 j + L - sn1 j = L by omega, q2]
      show _ + bL L (X (dbT A j)) + _ + _ = _ + bL L (X c) + _ + bL L (X (dbT A j))
      omega
    · have hT : dbT A j = c := by
        rcases ht with e | e
        · exact absurd e q2
        · exact e
      rw [if_neg q2, if_neg q2, show sn1 j + -L - sn1 j = -L by omega, hT]
      show _ + bL (-L) (X c) + _ + _ = _ + bL (-L) (X (dbF A j)) + _ + bL L (X (dbF A j))
      rw [bL_neg, bL_neg]
      omega
theorem l_ca2 {r p wv : Nat} {rk : Nat → Nat} {L : Int} {Q : Int → xH → Prop} (m : pM A) (t : tK A h) (hr : r < 11) (G : gOk A (fun j => h.2 82 (40 * r + j)) (h.2 90) rk wv) (hL : 1 ≤ L) (hL2 : L ≤ 100000) (hQ : ∀ (h' : xH) {w4 w6 w7 w8 w9 : xV}, h'.1 = h.1 → (∀ q, q ≠ 82 → h'.2 q = h.2 q) → (∀ i, ¬ (40 * r ≤ i ∧ i < 40 * r + 40) → h'.2 82 i = h.2 82 i) → cI A (fun j => h.2 82 (40 * r + j)) (fun j => h'.2 82 (40 * r + j)) L p wv → zJ g (D + 2) mX3_carry 0 0 177 [xr 78, xi r, xi p, xi wv, w4, xi L, w6, w7, w8, w9] [] h' (x_qi Q)) : ∀ (f c s : Nat) {h' : xH} {w4 w8 w9 : xV}, rk c < f → s + rk c < 30 → (c : Int) < A 2 → h.2 90 c ≠ -2 → h'.1 = h.1 → (∀ q, q ≠ 82 → h'.2 q = h.2 q) → (∀ i, ¬ (40 * r ≤ i ∧ i < 40 * r + 40) → h'.2 82 i = h.2 82 i) → cI A (fun j => h.2 82 (40 * r + j)) (fun j => h'.2 82 (40 * r + j)) L p c → pB (fun x => L ≤ rmv A (fun j => h'.2 82 (40 * r + j)) (h.2 90 x).toNat x) A (h.2 90) wv f c → zJ g (D + 2) mX3_carry 0 0 85 [xr 78, xi r, xi p, xi wv, w4, xi L, xi c, xi s, w8, w9] [] h' (x_qi Q)
  | 0, c, s, h', w4, w8, w9, hf, _, _, _, _, _, _, _, _ => by omega
  | f + 1, c, s, h', w4, w8, w9, hf, hs, hc, h0, e1, e2, e3, C, pb => by
    by_cases q : c = wv
    · subst q
      exact zX3_carry_85 ⟨fun z => by omega, fun z => ⟨fun _ => hQ h' e1 e2 e3 C, fun z2 => absurd rfl z2⟩⟩
    · obtain ⟨j, g1, g2, g3, g4, g5, g6⟩ := G.2 c hc h0 q
      rcases pb with pb | ⟨pb1, pb2⟩
      · exact absurd pb q
      rw [g1, show ((j : Int)).toNat = j by omega] at pb1 pb2
      have z := pM_z m
      have sb := C.1 j g2
      have cb : dbC A j ≤ 9999 := (tr_r m g2).2.2.2.2
      have ob := (oth_b m (p := c) g2).2.2.2
      have t' : tK A h' := fL_tK ⟨e1, fun r hr => e2 r (by omega)⟩ t
      have tj := t'.2.2.2 j g2
      have ef : A (12530 + 3 * j) = (dbF A j : Int) := by have := tr_r m g2; unfold dbF; omega
      refine zJ_sh (fun hsh => ?_)
      have RB : pR h' 89 90 30 1 := z_R hsh rfl rfl rfl rfl rfl (by decide)
      have T : pR h' 38 39 40 3 := z_R hsh rfl rfl rfl rfl rfl (by decide)
      have S : pR h' 81 82 11 40 := z_R hsh rfl rfl rfl rfl rfl (by decide)
      -- the change
      have go : ∀ {d : Int} {w9 : xV}, d = (if dbF A j = c then L else -L) → zJ g (D + 2) mX3_carry 0 0 136 [xr 78, xi r, xi p, xi wv, xu, xi L, xi c, xi s, xi j, w9] [xi d] h' (x_qi Q) := by
        intro d w9 hd
        have hdb : -100000 ≤ d ∧ d ≤ 100000 := by rw [hd]; split <;> omega
        have sb' : 0 ≤ h'.2 82 (40 * r + j) ∧ h'.2 82 (40 * r + j) ≤ dbC A j := sb
        refine zX3_carry_136 (s_get S (by omega) (by omega) (by omega) (by omega) ?_)
        rw [show ((r : Int) * ((40 : Nat) : Int) + (j : Int)).toNat = 40 * r + j by omega, x32_id (show -2147483648 ≤ h'.2 82 (40 * r + j) + d by omega) (by omega)]
        refine s_set S (by omega) (by omega) (by omega) (by omega) (fun h1 hs1 he => ?_)
        rw [show ((r : Int) * ((40 : Nat) : Int) + (j : Int)).toNat = 40 * r + j by omega] at he
        have p1 : h1.1 = h.1 := by rw [he]; exact e1
        have p2 : ∀ q, q ≠ 82 → h1.2 q = h.2 q := fun q hq => by rw [he]; (try dsimp only); rw [x_up_r hq]; exact e2 q hq
        have p3 : ∀ i, i ≠ 40 * r + j → h1.2 82 i = h'.2 82 i := fun i hi => by rw [he]; (try dsimp only); rw [x_up_j hi]
        have p4 : h1.2 82 (40 * r + j) = h'.2 82 (40 * r + j) + d := by rw [he]; (try dsimp only); rw [x_up_eq]
        refine s_otherOf m (fL_tK ⟨p1, fun r hr => p2 r (by omega)⟩ t) g2 ?_
        rw [show (if dbF A j = c then dbT A j else dbF A j) = oth A j c from rfl, x32_id (by omega) (by omega), show (s : Int) + 1 = ((s + 1 : Nat) : Int) by omega]
        refine l_ca2 m t hr G hL hL2 hQ f (oth A j c) (s + 1) (by omega) (by omega) ob g4 p1 p2 (fun i hi => by rw [p3 i (by omega)]; exact e3 i hi) (cI_step m C g2 g3 hL pb1 (by show h1.2 82 (40 * r + j) = _; rw [p4, hd]) (fun i hi => p3 _ (by omega))) (pB_up m G f _ ob g4 (fun x x1 x2 x3 x4 x5 => ?_) pb2)
        obtain ⟨i, y1, y2, y3, y4, y5, y6⟩ := G.2 x x1 x2 x3
        have ei : (h.2 90 x).toNat = i := by omega
        rw [ei] at x5 ⊢
        have hij : i ≠ j := by
          intro e
          subst e
          have oo := oth_oth m g2 g3
          have hxc : x ≠ c := fun e => by subst e; omega
          have : oth A i x = c := by
            have bb := oth_b m (p := c) g2
            unfold oth
            rcases y3 with a | a <;> rcases g3 with b | b
            · omega
            · rw [if_pos a]; exact b
            · rw [if_neg (by omega)]; exact b
            · omega
          rw [this] at y6
          omega
        have x5 : L ≤ (if dbF A i = x then dbC A i - h'.2 82 (40 * r + i) else h'.2 82 (40 * r + i)) := x5
        show L ≤ (if dbF A i = x then dbC A i - h1.2 82 (40 * r + i) else h1.2 82 (40 * r + i))
        rw [p3 _ (by omega)]; exact x5
      refine zX3_carry_85 ⟨fun z => by omega, fun _ => ⟨fun z => by omega, fun _ => s_get RB (by omega) (by omega) (by omega) (by omega) ?_⟩⟩
      rw [show ((c : Int) * ((1 : Nat) : Int) + 0).toNat = c by omega, e2 90 (by decide), g1]
      refine s_get T (by omega) (by omega) (by omega) (by omega) ?_
      rw [show ((j : Int) * ((3 : Nat) : Int) + 0).toNat = j * 3 by omega, tj.1, ef]
      refine ⟨fun z2 => zX3_carry_133 (go ?_), fun z2 => go ?_⟩
      · rw [x32_id (by omega) (by omega), if_neg (by omega)]
      · rw [if_pos (by omega)]
theorem s_carry {r p wv k a : Nat} {W wanted : Int} {keep : Nat → Bool} {rk : Nat → Nat} {Q : Int → xH → Prop} (m : pM A) (t : tK A h) (hr : r < 11) (hp : (p : Int) < A 2) (hw : (wv : Int) < A 2) (G : gOk A (fun j => h.2 82 (40 * r + j)) (h.2 90) rk wv) (hpr : h.2 90 p ≠ -2) (hst : 0 < h.2 80 (30 * r + p)) (hrk : rk p < 30) (hwn : 1 ≤ wanted ∧ wanted ≤ 100000) (K : kI A a keep k W wv (fun x => h.2 80 (30 * r + x)) (fun j => h.2 82 (40 * r + j))) (hQ : ∀ (h' : xH) (L : Int), 1 ≤ L → L ≤ wanted → fK r h h' → kI A a keep k (W + L) wv (fun x => h'.2 80 (30 * r + x)) (fun j => h'.2 82 (40 * r + j)) → Q L h') : zSi g (D + 2) mX3_carry [xr 78, xi r, xi p, xi wv, xi wanted] h Q := by
  have z := pM_z m
  have kp : 0 ≤ h.2 80 (30 * r + p) ∧ h.2 80 (30 * r + p) ≤ 9801 := K.1 p hp
  refine zS_sh (fun hsh => ?_)
  have S : pR h 79 80 11 30 := z_R hsh rfl rfl rfl rfl rfl (by decide)
  refine eX3_carry (zX3_carry_0 (s_get S (by omega) (by omega) (by omega) (by omega) ?_))
  rw [show ((r : Int) * ((30 : Nat) : Int) + (p : Int)).toNat = 30 * r + p by omega]
  refine l_ca1 (rk := rk) m t hr K.2.1 G (rk p + 1) p 0 _ (by omega) (by omega) hp hpr (by omega) (fun L w4 w6 w7 w8 w9 l1 l2 pb => zX3_carry_79 ?_)
  refine l_ca2 (rk := rk) m t hr G l1 (by omega) (fun h' w4 w6 w7 w8 w9 e1 e2 e3 C => zX3_carry_177 ?_) (rk p + 1) p 0 (by omega) (by omega) hp hpr rfl (fun _ _ => rfl) (fun _ _ => rfl) ⟨K.2.1, fun X => by omega⟩ pb
  refine zS_sh (fun hs2 => ?_)
  have S' : pR h' 79 80 11 30 := z_R hs2 rfl rfl rfl rfl rfl (by decide)
  have e80 : h'.2 80 = h.2 80 := e2 80 (by decide)
  refine s_get S' (by omega) (by omega) (by omega) (by omega) ?_
  rw [show ((r : Int) * ((30 : Nat) : Int) + (p : Int)).toNat = 30 * r + p by omega, e80, x32_id (by omega) (by omega)]
  refine s_set S' (by omega) (by omega) (by omega) (by omega) (fun h1 hs1 he => ?_)
  rw [show ((r : Int) * ((30 : Nat) : Int) + (p : Int)).toNat = 30 * r + p by omega] at he
  have q80 : ∀ i, h1.2 80 i = if i = 30 * r + p then h.2 80 (30 * r + p) - L else h.2 80 i := fun i => by rw [he]; (try dsimp only); rw [x_up_k, e80]
  have q82 : h1.2 82 = h'.2 82 := by rw [he]; (try dsimp only); rw [x_up_r (by decide)]
  refine hQ h1 L l1 (by omega) ⟨by rw [he]; exact e1, fun q a1 a2 => by rw [he]; (try dsimp only); rw [x_up_r a1]; exact e2 q a2, fun i hi => by rw [q80, if_neg (by omega)], fun i hi => by rw [q82]; exact e3 i hi⟩ ⟨fun x hx => ?_, fun j hj => ?_, fun X => ?_⟩
  · have := K.1 x hx
    (try dsimp only at this ⊢)
    rw [q80]
    by_cases q : x = p
    · subst q; rw [if_pos rfl]; omega
    · rw [if_neg (by omega)]; exact this
  · (try dsimp only)
    rw [q82]; exact C.1 j hj
  · have e := K.2.2 X
    have c := C.2 X
    have u := sX_up (P := X) (v := fun x => h.2 80 (30 * r + x)) (v' := fun x => h1.2 80 (30 * r + x)) (k := p) (fun i hi => by (try dsimp only); rw [q80, if_neg (by omega)]) (A 2).toNat (by omega)
    (try dsimp only at u)
    rw [q80 (30 * r + p), if_pos rfl, show h.2 80 (30 * r + p) - L - h.2 80 (30 * r + p) = -L by omega] at u
    have u2 : (if X p = true then -L else 0) = - bL L (X p) := by rw [← bL_neg]; rfl
    rw [u2] at u
    rw [bL_add, q82]
    omega
end CA
