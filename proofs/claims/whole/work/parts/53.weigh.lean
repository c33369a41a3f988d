/-! a web is weighed: the class -/
theorem zB_bs {h : xH} {bs : Int} (b : zB h bs) : bs = -1 ∨ (0 ≤ bs ∧ bs < h.2 96 6) := by
  rcases b.2.2.2 with c | c
  · exact Or.inl c.1
  · exact Or.inr ⟨c.1, c.2.1⟩
theorem zB_meas {h : xH} {bs : Int} (b : zB h bs) {m : Nat} (hm : (m : Int) < h.2 96 5) : h.2 27 (m * 7) = h.2 96 (400 + 8 * m) ∧ h.2 27 (m * 7 + 1) = h.2 96 (401 + 8 * m) ∧ h.2 27 (m * 7 + 2) = h.2 96 (406 + 8 * m) ∧ h.2 27 (m * 7 + 3) = h.2 96 (402 + 8 * m) ∧ h.2 27 (m * 7 + 4) = h.2 96 (403 + 8 * m) ∧ h.2 27 (m * 7 + 5) = h.2 96 (404 + 8 * m) ∧ h.2 27 (m * 7 + 6) = h.2 96 (405 + 8 * m) := by
  have c := ((b.2.2.1.1 4 (by decide)) (by decide)).2 m hm
  refine ⟨c (0, 0) (by decide), ?_, ?_, ?_, ?_, ?_, ?_⟩
  · rw [show 401 + 8 * m = 400 + 8 * m + 1 by omega]; exact c (1, 1) (by decide)
  · rw [show 406 + 8 * m = 400 + 8 * m + 6 by omega]; exact c (2, 6) (by decide)
  · rw [show 402 + 8 * m = 400 + 8 * m + 2 by omega]; exact c (3, 2) (by decide)
  · rw [show 403 + 8 * m = 400 + 8 * m + 3 by omega]; exact c (4, 3) (by decide)
  · rw [show 404 + 8 * m = 400 + 8 * m + 4 by omega]; exact c (5, 4) (by decide)
  · rw [show 405 + 8 * m = 400 + 8 * m + 5 by omega]; exact c (6, 5) (by decide)
theorem l_latest {g : xG} {D : Nat} {h : xH} {bs web day known : Int} {Q : Int → xH → Prop} (b : zB h bs) (hQ : Q (mO (h.2 96) web day known) h) : ∀ (m n : Nat) {w0 w8 : xV}, (n : Int) + m = h.2 96 5 → zJ g (D + 1) 11 0 0 18 [w0, xi web, xi day, xi known, xr 26, xi (mR (h.2 96) web day known n), xi (if mR (h.2 96) web day known n < 0 then -1 else h.2 96 (401 + 8 * (mR (h.2 96) web day known n).toNat)), xi n, w8] [] h (x_qi Q)
  | 0, n, w0, w8, e => by
    have hsz : h.2 26 3 = h.2 96 5 := ((b.2.2.1.1 4 (by decide)) (by decide)).1
    refine zX1_latestMeasure_18 ⟨fun z => zX1_latestMeasure_89 ?_, fun z => by omega⟩
    unfold mO at hQ
    rw [show (h.2 96 5).toNat = n by omega] at hQ
    exact hQ
  | m + 1, n, w0, w8, e => by
    have hsz : h.2 26 3 = h.2 96 5 := ((b.2.2.1.1 4 (by decide)) (by decide)).1
    have R : pR h 26 27 200 7 := z_R b.1 rfl rfl rfl rfl rfl (by decide)
    have B := rB_zB b
    have b5 := B.2.2.1.2.2.2
    obtain ⟨c0, c1, c2, c3, c4, c5, c6⟩ := zB_meas b (m := n) (by omega)
    have rk := B.2.2.2.2.2.2 n (by omega)
    have lf : (mR (h.2 96) web day known n < 0 → (if mR (h.2 96) web day known n < 0 then (-1 : Int) else h.2 96 (401 + 8 * (mR (h.2 96) web day known n).toNat)) = -1) ∧ (¬ mR (h.2 96) web day known n < 0 → (if mR (h.2 96) web day known n < 0 then (-1 : Int) else h.2 96 (401 + 8 * (mR (h.2 96) web day known n).toNat)) = h.2 96 (401 + 8 * (mR (h.2 96) web day known n).toNat)) := ⟨fun z => if_pos z, fun z => if_neg z⟩
    have ih := fun {w0 w8 : xV} => @l_latest g D h bs web day known Q b hQ m (n + 1) w0 w8 (by omega)
    have no : ∀ {w0 w8 : xV}, ¬ (h.2 96 (400 + 8 * n) = web ∧ h.2 96 (401 + 8 * n) ≤ day ∧ h.2 96 (406 + 8 * n) ≤ known ∧ (mR (h.2 96) web day known n < 0 ∨ h.2 96 (401 + 8 * (mR (h.2 96) web day known n).toNat) ≤ h.2 96 (401 + 8 * n))) → zJ g (D + 1) 11 0 0 83 [w0, xi web, xi day, xi known, xr 26, xi (mR (h.2 96) web day known n), xi (if mR (h.2 96) web day known n < 0 then -1 else h.2 96 (401 + 8 * (mR (h.2 96) web day known n).toNat)), xi n, w8] [] h (x_qi Q) := by
      intro w0 w8 hno
      have em : mR (h.2 96) web day known (n + 1) = mR (h.2 96) web day known n := if_neg hno
      rw [em] at ih
      refine zX1_latestMeasure_83 ?_
      rw [x32_id (by omega) (by omega), show (n : Int) + 1 = ((n + 1 : Nat) : Int) by omega]
      exact ih
    refine zX1_latestMeasure_18 ⟨fun z => by omega, fun z => s_get R (by omega) (by omega) (by omega) (by omega) ?_⟩
    rw [show ((n : Int) * ((7 : Nat) : Int) + 0).toNat = n * 7 by omega, c0]
    refine ⟨fun y => no (fun q => y q.1), fun y => s_get R (by omega) (by omega) (by omega) (by omega) ?_⟩
    rw [show ((n : Int) * ((7 : Nat) : Int) + 1).toNat = n * 7 + 1 by omega, c1]
    refine ⟨fun y2 => no (by omega), fun y2 => ⟨fun y3 => no ?_, fun y3 => s_get R (by omega) (by omega) (by omega) (by omega) ?_⟩⟩
    · intro q
      rcases q.2.2.2 with p | p
      · rw [lf.1 p] at y3; omega
      · by_cases p2 : mR (h.2 96) web day known n < 0
        · rw [lf.1 p2] at y3; omega
        · rw [lf.2 p2] at y3; omega
    · rw [show ((n : Int) * ((7 : Nat) : Int) + 2).toNat = n * 7 + 2 by omega, c2]
      refine ⟨fun y4 => no (by omega), fun y4 => ?_⟩
      have hyes : h.2 96 (400 + 8 * n) = web ∧ h.2 96 (401 + 8 * n) ≤ day ∧ h.2 96 (406 + 8 * n) ≤ known ∧ (mR (h.2 96) web day known n < 0 ∨ h.2 96 (401 + 8 * (mR (h.2 96) web day known n).toNat) ≤ h.2 96 (401 + 8 * n)) := by
        refine ⟨y, y2, y4, ?_⟩
        by_cases p2 : mR (h.2 96) web day known n < 0
        · exact Or.inl p2
        · rw [lf.2 p2] at y3; exact Or.inr y3
      have em : mR (h.2 96) web day known (n + 1) = (n : Int) := if_pos hyes
      rw [em, if_neg (by omega), show ((n : Int)).toNat = n by omega] at ih
      rw [x32_id (by omega) (by omega), show (n : Int) + 1 = ((n + 1 : Nat) : Int) by omega]
      exact ih
theorem s_latest {g : xG} {D : Nat} {h : xH} {bs web day known : Int} {Q : Int → xH → Prop} (b : zB h bs) (hQ : Q (mO (h.2 96) web day known) h) : zSi g (D + 1) mX1_latestMeasure [xr 75, xi web, xi day, xi known] h Q := by
  have b5 := (rB_zB b).2.2.1.2.2.2
  exact eX1_latestMeasure (zX1_latestMeasure_0 (l_latest b hQ (h.2 96 5).toNat 0 (by omega)))
theorem s_name {g : xG} {D : Nat} {h : xH} {i : Nat} {v : Int} {Q : xH → Prop} (hi : i < 16) (hQ : Q (h.1, x_up h.2 76 i v)) : zSv g D mX1_name [xr 75, xi i, xi v] h Q :=
  eX1_name (zX1_name_0 ⟨fun z => by omega, fun z => ⟨fun y => by omega, fun y => ⟨by omega, by rw [show ((i : Int)).toNat = i by omega]; exact hQ⟩⟩⟩)
theorem s_named {g : xG} {D : Nat} {h : xH} {i : Nat} {Q : Int → xH → Prop} (hi : i < 16) (hQ : Q (h.2 76 i) h) : zSi g D mX1_named [xr 75, xi i] h Q :=
  eX1_named (zX1_named_0 ⟨fun z => by omega, fun z => ⟨fun y => by omega, fun y => ⟨by omega, by rw [show ((i : Int)).toNat = i by omega]; exact hQ⟩⟩⟩)
theorem l_weeks {g : xG} {D : Nat} {h : xH} {day a4 a5 a6 sh w0 : Int} {wk : Nat} {Q : Int → xH → Prop} (hw : wk ≤ 20) (h0 : 0 ≤ w0 ∧ w0 ≤ 240) (hs : 0 ≤ sh ∧ sh ≤ 20) (hQ : ∀ {w1 w3 w8 w10 : xV}, zJ g (D + 1) 12 0 0 140 [xr 75, w1, xi day, w3, xi a4, xi a5, xi a6, xi wk, w8, xi (wd w0 sh wk), w10] [] h (x_qi Q)) : ∀ (m n : Nat) {w1 w3 : xV}, n + m = wk → zJ g (D + 1) 12 0 0 107 [xr 75, w1, xi day, w3, xi a4, xi a5, xi a6, xi wk, xi sh, xi (wd w0 sh n), xi n] [] h (x_qi Q)
  | 0, n, w1, w3, e => by
    have : n = wk := by omega
    subst this
    exact zX1_weigh_107 ⟨fun z => hQ, fun z => ⟨fun y => hQ, fun y => by omega⟩⟩
  | m + 1, n, w1, w3, e => by
    have b := wd_b h0 hs n
    refine zX1_weigh_107 ⟨fun z => by omega, fun z => ⟨fun y => by omega, fun y => ⟨by decide, ?_⟩⟩⟩
    rw [x32_id (show -2147483648 ≤ wd w0 sh n * sh by omega) (by omega), x32_id (show -2147483648 ≤ (wd w0 sh n * sh).tdiv 100 by omega) (by omega), x32_id (by omega) (by omega), x32_id (by omega) (by omega), show (n : Int) + 1 = ((n + 1 : Nat) : Int) by omega]
    exact l_weeks hw h0 hs hQ m (n + 1) (by omega)
theorem s_nameSort {g : xG} {D : Nat} {h : xH} {bs day : Int} {web x : Nat} {Q : xH → Prop} (b : zB h bs) (hw : (web : Int) < h.2 96 4) (hx : (x : Int) < h.2 96 5) (hd : 0 ≤ day ∧ day ≤ 999) (hm : ∀ i, i < 7 → i ≠ 5 → h.2 76 (nIx i) = nm0 (h.2 96) bs web day x i) (hQ : ∀ h', fB h h' → nmC h' (nm1 (h.2 96) bs web day x) → h'.2 75 4 = sO (h.2 96) bs web day x → Q h') : zSv g (D + 4) mX1_nameSort [xr 75, xi day] h Q := by
  have B := rB_zB b
  have hb := zB_bs b
  obtain ⟨-, -, -, nok⟩ := nm0_b B hb hw hx hd
  have sb := sO_b (web := web) (x := x) (day := day) B hb
  refine eX1_nameSort (zX1_nameSort_0 (s_name (i := 0) (by decide) ?_))
  have f1 : fB h (h.1, x_up h.2 76 0 0) := fB_76
  have b1 := fB_zB f1 b
  have e96 : (h.1, x_up h.2 76 0 0).2 96 = h.2 96 := fB_96 f1
  have hm1 : nmC (h.1, x_up h.2 76 0 0) (nm0 (h.2 96) bs web day x) := by
    intro i hi
    show x_up h.2 76 0 0 76 (nIx i) = _
    by_cases e : i = 5
    · subst e; exact x_up_eq
    · rw [x_up_j (by rcases (show i = 0 ∨ i = 1 ∨ i = 2 ∨ i = 3 ∨ i = 4 ∨ i = 6 by omega) with e | e | e | e | e | e <;> subst e <;> decide)]
      exact hm i hi e
  refine s_firstClause (so := true) (k := 0) b1 (by decide) nok hm1 (fun h2 g1 g2 => ?_)
  have f2 : fB h h2 := fB_trans f1 (fB_of77 g1 g2)
  have b2 := fB_zB f2 b
  rw [e96]
  -- what is named at the end
  have fin : ∀ {h3 : xH}, fB h h3 → h3.2 76 = h2.2 76 → ∀ {w1 w2 w3 : xV}, zJ g (D + 4) 13 0 0 40 [xr 75, w1, w2, w3] [xi (sO (h.2 96) bs web day x), xr 75] h3 (x_qv Q) := by
    intro h3 f3 e76 w1 w2 w3
    have f4 : fB h (h3.1, x_up h3.2 75 4 (sO (h.2 96) bs web day x)) := fB_trans f3 fB_75
    have last : ∀ v : Int, v = (if sO (h.2 96) bs web day x = -1 then 10 else sO (h.2 96) bs web day x) → Q (h3.1, x_up (x_up h3.2 75 4 (sO (h.2 96) bs web day x)) 76 0 v) := by
      intro v hv
      refine hQ _ (fB_trans f4 fB_76) (fun i hi => ?_) ?_
      · show x_up (x_up h3.2 75 4 _) 76 0 v 76 (nIx i) = _
        unfold nm1
        by_cases e : i = 5
        · subst e; rw [if_pos rfl, ← hv]; exact x_up_eq
        · rw [if_neg e, x_up_j (by rcases (show i = 0 ∨ i = 1 ∨ i = 2 ∨ i = 3 ∨ i = 4 ∨ i = 6 by omega) with e | e | e | e | e | e <;> subst e <;> decide), x_up_r (by decide), e76, g2 76 (by decide)]
          exact hm1 i hi
      · dsimp only
        rw [x_up_r (by decide), x_up_eq]
    refine zX1_nameSort_40 ?_
    rw [x_up_eq]
    refine ⟨fun z => zX1_nameSort_58 (s_name (i := 0) (by decide) ?_), fun z => s_name (i := 0) (by decide) (last 10 (by rw [if_pos z]))⟩
    show Q (h3.1, x_up (x_up h3.2 75 4 (sO (h.2 96) bs web day x)) 76 0 (x_up h3.2 75 4 (sO (h.2 96) bs web day x) 75 4))
    rw [x_up_eq]
    exact last _ (by rw [if_neg z])
  have A2 : h2.2 96 = h.2 96 := fB_96 f2
  refine s_actFor (k := 0) b2 (by decide) (fun e => ?_) (fun t r e hl a hf => ?_)
  · rw [A2, show ((0 : Nat) : Int) = 0 from rfl] at e
    have c : cF (h.2 96) bs 0 day (nm0 (h.2 96) bs web day x) true = -1 := by unfold cF; rw [e]; rfl
    rw [show ((0 : Nat) : Int) = 0 from rfl, c]
    refine ⟨fun _ => zX1_nameSort_31 ?_, fun z => absurd rfl z⟩
    have : sO (h.2 96) bs web day x = -1 := by unfold sO; rw [c]; rfl
    have q := @fin h2 f2 rfl xu xu xu
    rw [this] at q
    exact q
  · rw [A2, show ((0 : Nat) : Int) = 0 from rfl] at e
    rw [A2] at hl hf
    rw [show ((0 : Nat) : Int) = 0 from rfl]
    have hr := a.2.1
    have c : cF (h.2 96) bs 0 day (nm0 (h.2 96) bs web day x) true = fC (tx (h.2 96) t) (nm0 (h.2 96) bs web day x) 0 true := by unfold cF; rw [e, if_neg (by omega), show ((t : Int)).toNat = t by omega]
    have sO_e : sO (h.2 96) bs web day x = if fC (tx (h.2 96) t) (nm0 (h.2 96) bs web day x) 0 true < 0 then -1 else tx (h.2 96) t (2 + 12 * (fC (tx (h.2 96) t) (nm0 (h.2 96) bs web day x) 0 true).toNat) := by unfold sO; rw [c, e, show ((t : Int)).toNat = t by omega]
    rw [c]
    rcases fC_c (T := tx (h.2 96) t) (nm := nm0 (h.2 96) bs web day x) (k := 0) (so := true) with c2 | ⟨i, c1, c2, c3⟩
    · rw [c2] at sO_e ⊢
      rw [if_pos (by decide)] at sO_e
      have q := fun {w1 w2 w3 : xV} => @fin h2 f2 rfl w1 w2 w3
      rw [sO_e] at q
      exact ⟨fun _ => zX1_nameSort_31 q, fun z => absurd rfl z⟩
    · rw [c1] at sO_e ⊢
      rw [if_neg (by omega), show ((i : Int)).toNat = i by omega] at sO_e
      refine ⟨fun z => by omega, fun z => ⟨fun y => zX1_nameSort_35 ⟨(aP_act a).1, s_numberAt a (by rw [A2]; exact c2) (by rw [A2]; omega) ?_⟩, fun y => by omega⟩⟩
      rw [A2, ← sO_e]
      exact fin f2 rfl
theorem s_weigh {g : xG} {D : Nat} {h : xH} {bs day known : Int} {web : Nat} {Q : Int → xH → Prop} (b : zB h bs) (hw : (web : Int) < h.2 96 4) (hd : 0 ≤ day ∧ day ≤ 999) (h0 : mO (h.2 96) web day known = -1 → Q 0 h) (h1 : ∀ (x : Nat) (h' : xH), mO (h.2 96) web day known = (x : Int) → (x : Int) < h.2 96 5 → fB h h' → nmC h' (nm1 (h.2 96) bs web day x) → h'.2 75 4 = sO (h.2 96) bs web day x → Q 1 h') : zSi g (D + 5) mX1_weigh [xr 75, xi web, xi day, xi known] h Q := by
  have B := rB_zB b
  have hb := zB_bs b
  obtain ⟨w1, w2, w3⟩ := web_b B hw
  have b1 := B.2.2.1
  have R1 : pR h 18 19 6 1 := z_R b.1 rfl rfl rfl rfl rfl (by decide)
  have R2 : pR h 20 21 30 3 := z_R b.1 rfl rfl rfl rfl rfl (by decide)
  have R3 : pR h 24 25 50 1 := z_R b.1 rfl rfl rfl rfl rfl (by decide)
  have R4 : pR h 26 27 200 7 := z_R b.1 rfl rfl rfl rfl rfl (by decide)
  have k3 : h.2 25 web = h.2 96 (350 + web) := by
    have := ((b.2.2.1.1 3 (by decide)) (by decide)).2 web hw (0, 0) (by decide)
    have e : h.2 25 (web * 1 + 0) = h.2 96 (350 + 1 * web + 0) := this
    rw [show web * 1 + 0 = web by omega, show 350 + 1 * web + 0 = 350 + web by omega] at e
    exact e
  have k1 : h.2 21 ((h.2 96 (350 + web)).toNat * 3) = tO (h.2 96) web := ((b.2.2.1.1 1 (by decide)) (by decide)).2 (h.2 96 (350 + web)).toNat (show (((h.2 96 (350 + web)).toNat : Nat) : Int) < h.2 96 2 by omega) (0, 0) (by decide)
  have k0 : h.2 19 (tO (h.2 96) web).toNat = iO (h.2 96) web := by
    have := ((b.2.2.1.1 0 (by decide)) (by decide)).2 (tO (h.2 96) web).toNat (show (((tO (h.2 96) web).toNat : Nat) : Int) < h.2 96 1 by omega) (0, 0) (by decide)
    have e : h.2 19 ((tO (h.2 96) web).toNat * 1 + 0) = h.2 96 (20 + 1 * (tO (h.2 96) web).toNat + 0) := this
    rw [show (tO (h.2 96) web).toNat * 1 + 0 = (tO (h.2 96) web).toNat by omega, show 20 + 1 * (tO (h.2 96) web).toNat + 0 = 20 + (tO (h.2 96) web).toNat by omega] at e
    exact e
  refine eX1_weigh (zX1_weigh_0 (s_latest b (s_get R3 (by omega) (by omega) (by omega) (by omega) ?_)))
  rw [show ((web : Int) * ((1 : Nat) : Int) + 0).toNat = web by omega, k3]
  refine eX2_townOf (zX2_townOf_0 (s_get R2 (by omega) (by omega) (by omega) (by omega) ?_))
  rw [show (h.2 96 (350 + web) * ((3 : Nat) : Int) + 0).toNat = (h.2 96 (350 + web)).toNat * 3 by omega, k1]
  refine s_get R1 (by omega) (by omega) (by omega) (by omega) ?_
  rw [show (tO (h.2 96) web * ((1 : Nat) : Int) + 0).toNat = (tO (h.2 96) web).toNat by omega, k0]
  refine ⟨fun z => zX1_weigh_56 ⟨Or.inl rfl, h0 z⟩, fun z => ⟨fun z2 => zX1_weigh_58 ?_, fun z2 => by omega⟩⟩
  obtain ⟨x, ex, hx⟩ : ∃ x : Nat, mO (h.2 96) web day known = (x : Int) ∧ (x : Int) < h.2 96 5 := by
    rcases mR_c (A := h.2 96) (web := web) (day := day) (known := known) (h.2 96 5).toNat with e | ⟨x, e1, e2, -⟩
    · exact absurd e z
    · exact ⟨x, e1, by omega⟩
  have H1 := h1 x
  clear h0 h1
  obtain ⟨c0, c1, c2, c3, c4, c5, c6⟩ := zB_meas b hx
  obtain ⟨m0, m1, m2, m3, m4, m5, m6⟩ := B.2.2.2.2.2.2 x hx
  have sh : 0 ≤ nO (h.2 96) bs 6 day 0 ∧ nO (h.2 96) bs 6 day 0 ≤ 20 := nO_b B.1 hb 6 day 0 0 20 (by omega) (by omega)
  rw [ex]
  refine s_get R4 (by omega) (by omega) (by omega) (by omega) ?_
  rw [show ((x : Int) * ((7 : Nat) : Int) + 6).toNat = x * 7 + 6 by omega, c6]
  refine s_told (k := 6) b (by decide) (s_get R4 (by omega) (by omega) (by omega) (by omega) ⟨by decide, ?_⟩)
  rw [show ((x : Int) * ((7 : Nat) : Int) + 3).toNat = x * 7 + 3 by omega, c3, show x_ltv 2 6 = 0 from rfl, show ((6 : Nat) : Int) = 6 from rfl]
  have wb := w0_b m2 w3
  rw [x32_id (show -2147483648 ≤ h.2 96 (402 + 8 * x) * iO (h.2 96) web by omega) (by omega), x32_id (by omega) (by omega)]
  obtain ⟨wk, hwk⟩ : ∃ wk : Nat, h.2 96 (405 + 8 * x) = (wk : Int) := ⟨(h.2 96 (405 + 8 * x)).toNat, by omega⟩
  rw [hwk]
  refine l_weeks (by omega) wb.2 sh (fun {u1 u3 u8 u10} => zX1_weigh_140 (s_name (i := 10) (by decide) ?_)) wk 0 (by omega)
  have mk : ∀ {h' : xH}, fB h h' → pR h' 26 27 200 7 := fun f => z_R (fB_zSh f b.1) rfl rfl rfl rfl rfl (by decide)
  have f1 : fB h (h.1, x_up h.2 76 10 (wd ((h.2 96 (402 + 8 * x) * iO (h.2 96) web).tdiv 100) (nO (h.2 96) bs 6 day 0) wk)) := fB_76
  refine s_get (mk f1) (by omega) (by omega) (by omega) (by omega) ?_
  rw [show ((x : Int) * ((7 : Nat) : Int) + 4).toNat = x * 7 + 4 by omega, f1.2.1 27 (by decide) (by decide) (by decide), c4]
  have cb := c0_b m3 w3
  rw [x32_id (show -2147483648 ≤ h.2 96 (403 + 8 * x) * 100 by omega) (by omega), x32_id (by omega) (by omega)]
  refine ⟨by omega, s_name (i := 11) (by decide) ?_⟩
  have f2 := fB_trans f1 (fB_76 (j := 11) (v := (h.2 96 (403 + 8 * x) * 100).tdiv (iO (h.2 96) web)))
  refine s_get (mk f2) (by omega) (by omega) (by omega) (by omega) ?_
  rw [show ((x : Int) * ((7 : Nat) : Int) + 5).toNat = x * 7 + 5 by omega, f2.2.1 27 (by decide) (by decide) (by decide), c5]
  refine s_name (i := 12) (by decide) (s_name (i := 13) (by decide) (s_name (i := 14) (by decide) (s_name (i := 15) (by decide) ?_)))
  have f3 := fB_trans f2 (fB_76 (j := 12) (v := h.2 96 (404 + 8 * x)))
  have f4 := fB_trans f3 (fB_76 (j := 13) (v := (wk : Int)))
  have f5 := fB_trans f4 (fB_76 (j := 14) (v := tO (h.2 96) web))
  have f6 := fB_trans f5 (fB_76 (j := 15) (v := day))
  have e96 := fB_96 f6
  have b6 := fB_zB f6 b
  have S := s_nameSort (g := g) (D := D) (web := web) (x := x) (day := day) (Q := fun h9 => ((1 : Int) = 0 ∨ (1 : Int) = 1) ∧ Q 1 h9) b6 (by rw [e96]; exact hw) (by rw [e96]; exact hx) hd ?_ (fun h' g1 g2 g3 => ⟨Or.inr rfl, ?_⟩)
  · exact S
  · intro i hi hi5
    rw [e96]
    have ewk : (h.2 96 (405 + 8 * x)).toNat = wk := by omega
    rcases (show i = 0 ∨ i = 1 ∨ i = 2 ∨ i = 3 ∨ i = 4 ∨ i = 6 by omega) with e | e | e | e | e | e <;> subst e
    · show _ = wd ((h.2 96 (402 + 8 * x) * iO (h.2 96) web).tdiv 100) (nO (h.2 96) bs 6 day 0) (h.2 96 (405 + 8 * x)).toNat
      rw [ewk]; rfl
    · rfl
    · rfl
    · show _ = h.2 96 (405 + 8 * x)
      rw [hwk]; rfl
    · rfl
    · rfl
  · rw [e96] at g2 g3
    exact H1 h' ex hx (fB_trans f6 g1) g2 g3
