/-! the nearest giver -/
def oth (A : Nat → Int) (j p : Nat) : Nat := if dbF A j = p then dbT A j else dbF A j
def rmv (A sn : Nat → Int) (j p : Nat) : Int := if dbF A j = p then dbC A j - sn j else sn j
def tch (A : Nat → Int) (j p : Nat) : Prop := dbF A j = p ∨ dbT A j = p
def gOk (A sn rb : Nat → Int) (rk : Nat → Nat) (wv : Nat) : Prop := rb wv = -1 ∧ ∀ p : Nat, (p : Int) < A 2 → rb p ≠ -2 → p ≠ wv → ∃ j : Nat, rb p = (j : Int) ∧ (j : Int) < A 11 ∧ tch A j p ∧ rb (oth A j p) ≠ -2 ∧ 0 < rmv A sn j p ∧ rk (oth A j p) < rk p
def rbR (rb : Nat → Int) (p : Nat) : Bool := decide (rb p ≠ -2)
def gW (A sn rb qu : Nat → Int) (rk : Nat → Nat) (wv n : Nat) : Prop := gOk A sn rb rk wv ∧ (∀ i, i < n → ∃ v : Nat, qu i = (v : Int) ∧ (v : Int) < A 2 ∧ rb v ≠ -2 ∧ rk v = i) ∧ (∀ p : Nat, (p : Int) < A 2 → rb p ≠ -2 → rk p < n ∧ qu (rk p) = (p : Int)) ∧ sX (rbR rb) (fun _ => 1) (A 2).toNat = (n : Int)
theorem oth_b {A : Nat → Int} (m : pM A) {j p : Nat} (hj : (j : Int) < A 11) : (dbF A j : Int) < A 2 ∧ (dbT A j : Int) < A 2 ∧ dbF A j ≠ dbT A j ∧ (oth A j p : Int) < A 2 := by
  have r := tr_r m hj
  have a1 : (dbF A j : Int) < A 2 := by unfold dbF; omega
  have a2 : (dbT A j : Int) < A 2 := by unfold dbT; omega
  refine ⟨a1, a2, by unfold dbF dbT; omega, ?_⟩
  unfold oth
  split
  · exact a2
  · exact a1
theorem oth_oth {A : Nat → Int} (m : pM A) {j u : Nat} (hj : (j : Int) < A 11) (ht : tch A j u) : oth A j (oth A j u) = u ∧ tch A j (oth A j u) ∧ oth A j u ≠ u := by
  have b := oth_b m (p := u) hj
  unfold oth tch
  by_cases q : dbF A j = u
  · rw [if_pos q, if_neg b.2.2.1]
    exact ⟨q, Or.inr rfl, by omega⟩
  · rw [if_neg q, if_pos rfl]
    rcases ht with e | e
    · exact absurd e q
    · exact ⟨e, Or.inl rfl, q⟩
theorem gW_b {A sn rb qu : Nat → Int} {rk : Nat → Nat} {wv n : Nat} (m : pM A) (w : gW A sn rb qu rk wv n) : (n : Int) ≤ A 2 := by
  have z := pM_z m
  have hb := sX_b (P := rbR rb) (v := fun _ => 1) (M := 1) (n := (A 2).toNat) (by decide) (fun i hi => by decide) _ (Nat.le_refl _)
  have := w.2.2.2
  omega
theorem gW_add {A sn rb qu rb' qu' : Nat → Int} {rk : Nat → Nat} {wv n u j o : Nat} (m : pM A) (w : gW A sn rb qu rk wv n) (hu : (u : Int) < A 2) (hru : rb u ≠ -2) (hj : (j : Int) < A 11) (ht : tch A j u) (ho : oth A j u = o) (hro : rb o = -2) (hr : 0 < rmv A sn j o) (c1 : rb' o = (j : Int)) (c2 : ∀ i, i ≠ o → rb' i = rb i) (d1 : qu' n = (o : Int)) (d2 : ∀ i, i ≠ n → qu' i = qu i) : gW A sn rb' qu' (fun x => if x = o then n else rk x) wv (n + 1) := by
  have z := pM_z m
  have w0 := w
  obtain ⟨⟨a1, a2⟩, b, c, d⟩ := w
  have oo := oth_oth m hj ht
  have ob := (oth_b m (p := u) hj).2.2.2
  rw [ho] at oo ob
  have hwo : wv ≠ o := fun q => by rw [q, hro] at a1; omega
  have hrn : ∀ x, rb x ≠ -2 → x ≠ o := fun x hx q => hx (by rw [q]; exact hro)
  refine ⟨⟨by rw [c2 _ hwo]; exact a1, fun p hp h0 hne => ?_⟩, fun i hi => ?_, fun p hp h0 => ?_, ?_⟩
  · by_cases q : p = o
    · subst q
      refine ⟨j, c1, hj, oo.2.1, ?_, hr, ?_⟩
      · rw [oo.1, c2 u (fun e => oo.2.2 e.symm)]; exact hru
      · rw [oo.1]
        show (if u = p then n else rk u) < (if p = p then n else rk p)
        rw [if_neg (fun e => oo.2.2 e.symm), if_pos rfl]
        exact (c u hu hru).1
    · rw [c2 p q] at h0
      obtain ⟨i, e1, e2, e3, e4, e5, e6⟩ := a2 p hp h0 hne
      refine ⟨i, by rw [c2 p q]; exact e1, e2, e3, by rw [c2 _ (hrn _ e4)]; exact e4, e5, ?_⟩
      show (if oth A i p = o then n else rk (oth A i p)) < (if p = o then n else rk p)
      rw [if_neg (hrn _ e4), if_neg q]; exact e6
  · by_cases q : i = n
    · subst q
      exact ⟨o, d1, ob, by rw [c1]; omega, if_pos rfl⟩
    · obtain ⟨v, e1, e2, e3, e4⟩ := b i (by omega)
      exact ⟨v, by rw [d2 i q]; exact e1, e2, by rw [c2 _ (hrn _ e3)]; exact e3, (if_neg (hrn _ e3)).trans e4⟩
  · show (if p = o then n else rk p) < n + 1 ∧ qu' (if p = o then n else rk p) = (p : Int)
    by_cases q : p = o
    · subst q; rw [if_pos rfl]; exact ⟨by omega, d1⟩
    · rw [c2 p q] at h0
      have := c p hp h0
      rw [if_neg q, d2 _ (by omega)]
      exact ⟨by omega, this.2⟩
  · rw [sX_upP (P := rbR rb) (k := o) (fun i hi => by unfold rbR; rw [c2 i hi]) (by unfold rbR; rw [hro]; rfl) (by unfold rbR; rw [c1]; exact decide_eq_true (by omega)) (A 2).toNat (by omega), d]
    omega
/-- nothing is to be had from the first k of the queue -/
def gC (A st sn rb qu : Nat → Int) (k : Nat) : Prop := ∀ i, i < k → ∀ v : Nat, qu i = (v : Int) → st v ≤ 0 ∧ ∀ j : Nat, (j : Int) < A 11 → tch A j v → rb (oth A j v) ≠ -2 ∨ rmv A sn j (oth A j v) ≤ 0
/-- stuck -/
theorem gC_end {A st sn rb qu : Nat → Int} {rk : Nat → Nat} {wv n k : Nat} (m : pM A) (w : gW A sn rb qu rk wv n) (c : gC A st sn rb qu k) (hk : n ≤ k) : (∀ p : Nat, (p : Int) < A 2 → rbR rb p = true → st p ≤ 0) ∧ (∀ j : Nat, (j : Int) < A 11 → rbR rb (dbT A j) = true → rbR rb (dbF A j) = false → dbC A j ≤ sn j) ∧ ∀ j : Nat, (j : Int) < A 11 → rbR rb (dbF A j) = true → rbR rb (dbT A j) = false → sn j ≤ 0 := by
  have key : ∀ p : Nat, (p : Int) < A 2 → rbR rb p = true → st p ≤ 0 ∧ ∀ j : Nat, (j : Int) < A 11 → tch A j p → rb (oth A j p) ≠ -2 ∨ rmv A sn j (oth A j p) ≤ 0 := by
    intro p hp h
    have := w.2.2.1 p hp (of_decide_eq_true h)
    exact c (rk p) (by omega) p this.2
  refine ⟨fun p hp h => (key p hp h).1, fun j hj h1 h2 => ?_, fun j hj h1 h2 => ?_⟩
  · have b := oth_b m (p := dbT A j) hj
    have e : oth A j (dbT A j) = dbF A j := by unfold oth; rw [if_neg b.2.2.1]
    rcases (key _ b.2.1 h1).2 j hj (Or.inr rfl) with q | q
    · rw [e] at q
      exact absurd h2 (by unfold rbR; rw [decide_eq_true q]; decide)
    · rw [e] at q
      unfold rmv at q
      rw [if_pos rfl] at q; omega
  · have b := oth_b m (p := dbF A j) hj
    have e : oth A j (dbF A j) = dbT A j := by unfold oth; rw [if_pos rfl]
    rcases (key _ b.1 h1).2 j hj (Or.inl rfl) with q | q
    · rw [e] at q
      exact absurd h2 (by unfold rbR; rw [decide_eq_true q]; decide)
    · rw [e] at q
      unfold rmv at q
      rw [if_neg b.2.2.1] at q; exact q
def adj (A : Nat → Int) (h : xH) : Prop := ∀ p : Nat, (p : Int) < A 2 → 0 ≤ h.2 86 p ∧ h.2 86 p ≤ h.2 86 (p + 1) ∧ h.2 86 (p + 1) ≤ 80 ∧ (∀ x : Nat, h.2 86 p ≤ (x : Int) → (x : Int) < h.2 86 (p + 1) → ∃ j : Nat, h.2 84 x = (j : Int) ∧ (j : Int) < A 11 ∧ tch A j p) ∧ ∀ j : Nat, (j : Int) < A 11 → tch A j p → ∃ x : Nat, h.2 86 p ≤ (x : Int) ∧ (x : Int) < h.2 86 (p + 1) ∧ h.2 84 x = (j : Int)
def fG (h h' : xH) : Prop := h'.1 = h.1 ∧ ∀ q, q ≠ 87 → q ≠ 88 → q ≠ 90 → h'.2 q = h.2 q
theorem fG_fL {h h' : xH} (f : fG h h') : fL h h' := ⟨f.1, fun r hr => f.2 r (by omega) (by omega) (by omega)⟩
section GV
variable {g : xG} {D : Nat} {h : xH} {A : Nat → Int}
theorem s_add1 {r q mo n : Nat} {f : Int} {Q : Int → xH → Prop} (R : pR h r q mo 1) (hn : h.2 r 3 = (n : Int)) (hlt : n < mo) (hrq : r ≠ q) (hQ : ∀ h1 : xH, h1.1 = h.1 → (∀ x, x ≠ r → x ≠ q → h1.2 x = h.2 x) → h1.2 r 3 = (n : Int) + 1 → h1.2 q n = f → (∀ i, i ≠ n → h1.2 q i = h.2 q i) → Q n h1) : zSi g (D + 1) mX5_add [xr r, xi f, xi 0, xi 0] h Q := by
  refine s_add R hn hlt hrq (by decide) (fun h1 _ e1 e2 => hQ h1 e1 (fun x x1 x2 => ?_) ?_ ?_ (fun i hi => ?_))
  · rw [e2]; funext i; unfold p_add; rw [if_neg (by omega), if_neg (by omega)]
  · rw [e2]; unfold p_add; rw [if_pos ⟨rfl, rfl⟩]
  · rw [e2]; unfold p_add; rw [if_neg (by omega), if_pos ⟨rfl, by omega, by omega⟩, show n - n * 1 = 0 by omega]; rfl
  · rw [e2]; unfold p_add; rw [if_neg (by omega), if_neg (by omega)]
theorem s_giverTo {r wv : Nat} {Q : Int → xH → Prop} (m : pM A) (t : tK A h) (aj : adj A h) (hr : r < 11) (hw : (wv : Int) < A 2) (hsn : ∀ j : Nat, (j : Int) < A 11 → 0 ≤ h.2 82 (40 * r + j) ∧ h.2 82 (40 * r + j) ≤ dbC A j) (hQ1 : ∀ (h' : xH) (p : Nat) (rk : Nat → Nat), fG h h' → (p : Int) < A 2 → gOk A (fun j => h.2 82 (40 * r + j)) (h'.2 90) rk wv → h'.2 90 p ≠ -2 → 0 < h.2 80 (30 * r + p) → rk p < 30 → Q p h') (hQ0 : ∀ (h' : xH) (R : Nat → Bool), fG h h' → R wv = true → (∀ p : Nat, (p : Int) < A 2 → R p = true → h.2 80 (30 * r + p) ≤ 0) → (∀ j : Nat, (j : Int) < A 11 → R (dbT A j) = true → R (dbF A j) = false → dbC A j ≤ h.2 82 (40 * r + j)) → (∀ j : Nat, (j : Int) < A 11 → R (dbF A j) = true → R (dbT A j) = false → h.2 82 (40 * r + j) ≤ 0) → Q (-1) h') : zSi g (D + 2) mX3_giverTo [xr 78, xi r, xi wv] h Q := by
  have z := pM_z m
  obtain ⟨N, hN⟩ : ∃ n : Nat, A 2 = (n : Int) := ⟨(A 2).toNat, by omega⟩
  -- one person's trades
  have L3 : ∀ {k u : Nat} (mm x : Nat) {h' : xH} {n : Nat} {rk : Nat → Nat} {w2 w7 w8 : xV}, (x : Int) + mm = h.2 86 (u + 1) → h.2 86 u ≤ (x : Int) → fG h h' → k < n → h'.2 88 k = (u : Int) → (u : Int) < A 2 → h.2 80 (30 * r + u) ≤ 0 → h'.2 87 3 = (n : Int) → gW A (fun j => h.2 82 (40 * r + j)) (h'.2 90) (h'.2 88) rk wv n → gC A (fun p => h.2 80 (30 * r + p)) (fun j => h.2 82 (40 * r + j)) (h'.2 90) (h'.2 88) k → (∀ y : Nat, h.2 86 u ≤ (y : Int) → y < x → ∀ j : Nat, h.2 84 y = (j : Int) → h'.2 90 (oth A j u) ≠ -2 ∨ rmv A (fun j => h.2 82 (40 * r + j)) j (oth A j u) ≤ 0) → (∀ {h2 : xH} {n2 : Nat} {rk2 : Nat → Nat} {w4 w5 w6 w7 w8 : xV}, fG h h2 → k < n2 → h2.2 87 3 = (n2 : Int) → gW A (fun j => h.2 82 (40 * r + j)) (h2.2 90) (h2.2 88) rk2 wv n2 → gC A (fun p => h.2 80 (30 * r + p)) (fun j => h.2 82 (40 * r + j)) (h2.2 90) (h2.2 88) (k + 1) → zJ g (D + 2) mX3_giverTo 0 0 220 [xr 78, xi r, xu, xi k, w4, w5, w6, w7, w8] [] h2 (x_qi Q)) → zJ g (D + 2) mX3_giverTo 0 0 134 [xr 78, xi r, w2, xi k, xi u, xi (h.2 86 (u + 1)), xi x, w7, w8] [] h' (x_qi Q) := by
    intro k u mm
    induction mm with
    | zero =>
      intro x h' n rk w2 w7 w8 e hx f hk hq hu hst hsz w c cl next
      refine zX3_giverTo_134 ⟨fun _ => next f hk hsz w (fun i hi v hv => ?_), fun q => by omega⟩
      by_cases q : i = k
      · subst q
        have : v = u := by omega
        subst this
        refine ⟨hst, fun j hj ht => ?_⟩
        obtain ⟨y, y1, y2, y3⟩ := (aj v hu).2.2.2.2 j hj ht
        exact cl y y1 (by omega) j y3
      · exact c i (by omega) v hv
    | succ mm ih =>
      intro x h' n rk w2 w7 w8 e hx f hk hq hu hst hsz w c cl next
      have au := aj u hu
      have nb := gW_b m w
      obtain ⟨j, j1, j2, j3⟩ := au.2.2.2.1 x hx (by omega)
      have ob := oth_b m (p := u) j2
      have t' := fL_tK (fG_fL f) t
      have e84 : h'.2 84 = h.2 84 := f.2 84 (by decide) (by decide) (by decide)
      have e82 : h'.2 82 = h.2 82 := f.2 82 (by decide) (by decide) (by decide)
      have sb := hsn j j2
      have cb := (tr_r m j2).2.2.2
      have cb2 : dbC A j ≤ 9999 := cb.2
      refine zJ_sh (fun hs => ?_)
      have T : pR h' 83 84 80 1 := z_R hs rfl rfl rfl rfl rfl (by decide)
      have RB : pR h' 89 90 30 1 := z_R hs rfl rfl rfl rfl rfl (by decide)
      refine zX3_giverTo_134 ⟨fun q => by omega, fun q => s_get T (by omega) (by omega) (by omega) (by omega) ?_⟩
      rw [show ((x : Int) * ((1 : Nat) : Int) + 0).toNat = x by omega, e84, j1]
      refine s_otherOf m t' j2 ?_
      rw [show (if dbF A j = u then dbT A j else dbF A j) = oth A j u from rfl]
      refine s_get RB (by omega) (by omega) (by omega) (by omega) ?_
      rw [show ((oth A j u : Int) * ((1 : Nat) : Int) + 0).toNat = oth A j u by omega]
      have skip : ∀ {w2 w7 w8 : xV}, (h'.2 90 (oth A j u) ≠ -2 ∨ rmv A (fun j => h.2 82 (40 * r + j)) j (oth A j u) ≤ 0) → zJ g (D + 2) mX3_giverTo 0 0 214 [xr 78, xi r, w2, xi k, xi u, xi (h.2 86 (u + 1)), xi x, w7, w8] [] h' (x_qi Q) := by
        intro w2 w7 w8 hc
        refine zX3_giverTo_214 ?_
        rw [x32_id (by omega) (by omega), show (x : Int) + 1 = ((x + 1 : Nat) : Int) by omega]
        refine ih (x + 1) (by omega) (by omega) f hk hq hu hst hsz w c (fun y y1 y2 j' j4 => ?_) next
        by_cases q2 : y = x
        · subst q2
          have : j' = j := by omega
          subst this
          exact hc
        · exact cl y y1 (by omega) j' j4
      refine ⟨fun q2 => skip (Or.inl q2), fun q2 => s_roomFrom m t' hr j2 (by rw [e82]; omega) ?_⟩
      rw [e82, show (if dbF A j = oth A j u then dbC A j - h.2 82 (40 * r + j) else h.2 82 (40 * r + j)) = rmv A (fun j => h.2 82 (40 * r + j)) j (oth A j u) from rfl]
      refine ⟨fun q3 => skip (Or.inr q3), fun q3 => s_set RB (by omega) (by omega) (by omega) (by omega) (fun h5 hs5 he5 => ?_)⟩
      have QU : pR h5 87 88 30 1 := z_R hs5 rfl rfl rfl rfl rfl (by decide)
      rw [show ((oth A j u : Int) * ((1 : Nat) : Int) + 0).toNat = oth A j u by omega] at he5
      have p90 : ∀ i, h5.2 90 i = if i = oth A j u then (j : Int) else h'.2 90 i := fun i => by rw [he5]; (try dsimp only); rw [x_up_k]
      have p0 : ∀ i, i ≠ 90 → h5.2 i = h'.2 i := fun i hi => by rw [he5]; (try dsimp only); rw [x_up_r hi]
      have hlt : n < N := by
        have hb := sX_b (P := rbR (h5.2 90)) (v := fun _ => 1) (M := 1) (n := (A 2).toNat) (by decide) (fun i hi => by decide) _ (Nat.le_refl _)
        rw [sX_upP (P := rbR (h'.2 90)) (k := oth A j u) (fun i hi => by unfold rbR; rw [p90, if_neg hi]) (by unfold rbR; rw [q2]; rfl) (by unfold rbR; rw [p90, if_pos rfl]; exact decide_eq_true (by omega)) (A 2).toNat (by omega), w.2.2.2] at hb
        omega
      refine s_add1 QU (n := n) (by rw [p0 87 (by decide)]; exact hsz) (by omega) (by decide) (fun h6 k1 k2 k3 k4 k5 => ?_)
      rw [x32_id (by omega) (by omega), show (x : Int) + 1 = ((x + 1 : Nat) : Int) by omega]
      have f6 : fG h h6 := ⟨k1.trans (by rw [he5]; exact f.1), fun q a1 a2 a3 => by rw [k2 q a1 a2, p0 q a3]; exact f.2 q a1 a2 a3⟩
      have e90 : ∀ i, h6.2 90 i = if i = oth A j u then (j : Int) else h'.2 90 i := fun i => by rw [k2 90 (by decide) (by decide)]; exact p90 i
      have e88 : ∀ i, i ≠ n → h6.2 88 i = h'.2 88 i := fun i hi => by rw [k5 i hi, p0 88 (by decide)]
      have hru : h'.2 90 u ≠ -2 := by
        obtain ⟨v, v1, v2, v3, v4⟩ := w.2.1 k hk
        have : v = u := by omega
        subst this
        exact v3
      have W := gW_add (o := oth A j u) (rb' := h6.2 90) (qu' := h6.2 88) m w hu hru j2 j3 rfl q2 q3 (by rw [e90, if_pos rfl]) (fun i hi => by rw [e90, if_neg hi]) k4 e88
      have up : ∀ i, h'.2 90 i ≠ -2 → h6.2 90 i ≠ -2 := fun i hi => by
        rw [e90]
        split
        · omega
        · exact hi
      refine ih (x + 1) (by omega) (by omega) f6 (by omega) (by rw [e88 k (by omega)]; exact hq) hu hst (by rw [k3]; omega) W (fun i hi v hv => ?_) (fun y y1 y2 j' j4 => ?_) next
      · rw [e88 i (by omega)] at hv
        refine ⟨(c i hi v hv).1, fun j' a1 a2 => ?_⟩
        rcases (c i hi v hv).2 j' a1 a2 with b | b
        · exact Or.inl (up _ b)
        · exact Or.inr b
      · by_cases q5 : y = x
        · subst q5
          have : j' = j := by omega
          subst this
          exact Or.inl (by rw [e90, if_pos rfl]; omega)
        · rcases cl y y1 (by omega) j' j4 with b | b
          · exact Or.inl (up _ b)
          · exact Or.inr b
  -- the queue
  have L2 : ∀ (mm k : Nat) {h' : xH} {n : Nat} {rk : Nat → Nat} {w2 w4 w5 w6 w7 w8 : xV}, k + mm = 30 → fG h h' → k ≤ n → h'.2 87 3 = (n : Int) → gW A (fun j => h.2 82 (40 * r + j)) (h'.2 90) (h'.2 88) rk wv n → gC A (fun p => h.2 80 (30 * r + p)) (fun j => h.2 82 (40 * r + j)) (h'.2 90) (h'.2 88) k → zJ g (D + 2) mX3_giverTo 0 0 64 [xr 78, xi r, w2, xi k, w4, w5, w6, w7, w8] [] h' (x_qi Q) := by
    intro mm
    induction mm with
    | zero =>
      intro k h' n rk w2 w4 w5 w6 w7 w8 e f hk hsz w c
      have nb := gW_b m w
      have E := gC_end m w c (by omega)
      refine zX3_giverTo_64 ⟨fun _ => zX3_giverTo_226 (hQ0 h' (rbR (h'.2 90)) f (by unfold rbR; rw [w.1.1]; rfl) E.1 E.2.1 E.2.2), fun q => by omega⟩
    | succ mm ih =>
      intro k h' n rk w2 w4 w5 w6 w7 w8 e f hk hsz w c
      have nb := gW_b m w
      refine zJ_sh (fun hs => ?_)
      have QU : pR h' 87 88 30 1 := z_R hs rfl rfl rfl rfl rfl (by decide)
      have S : pR h' 79 80 11 30 := z_R hs rfl rfl rfl rfl rfl (by decide)
      have BG : pR h' 85 86 31 1 := z_R hs rfl rfl rfl rfl rfl (by decide)
      refine zX3_giverTo_64 ⟨fun q => by omega, fun _ => ?_⟩
      rw [hsz]
      refine ⟨fun q => ?_, fun q => s_get QU (by omega) (by omega) (by omega) (by omega) ?_⟩
      · have E := gC_end m w c (by omega)
        exact zX3_giverTo_226 (hQ0 h' (rbR (h'.2 90)) f (by unfold rbR; rw [w.1.1]; rfl) E.1 E.2.1 E.2.2)
      · obtain ⟨u, u1, u2, u3, u4⟩ := w.2.1 k (by omega)
        rw [show ((k : Int) * ((1 : Nat) : Int) + 0).toNat = k by omega, u1]
        refine s_get S (by omega) (by omega) (by omega) (by omega) ?_
        rw [show ((r : Int) * ((30 : Nat) : Int) + (u : Int)).toNat = 30 * r + u by omega, f.2 80 (by decide) (by decide) (by decide)]
        refine ⟨fun q2 => zX3_giverTo_108 ?_, fun q2 => hQ1 h' u rk f u2 w.1 u3 q2 (by omega)⟩
        have e86 : h'.2 86 = h.2 86 := f.2 86 (by decide) (by decide) (by decide)
        have au := aj u u2
        rw [x32_id (by omega) (by omega)]
        refine s_get BG (by omega) (by omega) (by omega) (by omega) (s_get BG (by omega) (by omega) (by omega) (by omega) ?_)
        rw [show (((u : Int) + 1) * ((1 : Nat) : Int) + 0).toNat = u + 1 by omega, show ((u : Int) * ((1 : Nat) : Int) + 0).toNat = u by omega, e86]
        obtain ⟨x, hx⟩ : ∃ x : Nat, h.2 86 u = (x : Int) := ⟨(h.2 86 u).toNat, by omega⟩
        rw [hx]
        refine L3 (h.2 86 (u + 1) - x).toNat x (by omega) (by omega) f (by omega) u1 u2 q2 hsz w c (fun y y1 y2 => by omega) (fun f2 a1 a2 a3 a4 => zX3_giverTo_220 ?_)
        rw [x32_id (by omega) (by omega), show (k : Int) + 1 = ((k + 1 : Nat) : Int) by omega]
        exact ih (k + 1) (by omega) f2 (by omega) a2 a3 a4
  -- none is seen
  have L1 : ∀ (mm p : Nat) {h' : xH} {w4 w5 w6 w7 w8 : xV}, p + mm = N → fG h h' → (∀ x, x < p → h'.2 90 x = -2) → zJ g (D + 2) mX3_giverTo 0 0 2 [xr 78, xi r, xi wv, xi p, w4, w5, w6, w7, w8] [] h' (x_qi Q) := by
    intro mm
    induction mm with
    | zero =>
      intro p h' w4 w5 w6 w7 w8 e f d
      have t' := fL_tK (fG_fL f) t
      refine zJ_sh (fun hs => ?_)
      refine zX3_giverTo_2 ?_
      rw [t'.1, hN]
      refine ⟨fun _ => zX3_giverTo_33 ?_, fun q => by omega⟩
      refine zS_sh (fun hs2 => ?_)
      have QU : pR (h'.1, x_up h'.2 87 3 0) 87 88 30 1 := z_R hs2 rfl rfl rfl rfl rfl (by decide)
      refine s_add1 QU (n := 0) (by (try dsimp only); rw [x_up_eq]; rfl) (by decide) (by decide) (fun h1 k1 k2 k3 k4 k5 => zS_sh (fun hs3 => ?_))
      have RB : pR h1 89 90 30 1 := z_R hs3 rfl rfl rfl rfl rfl (by decide)
      refine s_set RB (by omega) (by omega) (by omega) (by omega) (fun h2 hs5 he => ?_)
      rw [show ((wv : Int) * ((1 : Nat) : Int) + 0).toNat = wv by omega] at he
      have e1 : h1.2 90 = h'.2 90 := by rw [k2 90 (by decide) (by decide)]; (try dsimp only); rw [x_up_r (by decide)]
      have e90 : ∀ i, h2.2 90 i = if i = wv then -1 else h'.2 90 i := fun i => by rw [he]; (try dsimp only); rw [x_up_k, e1]
      have e88 : h2.2 88 0 = (wv : Int) := by rw [he]; (try dsimp only); rw [x_up_r (by decide)]; exact k4
      have e87 : h2.2 87 3 = ((1 : Nat) : Int) := by rw [he]; (try dsimp only); rw [x_up_r (by decide), k3]; rfl
      have only : ∀ p : Nat, (p : Int) < A 2 → h2.2 90 p ≠ -2 → p = wv := by
        intro x hx h0
        rw [e90] at h0
        by_cases q : x = wv
        · exact q
        · rw [if_neg q, d x (by omega)] at h0; exact absurd rfl h0
      have f2 : fG h h2 := ⟨by rw [he]; exact k1.trans f.1, fun q a1 a2 a3 => by
        rw [he]; (try dsimp only); rw [x_up_r a3, k2 q a1 a2]; (try dsimp only); rw [x_up_r a1]; exact f.2 q a1 a2 a3⟩
      refine L2 30 0 (n := 1) (rk := fun _ => 0) (by omega) f2 (by omega) e87 ⟨⟨by rw [e90, if_pos rfl], fun p hp h0 hne => absurd (only p hp h0) hne⟩, fun i hi => ⟨wv, by rw [show i = 0 by omega]; exact e88, hw, by rw [e90, if_pos rfl]; decide, by show 0 = i; omega⟩, fun p hp h0 => ⟨Nat.zero_lt_one, by rw [only p hp h0]; exact e88⟩, ?_⟩ (fun i hi => by omega)
      have e1 : sX (rbR (h2.2 90)) (fun _ => 1) (A 2).toNat = sX (fun i => decide (i = wv)) (fun _ => 1) (A 2).toNat := by
        refine sX_cong _ (fun i hi => ⟨?_, rfl⟩)
        unfold rbR
        by_cases q : i = wv
        · rw [decide_eq_true q, e90, if_pos q]; rfl
        · rw [decide_eq_false q]
          exact decide_eq_false (fun h0 => q (only i (by omega) h0))
      rw [e1, sX_upP (P := fun _ => false) (P' := fun i => decide (i = wv)) (v := fun _ => 1) (k := wv) (fun i hi => decide_eq_false hi) rfl (decide_eq_true rfl) (A 2).toNat (by omega), sX_0 _ (fun i _ h => absurd h (by decide))]
      rfl
    | succ mm ih =>
      intro p h' w4 w5 w6 w7 w8 e f d
      have t' := fL_tK (fG_fL f) t
      refine zJ_sh (fun hs => ?_)
      have RB : pR h' 89 90 30 1 := z_R hs rfl rfl rfl rfl rfl (by decide)
      refine zX3_giverTo_2 ?_
      rw [t'.1, hN]
      refine ⟨fun q => by omega, fun q => s_set RB (by omega) (by omega) (by omega) (by omega) (fun h1 hs1 he => ?_)⟩
      rw [show ((p : Int) * ((1 : Nat) : Int) + 0).toNat = p by omega] at he
      subst he
      rw [x32_id (by omega) (by omega), show (p : Int) + 1 = ((p + 1 : Nat) : Int) by omega]
      refine ih (p + 1) (by omega) ⟨f.1, fun q a1 a2 a3 => by (try dsimp only); rw [x_up_r a3]; exact f.2 q a1 a2 a3⟩ (fun x hx => ?_)
      (try dsimp only)
      rw [x_up_k]
      by_cases q2 : x = p
      · rw [if_pos q2]
      · rw [if_neg q2]; exact d x (by omega)
  exact eX3_giverTo (zX3_giverTo_0 (L1 N 0 (by omega) ⟨rfl, fun _ _ _ _ => rfl⟩ (fun x hx => by omega)))
end GV
