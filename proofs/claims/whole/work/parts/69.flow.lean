/-! sums -/
theorem sX_rel {P1 P2 P3 P4 : Nat → Bool} {v1 v2 v3 v4 : Nat → Int} : ∀ n, (∀ i, i < n → (if P1 i = true then v1 i else 0) + (if P2 i = true then v2 i else 0) ≤ (if P3 i = true then v3 i else 0) + (if P4 i = true then v4 i else 0)) → sX P1 v1 n + sX P2 v2 n ≤ sX P3 v3 n + sX P4 v4 n
  | 0, _ => Int.le_refl _
  | n + 1, h => by
    have ih := sX_rel n (fun i hi => h i (by omega))
    have := h n (by omega)
    show sX P1 v1 n + (if P1 n = true then v1 n else 0) + (sX P2 v2 n + (if P2 n = true then v2 n else 0)) ≤ sX P3 v3 n + (if P3 n = true then v3 n else 0) + (sX P4 v4 n + (if P4 n = true then v4 n else 0))
    omega
theorem sX_cong {P P' : Nat → Bool} {v v' : Nat → Int} : ∀ n, (∀ i, i < n → P' i = P i ∧ v' i = v i) → sX P' v' n = sX P v n
  | 0, _ => rfl
  | n + 1, h => by
    have ih := sX_cong n (fun i hi => h i (by omega))
    have := h n (by omega)
    show sX P' v' n + (if P' n = true then v' n else 0) = sX P v n + (if P n = true then v n else 0)
    rw [ih, this.1, this.2]
theorem sX_up {P : Nat → Bool} {v v' : Nat → Int} {k : Nat} (he : ∀ i, i ≠ k → v' i = v i) : ∀ n, k < n → sX P v' n = sX P v n + (if P k = true then v' k - v k else 0)
  | 0, hk => by omega
  | n + 1, hk => by
    show sX P v' n + (if P n = true then v' n else 0) = sX P v n + (if P n = true then v n else 0) + _
    by_cases q : k = n
    · subst q
      rw [sX_cong (P := P) (v := v) k (fun i hi => ⟨rfl, he i (by omega)⟩)]
      by_cases p : P k = true
      · rw [if_pos p, if_pos p, if_pos p]; omega
      · rw [if_neg p, if_neg p, if_neg p]; omega
    · rw [sX_up he n (by omega), he n (by omega)]
      omega
theorem sX_upP {P P' : Nat → Bool} {v : Nat → Int} {k : Nat} (he : ∀ i, i ≠ k → P' i = P i) (h0 : P k = false) (h1 : P' k = true) : ∀ n, k < n → sX P' v n = sX P v n + v k
  | 0, hk => by omega
  | n + 1, hk => by
    show sX P' v n + (if P' n = true then v n else 0) = sX P v n + (if P n = true then v n else 0) + v k
    by_cases q : k = n
    · subst q
      rw [sX_cong (P := P) (v := v) k (fun i hi => ⟨he i (by omega), rfl⟩), h0, h1]
      simp
    · rw [sX_upP he h0 h1 n (by omega), he n (by omega)]
      omega
theorem sX_0 {P : Nat → Bool} {v : Nat → Int} : ∀ n, (∀ i, i < n → P i = true → v i = 0) → sX P v n = 0
  | 0, _ => rfl
  | n + 1, h => by
    show sX P v n + (if P n = true then v n else 0) = 0
    rw [sX_0 n (fun i hi => h i (by omega))]
    by_cases p : P n = true
    · rw [if_pos p, h n (by omega) p]; rfl
    · rw [if_neg p]; rfl
theorem sX_nn {P : Nat → Bool} {v : Nat → Int} : ∀ n, (∀ i, i < n → P i = true → 0 ≤ v i) → 0 ≤ sX P v n
  | 0, _ => Int.le_refl _
  | n + 1, h => by
    have ih := sX_nn n (fun i hi => h i (by omega))
    show 0 ≤ sX P v n + (if P n = true then v n else 0)
    by_cases p : P n = true
    · rw [if_pos p]; have := h n (by omega) p; omega
    · rw [if_neg p]; omega
theorem sX_pos {P : Nat → Bool} {v : Nat → Int} {k : Nat} : ∀ n, (∀ i, i < n → P i = true → 0 ≤ v i) → k < n → P k = true → v k ≤ sX P v n
  | 0, _, hk, _ => by omega
  | n + 1, h, hk, hp => by
    show v k ≤ sX P v n + (if P n = true then v n else 0)
    by_cases q : k = n
    · subst q
      have := sX_nn (P := P) (v := v) k (fun i hi => h i (by omega))
      rw [if_pos hp]; omega
    · have ih := sX_pos n (fun i hi => h i (by omega)) (show k < n by omega) hp
      by_cases p : P n = true
      · rw [if_pos p]; have := h n (by omega) p; omega
      · rw [if_neg p]; omega
/-! the reference's search for a way -/
def rch (cf : Nat → Int) (v : Nat) : Bool := decide (0 ≤ cf v)
def wOk (cf rm : Nat → Int) (rk : Nat → Nat) : Prop := cf 30 = 30 ∧ ∀ k, k < 32 → 0 ≤ cf k → cf k < 31 ∧ 0 ≤ cf (cf k).toNat ∧ (k ≠ 30 → 0 < rm (32 * (cf k).toNat + k) ∧ rk (cf k).toNat < rk k)
def wI (rm cf wt : Nat → Int) (rk : Nat → Nat) (n k : Nat) : Prop := wOk cf rm rk ∧ (∀ i, i < n → (0 ≤ wt i ∧ wt i < 32) ∧ 0 ≤ cf (wt i).toNat ∧ rk (wt i).toNat = i) ∧ (∀ v, v < 32 → 0 ≤ cf v → rk v < n ∧ wt (rk v) = (v : Int)) ∧ sX (rch cf) (fun _ => 1) 32 = (n : Int) ∧ ∀ i, i < k → ∀ v, v < 32 → cf v < 0 → rm (32 * (wt i).toNat + v) ≤ 0
theorem wI_add {rm cf wt cf' wt' : Nat → Int} {rk : Nat → Nat} {n k to : Nat} (w : wI rm cf wt rk n k) (hk : k < n) (ht : to < 32) (hc : cf to < 0) (hu : wt k < 31) (hr : 0 < rm (32 * (wt k).toNat + to)) (c1 : cf' to = wt k) (c2 : ∀ i, i ≠ to → cf' i = cf i) (d1 : wt' n = (to : Int)) (d2 : ∀ i, i ≠ n → wt' i = wt i) : wI rm cf' wt' (fun x => if x = to then n else rk x) (n + 1) k ∧ n < 32 := by
  obtain ⟨⟨a1, a2⟩, b, c, d, e⟩ := w
  have bk := b k hk
  have hn30 : to ≠ 30 := fun q => by rw [q, a1] at hc; omega
  have hne : (wt k).toNat ≠ to := fun q => by have := bk.2.1; rw [q] at this; omega
  have hs : sX (rch cf') (fun _ => 1) 32 = ((n + 1 : Nat) : Int) := by
    rw [sX_upP (P := rch cf) (k := to) (fun i hi => by unfold rch; rw [c2 i hi]) (by unfold rch; exact decide_eq_false (by omega)) (by unfold rch; rw [c1]; exact decide_eq_true bk.1.1) 32 ht, d]
    omega
  have hb := sX_b (P := rch cf') (v := fun _ => 1) (M := 1) (n := 32) (by decide) (fun i hi => by decide) 32 (Nat.le_refl 32)
  have hn : n < 32 := by omega
  refine ⟨⟨⟨by rw [c2 30 (by omega)]; exact a1, fun x hx h0 => ?_⟩, fun i hi => ?_, fun v hv h0 => ?_, hs, fun i hi v hv h0 => ?_⟩, hn⟩
  · by_cases q : x = to
    · subst q
      rw [c1, c2 _ hne]
      refine ⟨hu, bk.2.1, fun _ => ⟨hr, ?_⟩⟩
      show (if (wt k).toNat = x then n else rk (wt k).toNat) < (if x = x then n else rk x)
      rw [if_neg hne, if_pos rfl, bk.2.2]; exact hk
    · rw [c2 x q] at h0 ⊢
      obtain ⟨p1, p2, p3⟩ := a2 x hx h0
      have hne2 : (cf x).toNat ≠ to := fun z => by rw [z] at p2; omega
      rw [c2 _ hne2]
      refine ⟨p1, p2, fun z => ⟨(p3 z).1, ?_⟩⟩
      show (if (cf x).toNat = to then n else rk (cf x).toNat) < (if x = to then n else rk x)
      rw [if_neg hne2, if_neg q]; exact (p3 z).2
  · by_cases q : i = n
    · subst q
      rw [d1, show ((to : Int)).toNat = to by omega, c1]
      exact ⟨by omega, bk.1.1, if_pos rfl⟩
    · rw [d2 i q]
      have bi := b i (by omega)
      have hne3 : (wt i).toNat ≠ to := fun z => by have := bi.2.1; rw [z] at this; omega
      rw [c2 _ hne3]
      exact ⟨bi.1, bi.2.1, (if_neg hne3).trans bi.2.2⟩
  · by_cases q : v = to
    · subst q
      show (if v = v then n else rk v) < n + 1 ∧ wt' (if v = v then n else rk v) = (v : Int)
      rw [if_pos rfl]
      exact ⟨by omega, d1⟩
    · rw [c2 v q] at h0
      have := c v hv h0
      show (if v = to then n else rk v) < n + 1 ∧ wt' (if v = to then n else rk v) = (v : Int)
      rw [if_neg q, d2 _ (by omega)]
      exact ⟨by omega, this.2⟩
  · have q : v ≠ to := fun z => by rw [z, c1] at h0; omega
    rw [c2 v q] at h0
    rw [d2 i (by omega)]
    exact e i hi v hv h0
def fW (h h' : xH) : Prop := h'.1 = h.1 ∧ ∀ r, r ≠ 106 → r ≠ 107 → h'.2 r = h.2 r
section RF
variable {g : xG} {D : Nat} {h : xH}
theorem l_wayIn {Q : Int → xH → Prop} {k : Nat} (hQ : ∀ (h' : xH) (n : Nat) (rk : Nat → Nat) {w3 : xV}, fW h h' → k < n → wI (h.2 105) (h'.2 106) (h'.2 107) rk n (k + 1) → zJ g D mX9_isWay 0 0 124 [xr 95, xi n, xi k, w3] [] h' (x_qi Q)) : ∀ (m to : Nat) {h' : xH} {n : Nat} {rk : Nat → Nat}, to + m = 32 → fW h h' → k < n → h'.2 107 k < 31 → wI (h.2 105) (h'.2 106) (h'.2 107) rk n k → (∀ v, v < to → h'.2 106 v < 0 → h.2 105 (32 * (h'.2 107 k).toNat + v) ≤ 0) → zJ g D mX9_isWay 0 0 59 [xr 95, xi n, xi k, xi to] [] h' (x_qi Q)
  | 0, to, h', n, rk, e, f, hk, hu, w, cl => by
    refine zX9_isWay_59 ⟨fun _ => hQ h' n rk f hk ⟨w.1, w.2.1, w.2.2.1, w.2.2.2.1, fun i hi v hv h0 => ?_⟩, fun z => by omega⟩
    by_cases q : i = k
    · subst q; exact cl v (by omega) h0
    · exact w.2.2.2.2 i (by omega) v hv h0
  | m + 1, to, h', n, rk, e, f, hk, hu, w, cl => by
    have bk := w.2.1 k hk
    have hn : n ≤ 32 := by
      have hb := sX_b (P := rch (h'.2 106)) (v := fun _ => 1) (M := 1) (n := 32) (by decide) (fun i hi => by decide) 32 (Nat.le_refl 32)
      have := w.2.2.2.1
      omega
    have e105 : h'.2 105 = h.2 105 := f.2 105 (by decide) (by decide)
    have next : (h'.2 106 to < 0 → h.2 105 (32 * (h'.2 107 k).toNat + to) ≤ 0) → zJ g D mX9_isWay 0 0 59 [xr 95, xi n, xi k, xi (x32 ((to : Int) + 1))] [] h' (x_qi Q) := by
      intro hc
      rw [x32_id (by omega) (by omega), show (to : Int) + 1 = ((to + 1 : Nat) : Int) by omega]
      refine l_wayIn hQ m (to + 1) (by omega) f hk hu w (fun v hv h0 => ?_)
      by_cases q : v = to
      · subst q; exact hc h0
      · exact cl v (by omega) h0
    refine zX9_isWay_59 ⟨fun z => by omega, fun z => ?_⟩
    rw [show ((to : Int)).toNat = to by omega, show ((k : Int)).toNat = k by omega, e105]
    obtain ⟨u, hue⟩ : ∃ u : Nat, h'.2 107 k = (u : Int) := ⟨(h'.2 107 k).toNat, by omega⟩
    rw [hue] at hu bk
    rw [hue, x32_id (show -2147483648 ≤ 32 * (u : Int) by omega) (by omega), x32_id (by omega) (by omega), show (32 * (u : Int) + (to : Int)).toNat = 32 * u + to by omega]
    rw [hue, show ((u : Int)).toNat = u by omega] at next
    refine ⟨by omega, fun q => zX9_isWay_118 (next (fun q2 => by omega)), fun q => ⟨by omega, by omega, fun q2 => zX9_isWay_96 ?_, fun q2 => next (fun _ => q2)⟩⟩
    rw [show ((to : Int)).toNat = to by omega, show ((k : Int)).toNat = k by omega, show ((n : Int)).toNat = n by omega]
    have A := wI_add (cf' := x_up (x_up h'.2 106 to (h'.2 107 k)) 107 n (to : Int) 106) (wt' := x_up (x_up h'.2 106 to (h'.2 107 k)) 107 n (to : Int) 107) (to := to) w hk (by omega) q (by rw [hue]; exact hu) (by rw [hue]; exact q2) (by rw [x_up_r (by decide), x_up_eq]) (fun i hi => by rw [x_up_r (by decide), x_up_j hi]) (by rw [x_up_eq]) (fun i hi => by rw [x_up_j hi, x_up_r (by decide)])
    refine ⟨by omega, by omega, ⟨by omega, by have := A.2; omega⟩, ?_⟩
    rw [x32_id (by omega) (by omega), x32_id (by omega) (by omega), show (to : Int) + 1 = ((to + 1 : Nat) : Int) by omega, show (n : Int) + 1 = ((n + 1 : Nat) : Int) by omega]
    have f' : fW h (h'.1, x_up (x_up h'.2 106 to (h'.2 107 k)) 107 n (to : Int)) := ⟨f.1, fun r r1 r2 => by (try dsimp only); rw [x_up_r r2, x_up_r r1]; exact f.2 r r1 r2⟩
    have ek : x_up (x_up h'.2 106 to (h'.2 107 k)) 107 n (to : Int) 107 k = h'.2 107 k := by rw [x_up_j (by omega), x_up_r (by decide)]
    refine l_wayIn hQ m (to + 1) (by omega) f' (by omega) ?_ A.1 (fun v hv h0 => ?_)
    · (try dsimp only); rw [ek, hue]; exact hu
    · (try dsimp only at h0 ⊢)
      rw [ek]
      rw [x_up_r (by decide), x_up_k] at h0
      by_cases q3 : v = to
      · rw [if_pos q3, hue] at h0; omega
      · rw [if_neg q3] at h0; exact cl v (by omega) h0
theorem r_isWay {Q : Int → xH → Prop} (hQ1 : ∀ (h' : xH) (rk : Nat → Nat), fW h h' → wOk (h'.2 106) (h.2 105) rk → 0 ≤ h'.2 106 31 → Q 1 h') (hQ0 : ∀ h' : xH, fW h h' → h'.2 106 30 = 30 → h'.2 106 31 < 0 → (∀ u v, u < 32 → v < 32 → 0 ≤ h'.2 106 u → h'.2 106 v < 0 → h.2 105 (32 * u + v) ≤ 0) → Q 0 h') : zSi g D mX9_isWay [xr 95] h Q := by
  -- the outer loop
  have L2 : ∀ (m k : Nat) {h' : xH} {n : Nat} {rk : Nat → Nat} {w3 : xV}, k + m = 32 → fW h h' → k ≤ n → wI (h.2 105) (h'.2 106) (h'.2 107) rk n k → zJ g D mX9_isWay 0 0 42 [xr 95, xi n, xi k, w3] [] h' (x_qi Q) := by
    intro m
    induction m with
    | zero =>
      intro k h' n rk w3 e f hk w
      have hb := sX_b (P := rch (h'.2 106)) (v := fun _ => 1) (M := 1) (n := 32) (by decide) (fun i hi => by decide) 32 (Nat.le_refl 32)
      have hw := w.2.2.2.1
      refine zX9_isWay_42 ⟨fun _ => zX9_isWay_130 ⟨fun q => zX9_isWay_144 ⟨Or.inl rfl, hQ0 h' f w.1.1 q (fun u v hu hv h1 h0 => ?_)⟩, fun q => ⟨Or.inr rfl, hQ1 h' rk f w.1 q⟩⟩, fun z => by omega⟩
      have c := w.2.2.1 u hu h1
      have := w.2.2.2.2 (rk u) (by omega) v hv h0
      rw [c.2] at this
      exact this
    | succ m ih =>
      intro k h' n rk w3 e f hk w
      refine zX9_isWay_42 ⟨fun z => zX9_isWay_130 ⟨fun q => zX9_isWay_144 ⟨Or.inl rfl, hQ0 h' f w.1.1 q (fun u v hu hv h1 h0 => ?_)⟩, fun q => ⟨Or.inr rfl, hQ1 h' rk f w.1 q⟩⟩, fun z => ⟨fun q => zX9_isWay_130 ⟨fun q2 => by omega, fun _ => ⟨Or.inr rfl, hQ1 h' rk f w.1 q⟩⟩, fun q => ?_⟩⟩
      · have c := w.2.2.1 u hu h1
        have := w.2.2.2.2 (rk u) (by omega) v hv h0
        rw [c.2] at this
        exact this
      · have bk := w.2.1 k (by omega)
        refine l_wayIn (k := k) (fun h2 n2 rk2 w3 f2 hk2 w2 => zX9_isWay_124 ?_) 32 0 (by omega) f (by omega) ?_ w (fun v hv _ => by omega)
        · rw [x32_id (by omega) (by omega), show (k : Int) + 1 = ((k + 1 : Nat) : Int) by omega]
          exact ih (k + 1) (by omega) f2 (by omega) w2
        · have : h'.2 107 k ≠ 31 := fun z2 => by
            have b2 := bk.2.1
            rw [z2] at b2
            have b3 : 0 ≤ h'.2 106 31 := b2
            omega
          omega
  have L1 : ∀ (m k : Nat) {h' : xH} {w2 w3 : xV}, k + m = 32 → fW h h' → (∀ v, v < k → h'.2 106 v = -1) → zJ g D mX9_isWay 0 0 2 [xr 95, xi k, w2, w3] [] h' (x_qi Q) := by
    intro m
    induction m with
    | zero =>
      intro k h' w2 w3 e f z
      refine zX9_isWay_2 ⟨fun _ => zX9_isWay_21 ?_, fun q => by omega⟩
      have cf : ∀ v, x_up (x_up h'.2 106 30 30) 107 0 30 106 v = if v = 30 then 30 else h'.2 106 v := fun v => by rw [x_up_r (by decide), x_up_k]
      have f' : fW h (h'.1, x_up (x_up h'.2 106 30 30) 107 0 30) := ⟨f.1, fun r r1 r2 => by (try dsimp only); rw [x_up_r r2, x_up_r r1]; exact f.2 r r1 r2⟩
      have only : ∀ v, v < 32 → 0 ≤ x_up (x_up h'.2 106 30 30) 107 0 30 106 v → v = 30 := by
        intro v hv h0
        rw [cf] at h0
        by_cases q : v = 30
        · exact q
        · rw [if_neg q, z v (by omega)] at h0; omega
      have c30 : x_up (x_up h'.2 106 30 30) 107 0 30 106 30 = 30 := by rw [cf, if_pos rfl]
      refine L2 32 0 (n := 1) (rk := fun _ => 0) (by omega) f' (by omega) ⟨⟨c30, fun v hv h0 => ?_⟩, fun i hi => ?_, fun v hv h0 => ?_, ?_, fun i hi => by omega⟩
      · have := only v hv h0
        subst this
        (try dsimp only)
        rw [c30]
        exact ⟨by decide, by show (0 : Int) ≤ x_up (x_up h'.2 106 30 30) 107 0 30 106 30; rw [c30]; decide, fun q => absurd rfl q⟩
      · have : i = 0 := by omega
        subst this
        (try dsimp only)
        rw [x_up_eq]
        exact ⟨by decide, by show (0 : Int) ≤ x_up (x_up h'.2 106 30 30) 107 0 30 106 30; rw [c30]; decide, rfl⟩
      · have := only v hv h0
        subst this
        exact ⟨by decide, by (try dsimp only); rw [x_up_eq]; rfl⟩
      · show sX (rch (x_up (x_up h'.2 106 30 30) 107 0 30 106)) (fun _ => 1) 32 = 1
        have e1 : sX (rch (x_up (x_up h'.2 106 30 30) 107 0 30 106)) (fun _ => 1) 32 = sX (fun i => decide (i = 30)) (fun _ => 1) 32 := by
          refine sX_cong 32 (fun i hi => ⟨?_, rfl⟩)
          unfold rch
          by_cases q : i = 30
          · subst q; rw [c30]; rfl
          · rw [decide_eq_false q]
            exact decide_eq_false (fun h0 => q (only i hi h0))
        rw [e1]
        decide
    | succ m ih =>
      intro k h' w2 w3 e f z
      refine zX9_isWay_2 ⟨fun q => by omega, fun q => ⟨by omega, ?_⟩⟩
      rw [x32_id (by omega) (by omega), show ((k : Int)).toNat = k by omega, show (k : Int) + 1 = ((k + 1 : Nat) : Int) by omega]
      refine ih (k + 1) (by omega) ⟨f.1, fun r r1 r2 => by (try dsimp only); rw [x_up_r r1]; exact f.2 r r1 r2⟩ (fun v hv => ?_)
      (try dsimp only)
      rw [x_up_k]
      by_cases q2 : v = k
      · rw [if_pos q2]
      · rw [if_neg q2]; exact z v (by omega)
  exact eX9_isWay (zX9_isWay_0 (L1 32 0 (by omega) ⟨rfl, fun _ _ _ => rfl⟩ (fun v hv => by omega)))
end RF
