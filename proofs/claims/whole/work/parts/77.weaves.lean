/-! a web woven -/
def fP (r : Nat) (h h' : xH) : Prop := h'.1 = h.1 ∧ (∀ q, q ≠ 80 → q ≠ 82 → q ≠ 87 → q ≠ 88 → q ≠ 90 → h'.2 q = h.2 q) ∧ (∀ i, ¬ (30 * r ≤ i ∧ i < 30 * r + 30) → h'.2 80 i = h.2 80 i) ∧ ∀ i, ¬ (40 * r ≤ i ∧ i < 40 * r + 40) → h'.2 82 i = h.2 82 i
theorem fP_refl (r : Nat) (h : xH) : fP r h h := ⟨rfl, fun _ _ _ _ _ _ => rfl, fun _ _ => rfl, fun _ _ => rfl⟩
theorem fP_fL {r : Nat} {h h' : xH} (f : fP r h h') : fL h h' := ⟨f.1, fun q hq => f.2.1 q (by omega) (by omega) (by omega) (by omega) (by omega)⟩
theorem fP_G {r : Nat} {h h1 h2 : xH} (f : fP r h h1) (b : fG h1 h2) : fP r h h2 := ⟨b.1.trans f.1, fun q a1 a2 a3 a4 a5 => (b.2 q a3 a4 a5).trans (f.2.1 q a1 a2 a3 a4 a5), fun i hi => by rw [b.2 80 (by decide) (by decide) (by decide)]; exact f.2.2.1 i hi, fun i hi => by rw [b.2 82 (by decide) (by decide) (by decide)]; exact f.2.2.2 i hi⟩
theorem fP_K {r : Nat} {h h1 h2 : xH} (f : fP r h h1) (b : fK r h1 h2) : fP r h h2 := ⟨b.1.trans f.1, fun q a1 a2 a3 a4 a5 => (b.2.1 q a1 a2).trans (f.2.1 q a1 a2 a3 a4 a5), fun i hi => (b.2.2.1 i hi).trans (f.2.2.1 i hi), fun i hi => (b.2.2.2 i hi).trans (f.2.2.2 i hi)⟩
theorem adj_fr {A : Nat → Int} {h h' : xH} (e84 : h'.2 84 = h.2 84) (e86 : h'.2 86 = h.2 86) (aj : adj A h) : adj A h' := by
  unfold adj
  rw [e84, e86]
  exact aj
section WE
variable {g : xG} {D : Nat} {h : xH} {A : Nat → Int}
theorem s_weaves {a k wv : Nat} {keep keep' : Nat → Bool} {Q : Int → xH → Prop} (m : pM A) (t : tK A h) (aj : adj A h) (hk : k < 10) (w0 : h.2 92 (3 * k) = (wv : Int)) (w1 : h.2 92 (3 * k + 1) = nd A (a + k)) (ho : dbO A a k = wv) (hw : (wv : Int) < A 2) (hn : 0 ≤ nd A (a + k) ∧ nd A (a + k) ≤ 1772) (hk0 : ∀ i, i < k → keep' i = keep i) (hk1 : keep' k = true) (K : kI A a keep k 0 wv (fun x => h.2 80 (30 * (k + 1) + x)) (fun j => h.2 82 (40 * (k + 1) + j))) (hQ1 : ∀ h', fP (k + 1) h h' → kI A a keep' (k + 1) 0 wv (fun x => h'.2 80 (30 * (k + 1) + x)) (fun j => h'.2 82 (40 * (k + 1) + j)) → Q 1 h') (hQ0 : ∀ h', fP (k + 1) h h' → ¬ dbX A a keep' (k + 1) → Q 0 h') : zSi g (D + 3) mX3_weaves [xr 78, xi k] h Q := by
  have z := pM_z m
  have L : ∀ (f s : Nat) (w : Int) {h' : xH} {w5 : xV}, w ≤ (f : Int) → 0 ≤ w → w ≤ nd A (a + k) → (s : Int) + w ≤ 2000 → fP (k + 1) h h' → kI A a keep k (nd A (a + k) - w) wv (fun x => h'.2 80 (30 * (k + 1) + x)) (fun j => h'.2 82 (40 * (k + 1) + j)) → zJ g (D + 3) mX3_weaves 0 0 23 [xr 78, xi k, xi wv, xi w, xi s, w5] [] h' (x_qi Q) := by
    intro f
    induction f with
    | zero =>
      intro s w h' w5 hf h0 hle hs fp K'
      have : w = 0 := by omega
      subst this
      rw [Int.sub_zero] at K'
      exact zX3_weaves_23 ⟨fun _ => by omega, fun _ => ⟨fun _ => zX3_weaves_73 ⟨fun q => by omega, fun _ => ⟨Or.inr rfl, hQ1 h' fp (kI_done K' ho hk0 hk1)⟩⟩, fun q => by omega⟩⟩
    | succ f ih =>
      intro s w h' w5 hf h0 hle hs fp K'
      refine zX3_weaves_23 ⟨fun _ => by omega, fun _ => ⟨fun q => zX3_weaves_73 ⟨fun q => by omega, fun _ => ⟨Or.inr rfl, ?_⟩⟩, fun q => ?_⟩⟩
      · have : w = 0 := by omega
        subst this
        rw [Int.sub_zero] at K'
        exact hQ1 h' fp (kI_done K' ho hk0 hk1)
      · have t' := fL_tK (fP_fL fp) t
        have aj' : adj A h' := adj_fr (fp.2.1 84 (by decide) (by decide) (by decide) (by decide) (by decide)) (fp.2.1 86 (by decide) (by decide) (by decide) (by decide) (by decide)) aj
        rw [x32_id (by omega) (by omega), show (k : Int) + 1 = ((k + 1 : Nat) : Int) by omega]
        refine s_giverTo m t' aj' (by omega) hw K'.2.1 (fun h1 p rk fg hp G hpr hst hrk => ⟨fun _ => zX3_weaves_53 ?_, fun q2 => by omega⟩) (fun h1 R fg rw0 r1 r2 r3 => ⟨fun q2 => absurd rfl q2, fun _ => ⟨Or.inl rfl, hQ0 h1 (fP_G fp fg) (kI_stuck K' rw0 (by omega) ho hk0 hk1 r1 r2 r3)⟩⟩)
        have e80 : h1.2 80 = h'.2 80 := fg.2 80 (by decide) (by decide) (by decide)
        have e82 : h1.2 82 = h'.2 82 := fg.2 82 (by decide) (by decide) (by decide)
        rw [x32_id (show -2147483648 ≤ (k : Int) + 1 by omega) (by omega), show (k : Int) + 1 = ((k + 1 : Nat) : Int) by omega]
        rw [← e82] at G
        rw [← e80] at hst
        rw [← e80, ← e82] at K'
        refine s_carry (rk := rk) m (fL_tK (fG_fL fg) t') (by omega) hp hw G hpr hst hrk (by omega) K' (fun h2 L l1 l2 fk K2 => ?_)
        rw [x32_id (by omega) (by omega), x32_id (by omega) (by omega), show (s : Int) + 1 = ((s + 1 : Nat) : Int) by omega]
        rw [show nd A (a + k) - w + L = nd A (a + k) - (w - L) by omega] at K2
        exact ih (s + 1) (w - L) (by omega) (by omega) (by omega) (by omega) (fP_K (fP_G fp fg) fk) K2
  refine zS_sh (fun hs => ?_)
  have W : pR h 91 92 10 3 := z_R hs rfl rfl rfl rfl rfl (by decide)
  refine eX3_weaves (zX3_weaves_0 (s_get W (by omega) (by omega) (by omega) (by omega) (s_get W (by omega) (by omega) (by omega) (by omega) ?_)))
  rw [show ((k : Int) * ((3 : Nat) : Int) + 0).toNat = 3 * k by omega, show ((k : Int) * ((3 : Nat) : Int) + 1).toNat = 3 * k + 1 by omega, w0, w1]
  refine L (nd A (a + k)).toNat 0 (nd A (a + k)) (by omega) hn.1 (Int.le_refl _) (by omega) (fP_refl _ h) ?_
  rw [Int.sub_self]; exact K
end WE
