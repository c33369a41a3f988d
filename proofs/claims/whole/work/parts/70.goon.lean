/-! the reference's way, gone -/
def oR (X : Nat → Bool) (rm : Nat → Int) : Int := sX (fun k => X (k / 32) && !X (k % 32)) rm 1024
def bL (L : Int) (b : Bool) : Int := if b = true then L else 0
theorem oR_up {X : Nat → Bool} {rm rm' : Nat → Int} {u v : Nat} (hu : u < 32) (hv : v < 32) (he : ∀ i, i ≠ 32 * u + v → rm' i = rm i) : oR X rm' = oR X rm + bL (rm' (32 * u + v) - rm (32 * u + v)) (X u && !X v) := by
  unfold oR bL
  rw [sX_up he 1024 (by omega)]
  rw [show (32 * u + v) / 32 = u by omega, show (32 * u + v) % 32 = v by omega]
theorem stp {rm r1 r2 : Nat → Int} {p k : Nat} {L : Int} (hp : p < 32) (hk : k < 32) (hne : p ≠ k) (a1 : r1 (32 * p + k) = rm (32 * p + k) - L) (a2 : ∀ i, i ≠ 32 * p + k → r1 i = rm i) (b1 : r2 (32 * k + p) = r1 (32 * k + p) + L) (b2 : ∀ i, i ≠ 32 * k + p → r2 i = r1 i) : (∀ X, oR X r2 = oR X rm + bL L (X k) - bL L (X p)) ∧ ∀ u v, u < 32 → v < 32 → r2 (32 * u + v) + r2 (32 * v + u) = rm (32 * u + v) + rm (32 * v + u) := by
  constructor
  · intro X
    rw [oR_up hk hp b2, oR_up hp hk a2, a1, b1]
    unfold bL
    cases X k <;> cases X p <;> simp <;> omega
  · intro u v hu hv
    by_cases q1 : u = p ∧ v = k
    · obtain ⟨e1, e2⟩ := q1
      subst e1; subst e2
      rw [b2 (32 * u + v) (by omega), b1, a1, a2 (32 * v + u) (by omega)]
      omega
    · by_cases q2 : u = k ∧ v = p
      · obtain ⟨e1, e2⟩ := q2
        subst e1; subst e2
        rw [b2 (32 * v + u) (by omega), b1, a1, a2 (32 * u + v) (by omega)]
        omega
      · rw [b2 (32 * u + v) (by omega), b2 (32 * v + u) (by omega), a2 (32 * u + v) (by omega), a2 (32 * v + u) (by omega)]
/-- along the way back -/
def pA (P : Nat → Prop) (cf : Nat → Int) : Nat → Nat → Prop
  | 0, _ => True
  | m + 1, k => k = 30 ∨ (P k ∧ pA P cf m (cf k).toNat)
theorem pA_up {P P' : Nat → Prop} {cf rm : Nat → Int} {rk : Nat → Nat} (w : wOk cf rm rk) : ∀ m k, k < 32 → 0 ≤ cf k → (∀ x, x < 32 → 0 ≤ cf x → rk x ≤ rk k → P x → P' x) → pA P cf m k → pA P' cf m k
  | 0, _, _, _, _, _ => trivial
  | m + 1, k, hk, h0, hP, hp => by
    rcases hp with e | ⟨e1, e2⟩
    · exact Or.inl e
    · by_cases q : k = 30
      · exact Or.inl q
      · obtain ⟨w1, w2, w3⟩ := w.2 k hk h0
        have r := (w3 q).2
        exact Or.inr ⟨hP k hk h0 (Nat.le_refl _) e1, pA_up w m _ (by omega) w2 (fun x x1 x2 x3 => hP x x1 x2 (by omega)) e2⟩
section GO
variable {g : xG} {D : Nat} {h : xH}
theorem l_go1 {rk : Nat → Nat} {Q : xH → Prop} (w : wOk (h.2 106) (h.2 105) rk) : ∀ (m k : Nat) (least : Int), rk k < m → k < 32 → 0 ≤ h.2 106 k → 1 ≤ least → (∀ (L : Int) {w2 : xV}, 1 ≤ L → L ≤ least → pA (fun x => L ≤ h.2 105 (32 * (h.2 106 x).toNat + x)) (h.2 106) m k → zJ g D mX9_goOn 0 0 60 [xr 95, xi L, w2] [] h (x_qv Q)) → zJ g D mX9_goOn 0 0 7 [xr 95, xi least, xi k] [] h (x_qv Q)
  | 0, k, least, hr, _, _, _, _ => by omega
  | m + 1, k, least, hr, hk, h0, hl, hQ => by
    by_cases q : k = 30
    · exact zX9_goOn_7 ⟨fun _ => hQ least hl (Int.le_refl _) (Or.inl q), fun z => by omega⟩
    · obtain ⟨w1, w2, w3⟩ := w.2 k hk h0
      obtain ⟨p1, p2⟩ := w3 q
      obtain ⟨u, hu⟩ : ∃ u : Nat, h.2 106 k = (u : Int) := ⟨(h.2 106 k).toNat, by omega⟩
      have hQ' : ∀ (l2 : Int), l2 ≤ least → l2 ≤ h.2 105 (32 * u + k) → ∀ (L : Int) {w2 : xV}, 1 ≤ L → L ≤ l2 → pA (fun x => L ≤ h.2 105 (32 * (h.2 106 x).toNat + x)) (h.2 106) m u → zJ g D mX9_goOn 0 0 60 [xr 95, xi L, w2] [] h (x_qv Q) := by
        intro l2 e1 e2 L w2 f1 f2 f3
        refine hQ L f1 (by omega) (Or.inr ⟨?_, ?_⟩)
        · show L ≤ h.2 105 (32 * (h.2 106 k).toNat + k)
          rw [hu, show ((u : Int)).toNat = u by omega]; omega
        · rw [hu, show ((u : Int)).toNat = u by omega]; exact f3
      rw [hu, show ((u : Int)).toNat = u by omega] at p1 p2 w2
      rw [hu] at w1
      refine zX9_goOn_7 ⟨fun z => by omega, fun z => ?_⟩
      rw [show ((k : Int)).toNat = k by omega, hu, x32_id (show -2147483648 ≤ 32 * (u : Int) by omega) (by omega), x32_id (by omega) (by omega), show (32 * (u : Int) + (k : Int)).toNat = 32 * u + k by omega]
      refine ⟨by omega, by omega, fun z2 => zX9_goOn_50 ⟨by omega, ?_⟩, fun z2 => ⟨by omega, by omega, by omega, ?_⟩⟩
      · rw [show ((k : Int)).toNat = k by omega, hu]
        exact l_go1 w m u least (by omega) (by omega) w2 hl (hQ' least (Int.le_refl _) z2)
      · exact l_go1 w m u _ (by omega) (by omega) w2 (by omega) (hQ' _ (by omega) (Int.le_refl _))
/-- what a way leaves of the rooms -/
def gI (rm rm' : Nat → Int) (L : Int) (k : Nat) : Prop := (∀ i, i < 1024 → 0 ≤ rm' i) ∧ (∀ X, oR X rm' = oR X rm + bL L (X 31) - bL L (X k)) ∧ (∀ u v, u < 32 → v < 32 → rm' (32 * u + v) + rm' (32 * v + u) = rm (32 * u + v) + rm (32 * v + u)) ∧ ∀ u, u < 32 → rm' (32 * u + 31) ≤ rm (32 * u + 31)
theorem l_go2 {rk : Nat → Nat} {L : Int} {rm0 : Nat → Int} {Q : xH → Prop} (w : wOk (h.2 106) rm0 rk) (hL : 1 ≤ L) (hM : ∀ u v, u < 32 → v < 32 → h.2 105 (32 * u + v) + h.2 105 (32 * v + u) ≤ 100000000) (hQ : ∀ h' : xH, h'.1 = h.1 → (∀ r, r ≠ 105 → h'.2 r = h.2 r) → gI (h.2 105) (h'.2 105) L 30 → Q h') : ∀ (m k : Nat) {h' : xH}, rk k < m → k < 32 → 0 ≤ h.2 106 k → h'.1 = h.1 → (∀ r, r ≠ 105 → h'.2 r = h.2 r) → gI (h.2 105) (h'.2 105) L k → pA (fun x => L ≤ h'.2 105 (32 * (h.2 106 x).toNat + x)) (h.2 106) m k → zJ g D mX9_goOn 0 0 63 [xr 95, xi L, xi k] [] h' (x_qv Q)
  | 0, k, h', hr, _, _, _, _, _, _ => by omega
  | m + 1, k, h', hr, hk, h0, e1, e2, G, pa => by
    by_cases q : k = 30
    · subst q
      exact zX9_goOn_63 ⟨fun _ => zX9_goOn_119 (hQ h' e1 e2 G), fun z => absurd rfl z⟩
    · obtain ⟨w1, w2, w3⟩ := w.2 k hk h0
      obtain ⟨-, p2⟩ := w3 q
      rcases pa with pa | ⟨pa1, pa2⟩
      · exact absurd pa q
      obtain ⟨u, hu⟩ : ∃ u : Nat, h.2 106 k = (u : Int) := ⟨(h.2 106 k).toNat, by omega⟩
      rw [hu, show ((u : Int)).toNat = u by omega] at p2 w2 pa1 pa2
      rw [hu] at w1
      have hne : u ≠ k := fun z => by rw [z] at p2; omega
      have s0 := G.2.2.1 u k (by omega) hk
      have s1 := hM u k (by omega) hk
      have n2 := G.1 (32 * k + u) (by omega)
      have e106 : h'.2 106 = h.2 106 := e2 106 (by decide)
      refine zX9_goOn_63 ⟨fun z => by omega, fun z => ?_⟩
      rw [show ((k : Int)).toNat = k by omega, e106, hu, x32_id (show -2147483648 ≤ 32 * (u : Int) by omega) (by omega), x32_id (show -2147483648 ≤ 32 * (u : Int) + (k : Int) by omega) (by omega), show (32 * (u : Int) + (k : Int)).toNat = 32 * u + k by omega, x32_id (by omega) (by omega)]
      refine ⟨by omega, by omega, by omega, zX9_goOn_89 ?_⟩
      (try dsimp only)
      rw [show ((k : Int)).toNat = k by omega, x_up_r (show 106 ≠ 105 by decide), e106, hu, x32_id (show -2147483648 ≤ 32 * (k : Int) by omega) (by omega), x32_id (show -2147483648 ≤ 32 * (k : Int) + (u : Int) by omega) (by omega), show (32 * (k : Int) + (u : Int)).toNat = 32 * k + u by omega, x_up_j (show 32 * k + u ≠ 32 * u + k by omega), x32_id (by omega) (by omega)]
      refine ⟨by omega, by omega, by omega, zX9_goOn_109 ⟨by omega, ?_⟩⟩
      generalize hr1 : x_up h'.2 105 (32 * u + k) (h'.2 105 (32 * u + k) - L) = C1
      have a1 : C1 105 (32 * u + k) = h'.2 105 (32 * u + k) - L := by rw [← hr1, x_up_eq]
      have a2 : ∀ i, i ≠ 32 * u + k → C1 105 i = h'.2 105 i := fun i hi => by rw [← hr1, x_up_j hi]
      have a3 : ∀ r, r ≠ 105 → C1 r = h'.2 r := fun r hi => by rw [← hr1, x_up_r hi]
      have v0 : C1 105 (32 * k + u) = h'.2 105 (32 * k + u) := a2 _ (by omega)
      rw [← v0]
      generalize hr2 : x_up C1 105 (32 * k + u) (C1 105 (32 * k + u) + L) = C2
      have b1 : C2 105 (32 * k + u) = C1 105 (32 * k + u) + L := by rw [← hr2, x_up_eq]
      have b2 : ∀ i, i ≠ 32 * k + u → C2 105 i = C1 105 i := fun i hi => by rw [← hr2, x_up_j hi]
      have b3 : ∀ r, r ≠ 105 → C2 r = h.2 r := fun r hi => by rw [← hr2, x_up_r hi, a3 r hi, e2 r hi]
      have S := stp (by omega) hk hne a1 a2 b1 b2
      (try dsimp only)
      rw [show ((k : Int)).toNat = k by omega, b3 106 (by decide), hu]
      refine l_go2 w hL hM hQ m u (by omega) (by omega) w2 e1 b3 ⟨fun i hi => ?_, fun X => ?_, fun x v hx hv => ?_, fun x hx => ?_⟩ (pA_up w m u (by omega) w2 (fun x x1 x2 x3 x4 => ?_) pa2)
      · show 0 ≤ C2 105 i
        have := G.1 i hi
        by_cases q1 : i = 32 * k + u
        · rw [q1, b1, v0]; omega
        · rw [b2 i q1]
          by_cases q2 : i = 32 * u + k
          · rw [q2, a1]; omega
          · rw [a2 i q2]; exact this
      · show oR X (C2 105) = _
        rw [S.1 X, G.2.1 X]; omega
      · show C2 105 (32 * x + v) + C2 105 (32 * v + x) = _
        rw [S.2 x v hx hv]; exact G.2.2.1 x v hx hv
      · show C2 105 (32 * x + 31) ≤ _
        have := G.2.2.2 x hx
        rw [b2 _ (by omega)]
        by_cases q2 : 32 * x + 31 = 32 * u + k
        · rw [q2, a1]; rw [q2] at this; omega
        · rw [a2 _ q2]; exact this
      · show L ≤ C2 105 (32 * (h.2 106 x).toNat + x)
        have x4 : L ≤ h'.2 105 (32 * (h.2 106 x).toNat + x) := x4
        by_cases q1 : 32 * (h.2 106 x).toNat + x = 32 * k + u
        · rw [q1, b1, v0]; omega
        · have hxk : x ≠ k := fun z => by rw [z] at x3; omega
          have := (w.2 x x1 x2).1
          rw [b2 _ q1, a2 _ (by omega)]; exact x4
theorem r_goOn {rk : Nat → Nat} {Q : xH → Prop} (w : wOk (h.2 106) (h.2 105) rk) (h31 : 0 ≤ h.2 106 31) (hn : ∀ i, i < 1024 → 0 ≤ h.2 105 i) (hM : ∀ u v, u < 32 → v < 32 → h.2 105 (32 * u + v) + h.2 105 (32 * v + u) ≤ 100000000) (hQ : ∀ (h' : xH) (L : Int), 1 ≤ L → h'.1 = h.1 → (∀ r, r ≠ 105 → h'.2 r = h.2 r) → gI (h.2 105) (h'.2 105) L 30 → Q h') : zSv g D mX9_goOn [xr 95] h Q := by
  refine eX9_goOn (zX9_goOn_0 ?_)
  refine l_go1 w (rk 31 + 1) 31 1000000000 (by omega) (by decide) h31 (by decide) (fun L w2 l1 l2 pa => zX9_goOn_60 ?_)
  exact l_go2 w l1 hM (fun h' k1 k2 G => hQ h' L l1 k1 k2 G) (rk 31 + 1) 31 (by omega) (by decide) h31 rfl (fun _ _ => rfl) ⟨hn, fun X => by omega, fun _ _ _ _ => rfl, fun _ _ => Int.le_refl _⟩ pa
end GO
