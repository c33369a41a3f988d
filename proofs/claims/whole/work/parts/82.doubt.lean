/-! doubt -/
def fM (h h' : xH) : Prop := h'.1 = h.1 ∧ (∀ r, ¬ (75 ≤ r ∧ r ≤ 94) → h'.2 r = h.2 r) ∧ h'.2 75 3 = h.2 75 3
theorem fM_inv {h h' : xH} (f : fM h h') (I : zInv h) : zInv h' := inv_scr I f.1 f.2.2 (fun r hr => f.2.1 r (by omega))
theorem fM_L {h h1 h2 : xH} (f : fM h h1) (b : fL h1 h2) : fM h h2 := ⟨b.1.trans f.1, fun r hr => (b.2 r (by omega)).trans (f.2.1 r hr), by rw [b.2 75 (by omega)]; exact f.2.2⟩
theorem fM_B {h h1 h2 : xH} (f : fM h h1) (b : fB h1 h2) : fM h h2 := ⟨b.1.trans f.1, fun r hr => (b.2.1 r (by omega) (by omega) (by omega)).trans (f.2.1 r hr), by rw [b.2.2 3 (by decide)]; exact f.2.2⟩
theorem fM_96 {h h' : xH} (f : fM h h') : h'.2 96 = h.2 96 := f.2.1 96 (by omega)
theorem x_bit {K : Int} {k : Nat} (hk : k < 32) : x_and (x_shr K (k : Int)) 1 = if tb K k = true then 1 else 0 := by
  have t := tb_shr (K := K) hk
  cases q : tb K k
  · rw [if_neg (by decide)]; exact t.2.mpr q
  · rw [if_pos rfl]; exact t.1.mpr q
theorem op_doubt {g : xG} {D : Nat} {h : xH} {a b c : Int} (I : zInv h) : zSi g (D + 15) mX8_doubt [xr 16, xi a, xi b, xi c] h (fun x h1 => zSi g (D + 15) mX9_doubt [xr 95, xi a, xi b, xi c] h1 (fun y h2 => x = y ∧ zInv h2)) := by
  refine zS_sh (fun hs => ?_)
  have Z := zB_of hs I
  have B := rB_inv I
  have m := I.1
  have z := pM_z m
  have hday : h.2 17 14 = h.2 96 0 := I.2.2.1.2.1.2.1
  have no : ¬ (spn (h.2 96) a b ∧ (c = -1 ∨ (a ≤ c ∧ c ≤ b))) → zSi g (D + 15) mX9_doubt [xr 95, xi a, xi b, xi c] h (fun y h2 => -1 = y ∧ zInv h2) := by
    intro hno
    refine eX9_doubt (zX9_doubt_0 (r_isSpan m (fun v hv => ⟨fun q => zX9_doubt_23 ⟨rfl, I⟩, fun q => ⟨fun q2 => ?_, fun q2 => s_in (fun v2 hv2 => ⟨fun q3 => ?_, fun q3 => ⟨rfl, I⟩⟩)⟩⟩)))
    · exfalso
      rcases hv with e | e
      · exact hno ⟨e.2, Or.inl q2⟩
      · omega
    · exfalso
      rcases hv with e | e
      · exact hno ⟨e.2, Or.inr (by omega)⟩
      · omega
  -- what both find
  have main : spn (h.2 96) a b → (c = -1 ∨ (a ≤ c ∧ c ≤ b)) → zJ g (D + 15) mX8_doubt 0 0 25 [xr 16, xi a, xi b, xi c, xu, xu] [] h (x_qi (fun x h1 => zSi g (D + 15) mX9_doubt [xr 95, xi a, xi b, xi c] h1 (fun y h2 => x = y ∧ zInv h2))) := by
    intro sp hc
    have s1 := sp.1
    have s2 := sp.2.1
    have s3 := sp.2.2
    obtain ⟨A0, hA⟩ : ∃ n : Nat, a = (n : Int) := ⟨a.toNat, by omega⟩
    obtain ⟨N, hN⟩ : ∃ n : Nat, b - a + 1 = (n : Int) := ⟨(b - a + 1).toNat, by omega⟩
    subst hA
    have hb : b = (A0 : Int) + (N : Int) - 1 := by omega
    subst hb
    obtain ⟨fe, hfe⟩ : ∃ fe : Nat → Bool, ∀ q, fe q = true ↔ dbX (h.2 96) A0 (fun i => !oq N q i) N := ⟨fun q => @decide _ (Classical.propDecidable (dbX (h.2 96) A0 (fun i => !oq N q i) N)), fun q => @decide_eq_true_iff _ (Classical.propDecidable _)⟩
    generalize hst : fo (fun q => lq (h.2 96) A0 N q N) fe 0 (2 ^ N) (10000, 0) = st
    -- the reference, behind the class
    have ref : ∀ {h1 : xH} {x : Int}, fM h h1 → (c = -1 → x = st.1) → (∀ i : Nat, i < N → c = (A0 : Int) + i → x = if oq N st.2 i = true then 1 else 0) → zSi g (D + 15) mX9_doubt [xr 95, xi (A0 : Int), xi ((A0 : Int) + (N : Int) - 1), xi c] h1 (fun y h2 => x = y ∧ zInv h2) := by
      intro h1 x f x1 x2
      have e96 := fM_96 f
      have I1 := fM_inv f I
      have go : zJ g (D + 15) mX9_doubt 0 0 25 [xr 95, xi (A0 : Int), xi ((A0 : Int) + (N : Int) - 1), xi c] [] h1 (x_qi (fun y h2 => x = y ∧ zInv h2)) := by
        refine zX9_doubt_25 (r_findDoubt (fe := fe) (by rw [e96]; exact m) (by rw [e96]; exact B) (by omega) (by omega) (by rw [e96]; omega) (fun q _ => by rw [e96]; exact hfe q) (fun h2 f2 r1 r2 => ?_))
        rw [e96, hst] at r1 r2
        have I2 := fD_inv (fE_fD f2) I1
        refine ⟨fun q => zX9_doubt_43 ?_, fun q => ⟨by rw [r1]; exact x1 q, I2⟩⟩
        obtain ⟨i, hi⟩ : ∃ n : Nat, c - (A0 : Int) = (n : Int) := ⟨(c - A0).toNat, by omega⟩
        refine ⟨?_, I2⟩
        rw [hi, x32_id (by omega) (by omega), x_bit (by omega), r2 i (by omega)]
        exact x2 i (by omega) (by omega)
      refine eX9_doubt (zX9_doubt_0 (r_isSpan (by rw [e96]; exact m) (fun v hv => ?_)))
      rw [e96] at hv
      refine ⟨fun q => ?_, fun q => ⟨fun q2 => go, fun q2 => s_in (fun v2 hv2 => ⟨fun q3 => go, fun q3 => by omega⟩)⟩⟩
      rcases hv with e | e
      · omega
      · exact absurd sp e.2
    -- the webs
    have L : ∀ (mm i : Nat) {h' : xH} {w5 : xV}, i + mm = N → fM h h' → h'.2 78 8 = 10000 → h'.2 78 9 = 0 → (∀ p : Nat, (p : Int) < h.2 96 2 → h'.2 80 p = dbS (h.2 96) p) → (∀ j : Nat, (j : Int) < h.2 96 11 → h'.2 82 j = 0) → adj (h.2 96) h' → wbs (h.2 96) A0 i h' → zJ g (D + 15) mX8_doubt 0 0 51 [xr 16, xi (A0 : Int), xi ((A0 : Int) + (N : Int) - 1), xi c, xi ((A0 : Int) + i), w5] [] h' (x_qi (fun x h1 => zSi g (D + 15) mX9_doubt [xr 95, xi (A0 : Int), xi ((A0 : Int) + (N : Int) - 1), xi c] h1 (fun y h2 => x = y ∧ zInv h2))) := by
      intro mm
      induction mm with
      | zero =>
        intro i h' w5 e f c8 c9 c80 c82 aj W
        have : i = N := by omega
        subst this
        have tk : tK (h.2 96) h' := by
          have := tK_inv (fM_inv f I)
          rw [fM_96 f] at this
          exact this
        refine zX8_doubt_51 ⟨fun _ => zX8_doubt_118 ?_, fun q => by omega⟩
        have ks := s_search (g := g) (a := A0) (fe := fe) m B (by omega) (by omega) (fun q _ => hfe q) i 0 0 (D := D + (10 - i)) (h := h') (out := 0) (x := 0) (st := (10000, 0)) (Q := fun h1 => (¬ c = -1 → zJ g (D + 15) mX8_doubt 0 0 141 [xr 16, xi (A0 : Int), xu, xi c, xu, xu] [] h1 (x_qi (fun x h1 => zSi g (D + 15) mX9_doubt [xr 95, xi (A0 : Int), xi ((A0 : Int) + (i : Int) - 1), xi c] h1 (fun y h2 => x = y ∧ zInv h2)))) ∧ (c = -1 → zSi g (D + 15) mX9_doubt [xr 95, xi (A0 : Int), xi ((A0 : Int) + (i : Int) - 1), xi c] h1 (fun y h2 => h1.2 78 8 = y ∧ zInv h2))) (by omega) (by decide) oI_0 tk aj W ?_ ⟨c8, fun j hj => by rw [c9, tb_0]; unfold oq; simp⟩ (fun h1 f1 s1 => ?_)
        · rw [show D + (10 - i) + i + 4 = D + 14 by omega] at ks
          exact ks
        · refine ⟨fun p hp => ?_, fun j hj => ?_, fun X => ?_⟩
          · (try dsimp only)
            rw [show 30 * 0 + p = p by omega, c80 p hp]
            exact dbS_b m B hp
          · (try dsimp only)
            rw [show 40 * 0 + j = j by omega, c82 j hj]
            exact ⟨Int.le_refl _, (tr_r m hj).2.2.2.1⟩
          · rw [show bL 0 (X 0) = 0 by unfold bL; split <;> rfl]
            rw [sX_cong (P := X) (P' := X) (v := dbS (h.2 96)) (v' := fun p => h'.2 80 (30 * 0 + p)) (h.2 96 2).toNat (fun p hp => ⟨rfl, by (try dsimp only); rw [show 30 * 0 + p = p by omega]; exact c80 p (by omega)⟩)]
            rw [sX_0 (P := fun j => X (dbF (h.2 96) j)) (v := fun j => h'.2 82 (40 * 0 + j)) _ (fun j hj _ => by (try dsimp only); rw [show 40 * 0 + j = j by omega]; exact c82 j (by omega)), sX_0 (P := fun j => X (dbT (h.2 96) j)) (v := fun j => h'.2 82 (40 * 0 + j)) _ (fun j hj _ => by (try dsimp only); rw [show 40 * 0 + j = j by omega]; exact c82 j (by omega))]
            show 0 + 0 + _ + 0 = _ + 0
            omega
        · rw [Nat.zero_mul, hst] at s1
          have f2 := fM_L f (fS_fL f1)
          refine ⟨fun q => zX8_doubt_141 ?_, fun q => ref f2 (fun _ => s1.1) (fun j hj hcj => by omega)⟩
          obtain ⟨j, hj⟩ : ∃ n : Nat, c - (A0 : Int) = (n : Int) := ⟨(c - A0).toNat, by omega⟩
          rw [hj, x32_id (by omega) (by omega), x_bit (by omega), s1.2 j (by omega)]
          refine ref f2 (fun q2 => absurd q2 q) (fun j2 hj2 hcj => ?_)
          have : j2 = j := by omega
          subst this
          rfl
      | succ mm ih =>
        intro i h' w5 e f c8 c9 c80 c82 aj W
        have e96 := fM_96 f
        have I' := fM_inv f I
        have hw : ((A0 + i : Nat) : Int) < h.2 96 4 := by omega
        refine zJ_sh (fun hs' => ?_)
        have Z' := zB_of hs' I'
        -- a web more
        have ad : ∀ {h2 : xH} {u v w : Int} {w5 : xV}, fM h h2 → (∀ r, 78 ≤ r → r ≤ 92 → h2.2 r = h'.2 r) → u = (dbO (h.2 96) A0 i : Int) → v = nd (h.2 96) (A0 + i) → w = yl (h.2 96) (A0 + i) → zSi g (D + 14) mX5_add [xr 91, xi u, xi v, xi w] h2 (fun x4 h4 => zJ g (D + 15) mX8_doubt 0 0 51 [xr 16, xi (A0 : Int), xi ((A0 : Int) + (N : Int) - 1), xi c, xi (x32 (((A0 + i : Nat) : Int) + 1)), w5] [] h4 (x_qi (fun x h1 => zSi g (D + 15) mX9_doubt [xr 95, xi (A0 : Int), xi ((A0 : Int) + (N : Int) - 1), xi c] h1 (fun y h2 => x = y ∧ zInv h2)))) := by
          intro h2 u v w w5 f2 l2 hu hv hww
          refine zS_sh (fun hs2 => ?_)
          have R : pR h2 91 92 10 3 := z_R hs2 rfl rfl rfl rfl rfl (by decide)
          refine s_add R (n := i) (by rw [l2 91 (by decide) (by decide)]; exact W.1) (by omega) (by decide) (by decide) (fun h4 hs4 k1 k2 => ?_)
          have o : ∀ r, r ≠ 91 → r ≠ 92 → h4.2 r = h2.2 r := fun r r1 r2 => by
            rw [k2]; funext j; unfold p_add; rw [if_neg (by omega), if_neg (by omega)]
          have f4 : fM h h4 := ⟨k1.trans f2.1, fun r hr => by rw [o r (by omega) (by omega)]; exact f2.2.1 r hr, by rw [o 75 (by decide) (by decide)]; exact f2.2.2⟩
          have l4 : ∀ r, 78 ≤ r → r ≤ 90 → h4.2 r = h'.2 r := fun r r1 r2 => by rw [o r (by omega) (by omega)]; exact l2 r r1 (by omega)
          have q91 : h4.2 91 3 = ((i + 1 : Nat) : Int) := by rw [k2]; unfold p_add; rw [if_pos ⟨rfl, rfl⟩]; omega
          have q92 : ∀ y, h4.2 92 y = if i * 3 ≤ y ∧ y < i * 3 + 3 then p_row u v w (y - i * 3) else h'.2 92 y := fun y => by
            rw [k2]; unfold p_add
            rw [if_neg (by omega), ← l2 92 (by decide) (by decide)]
            by_cases q : i * 3 ≤ y ∧ y < i * 3 + 3
            · rw [if_pos ⟨rfl, q⟩, if_pos q]
            · rw [if_neg (fun z => q z.2), if_neg q]
          rw [x32_id (by omega) (by omega), show ((A0 + i : Nat) : Int) + 1 = (A0 : Int) + ((i + 1 : Nat) : Int) by omega]
          refine ih (i + 1) (by omega) f4 (by rw [l4 78 (by decide) (by decide)]; exact c8) (by rw [l4 78 (by decide) (by decide)]; exact c9) (by rw [l4 80 (by decide) (by decide)]; exact c80) (by rw [l4 82 (by decide) (by decide)]; exact c82) (adj_fr (l4 84 (by decide) (by decide)) (l4 86 (by decide) (by decide)) aj) ⟨q91, fun y hy => ?_⟩
          rw [q92, q92, q92]
          by_cases q : y = i
          · subst q
            rw [if_pos (by omega), if_pos (by omega), if_pos (by omega), show 3 * y - y * 3 = 0 by omega, show 3 * y + 1 - y * 3 = 1 by omega, show 3 * y + 2 - y * 3 = 2 by omega]
            exact ⟨hu, hv, hww⟩
          · rw [if_neg (by omega), if_neg (by omega), if_neg (by omega)]
            exact W.2 y (by omega)
        refine zX8_doubt_51 ⟨fun q => by omega, fun _ => ?_⟩
        rw [show (A0 : Int) + (i : Int) = ((A0 + i : Nat) : Int) by omega]
        refine s_needOf Z' (by rw [e96]; exact hw) (fun h1 f1 n12 => ?_)
        have f2 := fM_B f f1
        have e96' := fM_96 f2
        rw [e96] at n12
        refine zS_sh (fun hs1 => ?_)
        refine s_owner (zB_of hs1 (fM_inv f2 I)) (by rw [e96']; exact hw) ?_
        rw [e96, e96']
        have ho : h.2 96 (350 + (A0 + i)) = (dbO (h.2 96) A0 i : Int) := by
          have := B.2.2.2.2.2.1 (A0 + i) hw
          unfold dbO; omega
        have l2 : ∀ r, 78 ≤ r → r ≤ 92 → h1.2 r = h'.2 r := fun r r1 r2 => f1.2.1 r (by omega) (by omega) (by omega)
        refine ⟨fun q => zX8_doubt_107 (ad f2 l2 ho rfl (nd_yl B hw q).2.symm), fun q => s_named (i := 12) (by decide) (ad f2 l2 ho rfl ?_)⟩
        unfold yl
        unfold nd at q
        rcases mO_c B.2.2.1.2.2.2.1 ((A0 + i : Nat) : Int) (h.2 96 0) (h.2 96 0) with e2 | ⟨x, e1, e2, -⟩
        · rw [e2, if_pos (by decide)] at q; omega
        · rw [e1, if_neg (by omega), show ((x : Int)).toNat = x by omega]
          exact n12 x e1
    refine zX8_doubt_25 ?_
    rw [hday]
    refine s_told (k := 7) Z (by decide) ?_
    rw [show x_ltv 2 7 = 10 by decide]
    refine s_start (A := h.2 96) m B (tK_inv I) (fun h1 f1 a1 a2 a3 a4 a5 a6 => ?_)
    have r := L N 0 (h' := h1) (w5 := xu) (by omega) (fM_L ⟨rfl, fun _ _ => rfl, rfl⟩ f1) a2 a3 a4 a5 a6 ⟨a1, fun y hy => by omega⟩
    rw [show (A0 : Int) + ((0 : Nat) : Int) = (A0 : Int) by omega] at r
    exact r
  refine eX8_doubt (zX8_doubt_0 (s_isSpan hs I (fun x hx => ⟨fun q => zX8_doubt_23 (no (fun w => ?_)), fun q => ?_⟩)))
  · rcases hx with e | e
    · omega
    · exact e.2 w.1
  have sp : spn (h.2 96) a b := by
    rcases hx with e | e
    · exact e.2
    · omega
  exact ⟨fun q2 => main sp (Or.inl q2), fun q2 => s_win (fun x2 hx2 => ⟨fun q3 => main sp (Or.inr (by omega)), fun q3 => no (fun w => by omega)⟩)⟩
