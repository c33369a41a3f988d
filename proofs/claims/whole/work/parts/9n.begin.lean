/-! THE LAW FROM ITS ENTRY: the fresh heap keeps the invariant -/
theorem pM_new {A : Nat → Int} (hA : ∀ j, j < 13700 → A j = if j = 14 then 1 else 0) : pM A := by
  have z : ∀ j, j < 13700 → j ≠ 14 → A j = 0 := fun j h1 h2 => by rw [hA j h1, if_neg h2]
  have e14 : A 14 = 1 := by rw [hA 14 (by decide), if_pos rfl]
  have tz : ∀ t, t < 12 → t ≠ 9 → A (t_z t) = 0 := by
    intro t ht h9
    have h1 : ∀ t, t < 12 → t_z t < 14 := by decide
    exact z _ (by have := h1 t ht; omega) (by have := h1 t ht; omega)
  refine ⟨⟨?_, ?_, ?_, ?_, ?_, ?_, fun t ht h9 => ?_⟩, ⟨fun i h1 h2 => z _ (by omega) (by omega), fun i h1 h2 => z _ (by omega) (by omega), fun i h1 h2 => ⟨z _ (by omega) (by omega), z _ (by omega) (by omega)⟩⟩, fun t ht h9 i hi => ?_⟩
  · rw [z 0 (by decide) (by decide)]; omega
  · rw [z 6 (by decide) (by decide)]; omega
  · rw [e14]; omega
  · rw [z 15 (by decide) (by decide)]; omega
  · rw [z 16 (by decide) (by decide)]; omega
  · rw [z 17 (by decide) (by decide)]; omega
  · rw [tz t ht h9]; omega
  · rw [tz t ht h9] at hi; omega
theorem pC_new {h : xH} {L : Nat} {A E : Nat → Int} (hA : ∀ j, j < 13700 → A j = if j = 14 then 1 else 0) (hE : ∀ j, j < 31 → E j = 0) (h1 : ∀ t, t < 12 → h.2 (L + 1 + 2 * t) 3 = 0) (h2 : ∀ j, 13 ≤ j → j < 19 → h.2 L j = if j = 15 then 1 else 0) (h3 : ∀ i, i < 10 → h.2 (L + 25) i = 0) : pC h L A E := by
  have z : ∀ j, j < 13700 → j ≠ 14 → A j = 0 := fun j h1 h2 => by rw [hA j h1, if_neg h2]
  have e14 : A 14 = 1 := by rw [hA 14 (by decide), if_pos rfl]
  have tz : ∀ t, t < 12 → t ≠ 9 → A (t_z t) = 0 := by
    intro t ht h9
    have h1 : ∀ t, t < 12 → t_z t < 14 := by decide
    exact z _ (by have := h1 t ht; omega) (by have := h1 t ht; omega)
  refine ⟨fun t ht h9 => ⟨?_, fun i hi => ?_⟩, ⟨?_, ?_, ?_, ?_, ?_, ?_⟩, fun i hi => ?_, fun i hi => ?_, ?_, fun i hi => ?_, fun i hi => Or.inl (h3 i hi)⟩
  · rw [tz t ht h9]; exact h1 t ht
  · rw [tz t ht h9] at hi; omega
  · rw [z 6 (by decide) (by decide), h2 13 (by decide) (by decide)]; rfl
  · rw [z 0 (by decide) (by decide), h2 14 (by decide) (by decide)]; rfl
  · rw [e14, h2 15 (by decide) (by decide)]; rfl
  · rw [z 15 (by decide) (by decide), h2 16 (by decide) (by decide)]; rfl
  · rw [z 16 (by decide) (by decide), h2 17 (by decide) (by decide)]; rfl
  · rw [z 17 (by decide) (by decide), h2 18 (by decide) (by decide)]; rfl
  · rw [z 9 (by decide) (by decide)] at hi; omega
  · rw [z 12 (by decide) (by decide)] at hi; omega
  · unfold pFin
    rw [z 8 (by decide) (by decide)]
    refine ⟨0, ?_, rfl, fun j hj => by omega, hE 0 (by decide), fun p hp => hE (1 + p) (by omega)⟩
    exact h1 9 (by decide)
  · rw [z 6 (by decide) (by decide)] at hi; omega
theorem kwTi_96 (j : Nat) : kwF kwTi 96 j = if j = 14 then 1 else 0 := by
  rw [kwF_at (by decide), show ((kwTi.filter fun q => q.1 == 96).map fun q => q.2) = [(14, 1)] by decide +kernel]
  rfl
theorem kwTi_lo : kwTi.all (fun q => decide (16 ≤ q.1)) = true := by decide +kernel
theorem kwTi_pt : ∀ i, i < 95 → ∀ q ∈ zPr.getD i [], kwF kwTi (i + 16) q.1 = (q.2 : Int) := by decide +kernel
theorem zSh_new : zSh (zK.take 95, kwF kwTi) := by
  refine ⟨⟨[], by decide +kernel⟩, fun r j v hv => ?_⟩
  show kwF kwTi r j = (v : Int)
  by_cases h16 : r < 16
  · rw [kwF_lo h16 kwTi_lo]
    have e : z_pt 16 j = z_pt r j := by
      unfold z_pt
      rw [show r - 16 = 16 - 16 by omega]
    rw [e, hv]
    rfl
  · have h1 := z_pt_lt hv
    unfold z_pt at hv
    cases hf : (zPr.getD (r - 16) []).find? fun q => q.1 == j with
    | none => rw [hf] at hv; cases hv
    | some q =>
      rw [hf] at hv
      cases hv
      have e1 : q.1 = j := by simpa using List.find?_some hf
      have e2 := kwTi_pt (r - 16) h1 q (List.mem_of_find?_eq_some hf)
      rw [show r - 16 + 16 = r by omega, e1] at e2
      exact e2
theorem zInv_new {h : xH} (h1 : ∀ r, r ≠ 97 → h.2 r = kwF kwTi r) (h2 : ∀ i, i < 13700 → h.2 97 i = kwF kwTi 96 i) : zInv h := by
  have a96 : ∀ j, j < 13700 → h.2 96 j = if j = 14 then 1 else 0 := fun j _ => by rw [h1 96 (by decide)]; exact kwTi_96 j
  have a97 : ∀ j, j < 13700 → h.2 97 j = if j = 14 then 1 else 0 := fun j hj => by rw [h2 j hj]; exact kwTi_96 j
  refine ⟨pM_new a96, pM_new a97, pC_new a96 (fun j _ => ?_) (fun t ht => ?_) (fun j j1 j2 => ?_) (fun i hi => ?_), pC_new a97 (fun j _ => ?_) (fun t ht => ?_) (fun j j1 j2 => ?_) (fun i hi => ?_), ?_, ?_, fun i hi => ?_, ?_, ?_, ?_, ?_, ?_⟩
  · rw [h1 98 (by decide)]; exact kwN_0 (by decide +kernel)
  · rw [h1 _ (by omega)]
    have : ∀ t, t < 12 → kwF kwTi (17 + 1 + 2 * t) 3 = 0 := by decide +kernel
    exact this t ht
  · rw [h1 17 (by decide)]
    have : ∀ j, j < 19 → 13 ≤ j → kwF kwTi 17 j = if j = 15 then 1 else 0 := by decide +kernel
    exact this j j2 j1
  · rw [h1 _ (by decide)]; exact kwN_0 (by decide +kernel)
  · rw [h1 99 (by decide)]; exact kwN_0 (by decide +kernel)
  · rw [h1 _ (by omega)]
    have : ∀ t, t < 12 → kwF kwTi (48 + 1 + 2 * t) 3 = 0 := by decide +kernel
    exact this t ht
  · rw [h1 48 (by decide)]
    have : ∀ j, j < 19 → 13 ≤ j → kwF kwTi 48 j = if j = 15 then 1 else 0 := by decide +kernel
    exact this j j2 j1
  · rw [h1 _ (by decide)]; exact kwN_0 (by decide +kernel)
  · rw [h1 43 (by decide), h1 95 (by decide)]; decide +kernel
  · rw [h1 43 (by decide)]; decide +kernel
  · rw [h1 43 (by decide), show kwF kwTi 43 4 = 0 by decide +kernel] at hi; omega
  · rw [h1 74 (by decide), h1 95 (by decide)]; decide +kernel
  · rw [h1 74 (by decide), h1 95 (by decide)]; decide +kernel
  · rw [h1 74 (by decide)]; decide +kernel
  · rw [h1 74 (by decide)]; decide +kernel
  · rw [h1 75 (by decide)]; decide +kernel
theorem xJ_mono {g : xG} {D M k n pc : Nat} {ls st : List xV} {h : xH} {Q1 Q2 : xV → xH → Prop} (kk : xJ g D M k n pc ls st h Q1) (hq : ∀ r h1, Q1 r h1 → Q2 r h1) : xJ g D M k n pc ls st h Q2 := by
  intro p e s m args below meth c H locs la a1 a2 a3 a4 a5 a6 a7 a8 T hT X
  obtain ⟨t, b1, o, b2, b3, ⟨⟨r, h1, c1, c2, c3⟩, c4⟩, c5⟩ := kk p e s m args below meth c H locs la a1 a2 a3 a4 a5 a6 a7 a8 T hT X
  exact ⟨t, b1, o, b2, b3, ⟨⟨r, h1, c1, hq r h1 c2, c3⟩, c4⟩, c5⟩
def x_cL_law_0 : List xI := [(.new 7, 3, (8, 7, 0, 0)), (.dup, 1, (0, 0, 0, 0)), (.invokespecial 9, 3, (76, 0, 3, 0)), (.astore_n 1, 1, (1, 0, 0, 0))]
theorem x_dL_law_0 : x_okb 247 0 x_cL_law_0 = true := by decide +kernel
def x_cL_law_8 : List xI := [(.new 10, 3, (9, 32, 0, 0)), (.dup, 1, (0, 0, 0, 0)), (.invokespecial 12, 3, (136, 0, 3, 0)), (.astore_n 2, 1, (2, 0, 0, 0)), (.iconst 0, 1, (0, 0, 0, 0)), (.istore_n 3, 1, (3, 0, 0, 0))]
theorem x_dL_law_8 : x_okb 247 8 x_cL_law_8 = true := by decide +kernel
set_option maxRecDepth 20000 in
theorem vL_law_0 {g : xG} {D : Nat} {k n : Nat} {w1 : xV} {w2 : xV} {w3 : xV} {h : xH} {Q : Int → xH → Prop} (H : (k + 1 ≤ x_bc 247 ∧ n + 7 ≤ x_bs 247) ∧ (∃ c N : Nat, x_is (h.1 ++ [(8, 7)], x_nw h.2 (h.1.length + 16)) (h.1.length + 16) c N) ∧ (k + 1 + x_bc 76 ≤ x_bc 247 ∧ n + 7 + x_bs 76 ≤ x_bs 247) ∧ xSv g D mX8_init [xr (h.1.length + 16)] (h.1 ++ [(8, 7)], x_nw h.2 (h.1.length + 16)) (fun h1 => xJ g (D + 1) 247 (k + 1 + x_bc 76) (n + 7 + x_bs 76) 8 [xr 1, xr (h.1.length + 16), xu, xu] [] h1 (x_qi Q))) : xJ g (D + 1) 247 k n 0 [xr 1, w1, w2, w3] [] h (x_qi Q) :=
  xj_mask [true, false, false, false] (x_blk (M := 247) (by decide) x_cL_law_0 x_dL_law_0 H)
set_option maxRecDepth 20000 in
theorem vL_law_8 {g : xG} {D : Nat} {k n r1 : Nat} {w2 : xV} {w3 : xV} {h : xH} {Q : Int → xH → Prop} (H : (k + 1 ≤ x_bc 247 ∧ n + 32 ≤ x_bs 247) ∧ (∃ c N : Nat, x_is (h.1 ++ [(9, 32)], x_nw h.2 (h.1.length + 16)) (h.1.length + 16) c N) ∧ (k + 1 + x_bc 136 ≤ x_bc 247 ∧ n + 32 + x_bs 136 ≤ x_bs 247) ∧ xSv g D mX9_init [xr (h.1.length + 16)] (h.1 ++ [(9, 32)], x_nw h.2 (h.1.length + 16)) (fun h1 => xJ g (D + 1) 247 (k + 1 + x_bc 136) (n + 32 + x_bs 136) 18 [xr 1, xr r1, xr (h.1.length + 16), xi 0] [] h1 (x_qi Q))) : xJ g (D + 1) 247 k n 8 [xr 1, xr r1, w2, w3] [] h (x_qi Q) :=
  xj_mask [true, true, false, false] (x_blk (M := 247) (by decide) x_cL_law_8 x_dL_law_8 H)
set_option maxRecDepth 20000 in
theorem lw_begin {g : xG} (hL : g.L ≤ 4096) (h0 : g.sa 0 = 0) (h15 : g.sa 15 = g.b + 59) : xJ g 60 247 0 0 0 [xr 1, xu, xu, xu] [] ([], kwF []) (x_qi fun x _ => x = 1) := by
  have hL2 : ((x_g2 g).L : Int) ≤ 4096 := by
    have hL3 : (x_g2 g).L ≤ 4096 := hL
    omega
  obtain ⟨m1, m2, m3, m4⟩ := lw_m
  have m5 : x_bc 76 = 200 ∧ x_bs 76 = 60000 ∧ x_bc 136 = 30 ∧ x_bs 136 = 40000 := ⟨rfl, rfl, rfl, rfl⟩
  obtain ⟨m5, m6, m7, m8⟩ := m5
  refine vL_law_0 (D := 59) ⟨by decide +kernel, ⟨8, 7, x_is_new⟩, by decide +kernel, ?_⟩
  refine S1_eq 1 (by decide +kernel) (C_nw rfl (by decide +kernel)) ?_
  refine c_board ?_
  refine lw_switch h0 h15 ?_
  refine vL_law_8 (D := 59) ⟨by decide +kernel, ⟨9, 32, x_is_new⟩, by decide +kernel, ?_⟩
  dsimp only
  rw [zKl 79 (by decide)]
  refine S_eq 80 (by decide +kernel) (C_nw rfl (by decide +kernel)) ?_
  refine c_model ?_
  refine xS_mono (s_acopy (r0 := 96) (r1 := 97) (by decide) (cis (by decide +kernel) (by decide)) (cis (by decide +kernel) (by decide)) (Q := fun h2 => (∀ r, r ≠ 97 → h2.2 r = kwF kwTi r) ∧ ∀ i, i < 13700 → h2.2 97 i = kwF kwTi 96 i) (fun h' e1 e2 e3 => ⟨e2, e3⟩) zSh_new) (fun r h2 q => ?_)
  rcases r with x | x | x | x
  · exact q.2.elim
  · exact q.2.elim
  · exact q.2.elim
  · refine xJ_mono (lw_loop hL2 512 _ _ 0 h2 (by omega) (by omega) ?_ ?_ (zInv_new q.2.1 q.2.2) q.1) (fun r h1 z => z.2)
    · rw [m5, m7]; omega
    · rw [m6, m8]; omega
