variable {g : xG} {D : Nat}
theorem wSi {M : Nat} {args : List xV} {h : xH} {Q1 Q2 : Int → xH → Prop} (hs : zSi g D M args h Q1) (hq : ∀ x h1, Q1 x h1 → Q2 x h1) : zSi g D M args h Q2 := zS_mono hs (fun r h1 _ q => by
  rcases r with x | x | x | x
  · exact hq _ _ q
  all_goals exact q)
theorem wSl {M : Nat} {args : List xV} {h : xH} {Q1 Q2 : Int → xH → Prop} (hs : zSl g D M args h Q1) (hq : ∀ x h1, Q1 x h1 → Q2 x h1) : zSl g D M args h Q2 := zS_mono hs (fun r h1 _ q => by
  rcases r with x | x | x | x
  · exact q
  · exact hq _ _ q
  all_goals exact q)
theorem lw_b {i L : Int} (h0 : 0 ≤ i) (h1 : i + 8 ≤ L) (hL : L ≤ 4096) (j : Int) (j0 : 0 ≤ j) (j1 : j < 8) : 0 ≤ x32 (i + j) ∧ x32 (i + j) < L := by
  rw [x32_id (by omega) (by omega)]; omega
theorem lw_32 (x : Int32) : -2147483648 ≤ x.toInt ∧ x.toInt < 2147483648 := ⟨x.le_toInt, x.toInt_lt⟩
theorem lw_cmp (x : Int) : x_cmp x x = 0 := by unfold x_cmp; rw [if_neg (by omega), if_pos rfl]
/-- the law goes on behind a call -/
def lwN (g : xG) (D k n : Nat) (i : Int) : Prop := ∀ h2, zInv h2 → zJ g (D + 37) 247 k n 1671 [xr 1, xr 16, xr 95, xi i] [] h2 (x_qi fun x _ => x = 1)
theorem lw_216 {k n : Nat} {i : Int} {h : xH} (h0 : 0 ≤ i) (h1 : i + 8 ≤ (g.L : Int)) (hL : (g.L : Int) ≤ 4096) (I : zInv h) (K : lwN g D k n i) : zJ g (D + 37) 247 k n 216 [xr 1, xr 16, xr 95, xi i] [] h (x_qi fun x _ => x = 1) := by
  have b1 := lw_b h0 h1 hL 1 (by decide) (by decide)
  exact zL_law_216 ⟨b1, wSi (op_town I) (fun x h1 q => ⟨b1, wSi q (fun y h2 e => ⟨fun _ => K h2 e.2, fun ne => absurd e.1 ne⟩)⟩)⟩
theorem lw_239 {k n : Nat} {i : Int} {h : xH} (h0 : 0 ≤ i) (h1 : i + 8 ≤ (g.L : Int)) (hL : (g.L : Int) ≤ 4096) (I : zInv h) (K : lwN g D k n i) : zJ g (D + 37) 247 k n 239 [xr 1, xr 16, xr 95, xi i] [] h (x_qi fun x _ => x = 1) := by
  have b1 := lw_b h0 h1 hL 1 (by decide) (by decide)
  have b2 := lw_b h0 h1 hL 2 (by decide) (by decide)
  exact zL_law_239 ⟨b1, b2, wSi (op_person I) (fun x h1 q => ⟨b1, b2, wSi q (fun y h2 e => ⟨fun _ => K h2 e.2, fun ne => absurd e.1 ne⟩)⟩)⟩
theorem lw_272 {k n : Nat} {i : Int} {h : xH} (h0 : 0 ≤ i) (h1 : i + 8 ≤ (g.L : Int)) (hL : (g.L : Int) ≤ 4096) (I : zInv h) (K : lwN g D k n i) : zJ g (D + 37) 247 k n 272 [xr 1, xr 16, xr 95, xi i] [] h (x_qi fun x _ => x = 1) := by
  have b1 := lw_b h0 h1 hL 1 (by decide) (by decide)
  exact zL_law_272 ⟨b1, wSi (op_die I) (fun x h1 q => ⟨b1, wSi q (fun y h2 e => ⟨fun _ => K h2 e.2, fun ne => absurd e.1 ne⟩)⟩)⟩
theorem lw_295 {k n : Nat} {i : Int} {h : xH} (h0 : 0 ≤ i) (h1 : i + 8 ≤ (g.L : Int)) (hL : (g.L : Int) ≤ 4096) (I : zInv h) (K : lwN g D k n i) : zJ g (D + 37) 247 k n 295 [xr 1, xr 16, xr 95, xi i] [] h (x_qi fun x _ => x = 1) := by
  have b1 := lw_b h0 h1 hL 1 (by decide) (by decide)
  have b2 := lw_b h0 h1 hL 2 (by decide) (by decide)
  have b3 := lw_b h0 h1 hL 3 (by decide) (by decide)
  exact zL_law_295 ⟨b1, b2, b3, wSi (op_flaw I) (fun x h1 q => ⟨b1, b2, b3, wSi q (fun y h2 e => ⟨fun _ => K h2 e.2, fun ne => absurd e.1 ne⟩)⟩)⟩
theorem lw_338 {k n : Nat} {i : Int} {h : xH} (h0 : 0 ≤ i) (h1 : i + 8 ≤ (g.L : Int)) (hL : (g.L : Int) ≤ 4096) (I : zInv h) (K : lwN g D k n i) : zJ g (D + 37) 247 k n 338 [xr 1, xr 16, xr 95, xi i] [] h (x_qi fun x _ => x = 1) := by
  have b1 := lw_b h0 h1 hL 1 (by decide) (by decide)
  exact zL_law_338 ⟨b1, wSi (op_web I) (fun x h1 q => ⟨b1, wSi q (fun y h2 e => ⟨fun _ => K h2 e.2, fun ne => absurd e.1 ne⟩)⟩)⟩
theorem lw_361 {k n : Nat} {i : Int} {h : xH} (h0 : 0 ≤ i) (h1 : i + 8 ≤ (g.L : Int)) (hL : (g.L : Int) ≤ 4096) (I : zInv h) (K : lwN g D k n i) : zJ g (D + 37) 247 k n 361 [xr 1, xr 16, xr 95, xi i] [] h (x_qi fun x _ => x = 1) := by
  have b1 := lw_b h0 h1 hL 1 (by decide) (by decide)
  have b2 := lw_b h0 h1 hL 2 (by decide) (by decide)
  have b3 := lw_b h0 h1 hL 3 (by decide) (by decide)
  have b4 := lw_b h0 h1 hL 4 (by decide) (by decide)
  have b5 := lw_b h0 h1 hL 5 (by decide) (by decide)
  have b6 := lw_b h0 h1 hL 6 (by decide) (by decide)
  exact zL_law_361 ⟨b1, b2, b3, b4, b5, b6, wSi (op_measure I) (fun x h1 q => ⟨b1, b2, b3, b4, b5, b6, wSi q (fun y h2 e => ⟨fun _ => K h2 e.2, fun ne => absurd e.1 ne⟩)⟩)⟩
theorem lw_436 {k n : Nat} {i : Int} {h : xH} (h0 : 0 ≤ i) (h1 : i + 8 ≤ (g.L : Int)) (hL : (g.L : Int) ≤ 4096) (I : zInv h) (K : lwN g D k n i) : zJ g (D + 37) 247 k n 436 [xr 1, xr 16, xr 95, xi i] [] h (x_qi fun x _ => x = 1) := by
  have b1 := lw_b h0 h1 hL 1 (by decide) (by decide)
  have b2 := lw_b h0 h1 hL 2 (by decide) (by decide)
  have b3 := lw_b h0 h1 hL 3 (by decide) (by decide)
  have b4 := lw_b h0 h1 hL 4 (by decide) (by decide)
  exact zL_law_436 ⟨b1, b2, b3, b4, wSi (op_board I) (fun x h1 q => ⟨b1, b2, b3, b4, wSi q (fun y h2 e => ⟨fun _ => K h2 e.2, fun ne => absurd e.1 ne⟩)⟩)⟩
theorem lw_489 {k n : Nat} {i : Int} {h : xH} (h0 : 0 ≤ i) (h1 : i + 8 ≤ (g.L : Int)) (hL : (g.L : Int) ≤ 4096) (I : zInv h) (K : lwN g D k n i) : zJ g (D + 37) 247 k n 489 [xr 1, xr 16, xr 95, xi i] [] h (x_qi fun x _ => x = 1) := by
  have b1 := lw_b h0 h1 hL 1 (by decide) (by decide)
  exact zL_law_489 ⟨b1, wSi (op_days I) (fun x h1 q => ⟨b1, wSi q (fun y h2 e => ⟨fun _ => K h2 e.2, fun ne => absurd e.1 ne⟩)⟩)⟩
theorem lw_512 {k n : Nat} {i : Int} {h : xH} (h0 : 0 ≤ i) (h1 : i + 8 ≤ (g.L : Int)) (hL : (g.L : Int) ≤ 4096) (I : zInv h) (K : lwN g D k n i) : zJ g (D + 37) 247 k n 512 [xr 1, xr 16, xr 95, xi i] [] h (x_qi fun x _ => x = 1) := by
  have b1 := lw_b h0 h1 hL 1 (by decide) (by decide)
  have b2 := lw_b h0 h1 hL 2 (by decide) (by decide)
  have b3 := lw_b h0 h1 hL 3 (by decide) (by decide)
  have b4 := lw_b h0 h1 hL 4 (by decide) (by decide)
  have b5 := lw_b h0 h1 hL 5 (by decide) (by decide)
  exact zL_law_512 ⟨b1, b2, b3, b4, b5, wSi (op_feed I) (fun x h1 q => ⟨b1, b2, b3, b4, b5, wSi q (fun y h2 e => ⟨fun _ => K h2 e.2, fun ne => absurd e.1 ne⟩)⟩)⟩
theorem lw_575 {k n : Nat} {i : Int} {h : xH} (h0 : 0 ≤ i) (h1 : i + 8 ≤ (g.L : Int)) (hL : (g.L : Int) ≤ 4096) (I : zInv h) (K : lwN g D k n i) : zJ g (D + 37) 247 k n 575 [xr 1, xr 16, xr 95, xi i] [] h (x_qi fun x _ => x = 1) := by
  have b1 := lw_b h0 h1 hL 1 (by decide) (by decide)
  exact zL_law_575 ⟨b1, wSi (op_end I) (fun x h1 q => ⟨b1, wSi q (fun y h2 e => ⟨fun _ => K h2 e.2, fun ne => absurd e.1 ne⟩)⟩)⟩
theorem lw_598 {k n : Nat} {i : Int} {h : xH} (h0 : 0 ≤ i) (h1 : i + 8 ≤ (g.L : Int)) (hL : (g.L : Int) ≤ 4096) (I : zInv h) (b0 : k + x_bc 87 ≤ x_bc 247) (n0 : n + x_bs 87 ≤ x_bs 247) (K : lwN g D (k + x_bc 87) (n + x_bs 87) i) : zJ g (D + 37) 247 k n 598 [xr 1, xr 16, xr 95, xi i] [] h (x_qi fun x _ => x = 1) := by
  exact zL_law_598 ⟨⟨b0, n0⟩, wSi (op_act I) (fun x h1 q => wSi q (fun y h2 e => ⟨fun _ => K h2 e.2, fun ne => absurd e.1 ne⟩))⟩
theorem lw_611 {k n : Nat} {i : Int} {h : xH} (h0 : 0 ≤ i) (h1 : i + 8 ≤ (g.L : Int)) (hL : (g.L : Int) ≤ 4096) (I : zInv h) (K : lwN g D k n i) : zJ g (D + 37) 247 k n 611 [xr 1, xr 16, xr 95, xi i] [] h (x_qi fun x _ => x = 1) := by
  have b1 := lw_b h0 h1 hL 1 (by decide) (by decide)
  exact zL_law_611 ⟨b1, wSi (op_fault I) (fun x h1 q => ⟨b1, wSi q (fun y h2 e => ⟨fun _ => K h2 e.2, fun ne => absurd e.1 ne⟩)⟩)⟩
theorem lw_634 {k n : Nat} {i : Int} {h : xH} (h0 : 0 ≤ i) (h1 : i + 8 ≤ (g.L : Int)) (hL : (g.L : Int) ≤ 4096) (I : zInv h) (K : lwN g D k n i) : zJ g (D + 37) 247 k n 634 [xr 1, xr 16, xr 95, xi i] [] h (x_qi fun x _ => x = 1) := by
  have b1 := lw_b h0 h1 hL 1 (by decide) (by decide)
  have b2 := lw_b h0 h1 hL 2 (by decide) (by decide)
  have b3 := lw_b h0 h1 hL 3 (by decide) (by decide)
  exact zL_law_634 ⟨b1, b2, b3, wSi (op_force I) (fun x h1 q => ⟨b1, b2, b3, wSi q (fun y h2 e => ⟨fun _ => K h2 e.2, fun ne => absurd e.1 ne⟩)⟩)⟩
theorem lw_677 {k n : Nat} {i : Int} {h : xH} (h0 : 0 ≤ i) (h1 : i + 8 ≤ (g.L : Int)) (hL : (g.L : Int) ≤ 4096) (I : zInv h) (K : lwN g D k n i) : zJ g (D + 37) 247 k n 677 [xr 1, xr 16, xr 95, xi i] [] h (x_qi fun x _ => x = 1) := by
  have b1 := lw_b h0 h1 hL 1 (by decide) (by decide)
  have b2 := lw_b h0 h1 hL 2 (by decide) (by decide)
  have b3 := lw_b h0 h1 hL 3 (by decide) (by decide)
  have b4 := lw_b h0 h1 hL 4 (by decide) (by decide)
  exact zL_law_677 ⟨b1, b2, b3, b4, wSi (op_sum I) (fun x h1 q => ⟨b1, b2, b3, b4, wSi q (fun y h2 e => ⟨fun _ => K h2 e.2, fun ne => absurd e.1 ne⟩)⟩)⟩
theorem lw_730 {k n : Nat} {i : Int} {h : xH} (h0 : 0 ≤ i) (h1 : i + 8 ≤ (g.L : Int)) (hL : (g.L : Int) ≤ 4096) (I : zInv h) (K : lwN g D k n i) : zJ g (D + 37) 247 k n 730 [xr 1, xr 16, xr 95, xi i] [] h (x_qi fun x _ => x = 1) := by
  have b1 := lw_b h0 h1 hL 1 (by decide) (by decide)
  have b2 := lw_b h0 h1 hL 2 (by decide) (by decide)
  exact zL_law_730 ⟨b1, b2, wSi (op_says I) (fun x h1 q => ⟨b1, b2, wSi q (fun y h2 e => ⟨fun _ => K h2 e.2, fun ne => absurd e.1 ne⟩)⟩)⟩
theorem lw_763 {k n : Nat} {i : Int} {h : xH} (h0 : 0 ≤ i) (h1 : i + 8 ≤ (g.L : Int)) (hL : (g.L : Int) ≤ 4096) (I : zInv h) (K : lwN g D k n i) : zJ g (D + 37) 247 k n 763 [xr 1, xr 16, xr 95, xi i] [] h (x_qi fun x _ => x = 1) := by
  have b1 := lw_b h0 h1 hL 1 (by decide) (by decide)
  have b2 := lw_b h0 h1 hL 2 (by decide) (by decide)
  have b3 := lw_b h0 h1 hL 3 (by decide) (by decide)
  exact zL_law_763 ⟨b1, b2, b3, wSi (op_seal I) (fun x h1 q => ⟨b1, b2, b3, wSi q (fun y h2 e => ⟨fun _ => K h2 e.2, fun ne => absurd e.1 ne⟩)⟩)⟩
theorem lw_806 {k n : Nat} {i : Int} {h : xH} (h0 : 0 ≤ i) (h1 : i + 8 ≤ (g.L : Int)) (hL : (g.L : Int) ≤ 4096) (I : zInv h) (K : lwN g D k n i) : zJ g (D + 37) 247 k n 806 [xr 1, xr 16, xr 95, xi i] [] h (x_qi fun x _ => x = 1) := by
  have b1 := lw_b h0 h1 hL 1 (by decide) (by decide)
  have b2 := lw_b h0 h1 hL 2 (by decide) (by decide)
  exact zL_law_806 ⟨b1, b2, wSi (op_sealOf I) (fun x h1 q => ⟨b1, b2, wSi q (fun y h2 e => ⟨fun _ => K h2 e.2, fun ne => absurd e.1 ne⟩)⟩)⟩
theorem lw_839 {k n : Nat} {i : Int} {h : xH} (h0 : 0 ≤ i) (h1 : i + 8 ≤ (g.L : Int)) (hL : (g.L : Int) ≤ 4096) (I : zInv h) (K : lwN g D k n i) : zJ g (D + 37) 247 k n 839 [xr 1, xr 16, xr 95, xi i] [] h (x_qi fun x _ => x = 1) := by
  have b1 := lw_b h0 h1 hL 1 (by decide) (by decide)
  exact zL_law_839 ⟨b1, wSi (op_look I) (fun x h1 q => ⟨b1, wSi q (fun y h2 e => ⟨fun _ => K h2 e.2, fun ne => absurd e.1 ne⟩)⟩)⟩
theorem lw_862 {k n : Nat} {i : Int} {h : xH} (h0 : 0 ≤ i) (h1 : i + 8 ≤ (g.L : Int)) (hL : (g.L : Int) ≤ 4096) (I : zInv h) (K : lwN g D k n i) : zJ g (D + 37) 247 k n 862 [xr 1, xr 16, xr 95, xi i] [] h (x_qi fun x _ => x = 1) := by
  have b1 := lw_b h0 h1 hL 1 (by decide) (by decide)
  exact zL_law_862 ⟨b1, wSi (op_allow I) (fun x h1 q => ⟨b1, wSi q (fun y h2 e => ⟨fun _ => K h2 e.2, fun ne => absurd e.1 ne⟩)⟩)⟩
theorem lw_885 {k n : Nat} {i : Int} {h : xH} (h0 : 0 ≤ i) (h1 : i + 8 ≤ (g.L : Int)) (hL : (g.L : Int) ≤ 4096) (I : zInv h) (K : lwN g D k n i) : zJ g (D + 37) 247 k n 885 [xr 1, xr 16, xr 95, xi i] [] h (x_qi fun x _ => x = 1) := by
  have b1 := lw_b h0 h1 hL 1 (by decide) (by decide)
  have b2 := lw_b h0 h1 hL 2 (by decide) (by decide)
  exact zL_law_885 ⟨b1, b2, wSl (op_kind I) (fun x h1 q => ⟨b1, b2, wSl q (fun y h2 e => ⟨fun _ => K h2 e.2, fun ne => absurd (by rw [e.1]; exact lw_cmp _) ne⟩)⟩)⟩
theorem lw_919 {k n : Nat} {i : Int} {h : xH} (h0 : 0 ≤ i) (h1 : i + 8 ≤ (g.L : Int)) (hL : (g.L : Int) ≤ 4096) (I : zInv h) (K : lwN g D k n i) : zJ g (D + 37) 247 k n 919 [xr 1, xr 16, xr 95, xi i] [] h (x_qi fun x _ => x = 1) := by
  have b1 := lw_b h0 h1 hL 1 (by decide) (by decide)
  exact zL_law_919 ⟨b1, wSi (op_claim I) (fun x h1 q => ⟨b1, wSi q (fun y h2 e => ⟨fun _ => K h2 e.2, fun ne => absurd e.1 ne⟩)⟩)⟩
theorem lw_942 {k n : Nat} {i : Int} {h : xH} (h0 : 0 ≤ i) (h1 : i + 8 ≤ (g.L : Int)) (hL : (g.L : Int) ≤ 4096) (I : zInv h) (K : lwN g D k n i) : zJ g (D + 37) 247 k n 942 [xr 1, xr 16, xr 95, xi i] [] h (x_qi fun x _ => x = 1) := by
  have b1 := lw_b h0 h1 hL 1 (by decide) (by decide)
  have b2 := lw_b h0 h1 hL 2 (by decide) (by decide)
  exact zL_law_942 ⟨b1, b2, wSi (op_claimOf I) (fun x h1 q => ⟨b1, b2, wSi q (fun y h2 e => ⟨fun _ => K h2 e.2, fun ne => absurd e.1 ne⟩)⟩)⟩
theorem lw_975 {k n : Nat} {i : Int} {h : xH} (h0 : 0 ≤ i) (h1 : i + 8 ≤ (g.L : Int)) (hL : (g.L : Int) ≤ 4096) (I : zInv h) (K : lwN g D k n i) : zJ g (D + 37) 247 k n 975 [xr 1, xr 16, xr 95, xi i] [] h (x_qi fun x _ => x = 1) := by
  have b1 := lw_b h0 h1 hL 1 (by decide) (by decide)
  exact zL_law_975 ⟨b1, wSi (op_undo I) (fun x h1 q => ⟨b1, wSi q (fun y h2 e => ⟨fun _ => K h2 e.2, fun ne => absurd e.1 ne⟩)⟩)⟩
theorem lw_998 {k n : Nat} {i : Int} {h : xH} (h0 : 0 ≤ i) (h1 : i + 8 ≤ (g.L : Int)) (hL : (g.L : Int) ≤ 4096) (I : zInv h) (K : lwN g D k n i) : zJ g (D + 37) 247 k n 998 [xr 1, xr 16, xr 95, xi i] [] h (x_qi fun x _ => x = 1) := by
  have b1 := lw_b h0 h1 hL 1 (by decide) (by decide)
  have b2 := lw_b h0 h1 hL 2 (by decide) (by decide)
  have b3 := lw_b h0 h1 hL 3 (by decide) (by decide)
  have b4 := lw_b h0 h1 hL 4 (by decide) (by decide)
  have b5 := lw_b h0 h1 hL 5 (by decide) (by decide)
  have b6 := lw_b h0 h1 hL 6 (by decide) (by decide)
  have b7 := lw_b h0 h1 hL 7 (by decide) (by decide)
  exact zL_law_998 ⟨b1, b2, b3, b4, b5, b6, b7, wSi (op_fined I) (fun x h1 q => ⟨b1, b2, b3, b4, b5, b6, b7, wSi q (fun y h2 e => ⟨fun _ => K h2 e.2, fun ne => absurd e.1 ne⟩)⟩)⟩
theorem lw_1085 {k n : Nat} {i : Int} {h : xH} (h0 : 0 ≤ i) (h1 : i + 8 ≤ (g.L : Int)) (hL : (g.L : Int) ≤ 4096) (I : zInv h) (K : lwN g D k n i) : zJ g (D + 37) 247 k n 1085 [xr 1, xr 16, xr 95, xi i] [] h (x_qi fun x _ => x = 1) := by
  have b1 := lw_b h0 h1 hL 1 (by decide) (by decide)
  exact zL_law_1085 ⟨b1, wSl (op_book (lw_32 _) I) (fun x h1 q => ⟨b1, wSl q (fun y h2 e => ⟨fun _ => K h2 e.2, fun ne => absurd (by rw [e.1]; exact lw_cmp _) ne⟩)⟩)⟩
theorem lw_1109 {k n : Nat} {i : Int} {h : xH} (h0 : 0 ≤ i) (h1 : i + 8 ≤ (g.L : Int)) (hL : (g.L : Int) ≤ 4096) (I : zInv h) (K : lwN g D k n i) : zJ g (D + 37) 247 k n 1109 [xr 1, xr 16, xr 95, xi i] [] h (x_qi fun x _ => x = 1) := by
  have b1 := lw_b h0 h1 hL 1 (by decide) (by decide)
  have b2 := lw_b h0 h1 hL 2 (by decide) (by decide)
  exact zL_law_1109 ⟨b1, b2, wSi (op_seed I) (fun x h1 q => ⟨b1, b2, wSi q (fun y h2 e => ⟨fun _ => K h2 e.2, fun ne => absurd e.1 ne⟩)⟩)⟩
theorem lw_1142 {k n : Nat} {i : Int} {h : xH} (h0 : 0 ≤ i) (h1 : i + 8 ≤ (g.L : Int)) (hL : (g.L : Int) ≤ 4096) (I : zInv h) (K : lwN g D k n i) : zJ g (D + 37) 247 k n 1142 [xr 1, xr 16, xr 95, xi i] [] h (x_qi fun x _ => x = 1) := by
  have b1 := lw_b h0 h1 hL 1 (by decide) (by decide)
  have b2 := lw_b h0 h1 hL 2 (by decide) (by decide)
  have b3 := lw_b h0 h1 hL 3 (by decide) (by decide)
  exact zL_law_1142 ⟨b1, b2, b3, wSi (op_trade I) (fun x h1 q => ⟨b1, b2, b3, wSi q (fun y h2 e => ⟨fun _ => K h2 e.2, fun ne => absurd e.1 ne⟩)⟩)⟩
theorem lw_1185 {k n : Nat} {i : Int} {h : xH} (h0 : 0 ≤ i) (h1 : i + 8 ≤ (g.L : Int)) (hL : (g.L : Int) ≤ 4096) (I : zInv h) (K : lwN g D k n i) : zJ g (D + 37) 247 k n 1185 [xr 1, xr 16, xr 95, xi i] [] h (x_qi fun x _ => x = 1) := by
  have b1 := lw_b h0 h1 hL 1 (by decide) (by decide)
  exact zL_law_1185 ⟨b1, wSi (op_need I) (fun x h1 q => ⟨b1, wSi q (fun y h2 e => ⟨fun _ => K h2 e.2, fun ne => absurd e.1 ne⟩)⟩)⟩
theorem lw_1208 {k n : Nat} {i : Int} {h : xH} (h0 : 0 ≤ i) (h1 : i + 8 ≤ (g.L : Int)) (hL : (g.L : Int) ≤ 4096) (I : zInv h) (K : lwN g D k n i) : zJ g (D + 37) 247 k n 1208 [xr 1, xr 16, xr 95, xi i] [] h (x_qi fun x _ => x = 1) := by
  have b1 := lw_b h0 h1 hL 1 (by decide) (by decide)
  have b2 := lw_b h0 h1 hL 2 (by decide) (by decide)
  have b3 := lw_b h0 h1 hL 3 (by decide) (by decide)
  exact zL_law_1208 ⟨b1, b2, b3, wSi (op_doubt I) (fun x h1 q => ⟨b1, b2, b3, wSi q (fun y h2 e => ⟨fun _ => K h2 e.2, fun ne => absurd e.1 ne⟩)⟩)⟩
theorem lw_1251 {k n : Nat} {i : Int} {h : xH} (h0 : 0 ≤ i) (h1 : i + 8 ≤ (g.L : Int)) (hL : (g.L : Int) ≤ 4096) (I : zInv h) (K : lwN g D k n i) : zJ g (D + 37) 247 k n 1251 [xr 1, xr 16, xr 95, xi i] [] h (x_qi fun x _ => x = 1) := by
  have b1 := lw_b h0 h1 hL 1 (by decide) (by decide)
  have b2 := lw_b h0 h1 hL 2 (by decide) (by decide)
  have b3 := lw_b h0 h1 hL 3 (by decide) (by decide)
  exact zL_law_1251 ⟨b1, b2, b3, wSi (op_proof (lw_32 _) I) (fun x h1 q => ⟨b1, b2, b3, wSi q (fun y h2 e => ⟨fun _ => K h2 e.2, fun ne => absurd e.1 ne⟩)⟩)⟩
theorem lw_1294 {k n : Nat} {i : Int} {h : xH} (h0 : 0 ≤ i) (h1 : i + 8 ≤ (g.L : Int)) (hL : (g.L : Int) ≤ 4096) (I : zInv h) (K : lwN g D k n i) : zJ g (D + 37) 247 k n 1294 [xr 1, xr 16, xr 95, xi i] [] h (x_qi fun x _ => x = 1) := by
  have b1 := lw_b h0 h1 hL 1 (by decide) (by decide)
  have b2 := lw_b h0 h1 hL 2 (by decide) (by decide)
  have b3 := lw_b h0 h1 hL 3 (by decide) (by decide)
  exact zL_law_1294 ⟨b1, b2, b3, wSi (op_prize (lw_32 _) I) (fun x h1 q => ⟨b1, b2, b3, wSi q (fun y h2 e => ⟨fun _ => K h2 e.2, fun ne => absurd e.1 ne⟩)⟩)⟩
theorem lw_1337 {k n : Nat} {i : Int} {h : xH} (h0 : 0 ≤ i) (h1 : i + 8 ≤ (g.L : Int)) (hL : (g.L : Int) ≤ 4096) (I : zInv h) (K : lwN g D k n i) : zJ g (D + 37) 247 k n 1337 [xr 1, xr 16, xr 95, xi i] [] h (x_qi fun x _ => x = 1) := by
  have b1 := lw_b h0 h1 hL 1 (by decide) (by decide)
  have b2 := lw_b h0 h1 hL 2 (by decide) (by decide)
  exact zL_law_1337 ⟨b1, b2, wSi (op_way I) (fun x h1 q => ⟨b1, b2, wSi q (fun y h2 e => ⟨fun _ => K h2 e.2, fun ne => absurd e.1 ne⟩)⟩)⟩
theorem lw_1370 {k n : Nat} {i : Int} {h : xH} (h0 : 0 ≤ i) (h1 : i + 8 ≤ (g.L : Int)) (hL : (g.L : Int) ≤ 4096) (I : zInv h) (K : lwN g D k n i) : zJ g (D + 37) 247 k n 1370 [xr 1, xr 16, xr 95, xi i] [] h (x_qi fun x _ => x = 1) := by
  have b1 := lw_b h0 h1 hL 1 (by decide) (by decide)
  exact zL_law_1370 ⟨b1, wSi (op_lot I) (fun x h1 q => ⟨b1, wSi q (fun y h2 e => ⟨fun _ => K h2 e.2, fun ne => absurd e.1 ne⟩)⟩)⟩
theorem lw_1393 {k n : Nat} {i : Int} {h : xH} (h0 : 0 ≤ i) (h1 : i + 8 ≤ (g.L : Int)) (hL : (g.L : Int) ≤ 4096) (I : zInv h) (K : lwN g D k n i) : zJ g (D + 37) 247 k n 1393 [xr 1, xr 16, xr 95, xi i] [] h (x_qi fun x _ => x = 1) := by
  have b1 := lw_b h0 h1 hL 1 (by decide) (by decide)
  have b2 := lw_b h0 h1 hL 2 (by decide) (by decide)
  have b3 := lw_b h0 h1 hL 3 (by decide) (by decide)
  exact zL_law_1393 ⟨b1, b2, b3, wSi (op_draw (lw_32 _) I) (fun x h1 q => ⟨b1, b2, b3, wSi q (fun y h2 e => ⟨fun _ => K h2 e.2, fun ne => absurd e.1 ne⟩)⟩)⟩
theorem lw_1436 {k n : Nat} {i : Int} {h : xH} (h0 : 0 ≤ i) (h1 : i + 8 ≤ (g.L : Int)) (hL : (g.L : Int) ≤ 4096) (I : zInv h) (K : lwN g D k n i) : zJ g (D + 37) 247 k n 1436 [xr 1, xr 16, xr 95, xi i] [] h (x_qi fun x _ => x = 1) := by
  have b1 := lw_b h0 h1 hL 1 (by decide) (by decide)
  have b2 := lw_b h0 h1 hL 2 (by decide) (by decide)
  have b3 := lw_b h0 h1 hL 3 (by decide) (by decide)
  exact zL_law_1436 ⟨b1, b2, b3, wSi (op_count (lw_32 _) I) (fun x h1 q => ⟨b1, b2, b3, wSi q (fun y h2 e => ⟨fun _ => K h2 e.2, fun ne => absurd e.1 ne⟩)⟩)⟩
theorem lw_1479 {k n : Nat} {i : Int} {h : xH} (h0 : 0 ≤ i) (h1 : i + 8 ≤ (g.L : Int)) (hL : (g.L : Int) ≤ 4096) (I : zInv h) (K : lwN g D k n i) : zJ g (D + 37) 247 k n 1479 [xr 1, xr 16, xr 95, xi i] [] h (x_qi fun x _ => x = 1) := by
  have b1 := lw_b h0 h1 hL 1 (by decide) (by decide)
  have b2 := lw_b h0 h1 hL 2 (by decide) (by decide)
  exact zL_law_1479 ⟨b1, b2, wSi (op_lotOf I) (fun x h1 q => ⟨b1, b2, wSi q (fun y h2 e => ⟨fun _ => K h2 e.2, fun ne => absurd e.1 ne⟩)⟩)⟩
theorem lw_1512 {k n : Nat} {i : Int} {h : xH} (h0 : 0 ≤ i) (h1 : i + 8 ≤ (g.L : Int)) (hL : (g.L : Int) ≤ 4096) (I : zInv h) (K : lwN g D k n i) : zJ g (D + 37) 247 k n 1512 [xr 1, xr 16, xr 95, xi i] [] h (x_qi fun x _ => x = 1) := by
  have b1 := lw_b h0 h1 hL 1 (by decide) (by decide)
  have b2 := lw_b h0 h1 hL 2 (by decide) (by decide)
  exact zL_law_1512 ⟨b1, b2, wSi (op_judge I) (fun x h1 q => ⟨b1, b2, wSi q (fun y h2 e => ⟨fun _ => K h2 e.2, fun ne => absurd e.1 ne⟩)⟩)⟩
theorem lw_1545 {k n : Nat} {i : Int} {h : xH} (h0 : 0 ≤ i) (h1 : i + 8 ≤ (g.L : Int)) (hL : (g.L : Int) ≤ 4096) (I : zInv h) (K : lwN g D k n i) : zJ g (D + 37) 247 k n 1545 [xr 1, xr 16, xr 95, xi i] [] h (x_qi fun x _ => x = 1) := by
  have b1 := lw_b h0 h1 hL 1 (by decide) (by decide)
  have b2 := lw_b h0 h1 hL 2 (by decide) (by decide)
  have b3 := lw_b h0 h1 hL 3 (by decide) (by decide)
  exact zL_law_1545 ⟨b1, b2, b3, wSi (op_market I) (fun x h1 q => ⟨b1, b2, b3, wSi q (fun y h2 e => ⟨fun _ => K h2 e.2, fun ne => absurd e.1 ne⟩)⟩)⟩
theorem lw_1588 {k n : Nat} {i : Int} {h : xH} (h0 : 0 ≤ i) (h1 : i + 8 ≤ (g.L : Int)) (hL : (g.L : Int) ≤ 4096) (I : zInv h) (K : lwN g D k n i) : zJ g (D + 37) 247 k n 1588 [xr 1, xr 16, xr 95, xi i] [] h (x_qi fun x _ => x = 1) := by
  have b1 := lw_b h0 h1 hL 1 (by decide) (by decide)
  have b2 := lw_b h0 h1 hL 2 (by decide) (by decide)
  exact zL_law_1588 ⟨b1, b2, wSl (op_tried I) (fun x h1 q => ⟨b1, b2, wSl q (fun y h2 e => ⟨fun _ => K h2 e.2, fun ne => absurd (by rw [e.1]; exact lw_cmp _) ne⟩)⟩)⟩
theorem lw_1622 {k n : Nat} {i : Int} {h : xH} (h0 : 0 ≤ i) (h1 : i + 8 ≤ (g.L : Int)) (hL : (g.L : Int) ≤ 4096) (I : zInv h) (K : lwN g D k n i) : zJ g (D + 37) 247 k n 1622 [xr 1, xr 16, xr 95, xi i] [] h (x_qi fun x _ => x = 1) := by
  exact zL_law_1622 (wSi (op_image I) (fun x h1 q => wSi q (fun y h2 e => ⟨fun _ => K h2 e.2, fun ne => absurd e.1 ne⟩)))
theorem lw_1635 {k n : Nat} {i : Int} {h : xH} (h0 : 0 ≤ i) (h1 : i + 8 ≤ (g.L : Int)) (hL : (g.L : Int) ≤ 4096) (I : zInv h) (K : lwN g D k n i) : zJ g (D + 37) 247 k n 1635 [xr 1, xr 16, xr 95, xi i] [] h (x_qi fun x _ => x = 1) := by
  exact zL_law_1635 (wSi (op_back I) (fun x h1 q => wSi q (fun y h2 e => ⟨fun _ => K h2 e.2, fun ne => absurd e.1 ne⟩)))
theorem lw_1648 {k n : Nat} {i : Int} {h : xH} (h0 : 0 ≤ i) (h1 : i + 8 ≤ (g.L : Int)) (hL : (g.L : Int) ≤ 4096) (I : zInv h) (K : lwN g D k n i) : zJ g (D + 37) 247 k n 1648 [xr 1, xr 16, xr 95, xi i] [] h (x_qi fun x _ => x = 1) := by
  have b1 := lw_b h0 h1 hL 1 (by decide) (by decide)
  exact zL_law_1648 ⟨b1, wSi (op_about I) (fun x h1 q => ⟨b1, wSi q (fun y h2 e => ⟨fun _ => K h2 e.2, fun ne => absurd e.1 ne⟩)⟩)⟩
theorem lw_m : x_bc 87 = 4 ∧ x_bs 87 = 1810 ∧ x_bc 247 = 3000 ∧ x_bs 247 = 1100000 := ⟨rfl, rfl, rfl, rfl⟩
/-- THE LAW'S LOOP -/
theorem lw_loop (hL : (g.L : Int) ≤ 4096) : ∀ (N k n : Nat) (i : Int) (h : xH), 0 ≤ i → (g.L : Int) ≤ i + 8 * N → k + 4 * N ≤ 3000 → n + 1810 * N ≤ 1100000 → zInv h → zJ g (D + 37) 247 k n 18 [xr 1, xr 16, xr 95, xi i] [] h (x_qi fun x _ => x = 1) := by
  intro N
  induction N with
  | zero =>
    intro k n i h h0 h1 hk hn I
    refine zL_law_18 ?_
    rw [x32_id (by omega) (by omega)]
    exact ⟨fun _ => zL_law_1677 ⟨Or.inr rfl, rfl⟩, fun z => absurd z (by omega)⟩
  | succ N ih =>
    intro k n i h h0 h1 hk hn I
    obtain ⟨m1, m2, m3, m4⟩ := lw_m
    refine zL_law_18 ?_
    rw [x32_id (by omega) (by omega)]
    refine ⟨fun _ => zL_law_1677 ⟨Or.inr rfl, rfl⟩, fun z => ⟨by omega, ?_⟩⟩
    have z : i + 8 ≤ (g.L : Int) := by omega
    have K : ∀ {k1 n1 : Nat}, k1 ≤ k + 4 → n1 ≤ n + 1810 → lwN g D k1 n1 i := by
      intro k1 n1 hk1 hn1 h2 I2
      refine zL_law_1671 ?_
      rw [x32_id (by omega) (by omega)]
      exact ih k1 n1 (i + 8) h2 (by omega) (by omega) (by omega) (by omega) I2
    exact ⟨fun _ => K (by omega) (by omega) h I, fun _ => lw_216 h0 z hL I (K (by omega) (by omega)), fun _ => lw_239 h0 z hL I (K (by omega) (by omega)), fun _ => lw_272 h0 z hL I (K (by omega) (by omega)), fun _ => lw_295 h0 z hL I (K (by omega) (by omega)), fun _ => lw_338 h0 z hL I (K (by omega) (by omega)), fun _ => lw_361 h0 z hL I (K (by omega) (by omega)), fun _ => lw_436 h0 z hL I (K (by omega) (by omega)), fun _ => lw_489 h0 z hL I (K (by omega) (by omega)), fun _ => lw_512 h0 z hL I (K (by omega) (by omega)), fun _ => lw_575 h0 z hL I (K (by omega) (by omega)), fun _ => lw_598 h0 z hL I (by omega) (by omega) (K (by omega) (by omega)), fun _ => lw_611 h0 z hL I (K (by omega) (by omega)), fun _ => lw_634 h0 z hL I (K (by omega) (by omega)), fun _ => lw_677 h0 z hL I (K (by omega) (by omega)), fun _ => lw_730 h0 z hL I (K (by omega) (by omega)), fun _ => lw_763 h0 z hL I (K (by omega) (by omega)), fun _ => lw_806 h0 z hL I (K (by omega) (by omega)), fun _ => lw_839 h0 z hL I (K (by omega) (by omega)), fun _ => lw_862 h0 z hL I (K (by omega) (by omega)), fun _ => lw_885 h0 z hL I (K (by omega) (by omega)), fun _ => lw_919 h0 z hL I (K (by omega) (by omega)), fun _ => lw_942 h0 z hL I (K (by omega) (by omega)), fun _ => lw_975 h0 z hL I (K (by omega) (by omega)), fun _ => lw_998 h0 z hL I (K (by omega) (by omega)), fun _ => lw_1085 h0 z hL I (K (by omega) (by omega)), fun _ => lw_1109 h0 z hL I (K (by omega) (by omega)), fun _ => lw_1142 h0 z hL I (K (by omega) (by omega)), fun _ => lw_1185 h0 z hL I (K (by omega) (by omega)), fun _ => lw_1208 h0 z hL I (K (by omega) (by omega)), fun _ => lw_1251 h0 z hL I (K (by omega) (by omega)), fun _ => lw_1294 h0 z hL I (K (by omega) (by omega)), fun _ => lw_1337 h0 z hL I (K (by omega) (by omega)), fun _ => lw_1370 h0 z hL I (K (by omega) (by omega)), fun _ => lw_1393 h0 z hL I (K (by omega) (by omega)), fun _ => lw_1436 h0 z hL I (K (by omega) (by omega)), fun _ => lw_1479 h0 z hL I (K (by omega) (by omega)), fun _ => lw_1512 h0 z hL I (K (by omega) (by omega)), fun _ => lw_1545 h0 z hL I (K (by omega) (by omega)), fun _ => lw_1588 h0 z hL I (K (by omega) (by omega)), fun _ => lw_1622 h0 z hL I (K (by omega) (by omega)), fun _ => lw_1635 h0 z hL I (K (by omega) (by omega)), fun _ => lw_1648 h0 z hL I (K (by omega) (by omega)), trivial⟩
