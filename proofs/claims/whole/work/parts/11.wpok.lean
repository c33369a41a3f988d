/-- the room of cells and slots isn't passed -/
theorem xj_b {g : xG} {D M k n pc : Nat} {ls st : List xV} {h : xH} {Q : xV → xH → Prop} (kk : k ≤ x_bc M → n ≤ x_bs M → xJ g D M k n pc ls st h Q) : xJ g D M k n pc ls st h Q := by
  intro p e s m args below meth c H locs la C R S hl ol os hk hn
  exact kk hk hn p e s m args below meth c H locs la C R S hl ol os hk hn
theorem x_nomath0 : ∀ q ∈ x_nm, q.2.2.cls ≠ "java/lang/Math" := by decide +kernel
theorem x_nomath {M j : Nat} (hM : M < 279) (m : Nat) (hm : (x_y m).cls = "java/lang/Math") : ¬ ((x_y M).cls, j, x_y m) ∈ x_nm := fun z => x_nomath0 _ z hm
/-! the conditions of a block are enough -/
theorem x_gv_fv {g : xG} {t : Nat} {x : Int} : x_gv t x = x_fv g t x := by
  unfold x_gv x_fv
  split
  · rfl
  · rfl
  · rename_i h1 h2
    rw [if_neg h1, if_neg h2]
theorem x_fitk_ok {t : Nat} {v : xV} {P : Prop} (h : x_fitk t v P) : x_fit t v ∧ P := by
  unfold x_fitk at h
  split at h
  · exact ⟨Or.inl rfl, h⟩
  · exact ⟨rfl, h⟩
  · exact ⟨rfl, h⟩
  · exact ⟨Or.inr ⟨rfl, h.1⟩, h.2⟩
  · exact h.elim
theorem x_ck2_ok {c : Nat} {g : xG} {D M : Nat} {args : List xV} {h : xH} {st : List xV} {nx : List xV → xH → Prop} {Q : xV → xH → Prop} (hw : x_ck2 c g D M args h st nx) (hn : ∀ r h1, nx (x_push r st) h1 → Q r h1) : xS g D M args h Q := by
  unfold x_ck2 at hw
  split at hw
  · refine xS_mono hw (fun r h1 hq => ?_)
    rcases r with x | x | r | u
    · exact hn (xi x) h1 hq
    · exact hq.elim
    · exact hq.elim
    · exact hq.elim
  · refine xS_mono hw (fun r h1 hq => ?_)
    rcases r with x | x | r | u
    · exact hq.elim
    · exact hn (xl x) h1 hq
    · exact hq.elim
    · exact hq.elim
  · refine xS_mono hw (fun r h1 hq => ?_)
    rcases r with x | x | r | u
    · exact hq.elim
    · exact hq.elim
    · exact hn (xr r) h1 hq
    · exact hq.elim
  · refine xS_mono hw (fun r h1 hq => ?_)
    rcases r with x | x | r | u
    · exact hq.elim
    · exact hq.elim
    · exact hq.elim
    · exact hn xu h1 hq
theorem x_sw_ok {J : Nat → Prop} {pc : Nat} {x : Int} : ∀ (os : List Int) (lo : Int), x_sw J pc x lo os → ∀ j : Nat, j < os.length → x = lo + j → ∃ off, os[j]? = some off ∧ J ((pc : Int) + off).toNat := by
  intro os
  induction os with
  | nil => intro lo _ j hj; simp at hj
  | cons o os ih =>
    intro lo hs j hj hx
    cases j with
    | zero => exact ⟨o, rfl, hs.1 (by omega)⟩
    | succ j =>
      obtain ⟨off, h1, h2⟩ := ih (lo + 1) hs.2 j (by simpa using hj) (by omega)
      exact ⟨off, by simpa using h1, h2⟩
theorem x_stk {np : Nat} {st st' : List xV} {v : xV} (h : st.drop np = v :: st') : st = ((st.take np).reverse).reverse ++ v :: st' ∧ ((st.take np).reverse).length = np := by
  have h1 : np < st.length := by
    rcases Nat.lt_or_ge np st.length with z | z
    · exact z
    · rw [List.drop_eq_nil_of_le z] at h; cases h
  refine ⟨?_, by rw [List.length_reverse, List.length_take]; omega⟩
  rw [List.reverse_reverse, ← h, List.take_append_drop]
theorem x_stk2 {np : Nat} {st : List xV} (h : np ≤ st.length) : st = ((st.take np).reverse).reverse ++ st.drop np ∧ ((st.take np).reverse).length = np := by
  refine ⟨by rw [List.reverse_reverse, List.take_append_drop], by rw [List.length_reverse, List.length_take]; omega⟩
set_option maxHeartbeats 4000000 in
theorem x_wp1_ok {g : xG} {D M pc k n len : Nat} {ins : Instr} {o : xO} {ls st : List xV} {h : xH} {Q : xV → xH → Prop} {nx : Nat → Nat → List xV → List xV → xH → Prop} (hM : M < 279) (hd : decode (x_cd M) pc = .ok (ins, len)) (hc : x_ck3 M pc (ins, len, o) = true) (hw : x_wp1 g D M (ins, len, o) pc k n ls st h Q nx)
    (hn : ∀ k n ls st h, nx k n ls st h → xJ g D M k n (x_npc pc (ins, len, o)) ls st h Q) : xJ g D M k n pc ls st h Q := by
  obtain ⟨a, b, c, v⟩ := o
  cases ins with
  | iadd =>
    simp only [x_ck3, Bool.and_eq_true, Bool.or_eq_true, beq_iff_eq, decide_eq_true_eq, Bool.not_eq_true', bne_iff_ne, ne_eq] at hc
    subst hc
    simp only [x_wp1] at hw
    split at hw
    · exact xj_iadd hd (hn _ _ _ _ _ hw)
    · exact hw.elim
  | isub =>
    simp only [x_ck3, Bool.and_eq_true, Bool.or_eq_true, beq_iff_eq, decide_eq_true_eq, Bool.not_eq_true', bne_iff_ne, ne_eq] at hc
    subst hc
    simp only [x_wp1] at hw
    split at hw
    · exact xj_isub hd (hn _ _ _ _ _ hw)
    · exact hw.elim
  | imul =>
    simp only [x_ck3, Bool.and_eq_true, Bool.or_eq_true, beq_iff_eq, decide_eq_true_eq, Bool.not_eq_true', bne_iff_ne, ne_eq] at hc
    subst hc
    simp only [x_wp1] at hw
    split at hw
    · exact xj_imul hd (hn _ _ _ _ _ hw)
    · exact hw.elim
  | iand =>
    simp only [x_ck3, Bool.and_eq_true, Bool.or_eq_true, beq_iff_eq, decide_eq_true_eq, Bool.not_eq_true', bne_iff_ne, ne_eq] at hc
    subst hc
    simp only [x_wp1] at hw
    split at hw
    · exact xj_iand hd (hn _ _ _ _ _ hw)
    · exact hw.elim
  | ior =>
    simp only [x_ck3, Bool.and_eq_true, Bool.or_eq_true, beq_iff_eq, decide_eq_true_eq, Bool.not_eq_true', bne_iff_ne, ne_eq] at hc
    subst hc
    simp only [x_wp1] at hw
    split at hw
    · exact xj_ior hd (hn _ _ _ _ _ hw)
    · exact hw.elim
  | ishl =>
    simp only [x_ck3, Bool.and_eq_true, Bool.or_eq_true, beq_iff_eq, decide_eq_true_eq, Bool.not_eq_true', bne_iff_ne, ne_eq] at hc
    subst hc
    simp only [x_wp1] at hw
    split at hw
    · exact xj_ishl hd (hn _ _ _ _ _ hw)
    · exact hw.elim
  | ishr =>
    simp only [x_ck3, Bool.and_eq_true, Bool.or_eq_true, beq_iff_eq, decide_eq_true_eq, Bool.not_eq_true', bne_iff_ne, ne_eq] at hc
    subst hc
    simp only [x_wp1] at hw
    split at hw
    · exact xj_ishr hd (hn _ _ _ _ _ hw)
    · exact hw.elim
  | iushr =>
    simp only [x_ck3, Bool.and_eq_true, Bool.or_eq_true, beq_iff_eq, decide_eq_true_eq, Bool.not_eq_true', bne_iff_ne, ne_eq] at hc
    subst hc
    simp only [x_wp1] at hw
    split at hw
    · exact xj_iushr hd (hn _ _ _ _ _ hw)
    · exact hw.elim
  | ladd =>
    simp only [x_ck3, Bool.and_eq_true, Bool.or_eq_true, beq_iff_eq, decide_eq_true_eq, Bool.not_eq_true', bne_iff_ne, ne_eq] at hc
    subst hc
    simp only [x_wp1] at hw
    split at hw
    · exact xj_ladd hd (hn _ _ _ _ _ hw)
    · exact hw.elim
  | lsub =>
    simp only [x_ck3, Bool.and_eq_true, Bool.or_eq_true, beq_iff_eq, decide_eq_true_eq, Bool.not_eq_true', bne_iff_ne, ne_eq] at hc
    subst hc
    simp only [x_wp1] at hw
    split at hw
    · exact xj_lsub hd (hn _ _ _ _ _ hw)
    · exact hw.elim
  | lmul =>
    simp only [x_ck3, Bool.and_eq_true, Bool.or_eq_true, beq_iff_eq, decide_eq_true_eq, Bool.not_eq_true', bne_iff_ne, ne_eq] at hc
    subst hc
    simp only [x_wp1] at hw
    split at hw
    · exact xj_lmul hd (hn _ _ _ _ _ hw)
    · exact hw.elim
  | land =>
    simp only [x_ck3, Bool.and_eq_true, Bool.or_eq_true, beq_iff_eq, decide_eq_true_eq, Bool.not_eq_true', bne_iff_ne, ne_eq] at hc
    subst hc
    simp only [x_wp1] at hw
    split at hw
    · exact xj_land hd (hn _ _ _ _ _ hw)
    · exact hw.elim
  | lor =>
    simp only [x_ck3, Bool.and_eq_true, Bool.or_eq_true, beq_iff_eq, decide_eq_true_eq, Bool.not_eq_true', bne_iff_ne, ne_eq] at hc
    subst hc
    simp only [x_wp1] at hw
    split at hw
    · exact xj_lor hd (hn _ _ _ _ _ hw)
    · exact hw.elim
  | lcmp =>
    simp only [x_ck3, Bool.and_eq_true, Bool.or_eq_true, beq_iff_eq, decide_eq_true_eq, Bool.not_eq_true', bne_iff_ne, ne_eq] at hc
    subst hc
    simp only [x_wp1] at hw
    split at hw
    · exact xj_lcmp hd (hn _ _ _ _ _ hw)
    · exact hw.elim
  | lshl =>
    simp only [x_ck3, Bool.and_eq_true, Bool.or_eq_true, beq_iff_eq, decide_eq_true_eq, Bool.not_eq_true', bne_iff_ne, ne_eq] at hc
    subst hc
    simp only [x_wp1] at hw
    split at hw
    · exact xj_lshl hd (hn _ _ _ _ _ hw)
    · exact hw.elim
  | ineg =>
    simp only [x_ck3, Bool.and_eq_true, Bool.or_eq_true, beq_iff_eq, decide_eq_true_eq, Bool.not_eq_true', bne_iff_ne, ne_eq] at hc
    subst hc
    simp only [x_wp1] at hw
    split at hw
    · exact xj_ineg hd (hn _ _ _ _ _ hw)
    · exact hw.elim
  | lneg =>
    simp only [x_ck3, Bool.and_eq_true, Bool.or_eq_true, beq_iff_eq, decide_eq_true_eq, Bool.not_eq_true', bne_iff_ne, ne_eq] at hc
    subst hc
    simp only [x_wp1] at hw
    split at hw
    · exact xj_lneg hd (hn _ _ _ _ _ hw)
    · exact hw.elim
  | i2l =>
    simp only [x_ck3, Bool.and_eq_true, Bool.or_eq_true, beq_iff_eq, decide_eq_true_eq, Bool.not_eq_true', bne_iff_ne, ne_eq] at hc
    subst hc
    simp only [x_wp1] at hw
    split at hw
    · exact xj_i2l hd (hn _ _ _ _ _ hw)
    · exact hw.elim
  | l2i =>
    simp only [x_ck3, Bool.and_eq_true, Bool.or_eq_true, beq_iff_eq, decide_eq_true_eq, Bool.not_eq_true', bne_iff_ne, ne_eq] at hc
    subst hc
    simp only [x_wp1] at hw
    split at hw
    · exact xj_l2i hd (hn _ _ _ _ _ hw)
    · exact hw.elim
  | i2c =>
    simp only [x_ck3, Bool.and_eq_true, Bool.or_eq_true, beq_iff_eq, decide_eq_true_eq, Bool.not_eq_true', bne_iff_ne, ne_eq] at hc
    subst hc
    simp only [x_wp1] at hw
    split at hw
    · exact xj_i2c hd (hn _ _ _ _ _ hw)
    · exact hw.elim
  | idiv =>
    simp only [x_ck3, Bool.and_eq_true, Bool.or_eq_true, beq_iff_eq, decide_eq_true_eq, Bool.not_eq_true', bne_iff_ne, ne_eq] at hc
    subst hc
    simp only [x_wp1] at hw
    split at hw
    · exact xj_idiv hd hw.1 (hn _ _ _ _ _ hw.2)
    · exact hw.elim
  | irem =>
    simp only [x_ck3, Bool.and_eq_true, Bool.or_eq_true, beq_iff_eq, decide_eq_true_eq, Bool.not_eq_true', bne_iff_ne, ne_eq] at hc
    subst hc
    simp only [x_wp1] at hw
    split at hw
    · exact xj_irem hd hw.1 (hn _ _ _ _ _ hw.2)
    · exact hw.elim
  | ldiv =>
    simp only [x_ck3, Bool.and_eq_true, Bool.or_eq_true, beq_iff_eq, decide_eq_true_eq, Bool.not_eq_true', bne_iff_ne, ne_eq] at hc
    subst hc
    simp only [x_wp1] at hw
    split at hw
    · exact xj_ldiv hd hw.1 (hn _ _ _ _ _ hw.2)
    · exact hw.elim
  | iconst c0 =>
    simp only [x_ck3, Bool.and_eq_true, Bool.or_eq_true, beq_iff_eq, decide_eq_true_eq, Bool.not_eq_true', bne_iff_ne, ne_eq] at hc
    obtain ⟨e1, e2⟩ := hc
    subst e1
    exact xj_iconst hd e2 (hn _ _ _ _ _ hw)
  | bipush c0 =>
    simp only [x_ck3, Bool.and_eq_true, Bool.or_eq_true, beq_iff_eq, decide_eq_true_eq, Bool.not_eq_true', bne_iff_ne, ne_eq] at hc
    obtain ⟨⟨e1, e2⟩, e3⟩ := hc
    subst e1
    exact xj_bipush hd e2 e3 (hn _ _ _ _ _ hw)
  | sipush c0 =>
    simp only [x_ck3, Bool.and_eq_true, Bool.or_eq_true, beq_iff_eq, decide_eq_true_eq, Bool.not_eq_true', bne_iff_ne, ne_eq] at hc
    obtain ⟨⟨e1, e2⟩, e3⟩ := hc
    subst e1
    exact xj_sipush hd e2 e3 (hn _ _ _ _ _ hw)
  | ldc j =>
    simp only [x_ck3, Bool.and_eq_true, Bool.or_eq_true, beq_iff_eq, decide_eq_true_eq, Bool.not_eq_true', bne_iff_ne, ne_eq] at hc
    obtain ⟨⟨⟨e1, e2⟩, e3⟩, e4⟩ := hc
    subst e1; subst e2
    exact xj_ldc hd e3 (x_qc_ok hM e4) (hn _ _ _ _ _ hw)
  | ldc_w j =>
    simp only [x_ck3, Bool.and_eq_true, Bool.or_eq_true, beq_iff_eq, decide_eq_true_eq, Bool.not_eq_true', bne_iff_ne, ne_eq] at hc
    obtain ⟨⟨e1, e3⟩, e4⟩ := hc
    subst e1
    exact xj_ldcw hd e3 (x_qc_ok hM e4) (hn _ _ _ _ _ hw)
  | ldc2_w j =>
    simp only [x_ck3, Bool.and_eq_true, Bool.or_eq_true, beq_iff_eq, decide_eq_true_eq, Bool.not_eq_true', bne_iff_ne, ne_eq] at hc
    obtain ⟨⟨e1, e3⟩, e4⟩ := hc
    subst e1
    exact xj_ldc2 hd e3 (x_ql_ok hM e4) (hn _ _ _ _ _ hw)
  | lconst c0 =>
    simp only [x_ck3, Bool.and_eq_true, Bool.or_eq_true, beq_iff_eq, decide_eq_true_eq, Bool.not_eq_true', bne_iff_ne, ne_eq] at hc
    obtain ⟨e1, e2⟩ := hc
    subst e1; subst e2
    exact xj_lconst hd (hn _ _ _ _ _ hw)
  | aconst_null =>
    simp only [x_ck3, Bool.and_eq_true, Bool.or_eq_true, beq_iff_eq, decide_eq_true_eq, Bool.not_eq_true', bne_iff_ne, ne_eq] at hc
    subst hc
    exact xj_null hd (hn _ _ _ _ _ hw)
  | iload j =>
    simp only [x_ck3, Bool.and_eq_true, Bool.or_eq_true, beq_iff_eq, decide_eq_true_eq, Bool.not_eq_true', bne_iff_ne, ne_eq] at hc
    obtain ⟨e1, e2⟩ := hc
    subst e1; subst e2
    simp only [x_wp1] at hw
    split at hw
    · rename_i hx
      exact xj_iload hd hx (hn _ _ _ _ _ hw)
    · exact hw.elim
  | iload_n j =>
    simp only [x_ck3, Bool.and_eq_true, Bool.or_eq_true, beq_iff_eq, decide_eq_true_eq, Bool.not_eq_true', bne_iff_ne, ne_eq] at hc
    obtain ⟨e1, e2⟩ := hc
    subst e1; subst e2
    simp only [x_wp1] at hw
    split at hw
    · rename_i hx
      exact xj_iload_n hd hx (hn _ _ _ _ _ hw)
    · exact hw.elim
  | lload j =>
    simp only [x_ck3, Bool.and_eq_true, Bool.or_eq_true, beq_iff_eq, decide_eq_true_eq, Bool.not_eq_true', bne_iff_ne, ne_eq] at hc
    obtain ⟨e1, e2⟩ := hc
    subst e1; subst e2
    simp only [x_wp1] at hw
    split at hw
    · rename_i hx
      exact xj_lload hd hx (hn _ _ _ _ _ hw)
    · exact hw.elim
  | lload_n j =>
    simp only [x_ck3, Bool.and_eq_true, Bool.or_eq_true, beq_iff_eq, decide_eq_true_eq, Bool.not_eq_true', bne_iff_ne, ne_eq] at hc
    obtain ⟨e1, e2⟩ := hc
    subst e1; subst e2
    simp only [x_wp1] at hw
    split at hw
    · rename_i hx
      exact xj_lload_n hd hx (hn _ _ _ _ _ hw)
    · exact hw.elim
  | aload j =>
    simp only [x_ck3, Bool.and_eq_true, Bool.or_eq_true, beq_iff_eq, decide_eq_true_eq, Bool.not_eq_true', bne_iff_ne, ne_eq] at hc
    obtain ⟨e1, e2⟩ := hc
    subst e1; subst e2
    simp only [x_wp1] at hw
    split at hw
    · rename_i hx
      exact xj_aload hd hx (hn _ _ _ _ _ hw)
    · exact hw.elim
  | aload_n j =>
    simp only [x_ck3, Bool.and_eq_true, Bool.or_eq_true, beq_iff_eq, decide_eq_true_eq, Bool.not_eq_true', bne_iff_ne, ne_eq] at hc
    obtain ⟨e1, e2⟩ := hc
    subst e1; subst e2
    simp only [x_wp1] at hw
    split at hw
    · rename_i hx
      exact xj_aload_n hd hx (hn _ _ _ _ _ hw)
    · exact hw.elim
  | istore j =>
    simp only [x_ck3, Bool.and_eq_true, Bool.or_eq_true, beq_iff_eq, decide_eq_true_eq, Bool.not_eq_true', bne_iff_ne, ne_eq] at hc
    obtain ⟨⟨e1, e2⟩, e3⟩ := hc
    subst e1; subst e2
    simp only [x_wp1] at hw
    split at hw
    · exact xj_istore hd e3 (hn _ _ _ _ _ hw)
    · exact hw.elim
  | istore_n j =>
    simp only [x_ck3, Bool.and_eq_true, Bool.or_eq_true, beq_iff_eq, decide_eq_true_eq, Bool.not_eq_true', bne_iff_ne, ne_eq] at hc
    obtain ⟨⟨e1, e2⟩, e3⟩ := hc
    subst e1; subst e2
    simp only [x_wp1] at hw
    split at hw
    · exact xj_istore_n hd e3 (hn _ _ _ _ _ hw)
    · exact hw.elim
  | lstore j =>
    simp only [x_ck3, Bool.and_eq_true, Bool.or_eq_true, beq_iff_eq, decide_eq_true_eq, Bool.not_eq_true', bne_iff_ne, ne_eq] at hc
    obtain ⟨⟨e1, e2⟩, e3⟩ := hc
    subst e1; subst e2
    simp only [x_wp1] at hw
    split at hw
    · exact xj_lstore hd e3 (hn _ _ _ _ _ hw)
    · exact hw.elim
  | lstore_n j =>
    simp only [x_ck3, Bool.and_eq_true, Bool.or_eq_true, beq_iff_eq, decide_eq_true_eq, Bool.not_eq_true', bne_iff_ne, ne_eq] at hc
    obtain ⟨⟨e1, e2⟩, e3⟩ := hc
    subst e1; subst e2
    simp only [x_wp1] at hw
    split at hw
    · exact xj_lstore_n hd e3 (hn _ _ _ _ _ hw)
    · exact hw.elim
  | astore j =>
    simp only [x_ck3, Bool.and_eq_true, Bool.or_eq_true, beq_iff_eq, decide_eq_true_eq, Bool.not_eq_true', bne_iff_ne, ne_eq] at hc
    obtain ⟨⟨e1, e2⟩, e3⟩ := hc
    subst e1; subst e2
    simp only [x_wp1] at hw
    split at hw
    · exact xj_astore hd e3 (hn _ _ _ _ _ hw)
    · exact hw.elim
  | astore_n j =>
    simp only [x_ck3, Bool.and_eq_true, Bool.or_eq_true, beq_iff_eq, decide_eq_true_eq, Bool.not_eq_true', bne_iff_ne, ne_eq] at hc
    obtain ⟨⟨e1, e2⟩, e3⟩ := hc
    subst e1; subst e2
    simp only [x_wp1] at hw
    split at hw
    · exact xj_astore_n hd e3 (hn _ _ _ _ _ hw)
    · exact hw.elim
  | iinc j c0 =>
    simp only [x_ck3, Bool.and_eq_true, Bool.or_eq_true, beq_iff_eq, decide_eq_true_eq, Bool.not_eq_true', bne_iff_ne, ne_eq] at hc
    obtain ⟨⟨e1, e2⟩, e3⟩ := hc
    subst e1; subst e2
    simp only [x_wp1] at hw
    split at hw
    · rename_i hx
      exact xj_iinc hd e3 hx (hn _ _ _ _ _ hw)
    · exact hw.elim
  | dup =>
    simp only [x_ck3, Bool.and_eq_true, Bool.or_eq_true, beq_iff_eq, decide_eq_true_eq, Bool.not_eq_true', bne_iff_ne, ne_eq] at hc
    subst hc
    simp only [x_wp1] at hw
    split at hw
    · exact xj_dup hd (by intro x z; cases z) (hn _ _ _ _ _ hw)
    · exact xj_dup hd (by intro x z; cases z) (hn _ _ _ _ _ hw)
    · exact hw.elim
  | pop =>
    simp only [x_ck3, Bool.and_eq_true, Bool.or_eq_true, beq_iff_eq, decide_eq_true_eq, Bool.not_eq_true', bne_iff_ne, ne_eq] at hc
    subst hc
    simp only [x_wp1] at hw
    split at hw
    · exact xj_pop hd (by intro x z; cases z) (hn _ _ _ _ _ hw)
    · exact xj_pop hd (by intro x z; cases z) (hn _ _ _ _ _ hw)
    · exact hw.elim
  | dup2 =>
    simp only [x_ck3, Bool.and_eq_true, Bool.or_eq_true, beq_iff_eq, decide_eq_true_eq, Bool.not_eq_true', bne_iff_ne, ne_eq] at hc
    subst hc
    simp only [x_wp1] at hw
    split at hw
    · exact xj_dup2 hd (by intro x z; cases z) (by intro x z; cases z) (hn _ _ _ _ _ hw)
    · exact xj_dup2L hd (hn _ _ _ _ _ hw)
    · exact hw.elim
  | if_icmp c0 off =>
    simp only [x_ck3, Bool.and_eq_true, Bool.or_eq_true, beq_iff_eq, decide_eq_true_eq, Bool.not_eq_true', bne_iff_ne, ne_eq] at hc
    obtain ⟨e1, e2⟩ := hc
    subst e1
    simp only [x_wp1] at hw
    split at hw
    · cases c0
      · exact xj_icmp_eq hd e2 hw.1 (fun z => hn _ _ _ _ _ (hw.2 z))
      · exact xj_icmp_ne hd e2 hw.1 (fun z => hn _ _ _ _ _ (hw.2 z))
      · exact xj_icmp_lt hd e2 hw.1 (fun z => hn _ _ _ _ _ (hw.2 (by omega)))
      · exact xj_icmp_ge hd e2 hw.1 (fun z => hn _ _ _ _ _ (hw.2 (by omega)))
      · exact xj_icmp_gt hd e2 hw.1 (fun z => hn _ _ _ _ _ (hw.2 (by omega)))
      · exact xj_icmp_le hd e2 hw.1 (fun z => hn _ _ _ _ _ (hw.2 (by omega)))
    · exact hw.elim
  | ifCond c0 off =>
    simp only [x_ck3, Bool.and_eq_true, Bool.or_eq_true, beq_iff_eq, decide_eq_true_eq, Bool.not_eq_true', bne_iff_ne, ne_eq] at hc
    obtain ⟨e1, e2⟩ := hc
    subst e1
    simp only [x_wp1] at hw
    split at hw
    · cases c0
      · exact xj_if_eq hd e2 hw.1 (fun z => hn _ _ _ _ _ (hw.2 z))
      · exact xj_if_ne hd e2 hw.1 (fun z => hn _ _ _ _ _ (hw.2 z))
      · exact xj_if_lt hd e2 hw.1 (fun z => hn _ _ _ _ _ (hw.2 (by omega)))
      · exact xj_if_ge hd e2 hw.1 (fun z => hn _ _ _ _ _ (hw.2 (by omega)))
      · exact xj_if_gt hd e2 hw.1 (fun z => hn _ _ _ _ _ (hw.2 (by omega)))
      · exact xj_if_le hd e2 hw.1 (fun z => hn _ _ _ _ _ (hw.2 (by omega)))
    · exact hw.elim
  | ifnull off =>
    simp only [x_ck3, Bool.and_eq_true, Bool.or_eq_true, beq_iff_eq, decide_eq_true_eq, Bool.not_eq_true', bne_iff_ne, ne_eq] at hc
    obtain ⟨e1, e2⟩ := hc
    subst e1
    simp only [x_wp1] at hw
    split at hw
    · exact xj_ifnull hd e2 hw.1 (fun z => hn _ _ _ _ _ (hw.2 z))
    · exact hw.elim
  | ifnonnull off =>
    simp only [x_ck3, Bool.and_eq_true, Bool.or_eq_true, beq_iff_eq, decide_eq_true_eq, Bool.not_eq_true', bne_iff_ne, ne_eq] at hc
    obtain ⟨e1, e2⟩ := hc
    subst e1
    simp only [x_wp1] at hw
    split at hw
    · exact xj_ifnonnull hd e2 hw.1 (fun z => hn _ _ _ _ _ (hw.2 z))
    · exact hw.elim
  | goto off =>
    simp only [x_ck3, Bool.and_eq_true, Bool.or_eq_true, beq_iff_eq, decide_eq_true_eq, Bool.not_eq_true', bne_iff_ne, ne_eq] at hc
    obtain ⟨e1, e2⟩ := hc
    subst e1
    exact xj_goto hd e2 (hn _ _ _ _ _ hw)
  | tableswitch d lo hi offs =>
    simp only [x_ck3, Bool.and_eq_true, decide_eq_true_eq] at hc
    obtain ⟨⟨e1, e2⟩, e3⟩ := hc
    simp only [x_wp1] at hw
    split at hw
    · rename_i x st
      have e4 : ∀ off ∈ offs.toList, 0 ≤ (pc : Int) + off := fun off ho => by simpa using List.all_eq_true.mp e3 off ho
      have hoff : ∀ z : Int, lo ≤ z → z ≤ hi → ∃ off, offs.toList[(z - lo).toNat]? = some off := fun z z1 z2 => ⟨_, List.getElem?_eq_getElem (by omega)⟩
      refine xj_table hd (tg := fun z => ((pc : Int) + (offs.toList.getD (z - lo).toNat 0)).toNat) (td := ((pc : Int) + d).toNat) (fun z z1 z2 => ?_) (by omega) (fun z1 z2 => ?_) hw.1
      · obtain ⟨off, h1⟩ := hoff z z1 z2
        refine ⟨off, by rw [← Array.getElem?_toList]; exact h1, ?_⟩
        have h2 : offs.toList.getD (z - lo).toNat 0 = off := by rw [List.getD_eq_getElem?_getD, h1]; rfl
        rw [h2]
        have h3 := e4 off (List.mem_of_getElem? h1)
        omega
      · obtain ⟨off, h1, h2⟩ := x_sw_ok _ _ hw.2 (x - lo).toNat (by omega) (by omega)
        have h3 : offs.toList.getD (x - lo).toNat 0 = off := by rw [List.getD_eq_getElem?_getD, h1]; rfl
        rw [h3]
        exact h2
    · exact hw.elim
  | getfield j =>
    simp only [x_ck3, Bool.and_eq_true, Bool.or_eq_true, beq_iff_eq, decide_eq_true_eq, Bool.not_eq_true', bne_iff_ne, ne_eq] at hc
    obtain ⟨⟨⟨⟨e1, e2⟩, e3⟩, e4⟩, e5⟩ := hc
    subst e1
    simp only [x_wp1] at hw
    split at hw
    · have e6 : v.toNat = x_tc a b := by rw [e4]; simp
      rw [e6, x_gv_fv (g := g)] at hw
      exact xj_getfield hd hw.1 e2 e3 (x_fk_ok hM e5) (hn _ _ _ _ _ hw.2)
    · exact hw.elim
  | putfield j =>
    simp only [x_ck3, Bool.and_eq_true, Bool.or_eq_true, beq_iff_eq, decide_eq_true_eq, Bool.not_eq_true', bne_iff_ne, ne_eq] at hc
    obtain ⟨⟨⟨⟨⟨e1, e2⟩, e3⟩, e4⟩, e5⟩, e7⟩ := hc
    subst e1
    simp only [x_wp1] at hw
    split at hw
    · have e6 : v.toNat = x_tc a b := by rw [e4]; simp
      rw [e6] at hw
      obtain ⟨h1, h2⟩ := hw
      obtain ⟨h3, h4⟩ := x_fitk_ok h2
      refine xj_putfield hd h1 e2 e3 (x_fk_ok hM e5) ?_ h3 (hn _ _ _ _ _ h4)
      rcases e7 with z | z
      · exact Or.inl z
      · cases hf : (x_T a b).2.2.2 with
        | false => exact Or.inl rfl
        | true => exact Or.inr ⟨rfl, z.1, z.2⟩
    · exact hw.elim
  | getstatic j =>
    simp only [x_ck3, Bool.and_eq_true, beq_iff_eq] at hc
    obtain ⟨e1, e2⟩ := hc
    subst e1
    split at e2
    · rename_i q hq
      simp only [Bool.and_eq_true, decide_eq_true_eq] at e2
      exact xj_getstatic hd hq e2.1 e2.2 (hn _ _ _ _ _ hw)
    · cases e2
  | new j =>
    simp only [x_ck3, Bool.and_eq_true, Bool.or_eq_true, beq_iff_eq, decide_eq_true_eq, Bool.not_eq_true', bne_iff_ne, ne_eq] at hc
    obtain ⟨⟨⟨e1, e2⟩, e3⟩, e4⟩ := hc
    subst e1; subst e3
    obtain ⟨⟨h1, h2⟩, h3⟩ := hw
    exact xj_new hd e2 (x_ck_ok hM e4) (x_pin_ok e2).1 (x_pin_ok e2).2 h1 h2 (hn _ _ _ _ _ h3)
  | newarray t =>
    simp only [x_ck3, Bool.and_eq_true, beq_iff_eq] at hc
    obtain ⟨e1, e2⟩ := hc
    subst e1
    simp only [x_wp1] at hw
    split at hw
    · obtain ⟨⟨h1, h2, h3, h4⟩, h5⟩ := hw
      have ht : (t = .int ∧ a = 10 ∧ a - 10 = 0) ∨ (t = .long ∧ a = 11 ∧ a - 10 = 1) ∨ (t = .boolean ∧ a = 12 ∧ a - 10 = 2) := by
        split at e2
        · simp only [beq_iff_eq] at e2; exact Or.inl ⟨rfl, e2, by omega⟩
        · simp only [beq_iff_eq] at e2; exact Or.inr (Or.inl ⟨rfl, e2, by omega⟩)
        · simp only [beq_iff_eq] at e2; exact Or.inr (Or.inr ⟨rfl, e2, by omega⟩)
        · cases e2
      exact xj_newarray hd ht h1 h2 h3 h4 (hn _ _ _ _ _ h5)
    · exact hw.elim
  | anewarray j =>
    simp only [x_ck3, Bool.and_eq_true, Bool.or_eq_true, beq_iff_eq, decide_eq_true_eq, Bool.not_eq_true', bne_iff_ne, ne_eq] at hc
    obtain ⟨e1, e2⟩ := hc
    subst e1
    simp only [x_wp1] at hw
    split at hw
    · obtain ⟨⟨h1, h2, h3, h4⟩, h5⟩ := hw
      exact xj_anewarray hd (x_ck_ok hM e2) h1 h2 h3 h4 (hn _ _ _ _ _ h5)
    · exact hw.elim
  | iaload =>
    simp only [x_ck3, Bool.and_eq_true, Bool.or_eq_true, beq_iff_eq, decide_eq_true_eq, Bool.not_eq_true', bne_iff_ne, ne_eq] at hc
    subst hc
    simp only [x_wp1] at hw
    split at hw
    · obtain ⟨⟨N, h1, h2, h3⟩, h4⟩ := hw
      exact xj_iaload hd h1 h2 h3 (hn _ _ _ _ _ h4)
    · exact xj_saload hd hw.1.1 hw.1.2 (hn _ _ _ _ _ hw.2)
    · exact xj_taload (t := 0) hd (by decide) hw.1.1 hw.1.2 (hn _ _ _ _ _ hw.2)
    · exact xj_taload (t := 1) hd (by decide) hw.1.1 hw.1.2 (hn _ _ _ _ _ hw.2)
    · exact xj_taload (t := 2) hd (by decide) hw.1.1 hw.1.2 (hn _ _ _ _ _ hw.2)
    · exact hw.elim
  | laload =>
    simp only [x_ck3, Bool.and_eq_true, Bool.or_eq_true, beq_iff_eq, decide_eq_true_eq, Bool.not_eq_true', bne_iff_ne, ne_eq] at hc
    subst hc
    simp only [x_wp1] at hw
    split at hw
    · obtain ⟨⟨N, h1, h2, h3⟩, h4⟩ := hw
      exact xj_laload hd h1 h2 h3 (hn _ _ _ _ _ h4)
    · exact hw.elim
  | baload =>
    simp only [x_ck3, Bool.and_eq_true, Bool.or_eq_true, beq_iff_eq, decide_eq_true_eq, Bool.not_eq_true', bne_iff_ne, ne_eq] at hc
    subst hc
    simp only [x_wp1] at hw
    split at hw
    · obtain ⟨⟨N, h1, h2, h3⟩, h4⟩ := hw
      exact xj_baload hd h1 h2 h3 (hn _ _ _ _ _ h4)
    · exact hw.elim
  | aaload =>
    simp only [x_ck3, Bool.and_eq_true, Bool.or_eq_true, beq_iff_eq, decide_eq_true_eq, Bool.not_eq_true', bne_iff_ne, ne_eq] at hc
    subst hc
    simp only [x_wp1] at hw
    split at hw
    · obtain ⟨⟨N, h1, h2, h3⟩, h4⟩ := hw
      exact xj_aaload hd h1 h2 h3 (hn _ _ _ _ _ h4)
    · exact hw.elim
  | iastore =>
    simp only [x_ck3, Bool.and_eq_true, Bool.or_eq_true, beq_iff_eq, decide_eq_true_eq, Bool.not_eq_true', bne_iff_ne, ne_eq] at hc
    subst hc
    simp only [x_wp1] at hw
    split at hw
    · obtain ⟨⟨N, h1, h2, h3⟩, h4⟩ := hw
      exact xj_iastore hd h1 h2 h3 (hn _ _ _ _ _ h4)
    · exact hw.elim
  | lastore =>
    simp only [x_ck3, Bool.and_eq_true, Bool.or_eq_true, beq_iff_eq, decide_eq_true_eq, Bool.not_eq_true', bne_iff_ne, ne_eq] at hc
    subst hc
    simp only [x_wp1] at hw
    split at hw
    · obtain ⟨⟨N, h1, h2, h3⟩, h4⟩ := hw
      exact xj_lastore hd h1 h2 h3 (hn _ _ _ _ _ h4)
    · exact hw.elim
  | bastore =>
    simp only [x_ck3, Bool.and_eq_true, Bool.or_eq_true, beq_iff_eq, decide_eq_true_eq, Bool.not_eq_true', bne_iff_ne, ne_eq] at hc
    subst hc
    simp only [x_wp1] at hw
    split at hw
    · obtain ⟨⟨N, h1, h2, h3⟩, h5, h4⟩ := hw
      exact xj_bastore hd h1 h2 h3 h5 (hn _ _ _ _ _ h4)
    · exact hw.elim
  | aastore =>
    simp only [x_ck3, Bool.and_eq_true, Bool.or_eq_true, beq_iff_eq, decide_eq_true_eq, Bool.not_eq_true', bne_iff_ne, ne_eq] at hc
    subst hc
    simp only [x_wp1] at hw
    split at hw
    · obtain ⟨⟨N, h1, h2, h3⟩, ⟨N2, h5⟩, h4⟩ := hw
      exact xj_aastore hd h1 h2 h3 (Or.inr h5) (by have := h5.1; omega) (hn _ _ _ _ _ h4)
    · exact hw.elim
  | arraylength =>
    simp only [x_ck3, Bool.and_eq_true, Bool.or_eq_true, beq_iff_eq, bne_iff_ne, ne_eq] at hc
    obtain ⟨e1, e2⟩ := hc
    subst e1
    simp only [x_wp1] at hw
    split at hw
    · obtain ⟨N, h1, h2⟩ := hw
      have h3 : 10 ≤ b := by
        rcases e2 with z | z
        · exact absurd rfl z
        · exact Nat.le_of_ble_eq_true z
      exact xj_arraylength hd h1 h3 (hn _ _ _ _ _ h2)
    · exact xj_slen hd (hn _ _ _ _ _ hw)
    · exact xj_tlen (t := 0) hd (by decide) (hn _ _ _ _ _ hw)
    · exact xj_tlen (t := 1) hd (by decide) (hn _ _ _ _ _ hw)
    · exact xj_tlen (t := 2) hd (by decide) (hn _ _ _ _ _ hw)
    · exact hw.elim
  | invokevirtual j =>
    simp only [x_ck3, Bool.and_eq_true, beq_iff_eq, decide_eq_true_eq] at hc
    obtain ⟨⟨⟨⟨⟨⟨⟨⟨e1, e2⟩, e3⟩, e4⟩, e5⟩, e6⟩, e7⟩, e8⟩, e9⟩ := hc
    subst e1
    simp only [x_wp1] at hw
    split at hw
    · exact hw.elim
    · split at hw
      · rename_i r st' hst
        obtain ⟨s1, s2⟩ := x_stk hst
        rw [s1]
        cases hwd : Nat.ble (x_wd st') 8 with
        | false => rw [hwd] at hw; exact hw.elim
        | true =>
          rw [hwd] at hw
          obtain ⟨h1, h2⟩ := hw
          have hnp := x_np_ok a e3
          rw [← s2] at hnp
          cases hv : (v == 0) with
          | true =>
            rw [hv] at h2
            have e10 : x_bc a = 0 ∧ x_bs a = 0 := by
              rcases Bool.or_eq_true _ _ ▸ e9 with z | z
              · rw [bne, hv] at z; cases z
              · simpa using z
            have hb : k + x_bc a = k := by rw [e10.1]; rfl
            have hs : n + x_bs a = n := by rw [e10.2]; rfl
            refine xj_b (fun hk hn1 => ?_)
            refine xj_invokevirtual hd (x_mc_ok e2) h1 e4 e5 (x_lk_ok hM e6) (x_ims_ok e7) (x_sel_ok e8) hnp (by omega) (by omega) (Nat.le_of_ble_eq_true hwd) ?_
            rw [hb, hs]
            exact x_ck2_ok h2 (fun r h1 hq => hn _ _ _ _ _ hq)
          | false =>
            rw [hv] at h2
            obtain ⟨⟨h3, h4⟩, h5⟩ := h2
            exact xj_invokevirtual hd (x_mc_ok e2) h1 e4 e5 (x_lk_ok hM e6) (x_ims_ok e7) (x_sel_ok e8) hnp h3 h4 (Nat.le_of_ble_eq_true hwd) (x_ck2_ok h5 (fun r h1 hq => hn _ _ _ _ _ hq))
      · exact hw.elim
  | invokespecial j =>
    simp only [x_ck3, Bool.and_eq_true, beq_iff_eq] at hc
    obtain ⟨e1, e2⟩ := hc
    subst e1
    simp only [x_wp1] at hw
    split at hw
    · exact hw.elim
    · cases h9 : (c == 9) with
      | true =>
        rw [h9] at hw
        rw [if_pos (by simpa using h9)] at e2
        simp only [cond_true] at hw
        split at hw
        · rename_i r st'
          cases hwd : Nat.ble (x_wd st') 8 with
          | false => rw [hwd] at hw; exact hw.elim
          | true =>
            rw [hwd] at hw
            obtain ⟨⟨c1, N1, h1⟩, h2⟩ := hw
            exact xj_objinit hd h1 (x_ob_ok hM e2) (Nat.le_of_ble_eq_true hwd) (hn _ _ _ _ _ h2)
        · exact hw.elim
      | false =>
        rw [h9] at hw
        rw [if_neg (by simpa using h9)] at e2
        simp only [Bool.and_eq_true, decide_eq_true_eq] at e2
        obtain ⟨⟨⟨⟨⟨e2, e3⟩, e4⟩, e5⟩, e6⟩, e7⟩ := e2
        simp only [cond_false] at hw
        split at hw
        · rename_i r st' hst
          obtain ⟨s1, s2⟩ := x_stk hst
          rw [s1]
          cases hwd : Nat.ble (x_wd st') 8 with
          | false => rw [hwd] at hw; exact hw.elim
          | true =>
            rw [hwd] at hw
            obtain ⟨⟨c1, N1, h1⟩, ⟨h3, h4⟩, h5⟩ := hw
            have hnp := x_np_ok a e3
            rw [← s2] at hnp
            exact xj_invokespecial hd (x_mc_ok e2) h1 e4 e5 (x_lk_ok hM e6) (x_ims_ok e7) hnp h3 h4 (Nat.le_of_ble_eq_true hwd) (x_ck2_ok h5 (fun r h1 hq => hn _ _ _ _ _ hq))
        · exact hw.elim
  | invokestatic j =>
    simp only [x_ck3, Bool.and_eq_true, beq_iff_eq] at hc
    obtain ⟨e1, e2⟩ := hc
    subst e1
    simp only [x_wp1] at hw
    split at hw
    · exact hw.elim
    · split at hw
      · split at hw
        · rename_i st'
          cases hwd : Nat.ble (x_wd st') 8 with
          | false => rw [hwd] at hw; exact hw.elim
          | true =>
            rw [hwd] at hw
            refine xj_mmax hd ?_ (Nat.le_of_ble_eq_true hwd) (hn _ _ _ _ _ hw)
            rcases x_lk_ok hM e2 with z | z
            · exact z
            · exact absurd z (x_nomath hM 251 (by decide))
        · exact hw.elim
      · split at hw
        · rename_i st'
          cases hwd : Nat.ble (x_wd st') 8 with
          | false => rw [hwd] at hw; exact hw.elim
          | true =>
            rw [hwd] at hw
            refine xj_mmin hd ?_ (Nat.le_of_ble_eq_true hwd) (hn _ _ _ _ _ hw)
            rcases x_lk_ok hM e2 with z | z
            · exact z
            · exact absurd z (x_nomath hM 253 (by decide))
        · exact hw.elim
      · split at hw
        · rename_i st'
          cases hwd : Nat.ble (x_wd st') 8 with
          | false => rw [hwd] at hw; exact hw.elim
          | true =>
            rw [hwd] at hw
            refine xj_mmaxL hd ?_ (Nat.le_of_ble_eq_true hwd) (hn _ _ _ _ _ hw)
            rcases x_lk_ok hM e2 with z | z
            · exact z
            · exact absurd z (x_nomath hM 252 (by decide))
        · exact hw.elim
      · split at hw
        · rename_i st'
          cases hwd : Nat.ble (x_wd st') 8 with
          | false => rw [hwd] at hw; exact hw.elim
          | true =>
            rw [hwd] at hw
            refine xj_mminL hd ?_ (Nat.le_of_ble_eq_true hwd) (hn _ _ _ _ _ hw)
            rcases x_lk_ok hM e2 with z | z
            · exact z
            · exact absurd z (x_nomath hM 254 (by decide))
        · exact hw.elim
      · rename_i c1 c2 c3 c4
        have e2 : (x_mc a && decide (a < 279) && x_lk M j a && (x_sts.any fun q => q.1 == a) && x_bc a == 0 && x_bs a == 0) = true := by
          split at e2
          · exact (c1 rfl).elim
          · exact (c2 rfl).elim
          · exact (c3 rfl).elim
          · exact (c4 rfl).elim
          · exact e2
        simp only [Bool.and_eq_true, decide_eq_true_eq, beq_iff_eq] at e2
        obtain ⟨⟨⟨⟨⟨e2, e3⟩, e6⟩, e7⟩, e8⟩, e9⟩ := e2
        cases hwd : (Nat.ble (x_np a) st.length && Nat.ble (x_wd (st.drop (x_np a))) 8) with
        | false => rw [hwd] at hw; exact hw.elim
        | true =>
          rw [hwd] at hw
          simp only [Bool.and_eq_true] at hwd
          obtain ⟨s1, s2⟩ := x_stk2 (Nat.le_of_ble_eq_true hwd.1)
          rw [s1]
          have hnp := x_np_ok a e3
          rw [← s2] at hnp
          have hb : k + x_bc a = k := by rw [e8]; rfl
          have hs : n + x_bs a = n := by rw [e9]; rfl
          refine xj_b (fun hk hn1 => ?_)
          refine xj_invokestatic hd (x_mc_ok e2) (x_lk_ok hM e6) (x_sts_ok e7) hnp (by omega) (by omega) (Nat.le_of_ble_eq_true hwd.2) ?_
          rw [hb, hs]
          exact x_ck2_ok hw (fun r h1 hq => hn _ _ _ _ _ hq)
  | ireturn =>
    simp only [x_ck3, Bool.and_eq_true, Bool.or_eq_true, beq_iff_eq, decide_eq_true_eq, Bool.not_eq_true', bne_iff_ne, ne_eq] at hc
    obtain ⟨e1, e2⟩ := hc
    subst e1
    simp only [x_wp1] at hw
    split at hw
    · refine xj_ireturn hd (Or.inl ?_) hw
      rcases e2 with ⟨-, z⟩ | ⟨z, -⟩
      · exact z
      · cases z
    · refine xj_ireturn hd (Or.inr ⟨?_, hw.1⟩) hw.2
      rcases e2 with ⟨z, -⟩ | ⟨-, z⟩
      · cases z
      · exact z
    · exact hw.elim
  | lreturn =>
    simp only [x_ck3, Bool.and_eq_true, Bool.or_eq_true, beq_iff_eq, decide_eq_true_eq, Bool.not_eq_true', bne_iff_ne, ne_eq] at hc
    obtain ⟨e1, e2⟩ := hc
    subst e1
    simp only [x_wp1] at hw
    split at hw
    · exact xj_lreturn hd e2 hw
    · exact hw.elim
  | areturn =>
    simp only [x_ck3, Bool.and_eq_true, beq_iff_eq] at hc
    obtain ⟨e1, e2⟩ := hc
    subst e1
    simp only [x_wp1] at hw
    split at hw
    · split at e2
      · rename_i hrt
        exact xj_areturn hd hrt hw
      · cases e2
    · exact hw.elim
  | return_ =>
    simp only [x_ck3, Bool.and_eq_true, Bool.or_eq_true, beq_iff_eq, decide_eq_true_eq, Bool.not_eq_true', bne_iff_ne, ne_eq] at hc
    obtain ⟨e1, e2⟩ := hc
    subst e1
    simp only [x_wp1] at hw
    split at hw
    · exact xj_return hd e2 hw
    · exact hw.elim
  | _ => exact hw.elim
def x_okb (M : Nat) : Nat → List xI → Bool
  | _, [] => true
  | pc, i :: is => decide (decode (x_cd M) pc = .ok (i.1, i.2.1)) && x_ck3 M pc i && x_okb M (x_npc pc i) is
theorem x_blk {g : xG} {D M : Nat} {Q : xV → xH → Prop} (hM : M < 279) : ∀ (is : List xI) {pc k n : Nat} {ls st : List xV} {h : xH}, x_okb M pc is = true → x_wp g D M Q is pc k n ls st h → xJ g D M k n pc ls st h Q := by
  intro is
  induction is with
  | nil => intro pc k n ls st h _ hw; exact hw
  | cons i is ih =>
    intro pc k n ls st h hc hw
    simp only [x_okb, Bool.and_eq_true, decide_eq_true_eq] at hc
    obtain ⟨⟨h1, h2⟩, h3⟩ := hc
    exact x_wp1_ok hM h1 h2 hw (fun k n ls st h hq => ih h3 hq)
/-- some locals are forgotten -/
def x_mask : List Bool → List xV → List xV
  | b :: bs, v :: vs => (bif b then v else xu) :: x_mask bs vs
  | _, _ => []
theorem x_mask_at : ∀ (bs : List Bool) (ls : List xV) (j : Nat) (v : xV), (x_mask bs ls)[j]? = some v → v = xu ∨ ls[j]? = some v := by
  intro bs
  induction bs with
  | nil => intro ls j v h; simp [x_mask] at h
  | cons b bs ih =>
    intro ls j v h
    cases ls with
    | nil => simp [x_mask] at h
    | cons w ls =>
      cases j with
      | zero =>
        cases b with
        | true => exact Or.inr h
        | false => exact Or.inl (Option.some.inj h).symm
      | succ j =>
        have h2 : (x_mask bs ls)[j]? = some v := by simpa [x_mask] using h
        rcases ih ls j v h2 with z | z
        · exact Or.inl z
        · exact Or.inr (by simpa using z)
theorem xj_mask {g : xG} {D M k n pc : Nat} {ls st : List xV} {h : xH} {Q : xV → xH → Prop} (bs : List Bool) (kk : xJ g D M k n pc (x_mask bs ls) st h Q) : xJ g D M k n pc ls st h Q := xj_fg (x_mask_at bs ls) kk
