/-! the walk, instruction by instruction: the heap -/
theorem x_ft_lt : ∀ l ∈ x_ft, ∀ t ∈ l, t < 4 := by decide +kernel
theorem x_tc_lt (c j : Nat) : x_tc c j < 4 := by
  unfold x_tc
  split
  · decide
  split
  · decide
  split
  · decide
  split
  · decide
  · rw [List.getD_eq_getElem?_getD, List.getD_eq_getElem?_getD]
    cases h1 : x_ft[c]? with
    | none => simp
    | some l =>
      simp only [Option.getD_some]
      cases h2 : l[j]? with
      | none => simp
      | some t => exact x_ft_lt l (List.mem_of_getElem? h1) t (List.mem_of_getElem? h2)
theorem x_cl_lay0 : ∀ q ∈ x_cl, ∀ w ∈ u_ws q.1 q.2.1 q.2.2, w ∈ x_tb := by decide +kernel
theorem x_cl_lay {c : Nat} {q : vw_C} (h : x_cl[c]? = some q) : ∀ w ∈ u_ws q.1 q.2.1 q.2.2, w ∈ x_tb := x_cl_lay0 q (List.mem_of_getElem? h)
def x_ty (c : Nat) : Nat → FieldType := fun k => (x_fT.getD c []).getD k .int
theorem x_cl_ty0 : ∀ c, c < 10 → ∀ q, x_cl[c]? = some q → ∀ k, k < q.2.2 → parseFieldDescriptor (q.2.1 k).2.2.1 = some (x_ty c k) := by
  intro c hc
  match c, hc with
  | 0, _ => intro q hq; cases hq; decide +kernel
  | 1, _ => intro q hq; cases hq; decide +kernel
  | 2, _ => intro q hq; cases hq; decide +kernel
  | 3, _ => intro q hq; cases hq; decide +kernel
  | 4, _ => intro q hq; cases hq; decide +kernel
  | 5, _ => intro q hq; cases hq; decide +kernel
  | 6, _ => intro q hq; cases hq; decide +kernel
  | 7, _ => intro q hq; cases hq; decide +kernel
  | 8, _ => intro q hq; cases hq; decide +kernel
  | 9, _ => intro q hq; cases hq; decide +kernel
theorem x_cl_nm : ∀ q ∈ x_cl, ∀ a, a < q.2.2 → ∀ b, b < q.2.2 → a ≠ b → (q.2.1 a).2.1 ≠ (q.2.1 b).2.1 := by decide +kernel
theorem x_cl_len : ∀ c, c < 10 → ∃ q, x_cl[c]? = some q ∧ q.2.1 = x_T c ∧ q.1 = x_cn.getD c "" ∧ q.2.2 = (x_ft.getD c []).length := by
  intro c hc
  match c, hc with
  | 0, _ => exact ⟨_, rfl, rfl, rfl, rfl⟩
  | 1, _ => exact ⟨_, rfl, rfl, rfl, rfl⟩
  | 2, _ => exact ⟨_, rfl, rfl, rfl, rfl⟩
  | 3, _ => exact ⟨_, rfl, rfl, rfl, rfl⟩
  | 4, _ => exact ⟨_, rfl, rfl, rfl, rfl⟩
  | 5, _ => exact ⟨_, rfl, rfl, rfl, rfl⟩
  | 6, _ => exact ⟨_, rfl, rfl, rfl, rfl⟩
  | 7, _ => exact ⟨_, rfl, rfl, rfl, rfl⟩
  | 8, _ => exact ⟨_, rfl, rfl, rfl, rfl⟩
  | 9, _ => exact ⟨_, rfl, rfl, rfl, rfl⟩
/-- a type's number says what a place's type may be -/
def x_tyok (t : Nat) (ty : FieldType) : Bool := match t, ty with
  | 0, .int => true
  | 1, .long => true
  | 3, .boolean => true
  | 2, .object _ => true
  | 2, .array _ => true
  | _, _ => false
theorem x_ty_tc0 : ∀ c, c < 10 → ∀ j, j < (x_ft.getD c []).length → x_tyok ((x_ft.getD c []).getD j 0) (x_ty c j) = true := by decide +kernel
theorem x_ty_tc {c j : Nat} (hc : c < 10) (hj : j < (x_ft.getD c []).length) : x_tyok (x_tc c j) (x_ty c j) = true := by
  have h := x_ty_tc0 c hc j hj
  unfold x_tc
  rw [if_neg (by omega), if_neg (by omega), if_neg (by omega), if_neg (by omega)]
  exact h
/-- the cell r is of kind c and has N places -/
def x_is (h : xH) (r c N : Nat) : Prop := 16 ≤ r ∧ h.1[r - 16]? = some (c, N)
theorem x_ws_at {g : xG} {h : xH} {r c N : Nat} (hr : x_is h r c N) : (x_ws g h)[r - 16]? = some (x_ad g r, x_E g (c, N) (h.2 r)) := by
  obtain ⟨h1, h2⟩ := hr
  have h3 : r - 16 < h.1.length := (List.getElem?_eq_some_iff.mp h2).1
  unfold x_ws
  rw [List.getElem?_map, List.getElem?_range h3]
  simp only [Option.map_some]
  have e1 : h.1.getD (r - 16) (0, 0) = (c, N) := by rw [List.getD_eq_getElem?_getD, h2]; rfl
  have e2 : r - 16 + 16 = r := by omega
  rw [e1, e2]
theorem x_sk_le {g : xG} {a b : Nat} (h : a ≤ b) : x_sk g a ≤ x_sk g b := by
  unfold x_sk
  split
  · exact Nat.zero_le _
  · rw [if_neg (by omega)]
    exact Nat.le_refl _
theorem x_ad_lt {g : xG} {a b : Nat} (h0 : 16 ≤ a) (h : a < b) : x_ad g a < x_ad g b := by
  unfold x_ad
  rw [if_neg (by omega), if_neg (by omega)]
  have h2 := x_sk_le (g := g) (Nat.le_of_lt h)
  omega
theorem x_ad_ne {g : xG} {a b : Nat} (h0 : 16 ≤ a) (h1 : 16 ≤ b) (h : a ≠ b) : x_ad g a ≠ x_ad g b := by
  rcases Nat.lt_or_ge a b with z | z
  · exact Nat.ne_of_lt (x_ad_lt h0 z)
  · exact (Nat.ne_of_lt (x_ad_lt h1 (by omega))).symm
theorem x_ad_1 {g : xG} {n : Nat} (h : g.sa 0 = 0 ∨ 59 ≤ n) : x_ad g (n + 1 + 16) = x_ad g (n + 16) + 1 := by
  have h2 : x_sk g (n + 1 + 16) = x_sk g (n + 16) := by
    unfold x_sk
    rcases h with h | h
    · rw [h]; split <;> split <;> rfl
    · rw [if_neg (by omega), if_neg (by omega)]
  unfold x_ad
  rw [if_neg (by omega), if_neg (by omega), h2]
  omega
theorem x_sz1 {g : xG} {K : List (Nat × Nat)} {e : Nat × Nat} {H H1 : Heap} (hz : H.size = x_ad g (K.length + 16) ∧ (g.sa 0 = 0 ∨ 59 ≤ K.length)) (h1 : H1.size = H.size + 1) : H1.size = x_ad g ((K ++ [e]).length + 16) ∧ (g.sa 0 = 0 ∨ 59 ≤ (K ++ [e]).length) := by
  have e1 : (K ++ [e]).length = K.length + 1 := by simp
  rw [e1]
  refine ⟨?_, hz.2.imp id (fun z => by omega)⟩
  rw [h1, hz.1, x_ad_1 hz.2]
theorem x_E_obj {g : xG} {c N : Nat} {f : Nat → Int} (hc : c < 10) : x_E g (c, N) f = .inr (c, (List.range N).map fun j => x_v g (x_fv g (x_tc c j) (f j))) := by
  unfold x_E
  rw [if_neg (by show ¬ c = 10; omega), if_neg (by show ¬ c = 11; omega), if_neg (by show ¬ c = 12; omega), if_neg (by show ¬ c = 13; omega)]
theorem x_fs_at {g : xG} {c N j : Nat} {f : Nat → Int} (hj : j < N) : ((List.range N).map fun j => x_v g (x_fv g (x_tc c j) (f j)))[j]? = some (x_v g (x_fv g (x_tc c j) (f j))) := by
  rw [List.getElem?_map, List.getElem?_range hj]
  rfl
/-- what is read is a value -/
theorem x_rd_ok {g : xG} {h : xH} {r c N j : Nat} (hh : x_okH h) (hr : x_is h r c N) (hj : j < N) : x_ok (x_fv g (x_tc c j) (h.2 r j)) := by
  obtain ⟨h1, h2⟩ := hr
  obtain ⟨-, -, -, h3⟩ := hh _ _ h2
  have h4 := h3 j hj
  have e2 : r - 16 + 16 = r := by omega
  rw [e2] at h4
  have h5 := x_tc_lt c j
  unfold x_fv
  split
  · rename_i h6; exact h4.2.2 h6
  split
  · trivial
  · rename_i h6 h7
    have h8 : x_tc c j = 0 ∨ x_tc c j = 3 := by omega
    rcases h8 with h8 | h8
    · exact h4.1 h8
    · rcases h4.2.1 h8 with q | q
      · show x32 (h.2 r j) = h.2 r j
        rw [q]; rfl
      · show x32 (h.2 r j) = h.2 r j
        rw [q]; decide
/-- one place changed -/
def x_up (C : Nat → Nat → Int) (r j : Nat) (v : Int) : Nat → Nat → Int := fun r' j' => if r' = r then if j' = j then v else C r' j' else C r' j'
theorem x_is_up {h : xH} {r c N r1 j1 : Nat} {v : Int} (hr : x_is h r c N) : x_is (h.1, x_up h.2 r1 j1 v) r c N := hr
theorem x_ok_up {h : xH} {r c N j : Nat} {v : Int} (hh : x_okH h) (hr : x_is h r c N) (h0 : x_tc c j = 0 → x32 v = v) (h3 : x_tc c j = 3 → v = 0 ∨ v = 1) (h1 : x_tc c j = 1 → x64 v = v) : x_okH (h.1, x_up h.2 r j v) := by
  intro k e hk
  obtain ⟨a1, a2, a3, a4⟩ := hh k e hk
  refine ⟨a1, a2, a3, fun i hi => ?_⟩
  show (x_tc e.1 i = 0 → x32 (x_up h.2 r j v (k + 16) i) = x_up h.2 r j v (k + 16) i) ∧ (x_tc e.1 i = 3 → x_up h.2 r j v (k + 16) i = 0 ∨ x_up h.2 r j v (k + 16) i = 1) ∧ (x_tc e.1 i = 1 → x64 (x_up h.2 r j v (k + 16) i) = x_up h.2 r j v (k + 16) i)
  unfold x_up
  split
  · rename_i e1
    split
    · rename_i e2
      obtain ⟨b1, b2⟩ := hr
      have e3 : r - 16 = k := by omega
      rw [e3] at b2
      have e4 : e = (c, N) := Option.some.inj (hk.symm.trans b2)
      rw [e4, e2]
      exact ⟨h0, h3, h1⟩
    · exact a4 i hi
  · exact a4 i hi
theorem x_P_put {g : xG} {h : xH} {H H1 : Heap} {r c N : Nat} {C : Nat → Nat → Int} (hP : va_P g.D x_cl (x_ws g h) H) (hr : x_is h r c N) (hn : va_at g.D x_cl (x_ad g r, x_E g (c, N) (C r)) H1) (ho : ∀ q : Nat, q ≠ x_ad g r → H1[q]? = H[q]?) (hC : ∀ q, q ≠ r → C q = h.2 q) : va_P g.D x_cl (x_ws g (h.1, C)) H1 := by
  intro k q hq
  unfold x_ws at hq
  rw [List.getElem?_map] at hq
  by_cases hk : k < h.1.length
  · rw [List.getElem?_range hk] at hq
    simp only [Option.map_some, Option.some.injEq] at hq
    by_cases e1 : k + 16 = r
    · have h2 := hr.2
      have e2 : r - 16 = k := by omega
      rw [e2] at h2
      have e3 : h.1.getD k (0, 0) = (c, N) := by rw [List.getD_eq_getElem?_getD, h2]; rfl
      rw [← hq]
      show va_at g.D x_cl (x_ad g (k + 16), x_E g (h.1.getD k (0, 0)) (C (k + 16))) H1
      rw [e3, e1]
      exact hn
    · have h3 : (x_ws g h)[k]? = some q := by
        unfold x_ws
        rw [List.getElem?_map, List.getElem?_range hk]
        simp only [Option.map_some]
        rw [← hC (k + 16) e1]
        exact congrArg some hq
      refine (hP k q h3).kept (ho _ ?_)
      rw [← hq]
      exact x_ad_ne (by omega) hr.1 e1
  · rw [List.getElem?_eq_none (by rw [List.length_range]; show h.1.length ≤ k; omega)] at hq
    cases hq
theorem x_P_push {g : xG} {h : xH} {H H1 : Heap} {e : Nat × Nat} {C : Nat → Nat → Int} (hz : H.size = x_ad g (h.1.length + 16) ∧ (g.sa 0 = 0 ∨ 59 ≤ h.1.length)) (hP : va_P g.D x_cl (x_ws g h) H) (hn : va_at g.D x_cl (H.size, x_E g e (C (h.1.length + 16))) H1) (ho : ∀ q : Nat, q < H.size → H1[q]? = H[q]?) (hC : ∀ q, q < h.1.length + 16 → C q = h.2 q) : va_P g.D x_cl (x_ws g (h.1 ++ [e], C)) H1 := by
  intro k q hq
  unfold x_ws at hq
  rw [List.getElem?_map] at hq
  simp only [List.length_append, List.length_cons, List.length_nil, Nat.zero_add] at hq
  by_cases hk : k < h.1.length
  · rw [List.getElem?_range (by omega)] at hq
    simp only [Option.map_some, Option.some.injEq] at hq
    have h3 : (x_ws g h)[k]? = some q := by
      unfold x_ws
      rw [List.getElem?_map, List.getElem?_range hk]
      simp only [Option.map_some]
      rw [← hC (k + 16) (by omega), ← hq]
      simp only [List.getD_eq_getElem?_getD, List.getElem?_append_left hk]
    refine (hP k q h3).kept (ho _ ?_)
    rw [← hq]
    show x_ad g (k + 16) < H.size
    rw [hz.1]
    exact x_ad_lt (by omega) (by omega)
  · by_cases hk2 : k = h.1.length
    · rw [List.getElem?_range (by omega)] at hq
      simp only [Option.map_some, Option.some.injEq] at hq
      rw [← hq]
      have e3 : (h.1 ++ [e]).getD k (0, 0) = e := by
        rw [List.getD_eq_getElem?_getD, List.getElem?_append_right (by omega), hk2]
        simp
      show va_at g.D x_cl (x_ad g (k + 16), x_E g ((h.1 ++ [e]).getD k (0, 0)) (C (k + 16))) H1
      rw [e3, hk2, ← hz.1]
      exact hn
    · rw [List.getElem?_eq_none (by rw [List.length_range]; omega)] at hq
      cases hq
theorem x_ok_push {h : xH} {e : Nat × Nat} {C : Nat → Nat → Int} (hh : x_okH h) (h1 : e.1 < 10 → e.2 = (x_ft.getD e.1 []).length) (h2 : e.1 < 14) (h3 : e.2 < 1000000) (hC : ∀ q, q < h.1.length + 16 → C q = h.2 q) (hz : ∀ j, C (h.1.length + 16) j = 0) : x_okH (h.1 ++ [e], C) := by
  intro k e2 hk
  by_cases hl : k < h.1.length
  · have hk2 : h.1[k]? = some e2 := by
      have hk3 : (h.1 ++ [e])[k]? = some e2 := hk
      rw [List.getElem?_append_left hl] at hk3
      exact hk3
    obtain ⟨a1, a2, a3, a4⟩ := hh k e2 hk2
    refine ⟨a1, a2, a3, fun j hj => ?_⟩
    have a5 := a4 j hj
    show (x_tc e2.1 j = 0 → x32 (C (k + 16) j) = C (k + 16) j) ∧ (x_tc e2.1 j = 3 → C (k + 16) j = 0 ∨ C (k + 16) j = 1) ∧ (x_tc e2.1 j = 1 → x64 (C (k + 16) j) = C (k + 16) j)
    rw [hC (k + 16) (by omega)]
    exact a5
  · have hk3 : (h.1 ++ [e])[k]? = some e2 := hk
    rw [List.getElem?_append_right (by omega)] at hk3
    have h5 : k - h.1.length < 1 := (List.getElem?_eq_some_iff.mp hk3).1
    have h6 : k = h.1.length := by omega
    rw [show k - h.1.length = 0 by omega] at hk3
    have e3 : e = e2 := by simpa using hk3
    subst e3
    refine ⟨h1, h2, h3, fun j hj => ?_⟩
    show (x_tc e.1 j = 0 → x32 (C (k + 16) j) = C (k + 16) j) ∧ (x_tc e.1 j = 3 → C (k + 16) j = 0 ∨ C (k + 16) j = 1) ∧ (x_tc e.1 j = 1 → x64 (C (k + 16) j) = C (k + 16) j)
    rw [h6, hz j]
    exact ⟨fun _ => xn_ok0, fun _ => Or.inl rfl, fun _ => xn_ok0L⟩
section XR2
variable {g : xG} {D M k n pc : Nat} {ls st : List xV} {h : xH} {Q : xV → xH → Prop}
theorem x_ne0 {r c N : Nat} (hr : x_is h r c N) : x_v g (xr r) = .ref (x_ad g r) := by
  rcases x_rn (g := g) r with ⟨e, -⟩ | ⟨-, e⟩
  · have := hr.1; omega
  · exact e
theorem x_inA {r c N : Nat} (hr : x_is h r c N) : x_A g (x_ad g r) := by
  unfold x_A x_ad
  rw [if_neg (by have := hr.1; omega)]
  omega
theorem xj_getfield {i r c N j : Nat} (hd : decode (x_cd M) pc = .ok (.getfield i, 3)) (hr : x_is h r c N) (hc : c < 10) (hj : j < (x_ft.getD c []).length) (hw : Cond.fieldLink (x_y M).cls i (x_T c j).1 (x_T c j).2.1 (x_T c j).2.2.1 ∈ x_tb) (kk : xJ g D M k n (pc + 3) ls (x_fv g (x_tc c j) (h.2 r j) :: st) h Q) : xJ g D M k n pc ls (xr r :: st) h Q := by
  intro p e s m args below meth c0 H locs la C R S hl ol os hk hn
  obtain ⟨q, hq, q1, q2, q3⟩ := x_cl_len c hc
  have hN : N = (x_ft.getD c []).length := (R.2.2 _ _ hr.2).1 hc
  have hj2 : j < N := by omega
  have kk := kk p e s m args below meth c0 H locs la C R S hl ol (x_okc (x_rd_ok R.2.2 hr hj2) (x_okt os)) hk hn
  have he := x_ws_at (g := g) hr
  rw [x_E_obj hc] at he
  rw [List.map_cons, x_ne0 hr]
  have hcl : x_cl[c]? = some (q.1, q.2.1, q.2.2) := hq
  refine va_get (Ts := x_tb) C.1 C.2.1 C.2.2.2.2.2.1 (x_cl_lay hcl) C.2.2.2.2.1 C.2.2.2.2.2.2.2.2.1 R.2.1 (r - 16) he hcl j (by rw [q3]; exact hj) ?_ (ref := (x_T c j).1) ?_ (x_fs_at hj2) hd kk
  · rw [q1]; exact C.2.2.2.2.2.1 _ hw
  · rw [q1]; exact fun _ z => z
/-- a value fits a place -/
def x_fit (t : Nat) : xV → Prop
  | .inl x => t = 0 ∨ (t = 3 ∧ (x = 0 ∨ x = 1))
  | .inr (.inl _) => t = 1
  | .inr (.inr (.inl _)) => t = 2
  | _ => False
/-- what a heap keeps of a value -/
def x_pl : xV → Int
  | .inl x => x
  | .inr (.inl x) => x
  | .inr (.inr (.inl r)) => (r : Int)
  | _ => 0
theorem x_fit_fv {t : Nat} {v : xV} (hf : x_fit t v) : x_fv g t (x_pl v) = v := by
  rcases v with x | x | r | u
  · rcases hf with e1 | ⟨e1, -⟩ <;> subst e1 <;> rfl
  · have e1 : t = 1 := hf
    subst e1; rfl
  · have e1 : t = 2 := hf
    subst e1
    show xr ((r : Int)).toNat = xr r
    simp
  · exact absurd hf id
theorem x_fit_nar {t : Nat} {ty : FieldType} {v : xV} (hf : x_fit t v) (ht : x_tyok t ty = true) : narrow ty (x_v g v) = x_v g v ∧ fits ty (x_v g v) = true := by
  rcases v with x | x | r | u
  · rcases hf with e1 | ⟨e1, e2⟩
    · subst e1
      cases ty <;> first | (exact ⟨rfl, rfl⟩) | (cases ht)
    · subst e1
      cases ty <;> first | (cases ht; done) | skip
      rcases e2 with e2 | e2
      · subst e2
        exact ⟨(by decide +kernel : narrow .boolean (.int (Int32.ofInt 0)) = .int (Int32.ofInt 0)), (by decide +kernel : fits .boolean (.int (Int32.ofInt 0)) = true)⟩
      · subst e2
        exact ⟨(by decide +kernel : narrow .boolean (.int (Int32.ofInt 1)) = .int (Int32.ofInt 1)), (by decide +kernel : fits .boolean (.int (Int32.ofInt 1)) = true)⟩
  · have e1 : t = 1 := hf
    subst e1
    cases ty <;> first | (exact ⟨rfl, rfl⟩) | (cases ht)
  · have e1 : t = 2 := hf
    subst e1
    show narrow ty (va_rf (x_ro g r)) = va_rf (x_ro g r) ∧ fits ty (va_rf (x_ro g r)) = true
    cases x_ro g r <;> cases ty <;> first | (exact ⟨rfl, rfl⟩) | (cases ht)
  · exact absurd hf id
theorem x_fit_ok {c j : Nat} {v : xV} (hf : x_fit (x_tc c j) v) (hv : x_ok v) : (x_tc c j = 0 → x32 (x_pl v) = x_pl v) ∧ (x_tc c j = 3 → x_pl v = 0 ∨ x_pl v = 1) ∧ (x_tc c j = 1 → x64 (x_pl v) = x_pl v) := by
  rcases v with x | x | r | u
  · refine ⟨fun _ => hv, fun e3 => ?_, fun e1 => ?_⟩
    · rcases hf with z | ⟨-, z⟩
      · omega
      · exact z
    · rcases hf with z | ⟨z, -⟩ <;> omega
  · have e1 : x_tc c j = 1 := hf
    exact ⟨fun z => by omega, fun z => by omega, fun _ => hv⟩
  · have e1 : x_tc c j = 2 := hf
    exact ⟨fun z => by omega, fun z => by omega, fun z => by omega⟩
  · exact absurd hf id
theorem x_map_set {c N j : Nat} {f : Nat → Int} {v : xV} (hf : x_fit (x_tc c j) v) (i : Nat) (hi : i < N) : vp_V (((List.range N).map fun j => x_v g (x_fv g (x_tc c j) (f j))).set j (x_v g v)) i = vp_V ((List.range N).map fun i => x_v g (x_fv g (x_tc c i) (if i = j then x_pl v else f i))) i := by
  unfold vp_V
  rw [List.getD_eq_getElem?_getD, List.getD_eq_getElem?_getD, List.getElem?_set, List.getElem?_map, List.getElem?_map, List.getElem?_range hi]
  by_cases e1 : j = i
  · subst e1
    rw [if_pos rfl, if_pos (by simpa using hi)]
    simp [x_fit_fv hf]
  · rw [if_neg e1]
    simp only [Option.map_some, Option.getD_some]
    rw [if_neg (fun z => e1 z.symm)]
/-- a field of an object takes a value -/
theorem xj_putfield {i r c N j : Nat} {v : xV} (hd : decode (x_cd M) pc = .ok (.putfield i, 3)) (hr : x_is h r c N) (hc : c < 10) (hj : j < (x_ft.getD c []).length) (hw : Cond.fieldLink (x_y M).cls i (x_T c j).1 (x_T c j).2.1 (x_T c j).2.2.1 ∈ x_tb)
    (hfin : (x_T c j).2.2.2 = false ∨ ((x_T c j).2.2.2 = true ∧ (x_y M).name = "<init>" ∧ (x_T c j).1 = (x_y M).cls)) (hf : x_fit (x_tc c j) v) (kk : xJ g D M k n (pc + 3) ls st (h.1, x_up h.2 r j (x_pl v)) Q) : xJ g D M k n pc ls (v :: xr r :: st) h Q := by
  intro p e s m args below meth c0 H locs la C R S hl ol os hk hn
  obtain ⟨q, hq, q1, q2, q3⟩ := x_cl_len c hc
  have hN : N = (x_ft.getD c []).length := (R.2.2 _ _ hr.2).1 hc
  have hj2 : j < N := by omega
  have he := x_ws_at (g := g) hr
  rw [x_E_obj hc] at he
  rw [List.map_cons, List.map_cons, x_ne0 hr]
  have hcl : x_cl[c]? = some (q.1, q.2.1, q.2.2) := hq
  have hts := C.2.2.2.2.2.1
  have hown := C.2.2.2.2.1
  have hK := C.2.2.2.2.2.2.2.2.1
  have hty := x_cl_ty0 c hc _ hq
  have hap := va_apart (own := (x_y M).cls) hts (x_cl_lay hcl) (x_ty c) hty (x_cl_nm q (List.mem_of_getElem? hq)) hK hcl
  obtain ⟨r2, z1, cell, z2, z3, z4, z5⟩ := R.2.1 (r - 16) _ he
  have hr2 : r2 = q := Option.some.inj (z1.symm.trans hq)
  subst hr2
  have hjq : j < r2.2.2 := by rw [q3]; exact hj
  obtain ⟨hSl, hfc, kC, hkC, hkind⟩ := hK.1 c _ hq
  obtain ⟨cf, kf, fi, f, hi, hsl⟩ := hSl j hjq
  have hst := (u_facts hfc hkC (u_lays hts (x_cl_lay hcl) hjq) hi).1
  have hlay := hts _ (x_cl_lay hcl _ (u_in_lay hjq))
  have hlink : (Cond.fieldLink (x_y M).cls i (r2.2.1 j).1 (r2.2.1 j).2.1 (r2.2.1 j).2.2.1).before args s = true := by rw [q1]; exact hts _ hw
  obtain ⟨hnar, hfit⟩ := x_fit_nar (g := g) hf (x_ty_tc hc hj)
  have hback : ∀ (H1 : Heap) (a : Nat), a = g.D.2 c j → H1[x_ad g r]? = some (cell.setSlot a (x_v g v)) → H1.size = H.size → (∀ q : Nat, q ≠ x_ad g r → H1[q]? = H[q]?) → W p g.l e (x_rm D M) s m args below meth c0 H1 (locs ++ [⟨x_ad g r, a⟩]) k n (MQ below (x_Qj g M Q) args s (x_bc M) (x_bs M) (x_A g)) (F0 m (pc + 3) la (st.map (x_v g))) := by
    intro H1 a ha e1 e2 e3
    refine kk p e s m args below meth c0 H1 _ la C ⟨by rw [e2]; exact R.1, ?_, ?_⟩ (S.put e2 e3 (x_inA hr)) hl ol (x_okt (x_okt os)) hk hn
    · refine x_P_put R.2.1 hr ?_ e3 (fun q hq => ?_)
      · rw [x_E_obj hc]
        refine ⟨r2, hq, ?_⟩
        have hob : t_OB (x_ad g r) (g.D.1 c) r2.2.2 (g.D.2 c) H1 (updV (vp_V ((List.range N).map fun j => x_v g (x_fv g (x_tc c j) (h.2 r j)))) j (x_v g v)) := ⟨_, e1, z3, z4, by rw [ha]; exact t_set z5 hap hjq (x_v g v)⟩
        refine hob.to (fun i hi => ?_)
        rw [vp_updV_set (by simpa using hj2)]
        have hiN : i < N := by omega
        rw [x_map_set hf i hiN]
        show vp_V _ i = vp_V ((List.range N).map fun j2 => x_v g (x_fv g (x_tc c j2) (x_up h.2 r j (x_pl v) r j2))) i
        unfold x_up
        simp
      · funext i
        show x_up h.2 r j (x_pl v) q i = h.2 q i
        unfold x_up
        rw [if_neg hq]
    · obtain ⟨o1, o2, o3⟩ := x_fit_ok hf (x_okh os)
      exact x_ok_up R.2.2 hr o1 o2 o3
  rcases hfin with hfin | ⟨hfin, hin, hdecl⟩
  · rw [← q1] at hfin
    unfold u_lay at hlay
    rw [if_neg (by rw [hfin]; decide)] at hlay
    have h6 := u_store hfc hkC hkind hlay hi (hty j hjq) hnar hfit
    refine W.putK C.1 C.2.1 (f := f) ⟨hown, hlink, ⟨_, _, _, hi⟩, hst⟩ (by rw [z3]; exact h6) z2 z4 (by rw [hsl]; exact k2_hasslot (z5 j hjq)) rfl rfl hd fun H1 e1 e2 e3 => ?_
    exact hback H1 f.slot hsl e1 e2 e3
  · rw [← q1] at hfin hdecl
    unfold u_lay at hlay
    rw [if_pos hfin] at hlay
    have hcf : m.cls = cf := by
      obtain ⟨_, _, c', _, _, _, -, -, hf', -, -, -, hown2, -⟩ := Cond.laysFinal_spec hlay
      have e1 : c' = cf := by have := hi.symm.trans hf'; simp at this; exact this.1.symm
      rw [hdecl] at hown2
      rw [← e1]; exact Option.some.inj (hown.symm.trans hown2)
    have h6 := u_fits hfc hkC hkind (Or.inr hlay) hi (hty j hjq) hnar hfit
    refine W.putFinK C.1 C.2.1 hown hlink hi hst hcf (by rw [C.2.2.2.2.2.2.2.1]; exact hin) (by rw [z3]; exact h6) z2 z4 (by rw [hsl]; exact k2_hasslot (z5 j hjq)) rfl rfl hd fun H1 e1 e2 e3 => ?_
    exact hback H1 f.slot hsl e1 e2 e3
end XR2
