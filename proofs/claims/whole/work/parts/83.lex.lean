/-! THE TEXT AS TOKENS: bytes b (-1 behind the end n), by the class's numbers of kinds -/
def isBl (c : Int) : Bool := decide (c = 32) || decide (c = 10)
def isLt (c : Int) : Bool := (decide (97 ≤ c) && decide (c ≤ 122)) || (decide (65 ≤ c) && decide (c ≤ 90))
def isDg (c : Int) : Bool := decide (48 ≤ c) && decide (c ≤ 57)
theorem isBl_iff {c : Int} : isBl c = true ↔ c = 32 ∨ c = 10 := by unfold isBl; simp
theorem isLt_iff {c : Int} : isLt c = true ↔ (97 ≤ c ∧ c ≤ 122) ∨ (65 ≤ c ∧ c ≤ 90) := by unfold isLt; simp
theorem isDg_iff {c : Int} : isDg c = true ↔ 48 ≤ c ∧ c ≤ 57 := by unfold isDg; simp
def bt (B : Nat → Int) (n p : Nat) : Int := if p < n then B p else -1
theorem bt_y {B : Nat → Int} {n p : Nat} (h : p < n) : bt B n p = B p := if_pos h
theorem bt_n {B : Nat → Int} {n p : Nat} (h : n ≤ p) : bt B n p = -1 := if_neg (by omega)
/-- on and on while P is so -/
def rn (P : Int → Bool) (b : Nat → Int) : Nat → Nat → Nat
  | 0, p => p
  | m + 1, p => if P (b p) = true then rn P b m (p + 1) else p
def ru (P : Int → Bool) (b : Nat → Int) (n p : Nat) : Nat := rn P b (n - p) p
theorem ru_y {P : Int → Bool} {b : Nat → Int} {n p : Nat} (h1 : p < n) (h2 : P (b p) = true) : ru P b n p = ru P b n (p + 1) := by
  unfold ru
  obtain ⟨m, hm⟩ : ∃ m, n - p = m + 1 := ⟨n - p - 1, by omega⟩
  rw [hm, show n - (p + 1) = m by omega]
  show (if P (b p) = true then rn P b m (p + 1) else p) = _
  rw [if_pos h2]
theorem ru_n {P : Int → Bool} {b : Nat → Int} {n p : Nat} (h : p < n → P (b p) = false) : ru P b n p = p := by
  unfold ru
  rcases Nat.lt_or_ge p n with z | z
  · obtain ⟨m, hm⟩ : ∃ m, n - p = m + 1 := ⟨n - p - 1, by omega⟩
    rw [hm]
    show (if P (b p) = true then rn P b m (p + 1) else p) = _
    rw [if_neg (by rw [h z]; decide)]
  · rw [show n - p = 0 by omega]; rfl
theorem rn_b (P : Int → Bool) (b : Nat → Int) : ∀ (m p : Nat), p ≤ rn P b m p ∧ rn P b m p ≤ p + m ∧ (rn P b m p < p + m → P (b (rn P b m p)) = false) ∧ ∀ j, p ≤ j → j < rn P b m p → P (b j) = true
  | 0, p => ⟨Nat.le_refl _, Nat.le_refl _, fun h => absurd h (Nat.lt_irrefl _), fun j h1 h2 => absurd h2 (Nat.not_lt.mpr h1)⟩
  | m + 1, p => by
    unfold rn
    by_cases h : P (b p) = true
    · rw [if_pos h]
      obtain ⟨i1, i2, i3, i4⟩ := rn_b P b m (p + 1)
      refine ⟨by omega, by omega, fun z => i3 (by omega), fun j j1 j2 => ?_⟩
      by_cases e : j = p
      · subst e; exact h
      · exact i4 j (by omega) j2
    · rw [if_neg h]
      refine ⟨by omega, by omega, fun _ => ?_, fun j j1 j2 => by omega⟩
      cases q : P (b p)
      · rfl
      · exact absurd q h
theorem ru_b {P : Int → Bool} {b : Nat → Int} {n p : Nat} (h : p ≤ n) : p ≤ ru P b n p ∧ ru P b n p ≤ n ∧ (ru P b n p < n → P (b (ru P b n p)) = false) ∧ ∀ j, p ≤ j → j < ru P b n p → P (b j) = true := by
  obtain ⟨i1, i2, i3, i4⟩ := rn_b P b (n - p) p
  unfold ru
  exact ⟨i1, by omega, fun z => i3 (by omega), i4⟩
/-- words: their letters as a number -/
def wdl (c : Nat → Int) : Nat → Int
  | 0 => 0
  | l + 1 => wdl c l * 256 + c l
theorem wdl_cong {c d : Nat → Int} : ∀ l : Nat, (∀ i, i < l → c i = d i) → wdl c l = wdl d l
  | 0, _ => rfl
  | l + 1, h => by
    unfold wdl
    rw [wdl_cong l (fun i hi => h i (by omega)), h l (by omega)]
theorem wdl_0 {c : Nat → Int} : ∀ l : Nat, (∀ i, i < l → 1 ≤ c i ∧ c i ≤ 255) → 0 ≤ wdl c l ∧ (wdl c l = 0 → l = 0)
  | 0, _ => ⟨Int.le_refl _, fun _ => rfl⟩
  | l + 1, h => by
    have i := (wdl_0 l (fun i hi => h i (by omega))).1
    have := h l (by omega)
    unfold wdl
    exact ⟨by omega, fun z => by omega⟩
theorem wdl_inj {c d : Nat → Int} : ∀ l m : Nat, (∀ i, i < l → 1 ≤ c i ∧ c i ≤ 255) → (∀ i, i < m → 1 ≤ d i ∧ d i ≤ 255) → wdl c l = wdl d m → l = m ∧ ∀ i, i < l → c i = d i
  | 0, m, _, hd, e => ⟨((wdl_0 m hd).2 e.symm).symm, fun i hi => absurd hi (Nat.not_lt_zero i)⟩
  | l + 1, 0, hc, _, e => absurd ((wdl_0 (l + 1) hc).2 e) (by omega)
  | l + 1, m + 1, hc, hd, e => by
    unfold wdl at e
    have c1 := hc l (by omega)
    have d1 := hd m (by omega)
    obtain ⟨i1, i2⟩ := wdl_inj l m (fun i hi => hc i (by omega)) (fun i hi => hd i (by omega)) (by omega)
    refine ⟨by omega, fun i hi => ?_⟩
    by_cases z : i = l
    · subst z; subst i1; omega
    · exact i2 i (by omega)
def wvl : List Int := [1936683636, 1936023916, 482955852389, 6710629, 108230851064953, 1718185573, 126892433305195, 521459297380, 1751215723, 465558725996, 512869299304, 427071729268, 119182899770472, 512802253683, 1953462126, 6578553, 6385252, 28530, 7237492, 7170414, 7168376]
def wln : List Nat := [4, 4, 5, 3, 6, 4, 6, 5, 4, 5, 5, 5, 6, 5, 4, 3, 3, 2, 3, 3, 3]
/-- letter i of word w, blanks behind -/
def WS (w i : Nat) : Int := (x_by.getD 0 []).getD (6 * w + i) 0
theorem WS_ok : ∀ w, w < 21 → wln.getD w 0 ≤ 6 ∧ wvl.getD w 0 = wdl (WS w) (wln.getD w 0) ∧ (∀ i, i < 6 → (i < wln.getD w 0 → 65 ≤ WS w i ∧ WS w i ≤ 255) ∧ (wln.getD w 0 ≤ i → WS w i = 32)) := by decide +kernel
theorem word_iff {w l : Nat} {c : Nat → Int} (hw : w < 21) (hc : ∀ i, i < l → isLt (c i) = true) : (l ≤ 6 ∧ ∀ i, i < 6 → (if i < l then c i else 32) = WS w i) ↔ (if l ≤ 6 then wdl c l else 0) = wvl.getD w 0 := by
  obtain ⟨k1, k2, k3⟩ := WS_ok w hw
  have hb : ∀ i, i < l → 65 ≤ c i ∧ c i ≤ 255 := fun i hi => by
    have := isLt_iff.mp (hc i hi)
    omega
  constructor
  · intro ⟨h1, h2⟩
    rw [if_pos h1, k2]
    have el : l = wln.getD w 0 := by
      rcases Nat.lt_trichotomy l (wln.getD w 0) with z | z | z
      · have a1 := h2 l (by omega)
        rw [if_neg (by omega)] at a1
        have := (k3 l (by omega)).1 z
        omega
      · exact z
      · have a1 := h2 (wln.getD w 0) (by omega)
        rw [if_pos z, (k3 _ (by omega)).2 (Nat.le_refl _)] at a1
        have := hb _ z
        omega
    rw [← el]
    exact wdl_cong l (fun i hi => by have := h2 i (by omega); rw [if_pos hi] at this; exact this)
  · intro h
    have pos : wvl.getD w 0 ≠ 0 := by
      intro z
      rw [k2] at z
      have := (wdl_0 (c := WS w) (wln.getD w 0) (fun i hi => by have := (k3 i (by omega)).1 hi; omega)).2 z
      have q : ∀ w, w < 21 → wln.getD w 0 ≠ 0 := by decide
      exact q w hw this
    by_cases z : l ≤ 6
    · rw [if_pos z, k2] at h
      obtain ⟨e1, e2⟩ := wdl_inj l (wln.getD w 0) (fun i hi => by have := hb i hi; omega) (fun i hi => by have := (k3 i (by omega)).1 hi; omega) h
      refine ⟨z, fun i hi => ?_⟩
      by_cases y : i < l
      · rw [if_pos y]; exact e2 i y
      · rw [if_neg y, (k3 i hi).2 (by omega)]
    · rw [if_neg z] at h
      exact absurd h.symm pos
/-- the number of a word (37: none) -/
def wk (v : Int) : Int := if ff (fun i => decide (wvl.getD i 0 = v)) 21 0 = -1 then 37 else ff (fun i => decide (wvl.getD i 0 = v)) 21 0
theorem wvl_inj : ∀ i, i < 21 → ∀ j, j < 21 → wvl.getD i 0 = wvl.getD j 0 → i = j := by decide +kernel
theorem wk_iff {v : Int} {w : Nat} (hw : w < 21) : wk v = (w : Int) ↔ v = wvl.getD w 0 := by
  unfold wk
  rcases ff_c (fun i => decide (wvl.getD i 0 = v)) 21 0 with ⟨e, k⟩ | ⟨j, e, k1, k2, k3⟩
  · rw [if_pos e]
    constructor
    · intro z; omega
    · intro z
      have := k w (by omega) (by omega)
      rw [z] at this
      simp at this
  · rw [e, if_neg (by omega)]
    have k3 : wvl.getD j 0 = v := by simpa using k3
    constructor
    · intro z
      have : j = w := by omega
      subst this; exact k3.symm
    · intro z
      have := wvl_inj j (by omega) w hw (by rw [k3, z])
      subst this; rfl
theorem wk_r (v : Int) : (0 ≤ wk v ∧ wk v ≤ 20) ∨ wk v = 37 := by
  unfold wk
  rcases ff_c (fun i => decide (wvl.getD i 0 = v)) 21 0 with ⟨e, k⟩ | ⟨j, e, k1, k2, k3⟩
  · rw [if_pos e]; exact Or.inr rfl
  · rw [e, if_neg (by omega)]; left; omega
/-- signs -/
def sgn (c d : Int) : Int := if c = 60 then (if d = 61 then 33 else 21) else if c = 62 then (if d = 61 then 34 else 22) else if c = 61 then 23 else if c = 35 then 24 else if c = 43 then 25 else if c = 45 then 26 else if c = 42 then 27 else if c = 47 then 28 else if c = 40 then 29 else if c = 41 then 30 else if c = 44 then 31 else if c = 59 then 32 else 37
theorem sgn_r (c d : Int) : (21 ≤ sgn c d ∧ sgn c d ≤ 34) ∨ sgn c d = 37 := by
  unfold sgn
  repeat' split
  all_goals omega
/-- numbers, as either side keeps them -/
def nvC (c : Nat → Int) : Nat → Int
  | 0 => 0
  | l + 1 => min 10000 (nvC c l * 10 + c l - 48)
def nvR (c : Nat → Int) : Nat → Int
  | 0 => 0
  | l + 1 => if nvR c l < 100000 then 10 * nvR c l + c l - 48 else nvR c l
theorem nv_eq {c : Nat → Int} : ∀ l : Nat, (∀ i, i < l → isDg (c i) = true) → nvC c l = min 10000 (nvR c l) ∧ 0 ≤ nvR c l ∧ nvR c l < 1000000
  | 0, _ => ⟨rfl, Int.le_refl _, by show (0 : Int) < 1000000; decide⟩
  | l + 1, h => by
    obtain ⟨e1, e2, e3⟩ := nv_eq l (fun i hi => h i (by omega))
    have := isDg_iff.mp (h l (by omega))
    unfold nvC nvR
    rw [e1]
    split <;> omega
/-- the word that begins at q, as a number -/
def wl (b : Nat → Int) (n q : Nat) : Int := if ru isLt b n q - q ≤ 6 then wdl (fun i => b (q + i)) (ru isLt b n q - q) else 0
def kd (b : Nat → Int) (n q : Nat) : Int := if n ≤ q then 36 else if isLt (b q) = true then wk (wl b n q) else if isDg (b q) = true then 35 else sgn (b q) (b (q + 1))
def nx (b : Nat → Int) (n q : Nat) : Nat := if n ≤ q then q else if isLt (b q) = true then ru isLt b n q else if isDg (b q) = true then ru isDg b n q else if (b q = 60 ∨ b q = 62) ∧ b (q + 1) = 61 then q + 2 else q + 1
def nb (b : Nat → Int) (n q : Nat) : Int := nvC (fun i => b (q + i)) (ru isDg b n q - q)
/-- the i-th token's place -/
def ps (b : Nat → Int) (n : Nat) : Nat → Nat
  | 0 => ru isBl b n 0
  | i + 1 => ru isBl b n (nx b n (ps b n i))
abbrev kt (b : Nat → Int) (n i : Nat) : Int := kd b n (ps b n i)
/-- what a text's bytes are -/
def bok8 (b : Nat → Int) (n : Nat) : Prop := (∀ p, p < n → 0 ≤ b p ∧ b p ≤ 255) ∧ ∀ p, n ≤ p → b p = -1
theorem lt_n {b : Nat → Int} {n p : Nat} (hb : bok8 b n) (h : isLt (b p) = true) : p < n := by
  rcases Nat.lt_or_ge p n with z | z
  · exact z
  · exact absurd (hb.2 p z ▸ h : isLt (-1) = true) (by decide)
theorem dg_n {b : Nat → Int} {n p : Nat} (hb : bok8 b n) (h : isDg (b p) = true) : p < n := by
  rcases Nat.lt_or_ge p n with z | z
  · exact z
  · exact absurd (hb.2 p z ▸ h : isDg (-1) = true) (by decide)
theorem bl_n {b : Nat → Int} {n p : Nat} (hb : bok8 b n) (h : isBl (b p) = true) : p < n := by
  rcases Nat.lt_or_ge p n with z | z
  · exact z
  · exact absurd (hb.2 p z ▸ h : isBl (-1) = true) (by decide)
theorem nx_b {b : Nat → Int} {n q : Nat} (hb : bok8 b n) (h : q ≤ n) : q ≤ nx b n q ∧ nx b n q ≤ n ∧ (q < n → q < nx b n q) := by
  unfold nx
  by_cases h1 : n ≤ q
  · rw [if_pos h1]; omega
  · rw [if_neg h1]
    by_cases h2 : isLt (b q) = true
    · rw [if_pos h2, ru_y (by omega) h2]
      have := ru_b (P := isLt) (b := b) (n := n) (p := q + 1) (by omega)
      omega
    · rw [if_neg h2]
      by_cases h3 : isDg (b q) = true
      · rw [if_pos h3, ru_y (by omega) h3]
        have := ru_b (P := isDg) (b := b) (n := n) (p := q + 1) (by omega)
        omega
      · rw [if_neg h3]
        by_cases h4 : (b q = 60 ∨ b q = 62) ∧ b (q + 1) = 61
        · rw [if_pos h4]
          rcases Nat.lt_or_ge (q + 1) n with z | z
          · omega
          · have := hb.2 (q + 1) z; omega
        · rw [if_neg h4]; omega
theorem ps_b {b : Nat → Int} {n : Nat} (hb : bok8 b n) : ∀ i, ps b n i ≤ n ∧ (ps b n i < n → isBl (b (ps b n i)) = false)
  | 0 => by
    have := ru_b (P := isBl) (b := b) (n := n) (p := 0) (by omega)
    exact ⟨this.2.1, this.2.2.1⟩
  | i + 1 => by
    have h1 := ps_b hb i
    have h2 := nx_b hb h1.1
    have := ru_b (P := isBl) (b := b) (n := n) (p := nx b n (ps b n i)) h2.2.1
    exact ⟨this.2.1, this.2.2.1⟩
theorem kd_r (b : Nat → Int) (n q : Nat) : 0 ≤ kd b n q ∧ kd b n q ≤ 37 ∧ (kd b n q = 36 ↔ n ≤ q) := by
  unfold kd
  by_cases h1 : n ≤ q
  · rw [if_pos h1]; exact ⟨by decide, by decide, fun _ => h1, fun _ => rfl⟩
  · rw [if_neg h1]
    by_cases h2 : isLt (b q) = true
    · rw [if_pos h2]
      have := wk_r (wl b n q)
      omega
    · rw [if_neg h2]
      by_cases h3 : isDg (b q) = true
      · rw [if_pos h3]; omega
      · rw [if_neg h3]
        have := sgn_r (b q) (b (q + 1))
        omega
theorem nb_r {b : Nat → Int} {n q : Nat} (hb : bok8 b n) (hq : q ≤ n) : nb b n q = min 10000 (nvR (fun i => b (q + i)) (ru isDg b n q - q)) ∧ 0 ≤ nb b n q ∧ nb b n q ≤ 10000 := by
  have h := ru_b (P := isDg) (b := b) (n := n) (p := q) hq
  have e := nv_eq (c := fun i => b (q + i)) (ru isDg b n q - q) (fun i hi => h.2.2.2 (q + i) (by omega) (by omega))
  unfold nb
  exact ⟨e.1, by omega, by omega⟩
