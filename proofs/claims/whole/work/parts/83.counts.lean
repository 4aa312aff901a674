/-! the pure part: counts, the fullest CELL, fractions -/
theorem cq_lt (x y : Int64) : (lg_cmp x y < nI 0) = (x < y) := cmp_lt x y
theorem cq_le (x y : Int64) : (lg_cmp x y ≤ nI 0) = (x ≤ y) := cmp_le x y
theorem cq_gt (x y : Int64) : (nI 0 < lg_cmp x y) = (y < x) := cmp_gt x y
theorem cq_ge (x y : Int64) : (nI 0 ≤ lg_cmp x y) = (y ≤ x) := cmp_ge x y
theorem cq_eq (x y : Int64) : (lg_cmp x y = nI 0) = (x = y) := cmp_eq x y
def cF (P : Nat → Bool) : Nat → Nat → Nat
  | _, 0 => 0
  | i, d + 1 => (if P i = true then 1 else 0) + cF P (i + 1) d
theorem cF_le (P : Nat → Bool) : ∀ (d i : Nat), cF P i d ≤ d
  | 0, _ => Nat.le_refl _
  | d + 1, i => by rw [cF]; have := cF_le P d (i + 1); split <;> omega
theorem cF_cong {P Q : Nat → Bool} : ∀ (d i : Nat), (∀ j, i ≤ j → j < i + d → P j = Q j) → cF P i d = cF Q i d
  | 0, _, _ => rfl
  | d + 1, i, h => by rw [cF, cF, h i (by omega) (by omega), cF_cong d (i + 1) (fun j h1 h2 => h j (by omega) (by omega))]
def bF (f : Nat → Nat) : Nat → Nat → Option Nat × Nat → Option Nat × Nat
  | _, 0, a => a
  | i, d + 1, a => bF f (i + 1) d (if a.2 < f i then (some i, f i) else a)
def enc (z : Int32) : Option Nat → Int32
  | none => z
  | some k => nI k
theorem bF_lt (f : Nat → Nat) : ∀ (d i : Nat) (a : Option Nat × Nat) (k : Nat), (bF f i d a).1 = some k → a.1 = some k ∨ (i ≤ k ∧ k < i + d)
  | 0, _, _, _, h => Or.inl h
  | d + 1, i, a, k, h => by
    rw [bF] at h
    rcases bF_lt f d (i + 1) _ k h with h | h
    · split at h
      · simp only [Option.some.injEq] at h; exact Or.inr (by omega)
      · exact Or.inl h
    · exact Or.inr (by omega)
theorem bF_cong {f g : Nat → Nat} : ∀ (d i : Nat) (a : Option Nat × Nat), (∀ j, i ≤ j → j < i + d → f j = g j) → bF f i d a = bF g i d a
  | 0, _, _, _ => rfl
  | d + 1, i, a, h => by rw [bF, bF, h i (by omega) (by omega), bF_cong d (i + 1) _ (fun j h1 h2 => h j (by omega) (by omega))]
theorem bF_inv (f : Nat → Nat) : ∀ (d i : Nat) (a : Option Nat × Nat), (a.1 = none → a.2 = 0) → ((bF f i d a).1 = none → (bF f i d a).2 = 0)
  | 0, _, _, h => h
  | d + 1, i, a, h => by
    rw [bF]
    apply bF_inv f d (i + 1)
    split
    · intro q; cases q
    · exact h
theorem c_cells_lp (F : Nat) {s : St} {g : Nat → Nat} {w : Nat} (hg : ∀ j, j < 144 → s.1 3 j = nI (g j)) (hb : ∀ j, j < 144 → g j ≤ 7) (hw : w ≤ 7) : ∀ (d i k : Nat) (acc : Nat), i + d = 144 → d < k → c_Land_cellsOf_L4 F k (nI w) (nI acc) (nI i) s = some (nI (acc + cF (fun j => decide (g j = w)) i d), s) := by
  intro d
  induction d with
  | zero =>
    intro i k acc hi hk
    obtain ⟨k, rfl⟩ : ∃ z, k = z + 1 := ⟨k - 1, by omega⟩
    show c_Land_cellsOf_L4b F (c_Land_cellsOf_L4 F k) (nI w) (nI acc) (nI i) s = _
    unfold c_Land_cellsOf_L4b
    simp (disch := omega) only [fa_lit, fa_litL, leI, ltI, eqI, leL, ltL, eqL, cq_lt, cq_le, cq_gt, cq_ge, cq_eq, mulI, nI_add, lN_add, lN_mul, inb_iff, cl_nI, i2lN, l2iN]
    rw [if_pos (by omega)]
    rfl
  | succ d ih =>
    intro i k acc hi hk
    obtain ⟨k, rfl⟩ : ∃ z, k = z + 1 := ⟨k - 1, by omega⟩
    show c_Land_cellsOf_L4b F (c_Land_cellsOf_L4 F k) (nI w) (nI acc) (nI i) s = _
    unfold c_Land_cellsOf_L4b c_Land_cellsOf_J24
    simp (disch := omega) only [fa_lit, fa_litL, leI, ltI, eqI, leL, ltL, eqL, cq_lt, cq_le, cq_gt, cq_ge, cq_eq, mulI, nI_add, lN_add, lN_mul, inb_iff, cl_nI, i2lN, l2iN]
    rw [if_neg (by omega), if_pos (by omega), hg i (by omega)]
    obtain ⟨k', h1, hk7⟩ : ∃ q, g i = q ∧ q ≤ 7 := ⟨_, rfl, hb i (by omega)⟩
    rw [h1]
    simp (disch := omega) only [eqI]
    by_cases h : k' = w
    · rw [if_pos h]
      try simp only [nI_add]
      rw [ih (i + 1) k _ (by omega) (by omega), cF, if_pos (by rw [decide_eq_true_eq, h1]; exact h)]
      simp only [Nat.add_assoc, Nat.add_comm 1]
    · rw [if_neg h]
      try simp only [nI_add]
      rw [ih (i + 1) k _ (by omega) (by omega), cF, if_neg (by rw [decide_eq_true_eq, h1]; exact h), Nat.zero_add]
      try rfl
theorem m_cells_lp (F : Nat) {s : St} {g : Nat → Nat} {w : Nat} (hg : ∀ j, j < 144 → s.1 2 j = nI (g j)) (hb : ∀ j, j < 144 → g j ≤ 7) (hw : w ≤ 7) : ∀ (d i k : Nat) (acc : Nat), i + d = 144 → d < k → m_cellsOf_L4 F k (nI w) (nI acc) (nI i) s = some (nI (acc + cF (fun j => decide (g j = w)) i d), s) := by
  intro d
  induction d with
  | zero =>
    intro i k acc hi hk
    obtain ⟨k, rfl⟩ : ∃ z, k = z + 1 := ⟨k - 1, by omega⟩
    show m_cellsOf_L4b F (m_cellsOf_L4 F k) (nI w) (nI acc) (nI i) s = _
    unfold m_cellsOf_L4b
    simp (disch := omega) only [fa_lit, fa_litL, leI, ltI, eqI, leL, ltL, eqL, cq_lt, cq_le, cq_gt, cq_ge, cq_eq, mulI, nI_add, lN_add, lN_mul, inb_iff, cl_nI, i2lN, l2iN]
    rw [if_pos (by omega)]
    rfl
  | succ d ih =>
    intro i k acc hi hk
    obtain ⟨k, rfl⟩ : ∃ z, k = z + 1 := ⟨k - 1, by omega⟩
    show m_cellsOf_L4b F (m_cellsOf_L4 F k) (nI w) (nI acc) (nI i) s = _
    unfold m_cellsOf_L4b m_cellsOf_J27
    simp (disch := omega) only [fa_lit, fa_litL, leI, ltI, eqI, leL, ltL, eqL, cq_lt, cq_le, cq_gt, cq_ge, cq_eq, mulI, nI_add, lN_add, lN_mul, inb_iff, cl_nI, i2lN, l2iN]
    rw [if_neg (by omega), if_pos (by omega), hg i (by omega)]
    obtain ⟨k', h1, hk7⟩ : ∃ q, g i = q ∧ q ≤ 7 := ⟨_, rfl, hb i (by omega)⟩
    rw [h1]
    simp (disch := omega) only [eqI]
    by_cases h : k' = w
    · rw [if_pos h]
      try simp only [nI_add]
      rw [ih (i + 1) k _ (by omega) (by omega), cF, if_pos (by rw [decide_eq_true_eq, h1]; exact h)]
      simp only [Nat.add_assoc, Nat.add_comm 1]
    · rw [if_neg h]
      try simp only [nI_add]
      rw [ih (i + 1) k _ (by omega) (by omega), cF, if_neg (by rw [decide_eq_true_eq, h1]; exact h), Nat.zero_add]
      try rfl
def pf (p : Nat → Nat) (w q : Nat) : Nat := if w = 0 then tg p q else p (5 * q + 4)
theorem tg_le {p : Nat → Nat} {q : Nat} (hq : q < 144) (hs : sumN p 720 ≤ AL) : tg p q ≤ AL := by
  rw [show (720 : Nat) = 5 * 144 from rfl, sumN_5] at hs
  exact Nat.le_trans (sumN_one (fun q => p (5 * q) + p (5 * q + 1) + p (5 * q + 2) + p (5 * q + 3) + p (5 * q + 4)) hq) hs
theorem p_le {p : Nat → Nat} {k : Nat} (hk : k < 720) (hs : sumN p 720 ≤ AL) : p k ≤ AL := Nat.le_trans (sumN_one p hk) hs
theorem pf_le {p : Nat → Nat} {w q : Nat} (hq : q < 144) (hs : sumN p 720 ≤ AL) : pf p w q ≤ AL := by
  unfold pf
  split
  · exact tg_le hq hs
  · exact p_le (by omega) hs
theorem c_full_lp (F : Nat) (z : Int32) (hF : 3000 ≤ F) {p : Nat → Nat} {s : St} {w : Nat} (hp : PC p s) (hs : sumN p 720 ≤ AL) (hw : w ≤ 1) : ∀ (d i k : Nat) (a : Option Nat × Nat), i + d = 144 → d < k → a.2 ≤ AL → c_Night_fullest_L7 F k (nI w) (enc z a.1) (lN a.2) (nI i) s = some (enc z (bF (pf p w) i d a).1, s) := by
  intro d
  induction d with
  | zero =>
    intro i k a hi hk hc
    obtain ⟨k, rfl⟩ : ∃ z, k = z + 1 := ⟨k - 1, by omega⟩
    show c_Night_fullest_L7b F (c_Night_fullest_L7 F k) (nI w) (enc z a.1) (lN a.2) (nI i) s = _
    unfold c_Night_fullest_L7b
    simp (disch := omega) only [fa_lit, fa_litL, leI, ltI, eqI, leL, ltL, eqL, cq_lt, cq_le, cq_gt, cq_ge, cq_eq, mulI, nI_add, lN_add, lN_mul, inb_iff, cl_nI, i2lN, l2iN]
    rw [if_pos (by omega)]
    rfl
  | succ d ih =>
    intro i k a hi hk hc
    obtain ⟨k, rfl⟩ : ∃ z, k = z + 1 := ⟨k - 1, by omega⟩
    show c_Night_fullest_L7b F (c_Night_fullest_L7 F k) (nI w) (enc z a.1) (lN a.2) (nI i) s = _
    unfold c_Night_fullest_L7b
    simp (disch := omega) only [fa_lit, fa_litL, leI, ltI, eqI, leL, ltL, eqL, cq_lt, cq_le, cq_gt, cq_ge, cq_eq, mulI, nI_add, lN_add, lN_mul, inb_iff, cl_nI, i2lN, l2iN]
    rw [if_neg (by omega)]
    have hv := pf_le (w := w) (show i < 144 by omega) hs
    have e : (if w = 0 then gB2 (c_Night_together F (nI i) s) fun r1 s1 => c_Night_fullest_J35 F (c_Night_fullest_L7 F k) (nI w) (enc z a.1) (lN a.2) (nI i) r1 s1
      else if i < 144 then c_Night_fullest_J35 F (c_Night_fullest_L7 F k) (nI w) (enc z a.1) (lN a.2) (nI i) (s.2 11 i) s else none) = c_Night_fullest_J35 F (c_Night_fullest_L7 F k) (nI w) (enc z a.1) (lN a.2) (nI i) (lN (pf p w i)) s := by
      unfold pf
      split
      · rw [c_tog F hF hp (by omega), gB2_mk]
      · rw [if_pos (by omega), (hp i (by omega)).2]
    rw [e]
    unfold AL at hv hc
    unfold c_Night_fullest_J35 c_Night_fullest_J50
    have ha2 : a.2 < 2 ^ 63 := by omega
    simp (disch := omega) only [fa_lit, fa_litL, leI, ltI, eqI, leL, ltL, eqL, cq_lt, cq_le, cq_gt, cq_ge, cq_eq, mulI, nI_add, lN_add, lN_mul, inb_iff, cl_nI, i2lN, l2iN]
    rw [bF]
    by_cases h : a.2 < pf p w i
    · rw [if_neg (by omega), if_pos h]
      exact ih (i + 1) k (some i, pf p w i) (by omega) (by omega) (by show pf p w i ≤ AL; unfold AL; omega)
    · rw [if_pos (by omega), if_neg h]
      exact ih (i + 1) k a (by omega) (by omega) (by unfold AL; omega)
theorem m_where_lp (F : Nat) (z : Int32) (hF : 3000 ≤ F) {p : Nat → Nat} {s : St} {w : Nat} (hp : PM p s) (hs : sumN p 720 ≤ AL) (hw : w ≤ 1) : ∀ (d i k : Nat) (a : Option Nat × Nat), i + d = 144 → d < k → a.2 ≤ AL → m_where_L24 F k (nI w) (enc z a.1) (lN a.2) (nI i) s = (gB2 (m_tells F (enc z (bF (pf p w) i d a).1) s) fun r1 s1 => some (r1, s1)) := by
  intro d
  induction d with
  | zero =>
    intro i k a hi hk hc
    obtain ⟨k, rfl⟩ : ∃ z, k = z + 1 := ⟨k - 1, by omega⟩
    show m_where_L24b F (m_where_L24 F k) (nI w) (enc z a.1) (lN a.2) (nI i) s = _
    unfold m_where_L24b
    simp (disch := omega) only [fa_lit, fa_litL, leI, ltI, eqI, leL, ltL, eqL, cq_lt, cq_le, cq_gt, cq_ge, cq_eq, mulI, nI_add, lN_add, lN_mul, inb_iff, cl_nI, i2lN, l2iN]
    rw [if_pos (by omega)]
    rfl
  | succ d ih =>
    intro i k a hi hk hc
    obtain ⟨k, rfl⟩ : ∃ z, k = z + 1 := ⟨k - 1, by omega⟩
    show m_where_L24b F (m_where_L24 F k) (nI w) (enc z a.1) (lN a.2) (nI i) s = _
    unfold m_where_L24b
    simp (disch := omega) only [fa_lit, fa_litL, leI, ltI, eqI, leL, ltL, eqL, cq_lt, cq_le, cq_gt, cq_ge, cq_eq, mulI, nI_add, lN_add, lN_mul, inb_iff, cl_nI, i2lN, l2iN]
    rw [if_neg (by omega)]
    have hv := pf_le (w := w) (show i < 144 by omega) hs
    have e : (if w = 0 then gB2 (m_partsOf F (nI i) s) fun r1 s1 => m_where_J56 F (m_where_L24 F k) (nI w) (enc z a.1) (lN a.2) (nI i) r1 s1
      else if 5 * i + 4 < 720 then m_where_J56 F (m_where_L24 F k) (nI w) (enc z a.1) (lN a.2) (nI i) (s.2 9 (5 * i + 4)) s else none) = m_where_J56 F (m_where_L24 F k) (nI w) (enc z a.1) (lN a.2) (nI i) (lN (pf p w i)) s := by
      unfold pf
      split
      · rw [m_tog F hF hp (by omega), gB2_mk]
      · rw [if_pos (by omega), hp (5 * i + 4) (by omega)]
    rw [e]
    unfold AL at hv hc
    unfold m_where_J56 m_where_J71 m_where_J85
    have ha2 : a.2 < 2 ^ 63 := by omega
    simp (disch := omega) only [fa_lit, fa_litL, leI, ltI, eqI, leL, ltL, eqL, cq_lt, cq_le, cq_gt, cq_ge, cq_eq, mulI, nI_add, lN_add, lN_mul, inb_iff, cl_nI, i2lN, l2iN]
    rw [bF]
    by_cases h : a.2 < pf p w i
    · rw [if_neg (by omega), if_neg (by omega), if_pos h]
      exact ih (i + 1) k (some i, pf p w i) (by omega) (by omega) (by show pf p w i ≤ AL; unfold AL; omega)
    · rw [if_pos (by omega), if_pos (by omega), if_neg h]
      exact ih (i + 1) k a (by omega) (by omega) (by unfold AL; omega)
theorem c_full (F : Nat) (hF : 3000 ≤ F) {p : Nat → Nat} {s : St} {w : Nat} (hp : PC p s) (hs : sumN p 720 ≤ AL) (hw : w ≤ 1) : c_Night_fullest F (nI w) s = some (enc (-1) (bF (pf p w) 0 144 (none, 0)).1, s) := by
  unfold c_Night_fullest
  exact c_full_lp F (-1) hF hp hs hw 144 0 F (none, 0) rfl (by omega) (Nat.zero_le _)
theorem bF_bd {f : Nat → Nat} {i d k : Nat} (h : (bF f i d (none, 0)).1 = some k) : i ≤ k ∧ k < i + d := by
  rcases bF_lt f d i _ k h with h | h
  · cases h
  · exact h
theorem m_says_lN {F : Nat} {k : Nat} {m : St} (hk : k < 2 ^ 63) : m_says F (lN k) m = some (lN k, m) := by
  unfold m_says
  rw [if_pos ((lg_cmp_ge _ _).mpr (by rw [show (0 : Int64) = lN 0 from rfl, leL (by omega) hk]; omega))]
theorem m_tells_nI {F : Nat} {k : Nat} {m : St} (hk : k < 2 ^ 31) : m_tells F (nI k) m = some (nI k, m) := by
  unfold m_tells
  rw [i2lN hk, m_says_lN (by omega), gB2_mk, l2iN]
theorem p_where {n : Nat} {c m : St} (R : Rel n c m) (F : Nat) (hF : 3000 ≤ F) (a : Int32) : SameR n (c_where F a c) (m_where F a m) := by
  unfold c_where m_where c_where_J32
  simp only [gB2_mk, gB_mk, bz_ite, bz_01, gB2_id, c_isCell_eq, c_isKind_eq, c_isSort_eq, c_isPart_eq, c_Sheets_isSheet_eq, c_Sheets_isLane_eq, m_isCell_eq, m_isKind_eq, m_isSort_eq, m_isSheet_eq, m_isLane_eq, c_isIn_eq, m_in_0_0, m_in_0_1, m_in_0_2, m_in_0_3, m_in_0_5, m_in_0_7, m_in_0_8, m_in_0_9, m_in_0_11, m_in_0_15, m_in_0_16, m_in_0_99, m_in_0_143, m_in_0_999, m_in_1_4, m_in_1_8, m_in_1_9, m_in_1_60, m_in_m1_3, m_in_m1_5, m_tells]
  by_cases h1 : (0 : Int32) ≤ a ∧ a ≤ 1
  case neg =>
    simp only [if_neg h1]
    exact ref_t R F ok1
  simp only [if_pos h1]
  obtain ⟨w, -, hw, rfl⟩ := in_nat (lo := 0) (hi := 1) (by decide) h1 (by decide)
  obtain ⟨p, hc, hm, hs⟩ := R.1.pp
  have e1 := c_full F hF hc hs hw
  have e2 := m_where_lp F (-4) hF hm hs hw 144 0 F (none, 0) rfl (by omega) (Nat.zero_le _)
  have e3 : m_where_L24 F F (nI w) (-4 : Int32) (0 : Int64) (0 : Int32) m = _ := e2
  rw [e3]
  have ew : (if nI w = 1 then gB2 (c_Night_fullest F 1 c) fun r1 s1 => if 0 ≤ r1 then some (r1, s1) else c_refuse F (-4) s1 else gB2 (c_Night_fullest F 0 c) fun r1 s1 => if 0 ≤ r1 then some (r1, s1) else c_refuse F (-4) s1) = gB2 (c_Night_fullest F (nI w) c) fun r1 s1 => if 0 ≤ r1 then some (r1, s1) else c_refuse F (-4) s1 := by
    rcases (show w = 0 ∨ w = 1 by omega) with rfl | rfl <;> rfl
  rw [ew, e1, gB2_mk]
  cases hb : (bF (pf p w) 0 144 (none, 0)).1 with
  | none =>
    rw [gB2_id]
    exact ref_t R F ok4
  | some k =>
    have hk := bF_bd hb
    rw [show enc (-1) (some k) = nI k from rfl, show enc (-4) (some k) = nI k from rfl, m_tells_nI (by omega), if_pos (show (0 : Int32) ≤ nI k from nI_le (a := 0) (Nat.zero_le k) (by omega))]
    exact SameR.ret rfl R
