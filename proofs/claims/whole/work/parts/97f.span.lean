/-! the pure part: span, held, their ends -/
theorem m_reach_lp (F : Nat) (hF : 3000 ≤ F) {{A D : Nat → Nat}} {{s : St}} {{n a z : Nat}} {{x3 : Int32}} (hn : s.1 0 27 = nI n) (h6 : n ≤ 60) (ha : a ≤ 3) (hA : ∀ j, j < 60 → A j ≤ 3 ∧ s.1 21 j = nI (A j)) (hD : ∀ j, j < 60 → D j ≤ 99 ∧ s.1 22 j = nI (D j)) (hz : ∀ j, j < 60 → (nI j = x3 ↔ j = z)) {need : Nat} (hne : need ≤ wc A D a z n 100) : ∀ (d t k : Nat), t + d = 99 → d < k → m_spanOf_L72 F k (nI a) x3 (nI need) (nI t) (nI (wc A D a z n (t + 1))) s = some (nI (fs (wc A D a z n) need d t), s) := by
  have hcl : ∀ x, wc A D a z n x ≤ 60 := fun x => Nat.le_trans (cF_le _ _ _) h6
  have hb : need ≤ 60 := Nat.le_trans hne (hcl 100)
  intro d
  induction d with
  | zero =>
    intro t k ht hk
    obtain ⟨k, rfl⟩ : ∃ z, k = z + 1 := ⟨k - 1, by omega⟩
    have h99 : t = 99 := by omega
    subst h99
    show m_spanOf_L72b F (m_spanOf_L72 F k) (nI a) x3 (nI need) (nI 99) (nI (wc A D a z n 100)) s = _
    unfold m_spanOf_L72b
    have hc := hcl 100
    have g2 : nI need ≤ nI (wc A D a z n 100) := nI_le hne (by omega)
    rw [if_pos g2, fs]
  | succ d ih =>
    intro t k ht hk
    obtain ⟨k, rfl⟩ : ∃ z, k = z + 1 := ⟨k - 1, by omega⟩
    show m_spanOf_L72b F (m_spanOf_L72 F k) (nI a) x3 (nI need) (nI t) (nI (wc A D a z n (t + 1))) s = _
    unfold m_spanOf_L72b
    have hc := hcl (t + 1)
    have g2 : (nI need ≤ nI (wc A D a z n (t + 1))) = (need ≤ wc A D a z n (t + 1)) := leI (by omega) (by omega)
    have hl := m_wi_lp F (m_spanOf_L72 F k) (x := t + 1) (x5 := nI need) (by omega) hn h6 ha hA hD hz n 0 F 0 (by omega) (by omega)
    rw [Nat.zero_add] at hl
    have hl' : m_spanOf_L88 F (m_spanOf_L72 F k) F (nI a) x3 (nI need) (nI (t + 1)) 0 0 s = m_spanOf_L72 F k (nI a) x3 (nI need) (nI (t + 1)) (nI (wc A D a z n (t + 1 + 1))) s := hl
    rw [show (1 : Int32) = nI 1 from rfl, nI_add, hl', ih (t + 1) k (by omega) (by omega), fs]
    by_cases g : need ≤ wc A D a z n (t + 1)
    · rw [if_pos (g2.mpr g), if_pos g]
    · rw [if_neg (fun e => g (g2.mp e)), if_neg g]
theorem wc0 (A D : Nat → Nat) (a z n : Nat) : wc A D a z n 0 = 0 := by
  have : ∀ d i, cF (wi A D a z 0) i d = 0 := by
    intro d
    induction d with
    | zero => intro i; rfl
    | succ d ih =>
      intro i
      rw [cF, ih (i + 1), if_neg (by simp [wi])]
  exact this n 0
theorem m_spanE (F : Nat) (hF : 3000 ≤ F) {{A D : Nat → Nat}} {{s : St}} {{n a z : Nat}} {{x3 : Int32}} (hn : s.1 0 27 = nI n) (h6 : n ≤ 60) (ha : a ≤ 3) (hA : ∀ j, j < 60 → A j ≤ 3 ∧ s.1 21 j = nI (A j)) (hD : ∀ j, j < 60 → D j ≤ 99 ∧ s.1 22 j = nI (D j)) (hz : ∀ j, j < 60 → (nI j = x3 ↔ j = z)) {w : Nat} (hw1 : 1 ≤ w) (hw : w ≤ 4) : m_spanOf F (nI a) (nI w) x3 s = some (if wc A D a z n 100 = 0 then -4 else nI (fs (wc A D a z n) ((w * wc A D a z n 100 + 3) / 4) 99 0), s) := by
  have h1 : m_spanOf_L6 F F (nI a) (nI w) x3 0 0 s = _ := m_cn_lp F (x2 := nI w) hn h6 ha hA hD hz n 0 F 0 (by omega) (by omega)
  have hc : wc A D a z n 100 ≤ 60 := Nat.le_trans (cF_le _ _ _) h6
  rw [Nat.zero_add] at h1
  unfold m_spanOf
  rw [h1, show cF (wi A D a z 100) 0 n = wc A D a z n 100 from rfl]
  unfold m_spanOf_end
  by_cases h0 : wc A D a z n 100 = 0
  · rw [h0, if_pos (show nI 0 = 0 from rfl), if_pos rfl]
  · have g : ¬ nI (wc A D a z n 100) = 0 := fun e => h0 ((eqI (b := 0) (by omega) (by decide)).mp e)
    have hwc : w * wc A D a z n 100 ≤ 4 * wc A D a z n 100 := Nat.mul_le_mul_right _ hw
    have hwc1 : 1 * wc A D a z n 100 ≤ w * wc A D a z n 100 := Nat.mul_le_mul_right _ hw1
    rw [if_neg g, if_neg h0, mulI, show (3 : Int32) = nI 3 from rfl, nI_add, show (4 : Int32) = nI 4 from rfl, divI (by omega) (by decide) (by decide)]
    generalize hT : (w * wc A D a z n 100 + 3) / 4 = need
    have hne : need ≤ wc A D a z n 100 := by omega
    have hn0 : 0 < need := by omega
    obtain ⟨f, rfl⟩ : ∃ y, F = y + 1 := ⟨F - 1, by omega⟩
    show m_spanOf_L72b (f + 1) (m_spanOf_L72 (f + 1) f) (nI a) x3 (nI need) (-1) 0 s = _
    unfold m_spanOf_L72b
    have g2 : ¬ nI need ≤ (0 : Int32) := by
      rw [show (0 : Int32) = nI 0 from rfl, leI (by omega) (by omega)]
      omega
    have hl := m_wi_lp (f + 1) (m_spanOf_L72 (f + 1) f) (x := 0) (x5 := nI need) (by omega) hn h6 ha hA hD hz n 0 (f + 1) 0 (by omega) (by omega)
    rw [Nat.zero_add] at hl
    have hl' : m_spanOf_L88 (f + 1) (m_spanOf_L72 (f + 1) f) (f + 1) (nI a) x3 (nI need) 0 0 0 s = m_spanOf_L72 (f + 1) f (nI a) x3 (nI need) (nI 0) (nI (wc A D a z n (0 + 1))) s := hl
    rw [if_neg g2, show (-1 : Int32) + 1 = 0 by decide, hl', m_reach_lp (f + 1) hF hn h6 ha hA hD hz hne 99 0 f rfl (by omega)]
theorem p_span {N : Nat} {c m : St} (R : Rel N c m) (F : Nat) (hF : 3000 ≤ F) (a b : Int32) : SameR N (c_span F a b c) (m_span F a b m) := by
  unfold c_span c_span_J18 m_span m_span_J39 c_Book_reach c_Book_quarters
  simp only [gB2_mk, gB_mk, bz_ite, bz_01, gB2_id, c_isCell_eq, c_isKind_eq, c_isSort_eq, c_isPart_eq, c_Sheets_isSheet_eq, c_Sheets_isLane_eq, m_isCell_eq, m_isKind_eq, m_isSort_eq, m_isSheet_eq, m_isLane_eq, c_isIn_eq, m_in_0_0, m_in_0_1, m_in_0_2, m_in_0_3, m_in_0_5, m_in_0_7, m_in_0_8, m_in_0_9, m_in_0_11, m_in_0_15, m_in_0_16, m_in_0_99, m_in_0_143, m_in_0_999, m_in_1_4, m_in_1_8, m_in_1_9, m_in_1_60, m_in_m1_3, m_in_m1_5]
  by_cases h1 : (0 : Int32) ≤ a ∧ a ≤ 3
  case neg =>
    simp only [if_neg h1]
    exact ref_t R F ok1
  simp only [if_pos h1]
  obtain ⟨i, i_lo, i_hi, rfl⟩ := in_nat (lo := 0) (hi := 3) (by decide) h1 (by decide)
  by_cases h2 : (1 : Int32) ≤ b ∧ b ≤ 4
  case neg =>
    simp only [if_neg h2]
    exact ref_t R F ok1
  simp only [if_pos h2]
  obtain ⟨w, w_lo, w_hi, rfl⟩ := in_nat (lo := 1) (hi := 4) (by decide) h2 (by decide)
  obtain ⟨n, hn, e1, e2⟩ := R.1.bc
  obtain ⟨A, hA⟩ := R.1.ages.fn (by decide)
  obtain ⟨D, hD⟩ := R.1.fars.fn (by decide)
  have hAc : ∀ j, j < 60 → A j ≤ 3 ∧ c.1 29 j = nI (A j) := fun j hj => ⟨(hA j hj).1, (hA j hj).2.1⟩
  have hDc : ∀ j, j < 60 → D j ≤ 99 ∧ c.1 30 j = nI (D j) := fun j hj => ⟨(hD j hj).1, (hD j hj).2.1⟩
  have hAm : ∀ j, j < 60 → A j ≤ 3 ∧ m.1 21 j = nI (A j) := fun j hj => ⟨(hA j hj).1, (hA j hj).2.2⟩
  have hDm : ∀ j, j < 60 → D j ≤ 99 ∧ m.1 22 j = nI (D j) := fun j hj => ⟨(hD j hj).1, (hD j hj).2.2⟩
  have hz4 : ∀ j, j < 60 → (nI j = (-4 : Int32) ↔ j = 1000) := fun j hj => by
    constructor
    · intro e
      have := congrArg Int32.toInt e
      rw [tI (by omega), show (-4 : Int32).toInt = -4 by decide] at this
      omega
    · intro e
      omega
  have yM := m_spanE F hF (x3 := -4) e2 hn i_hi hAm hDm hz4 w_lo w_hi
  have yW := c_wi_lp F (x := 100) (b := 99) e1 hn i_hi hAc hDc (fun v hv => by rw [show (99 : Int32) = nI 99 from rfl, ltI (by omega) (by omega)]; omega) n 0 F 0 (by omega) (by omega)
  rw [Nat.zero_add] at yW
  have yW' : c_Book_within F (nI i) 99 c = some (nI (wc A D i 1000 n 100), c) := yW
  have hc : wc A D i 1000 n 100 ≤ 60 := Nat.le_trans (cF_le _ _ _) hn
  have hwc : w * wc A D i 1000 n 100 ≤ 4 * wc A D i 1000 n 100 := Nat.mul_le_mul_right _ w_hi
  have hwc1 : 1 * wc A D i 1000 n 100 ≤ w * wc A D i 1000 n 100 := Nat.mul_le_mul_right _ w_lo
  rw [yM, gB2_mk, yW', gB2_mk, mulI, show (3 : Int32) = nI 3 from rfl, nI_add, show (4 : Int32) = nI 4 from rfl, divI (by omega) (by decide) (by decide)]
  by_cases h0 : wc A D i 1000 n 100 = 0
  · rw [h0, Nat.mul_zero, if_pos rfl]
    obtain ⟨f, rfl⟩ : ∃ y, F = y + 1 := ⟨F - 1, by omega⟩
    have yR : c_Book_reach_L15 (f + 1) (f + 1) (nI i) (nI ((0 + 3) / 4)) 0 c = some (-1, c) := by
      show c_Book_reach_L15b (f + 1) (c_Book_reach_L15 (f + 1) f) (nI i) (nI ((0 + 3) / 4)) 0 c = _
      unfold c_Book_reach_L15b
      rw [if_neg (show ¬ (99 : Int32) < 0 by decide), if_pos (show nI ((0 + 3) / 4) ≤ 0 by decide)]
    rw [yR, gB2_mk, if_neg (show ¬ (0 : Int32) ≤ -1 by decide)]
    exact ref_t R (f + 1) ok4
  · have yR : c_Book_reach_L15 F F (nI i) (nI ((w * wc A D i 1000 n 100 + 3) / 4)) 0 c = _ := c_reach_lp F hF e1 hn i_hi hAc hDc (by omega) (by omega) (by omega) 99 0 F rfl (by omega)
    have hf := fs_le (wc A D i 1000 n) ((w * wc A D i 1000 n 100 + 3) / 4) 99 0
    rw [yR, gB2_mk, if_neg h0, if_pos (show (0 : Int32) ≤ nI _ from nI_le (a := 0) (Nat.zero_le _) (by omega)), m_tells_nI (by omega)]
    exact SameR.ret rfl R
