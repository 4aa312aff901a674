/-! the pure part: status, drop, sheet -/
theorem p_status {n : Nat} {c m : St} (R : Rel n c m) (F : Nat) (hF : 3000 ≤ F) (a : Int32) : SameR n (c_status F a c) (m_status F a m) := by
  unfold c_status m_status
  simp only [gB2_mk, gB_mk, bz_ite, bz_01, gB2_id, c_isCell_eq, c_isKind_eq, c_isSort_eq, c_isPart_eq, c_Sheets_isSheet_eq, c_Sheets_isLane_eq, m_isCell_eq, m_isKind_eq, m_isSort_eq, m_isSheet_eq, m_isLane_eq, c_isIn_eq, m_in_0_0, m_in_0_1, m_in_0_2, m_in_0_3, m_in_0_5, m_in_0_7, m_in_0_8, m_in_0_9, m_in_0_11, m_in_0_15, m_in_0_16, m_in_0_99, m_in_0_143, m_in_0_999, m_in_1_4, m_in_1_8, m_in_1_9, m_in_1_60, m_in_m1_3, m_in_m1_5]
  by_cases h1 : (0 : Int32) ≤ a ∧ a ≤ 8
  case neg =>
    simp only [if_neg h1]
    exact ref_t R F ok1
  simp only [if_pos h1]
  obtain ⟨j, j_lo, j_hi, rfl⟩ := in_nat (lo := 0) (hi := 8) (by decide) h1 (by decide)
  simp (disch := omega) only [inb_nI, if_true, cl_nI]
  exact SameR.ret (R.2.2.2.2.2.2.2.1 j (by omega)) R
theorem Rel.lane {n : Nat} {c m : St} (R : Rel n c m) {j : Nat} (hj : j < 4) : ∃ x, LaneV x ∧ c.1 78 j = x ∧ m.1 29 j = x := by
  obtain ⟨h1, h2⟩ := R.2.2.2.2.1 j hj
  exact ⟨_, h1, rfl, h2⟩
theorem LaneV.or {x : Int32} (h : LaneV x) : (x = -1 ∧ ¬ 0 ≤ x) ∨ (x ≠ -1 ∧ 0 ≤ x) := by
  rcases h with rfl | ⟨k, hk, rfl⟩
  · exact Or.inl ⟨rfl, by decide⟩
  · right
    rcases (show k = 0 ∨ k = 1 ∨ k = 2 ∨ k = 3 by omega) with rfl | rfl | rfl | rfl <;> decide
theorem p_drop {n : Nat} {c m : St} (R : Rel n c m) (F : Nat) (hF : 3000 ≤ F) (a : Int32) : SameR n (c_drop F a c) (m_drop F a m) := by
  unfold c_drop m_drop c_Sheets_isThere c_Sheets_empty
  simp only [gB2_mk, gB_mk, bz_ite, bz_01, gB2_id, c_isCell_eq, c_isKind_eq, c_isSort_eq, c_isPart_eq, c_Sheets_isSheet_eq, c_Sheets_isLane_eq, m_isCell_eq, m_isKind_eq, m_isSort_eq, m_isSheet_eq, m_isLane_eq, c_isIn_eq, m_in_0_0, m_in_0_1, m_in_0_2, m_in_0_3, m_in_0_5, m_in_0_7, m_in_0_8, m_in_0_9, m_in_0_11, m_in_0_15, m_in_0_16, m_in_0_99, m_in_0_143, m_in_0_999, m_in_1_4, m_in_1_8, m_in_1_9, m_in_1_60, m_in_m1_3, m_in_m1_5]
  by_cases h1 : (0 : Int32) ≤ a ∧ a ≤ 3
  case neg =>
    simp only [if_neg h1]
    exact ref_t R F ok1
  simp only [if_pos h1]
  obtain ⟨j, j_lo, j_hi, rfl⟩ := in_nat (lo := 0) (hi := 3) (by decide) h1 (by decide)
  simp (disch := omega) only [inb_nI, if_true, cl_nI]
  obtain ⟨x, hx, e1, e2⟩ := R.lane (j := j) (by omega)
  rw [e1, e2]
  rcases hx.or with ⟨g1, g2⟩ | ⟨g1, g2⟩
  · rw [if_pos g1, if_neg g2, gB2_mk, if_pos rfl]
    exact ref_t R F ok11
  · rw [if_neg g1, if_pos g2, gB2_mk, if_neg (show ¬ (1 : Int32) = 0 by decide)]
    obtain ⟨k, -, s1, s2⟩ := R.2.2.2.2.2.1 j (by omega)
    refine SameR.ret ?_ (R.set_lane (j := j) (Or.inl rfl))
    rw [sI1_ne (by decide), sI1_ne (by decide), s1, s2]
theorem sheet_lp (F : Nat) {n : Nat} {q : Nat} (hq : q < 4) (x3 : Int32) : ∀ (d i f g : Nat) (c m : St), i + d = 24 → d < f → d < g → Rel n c m → ∃ c' m', c_Arrays_fill_bad5a_L10 F f (nI (24 * q + 24)) 0 (nI (24 * q + i)) c = some c' ∧ m_sheet_L54 F g (nI q) x3 (nI i) m = some (x3, m') ∧ Rel n c' m' := by
  intro d
  induction d with
  | zero =>
    intro i f g c m hi hf hg R
    obtain ⟨f, rfl⟩ : ∃ z, f = z + 1 := ⟨f - 1, by omega⟩
    obtain ⟨g, rfl⟩ : ∃ z, g = z + 1 := ⟨g - 1, by omega⟩
    have h24 : i = 24 := by omega
    subst h24
    refine ⟨c, m, ?_, ?_, R⟩
    · show c_Arrays_fill_bad5a_L10b F (c_Arrays_fill_bad5a_L10 F f) (nI (24 * q + 24)) 0 (nI (24 * q + 24)) c = _
      unfold c_Arrays_fill_bad5a_L10b
      rw [if_pos (Int32.le_refl _)]
    · show m_sheet_L54b F (m_sheet_L54 F g) (nI q) x3 (nI 24) m = _
      unfold m_sheet_L54b
      rw [if_pos (show (24 : Int32) ≤ nI 24 by decide)]
  | succ d ih =>
    intro i f g c m hi hf hg R
    obtain ⟨f, rfl⟩ : ∃ z, f = z + 1 := ⟨f - 1, by omega⟩
    obtain ⟨g, rfl⟩ : ∃ z, g = z + 1 := ⟨g - 1, by omega⟩
    obtain ⟨c', m', y1, y2, y3⟩ := ih (i + 1) f g _ _ (by omega) (by omega) (by omega) (R.set_item (j := 24 * q + i) (x := 0))
    refine ⟨c', m', ?_, ?_, y3⟩
    · show c_Arrays_fill_bad5a_L10b F (c_Arrays_fill_bad5a_L10 F f) (nI (24 * q + 24)) 0 (nI (24 * q + i)) c = _
      unfold c_Arrays_fill_bad5a_L10b
      have g0 : ¬ nI (24 * q + 24) ≤ nI (24 * q + i) := by
        rw [leI (by omega) (by omega)]
        omega
      rw [if_neg g0, inb_nI (by omega) (by decide), if_pos rfl, cl_nI (by omega), show (1 : Int32) = nI 1 from rfl, nI_add]
      exact y1
    · show m_sheet_L54b F (m_sheet_L54 F g) (nI q) x3 (nI i) m = _
      unfold m_sheet_L54b
      have g0 : ¬ (24 : Int32) ≤ nI i := by
        rw [show (24 : Int32) = nI 24 from rfl, leI (by omega) (by omega)]
        omega
      rw [if_neg g0, show (24 : Int32) = nI 24 from rfl, mulI, nI_add, inb_nI (by omega) (by decide), if_pos rfl, cl_nI (by omega), show (1 : Int32) = nI 1 from rfl, nI_add]
      exact y2
theorem p_sheet {n : Nat} {c m : St} (R : Rel n c m) (F : Nat) (hF : 3000 ≤ F) (a b v : Int32) : SameR n (c_sheet F a b v c) (m_sheet F a b v m) := by
  unfold c_sheet c_sheet_J20 m_sheet m_sheet_J20 c_Sheets_renew c_Arrays_fill_bad5a c_Arrays_rangeCheck
  simp only [gB2_mk, gB_mk, bz_ite, bz_01, gB2_id, c_isCell_eq, c_isKind_eq, c_isSort_eq, c_isPart_eq, c_Sheets_isSheet_eq, c_Sheets_isLane_eq, m_isCell_eq, m_isKind_eq, m_isSort_eq, m_isSheet_eq, m_isLane_eq, c_isIn_eq, m_in_0_0, m_in_0_1, m_in_0_2, m_in_0_3, m_in_0_5, m_in_0_7, m_in_0_8, m_in_0_9, m_in_0_11, m_in_0_15, m_in_0_16, m_in_0_99, m_in_0_143, m_in_0_999, m_in_1_4, m_in_1_8, m_in_1_9, m_in_1_60, m_in_m1_3, m_in_m1_5]
  by_cases h1 : (0 : Int32) ≤ a ∧ a ≤ 3
  case neg =>
    simp only [if_neg h1]
    exact ref_t R F ok1
  simp only [if_pos h1]
  obtain ⟨q, q_lo, q_hi, rfl⟩ := in_nat (lo := 0) (hi := 3) (by decide) h1 (by decide)
  by_cases h2 : (0 : Int32) ≤ b ∧ b ≤ 3
  case neg =>
    simp only [if_neg h2]
    exact ref_t R F ok1
  simp only [if_pos h2]
  obtain ⟨j, j_lo, j_hi, rfl⟩ := in_nat (lo := 0) (hi := 3) (by decide) h2 (by decide)
  by_cases h3 : v ≤ 24
  case neg =>
    simp only [if_neg h3]
    exact ref_t R F ok1
  simp only [if_pos h3]
  by_cases h4 : 0 ≤ v
  case neg =>
    simp only [if_neg h4]
    exact ref_t R F ok14
  simp only [if_pos h4]
  obtain ⟨w, -, w_hi, rfl⟩ := in_nat (lo := 0) (hi := 24) (by decide) ⟨h4, h3⟩ (by decide)
  have R2 := (R.set_lane (j := q) (x := nI j) (Or.inr ⟨j, j_hi, rfl⟩)).set_sheetSize (j := q) w_hi
  obtain ⟨c', m', y1, y2, y3⟩ := sheet_lp F (show q < 4 by omega) (nI w) 24 0 F F _ _ (by omega) (by omega) (by omega) R2
  have e1 : nI q * (24 : Int32) = nI (24 * q) := by
    rw [show (24 : Int32) = nI 24 from rfl, mulI, Nat.mul_comm]
  have e2 : nI (24 * q) + (24 : Int32) = nI (24 * q + 24) := by
    rw [show (24 : Int32) = nI 24 from rfl, nI_add]
  have g1 : nI (24 * q) ≤ nI (24 * q + 24) := nI_le (by omega) (by omega)
  have g2 : (0 : Int32) ≤ nI (24 * q) := nI_le (a := 0) (Nat.zero_le _) (by omega)
  have g3 : nI (24 * q + 24) ≤ (96 : Int32) := nI_le (b := 96) (by omega) (by decide)
  rw [e1, e2, if_pos g1, if_pos g2, if_pos g3, inb_nI (show q < 4 by omega) (by decide), if_pos rfl, if_pos rfl, if_pos rfl, if_pos rfl, cl_nI (by omega), gB_mk, show c_Arrays_fill_bad5a_L10 F F (nI (24 * q + 24)) 0 (nI (24 * q)) (sI (sI c 78 q (nI j)) 79 q (nI w)) = some c' from y1, gB_mk, gB_mk, show m_sheet_L54 F F (nI q) (nI w) 0 (sI (sI m 29 q (nI j)) 30 q (nI w)) = some (nI w, m') from y2]
  exact SameR.ret rfl y3
