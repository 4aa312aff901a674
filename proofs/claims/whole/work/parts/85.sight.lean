/-! the pure part: sight, sees, search -/
def sTab (a k : Nat) : Nat := ([12, 14, 6, 0, 8, 4, 14, 10, 12, 12, 12, 0, 0, 12, 12, 12, 14, 14, 4, 0, 10, 8, 10, 0, 2, 8, 2, 0, 0, 2, 12, 10] : List Nat).getD (8 * a + k) 0
/-- the sixteenths: SORT a, KIND k, going 0 or sitting 1, minute t, the settings at 8 and 9 -/
def sg (a k w t x8 x9 : Nat) : Nat :=
  let v1 := if a = 0 ∧ x8 ≤ t then sTab a k / 2 else sTab a k
  let v2 := if a = 1 ∧ x9 ≤ t then v1 / 2 else v1
  if w = 0 then v2 else if a = 3 then 0 else if k = 2 ∨ k = 5 then v2 / 2 else v2
theorem sTab_le : ∀ a k, sTab a k ≤ 14 := by
  intro a k
  unfold sTab
  by_cases h : 8 * a + k < 32
  · have : ∀ j, j < 32 → ([12, 14, 6, 0, 8, 4, 14, 10, 12, 12, 12, 0, 0, 12, 12, 12, 14, 14, 4, 0, 10, 8, 10, 0, 2, 8, 2, 0, 0, 2, 12, 10] : List Nat).getD j 0 ≤ 14 := by decide
    exact this _ h
  · rw [List.getD_eq_getElem?_getD, List.getElem?_eq_none (show 32 ≤ _ by omega)]
    exact Nat.zero_le _
theorem sg_le (a k w t x8 x9 : Nat) : sg a k w t x8 x9 ≤ 14 := by
  have := sTab_le a k
  unfold sg
  dsimp only
  repeat' split
  all_goals omega
theorem gS_eq : ∀ a, a < 4 → ∀ k, k < 8 → gSights (8 * a + k) = nI (sTab a k) := by decide
theorem plain_eq (F : Nat) (s : St) {a k : Nat} (ha : a ≤ 3) (hk : k ≤ 7) : m_plain F (nI a) (nI k) s = some (nI (sTab a k), s) := by
  unfold m_plain m_plain_J146 m_plain_J109 m_plain_J177
  simp (disch := omega) only [fa_lit, fa_litL, leI, ltI, eqI, leL, ltL, eqL, cq_lt, cq_le, cq_gt, cq_ge, cq_eq, mulI, nI_add, lN_add, lN_mul, inb_iff, cl_nI, i2lN, l2iN]
  rcases (show a = 0 ∨ a = 1 ∨ a = 2 ∨ a = 3 by omega) with rfl | rfl | rfl | rfl <;> rcases (show k = 0 ∨ k = 1 ∨ k = 2 ∨ k = 3 ∨ k = 4 ∨ k = 5 ∨ k = 6 ∨ k = 7 by omega) with rfl | rfl | rfl | rfl | rfl | rfl | rfl | rfl <;> rfl
def sg3 (a k w v : Nat) : Nat := if w = 0 then v else if a = 3 then 0 else if k = 2 ∨ k = 5 then v / 2 else v
theorem half {b : Nat} (hb : b ≤ 14) : nI b / nI 2 = nI (b / 2) := divI (by omega) (by decide) (by decide)
theorem c_sJ57 (F : Nat) {c : St} {a k w v : Nat} (ha : a ≤ 3) (hk : k ≤ 7) (hw : w ≤ 1) (hv : v ≤ 14) : c_Law_sight_J57 F (nI a) (nI k) (nI w) (nI v) c = some (nI (sg3 a k w v), c) := by
  unfold c_Law_sight_J57 c_Law_sight_J81
  simp (disch := omega) only [fa_lit, fa_litL, leI, ltI, eqI, leL, ltL, eqL, cq_lt, cq_le, cq_gt, cq_ge, cq_eq, mulI, nI_add, lN_add, lN_mul, inb_iff, cl_nI, i2lN, l2iN, half]
  unfold sg3
  repeat' split
  all_goals first | rfl | (exfalso; omega) | omega
theorem c_sJ34 (F : Nat) {c : St} {a k w t v x9 : Nat} (ha : a ≤ 3) (hk : k ≤ 7) (hw : w ≤ 1) (ht : t ≤ 100000) (hv : v ≤ 14) (h9 : c.1 7 9 = nI x9) (b9 : x9 ≤ 999) : c_Law_sight_J34 F (nI a) (nI k) (nI w) (nI t) (nI v) c = some (nI (sg3 a k w (if a = 1 ∧ x9 ≤ t then v / 2 else v)), c) := by
  unfold c_Law_sight_J34
  simp (disch := omega) only [fa_lit, fa_litL, leI, ltI, eqI, leL, ltL, eqL, cq_lt, cq_le, cq_gt, cq_ge, cq_eq, mulI, nI_add, lN_add, lN_mul, inb_iff, cl_nI, i2lN, l2iN, half, h9, c_sJ57 F ha hk hw hv, c_sJ57 F ha hk hw (show v / 2 ≤ 14 by omega)]
  repeat' split
  all_goals first | rfl | (exfalso; omega) | omega
theorem c_sight (F : Nat) {c : St} {a k w t x8 x9 : Nat} (ha : a ≤ 3) (hk : k ≤ 7) (hw : w ≤ 1) (ht : t ≤ 100000) (h8 : c.1 7 8 = nI x8) (h9 : c.1 7 9 = nI x9) (b8 : x8 ≤ 999) (b9 : x9 ≤ 999) : c_Law_sight F (nI a) (nI k) (nI w) (nI t) c = some (nI (sg a k w t x8 x9), c) := by
  have hT := sTab_le a k
  unfold c_Law_sight
  simp (disch := omega) only [fa_lit, fa_litL, leI, ltI, eqI, leL, ltL, eqL, cq_lt, cq_le, cq_gt, cq_ge, cq_eq, mulI, nI_add, lN_add, lN_mul, inb_iff, cl_nI, i2lN, l2iN, show a * 8 + k = 8 * a + k by omega, gS_eq, h8, half]
  rw [if_pos (show 8 * a + k < 32 by omega), c_sJ34 F ha hk hw ht hT h9 b9, c_sJ34 F ha hk hw ht (show sTab a k / 2 ≤ 14 by omega) h9 b9, if_pos (show (8 : Nat) < 10 by decide)]
  unfold sg sg3
  dsimp only
  by_cases h0 : a = 0
  · by_cases h1 : t < x8
    · rw [if_pos h0, if_pos h1, if_neg (show ¬ (a = 0 ∧ x8 ≤ t) by omega)]
    · rw [if_pos h0, if_neg h1, if_pos (show a = 0 ∧ x8 ≤ t by omega)]
  · rw [if_neg h0, if_neg (show ¬ (a = 0 ∧ x8 ≤ t) by omega)]
theorem m_s81 (F : Nat) {m : St} {a w v y : Nat} (ha : a ≤ 3) (hw : w ≤ 1) (hv : v ≤ 14) (hy : y ≤ 1) : m_sixteenths_J81 F (nI a) (nI w) (nI v) (nI y) m = some (nI (if w = 0 then v else if a = 3 then 0 else if y = 0 then v else v / 2), m) := by
  unfold m_sixteenths_J81
  simp (disch := omega) only [fa_lit, fa_litL, leI, ltI, eqI, leL, ltL, eqL, cq_lt, cq_le, cq_gt, cq_ge, cq_eq, mulI, nI_add, lN_add, lN_mul, inb_iff, cl_nI, i2lN, l2iN, half]
  repeat' split
  all_goals first | rfl | (exfalso; omega) | omega
theorem m_s54 (F : Nat) {m : St} {a k w v q : Nat} (ha : a ≤ 3) (hk : k ≤ 7) (hw : w ≤ 1) (hv : v ≤ 14) (hq : q < 144) (hkd : m.1 2 q = nI k) : m_sixteenths_J54 F (nI a) (nI q) (nI w) (nI v) m = some (nI (sg3 a k w v), m) := by
  unfold m_sixteenths_J54 m_sixteenths_J76
  simp (disch := omega) only [fa_lit, fa_litL, leI, ltI, eqI, leL, ltL, eqL, cq_lt, cq_le, cq_gt, cq_ge, cq_eq, mulI, nI_add, lN_add, lN_mul, inb_iff, cl_nI, i2lN, l2iN, hkd, m_s81 F ha hw hv]
  simp only [if_pos hq]
  unfold sg3
  rcases (show w = 0 ∨ w = 1 by omega) with rfl | rfl <;> by_cases h2 : k = 2 <;> by_cases h5 : k = 5 <;> by_cases h3 : a = 3 <;> simp [h2, h5, h3]
theorem m_s28 (F : Nat) {m : St} {a k w t v x9 q : Nat} (ha : a ≤ 3) (hk : k ≤ 7) (hw : w ≤ 1) (ht : t ≤ 100000) (hv : v ≤ 14) (hq : q < 144) (hkd : m.1 2 q = nI k) (h9 : m.1 5 9 = nI x9) (b9 : x9 ≤ 999) : m_sixteenths_J28 F (nI a) (nI q) (nI w) (nI t) (nI v) m = some (nI (sg3 a k w (if a = 1 ∧ x9 ≤ t then v / 2 else v)), m) := by
  unfold m_sixteenths_J28 m_sixteenths_J52 m_sixteenths_J45
  simp (disch := omega) only [fa_lit, fa_litL, leI, ltI, eqI, leL, ltL, eqL, cq_lt, cq_le, cq_gt, cq_ge, cq_eq, mulI, nI_add, lN_add, lN_mul, inb_iff, cl_nI, i2lN, l2iN, half, h9, m_s54 F ha hk hw hv hq hkd, m_s54 F ha hk hw (show v / 2 ≤ 14 by omega) hq hkd]
  repeat' split
  all_goals first | rfl | (exfalso; omega) | omega
theorem m_sixt (F : Nat) {m : St} {a k w t x8 x9 q : Nat} (ha : a ≤ 3) (hk : k ≤ 7) (hw : w ≤ 1) (ht : t ≤ 100000) (h8 : m.1 5 8 = nI x8) (h9 : m.1 5 9 = nI x9) (b8 : x8 ≤ 999) (b9 : x9 ≤ 999) (hq : q < 144) (hkd : m.1 2 q = nI k) : m_sixteenths F (nI a) (nI q) (nI w) (nI t) m = some (nI (sg a k w t x8 x9), m) := by
  have hT := sTab_le a k
  unfold m_sixteenths m_sixteenths_J45
  simp (disch := omega) only [fa_lit, fa_litL, leI, ltI, eqI, leL, ltL, eqL, cq_lt, cq_le, cq_gt, cq_ge, cq_eq, mulI, nI_add, lN_add, lN_mul, inb_iff, cl_nI, i2lN, l2iN, hkd, plain_eq, gB2_mk, h8, half]
  rw [if_pos hq, m_s28 F ha hk hw ht hT hq hkd h9 b9, m_s54 F ha hk hw (show sTab a k / 2 ≤ 14 by omega) hq hkd, if_pos (show (8 : Nat) < 10 by decide)]
  unfold sg sg3
  dsimp only
  by_cases h0 : a = 0
  · by_cases h1 : x8 ≤ t
    · rw [if_pos h0, if_pos h1, if_pos (show a = 0 ∧ x8 ≤ t by omega), if_neg (show ¬ (a = 1 ∧ x9 ≤ t) by omega)]
    · rw [if_pos h0, if_neg h1, if_neg (show ¬ (a = 0 ∧ x8 ≤ t) by omega)]
  · rw [if_neg h0, if_neg (show ¬ (a = 0 ∧ x8 ≤ t) by omega)]
theorem c_out (F : Nat) (s : St) : c_Night_isOut F s = some (bz (0 ≤ s.1 9 4), s) := by
  unfold c_Night_isOut
  by_cases h : s.1 9 4 < 0
  · rw [if_pos h, bz_f (Int32.not_le.mpr h)]
  · rw [if_neg h, bz_t (Int32.not_lt.mp h)]
theorem EqM.out {x y : Int32} (h : EqM x y) : (¬ 0 ≤ x ∧ ¬ 0 ≤ y) ∨ ∃ t, t ≤ 999 ∧ x = nI t ∧ y = nI t ∧ (0 : Int32) ≤ nI t := by
  rcases h with ⟨rfl, rfl⟩ | ⟨k, hk, rfl, rfl⟩
  · exact Or.inl ⟨by decide, by decide⟩
  · exact Or.inr ⟨k, hk, rfl, rfl, nI_le (a := 0) (Nat.zero_le k) (by omega)⟩
theorem p_sees {n : Nat} {c m : St} (R : Rel n c m) (F : Nat) (hF : 3000 ≤ F) (a b v : Int32) : SameR n (c_sees F a b v c) (m_sees F a b v m) := by
  unfold c_sees c_sees_J79 c_sees_J23 m_sees m_sees_J59 m_sees_J24
  simp only [gB2_mk, gB_mk, bz_ite, bz_01, gB2_id, c_isCell_eq, c_isKind_eq, c_isSort_eq, c_isPart_eq, c_Sheets_isSheet_eq, c_Sheets_isLane_eq, m_isCell_eq, m_isKind_eq, m_isSort_eq, m_isSheet_eq, m_isLane_eq, c_isIn_eq, m_in_0_0, m_in_0_1, m_in_0_2, m_in_0_3, m_in_0_5, m_in_0_7, m_in_0_8, m_in_0_9, m_in_0_11, m_in_0_15, m_in_0_16, m_in_0_99, m_in_0_143, m_in_0_999, m_in_1_4, m_in_1_8, m_in_1_9, m_in_1_60, m_in_m1_3, m_in_m1_5, c_out]
  by_cases h1 : (0 : Int32) ≤ a ∧ a ≤ 3
  case neg =>
    simp only [if_neg h1]
    exact ref_t R F ok1
  simp only [if_pos h1]
  obtain ⟨i, i_lo, i_hi, rfl⟩ := in_nat (lo := 0) (hi := 3) (by decide) h1 (by decide)
  by_cases h2 : (0 : Int32) ≤ b ∧ b ≤ 143
  case neg =>
    simp only [if_neg h2]
    exact ref_t R F ok1
  simp only [if_pos h2]
  obtain ⟨j, j_lo, j_hi, rfl⟩ := in_nat (lo := 0) (hi := 143) (by decide) h2 (by decide)
  by_cases h3 : (0 : Int32) ≤ v ∧ v ≤ 1
  case neg =>
    simp only [if_neg h3]
    exact ref_t R F ok1
  simp only [if_pos h3]
  obtain ⟨w, w_lo, w_hi, rfl⟩ := in_nat (lo := 0) (hi := 1) (by decide) h3 (by decide)
  rcases (show EqM (c.1 9 4) (m.1 0 13) from R.1.minute).out with ⟨e1, e2⟩ | ⟨t, ht, e1, e2, e3⟩
  · rw [if_neg e1, if_neg e2]
    exact ref_t R F ok2
  · simp only [e1, e2, if_pos e3]
    obtain ⟨k, hk, k1, k2⟩ := R.1.kinds j (by omega)
    obtain ⟨x8, b8, c8, m8⟩ := R.1.settings 8 (by omega)
    obtain ⟨x9, b9, c9, m9⟩ := R.1.settings 9 (by omega)
    simp (disch := omega) only [inb_nI, if_true, cl_nI]
    have k1' : c.1 3 j = nI k := k1
    rw [k1']
    rcases (show w = 0 ∨ w = 1 by omega) with rfl | rfl
    · have y1 := c_sight F (w := 0) i_hi hk (by omega) (show t ≤ 100000 by omega) c8 c9 b8 b9
      have y2 := m_sixt F (w := 0) i_hi hk (by omega) (show t ≤ 100000 by omega) m8 m9 b8 b9 (show j < 144 by omega) k2
      exact ⟨_, _, _, y1, y2, R⟩
    · have y1 := c_sight F (w := 1) i_hi hk (by omega) (show t ≤ 100000 by omega) c8 c9 b8 b9
      have y2 := m_sixt F (w := 1) i_hi hk (by omega) (show t ≤ 100000 by omega) m8 m9 b8 b9 (show j < 144 by omega) k2
      exact ⟨_, _, _, y1, y2, R⟩
