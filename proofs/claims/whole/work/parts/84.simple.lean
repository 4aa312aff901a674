/-! the pure part: draw, told, set, sits, parts -/
theorem p_draw {n : Nat} {c m : St} (R : Rel n c m) (F : Nat) (hF : 3000 ≤ F) (a v : Int32) : SameR n (c_draw F a v c) (m_draw F a v m) := by
  unfold c_draw c_draw_J17 m_draw m_draw_J19
  simp only [gB2_mk, gB_mk, bz_ite, bz_01, gB2_id, c_isCell_eq, c_isKind_eq, c_isSort_eq, c_isPart_eq, c_Sheets_isSheet_eq, c_Sheets_isLane_eq, m_isCell_eq, m_isKind_eq, m_isSort_eq, m_isSheet_eq, m_isLane_eq, c_isIn_eq, m_in_0_0, m_in_0_1, m_in_0_2, m_in_0_3, m_in_0_5, m_in_0_7, m_in_0_8, m_in_0_9, m_in_0_11, m_in_0_15, m_in_0_16, m_in_0_99, m_in_0_143, m_in_0_999, m_in_1_4, m_in_1_8, m_in_1_9, m_in_1_60, m_in_m1_3, m_in_m1_5]
  by_cases h1 : (0 : Int32) ≤ a ∧ a ≤ 143
  case neg =>
    simp only [if_neg h1]
    exact ref_t R F ok1
  simp only [if_pos h1]
  obtain ⟨j, j_lo, j_hi, rfl⟩ := in_nat (lo := 0) (hi := 143) (by decide) h1 (by decide)
  by_cases h2 : (0 : Int32) ≤ v ∧ v ≤ 9
  case neg =>
    simp only [if_neg h2]
    exact ref_t R F ok1
  simp only [if_pos h2]
  obtain ⟨k, k_lo, k_hi, rfl⟩ := in_nat (lo := 0) (hi := 9) (by decide) h2 (by decide)
  simp (disch := omega) only [inb_nI, if_true, cl_nI]
  obtain ⟨q, -, e1, e2⟩ := R.1.draws j (by omega)
  exact SameR.ret (e1.trans e2.symm) (R.set_draws (by omega) k_hi)
theorem p_sits {n : Nat} {c m : St} (R : Rel n c m) (F : Nat) (hF : 3000 ≤ F) (a v : Int32) : SameR n (c_sits F a v c) (m_sits F a v m) := by
  unfold c_sits c_sits_J17 m_sits m_sits_J19
  simp only [gB2_mk, gB_mk, bz_ite, bz_01, gB2_id, c_isCell_eq, c_isKind_eq, c_isSort_eq, c_isPart_eq, c_Sheets_isSheet_eq, c_Sheets_isLane_eq, m_isCell_eq, m_isKind_eq, m_isSort_eq, m_isSheet_eq, m_isLane_eq, c_isIn_eq, m_in_0_0, m_in_0_1, m_in_0_2, m_in_0_3, m_in_0_5, m_in_0_7, m_in_0_8, m_in_0_9, m_in_0_11, m_in_0_15, m_in_0_16, m_in_0_99, m_in_0_143, m_in_0_999, m_in_1_4, m_in_1_8, m_in_1_9, m_in_1_60, m_in_m1_3, m_in_m1_5]
  by_cases h1 : (0 : Int32) ≤ a ∧ a ≤ 7
  case neg =>
    simp only [if_neg h1]
    exact ref_t R F ok1
  simp only [if_pos h1]
  obtain ⟨j, j_lo, j_hi, rfl⟩ := in_nat (lo := 0) (hi := 7) (by decide) h1 (by decide)
  by_cases h2 : (0 : Int32) ≤ v ∧ v ≤ 9
  case neg =>
    simp only [if_neg h2]
    exact ref_t R F ok1
  simp only [if_pos h2]
  obtain ⟨k, k_lo, k_hi, rfl⟩ := in_nat (lo := 0) (hi := 9) (by decide) h2 (by decide)
  simp (disch := omega) only [inb_nI, if_true, cl_nI]
  obtain ⟨q, -, e1, e2⟩ := R.1.sits j (by omega)
  exact SameR.ret (e1.trans e2.symm) (R.set_sits (by omega) k_hi)
theorem p_told {n : Nat} {c m : St} (R : Rel n c m) (F : Nat) (hF : 3000 ≤ F) (a v : Int32) : SameR n (c_told F a v c) (m_told F a v m) := by
  unfold c_told m_told m_told_J19
  simp only [gB2_mk, gB_mk, bz_ite, bz_01, gB2_id, c_isCell_eq, c_isKind_eq, c_isSort_eq, c_isPart_eq, c_Sheets_isSheet_eq, c_Sheets_isLane_eq, m_isCell_eq, m_isKind_eq, m_isSort_eq, m_isSheet_eq, m_isLane_eq, c_isIn_eq, m_in_0_0, m_in_0_1, m_in_0_2, m_in_0_3, m_in_0_5, m_in_0_7, m_in_0_8, m_in_0_9, m_in_0_11, m_in_0_15, m_in_0_16, m_in_0_99, m_in_0_143, m_in_0_999, m_in_1_4, m_in_1_8, m_in_1_9, m_in_1_60, m_in_m1_3, m_in_m1_5]
  by_cases h1 : (0 : Int32) ≤ a ∧ a ≤ 143
  case neg =>
    simp only [if_neg h1]
    exact ref_t R F ok1
  simp only [if_pos h1]
  obtain ⟨j, j_lo, j_hi, rfl⟩ := in_nat (lo := 0) (hi := 143) (by decide) h1 (by decide)
  by_cases h2 : (0 : Int32) ≤ v ∧ v ≤ 2
  case neg =>
    have n0 : ¬ v = 0 := fun e => h2 (by rw [e]; decide)
    have n1 : ¬ v = 1 := fun e => h2 (by rw [e]; decide)
    have n2 : ¬ v = 2 := fun e => h2 (by rw [e]; decide)
    rw [if_neg h2, if_neg n0, if_neg n1, if_neg n2]
    exact ref_t R F ok1
  rw [if_pos h2]
  obtain ⟨k, -, k_hi, rfl⟩ := in_nat (lo := 0) (hi := 2) (by decide) h2 (by decide)
  simp (disch := omega) only [inb_nI, if_true, cl_nI]
  obtain ⟨q, -, e1, e2⟩ := R.1.kinds j (by omega)
  obtain ⟨q, -, e3, e4⟩ := R.1.draws j (by omega)
  obtain ⟨q, -, e5, e6⟩ := R.1.searched j (by omega)
  rcases (show k = 0 ∨ k = 1 ∨ k = 2 by omega) with rfl | rfl | rfl
  · exact SameR.ret (e1.trans e2.symm) R
  · exact SameR.ret (e3.trans e4.symm) R
  · exact SameR.ret (e5.trans e6.symm) R
theorem c_high (F : Nat) (s : St) : ∀ j, j ≤ 9 → c_Law_highest F (nI j) s = some (nI (sMax j), s) := by
  intro j hj
  rcases (show j = 0 ∨ j = 1 ∨ j = 2 ∨ j = 3 ∨ j = 4 ∨ j = 5 ∨ j = 6 ∨ j = 7 ∨ j = 8 ∨ j = 9 by omega) with rfl | rfl | rfl | rfl | rfl | rfl | rfl | rfl | rfl | rfl <;> rfl
theorem p_set {n : Nat} {c m : St} (R : Rel n c m) (F : Nat) (hF : 3000 ≤ F) (a v : Int32) : SameR n (c_set F a v c) (m_set F a v m) := by
  unfold c_set c_set_J22 m_set m_set_J42 m_set_J48
  simp only [gB2_mk, gB_mk, bz_ite, bz_01, gB2_id, c_isCell_eq, c_isKind_eq, c_isSort_eq, c_isPart_eq, c_Sheets_isSheet_eq, c_Sheets_isLane_eq, m_isCell_eq, m_isKind_eq, m_isSort_eq, m_isSheet_eq, m_isLane_eq, c_isIn_eq, m_in_0_0, m_in_0_1, m_in_0_2, m_in_0_3, m_in_0_5, m_in_0_7, m_in_0_8, m_in_0_9, m_in_0_11, m_in_0_15, m_in_0_16, m_in_0_99, m_in_0_143, m_in_0_999, m_in_1_4, m_in_1_8, m_in_1_9, m_in_1_60, m_in_m1_3, m_in_m1_5]
  by_cases h1 : (0 : Int32) ≤ a ∧ a ≤ 9
  case neg =>
    simp only [if_neg h1]
    exact ref_t R F ok1
  simp only [if_pos h1]
  obtain ⟨j, j_lo, j_hi, rfl⟩ := in_nat (lo := 0) (hi := 9) (by decide) h1 (by decide)
  simp only [c_high _ _ j j_hi, gB2_mk, c_isIn_eq, bz_ite]
  have key : ∀ (hi : Nat), hi ≤ 999 → hi = sMax j → SameR n (if (0 : Int32) ≤ v ∧ v ≤ nI (sMax j) then if inb (nI j) 10 = true then if inb (nI j) 10 = true then some (c.1 7 (nI j).toNatClampNeg, sI c 7 (nI j).toNatClampNeg v) else none else none else c_refuse F (-1) c) (if (0 : Int32) ≤ v ∧ v ≤ nI hi then if inb (nI j) 10 = true then if inb (nI j) 10 = true then some (m.1 5 (nI j).toNatClampNeg, sI m 5 (nI j).toNatClampNeg v) else none else none else m_tells F (-1) m) := by
    intro hi h9 he
    subst he
    by_cases h2 : (0 : Int32) ≤ v ∧ v ≤ nI (sMax j)
    case neg =>
      simp only [if_neg h2]
      exact ref_t R F ok1
    simp only [if_pos h2]
    obtain ⟨k, -, k_hi, rfl⟩ := in_nat (lo := 0) (hi := sMax j) (by omega) h2 (by omega)
    simp (disch := omega) only [inb_nI, if_true, cl_nI]
    obtain ⟨q, -, e1, e2⟩ := R.1.settings j (by omega)
    exact SameR.ret (e1.trans e2.symm) (R.set_settings (by omega) k_hi)
  by_cases h6 : j = 6
  · rw [if_pos (show nI j = 6 by rw [h6]; rfl)]
    exact key 3 (by decide) (by rw [h6]; rfl)
  · have n6 : ¬ nI j = 6 := fun e => h6 ((eqI (b := 6) (by omega) (by omega)).mp e)
    rw [if_neg n6]
    by_cases h7 : j ≤ 7
    · rw [if_pos (show nI j ≤ 7 from nI_le (b := 7) h7 (by omega))]
      exact key 9 (by decide) (by unfold sMax; rw [if_neg h6, if_neg (by omega)])
    · have n7 : ¬ nI j ≤ 7 := fun e => h7 ((leI (b := 7) (by omega) (by omega)).mp e)
      rw [if_neg n7]
      exact key 999 (by decide) (by unfold sMax; rw [if_neg h6, if_pos (by omega)])
theorem p_parts {n : Nat} {c m : St} (R : Rel n c m) (F : Nat) (hF : 3000 ≤ F) (a v : Int32) : SameR n (c_parts F a v c) (m_parts F a v m) := by
  unfold c_parts m_parts m_parts_J19
  simp only [gB2_mk, gB_mk, bz_ite, bz_01, gB2_id, c_isCell_eq, c_isKind_eq, c_isSort_eq, c_isPart_eq, c_Sheets_isSheet_eq, c_Sheets_isLane_eq, m_isCell_eq, m_isKind_eq, m_isSort_eq, m_isSheet_eq, m_isLane_eq, c_isIn_eq, m_in_0_0, m_in_0_1, m_in_0_2, m_in_0_3, m_in_0_5, m_in_0_7, m_in_0_8, m_in_0_9, m_in_0_11, m_in_0_15, m_in_0_16, m_in_0_99, m_in_0_143, m_in_0_999, m_in_1_4, m_in_1_8, m_in_1_9, m_in_1_60, m_in_m1_3, m_in_m1_5]
  by_cases h1 : (0 : Int32) ≤ a ∧ a ≤ 143
  case neg =>
    simp only [if_neg h1]
    exact ref_s R F ok1 rfl
  simp only [if_pos h1]
  obtain ⟨j, j_lo, j_hi, rfl⟩ := in_nat (lo := 0) (hi := 143) (by decide) h1 (by decide)
  by_cases h2 : (0 : Int32) ≤ v ∧ v ≤ 5
  case neg =>
    have n0 : ¬ v = 0 := fun e => h2 (by rw [e]; decide)
    have n1 : ¬ v = 1 := fun e => h2 (by rw [e]; decide)
    have n2 : ¬ v = 2 := fun e => h2 (by rw [e]; decide)
    have n3 : ¬ v = 3 := fun e => h2 (by rw [e]; decide)
    have n4 : ¬ v = 4 := fun e => h2 (by rw [e]; decide)
    have n5 : ¬ v = 5 := fun e => h2 (by rw [e]; decide)
    rw [if_neg h2, if_neg n0, if_neg n1, if_neg n2, if_neg n3, if_neg n4, if_neg n5]
    exact ref_s R F ok1 rfl
  rw [if_pos h2]
  obtain ⟨k, -, k_hi, rfl⟩ := in_nat (lo := 0) (hi := 5) (by decide) h2 (by decide)
  obtain ⟨p, hc, hm, hs⟩ := R.1.pp
  simp (disch := omega) only [fa_lit, fa_litL, leI, ltI, eqI, leL, ltL, eqL, cq_lt, cq_le, cq_gt, cq_ge, cq_eq, mulI, nI_add, lN_add, lN_mul, inb_iff, cl_nI, i2lN, l2iN]
  rw [c_tog F hF hc (by omega), m_tog F hF hm (by omega)]
  rcases (show k = 0 ∨ k = 1 ∨ k = 2 ∨ k = 3 ∨ k = 4 ∨ k = 5 by omega) with rfl | rfl | rfl | rfl | rfl | rfl
  · rw [if_pos rfl, if_pos (by omega), if_neg (by omega), if_pos (by omega), show j * 4 + 0 = 4 * j + 0 by omega, (hc j (by omega)).1 0 (by omega), hm _ (by omega)]
    exact SameR.ret rfl R
  · rw [if_neg (by omega), if_pos rfl, if_pos (by omega), if_neg (by omega), if_pos (by omega), show j * 4 + 1 = 4 * j + 1 by omega, (hc j (by omega)).1 1 (by omega), hm _ (by omega)]
    exact SameR.ret rfl R
  · rw [if_neg (by omega), if_neg (by omega), if_pos rfl, if_pos (by omega), if_neg (by omega), if_pos (by omega), show j * 4 + 2 = 4 * j + 2 by omega, (hc j (by omega)).1 2 (by omega), hm _ (by omega)]
    exact SameR.ret rfl R
  · rw [if_neg (by omega), if_neg (by omega), if_neg (by omega), if_pos rfl, if_pos (by omega), if_neg (by omega), if_pos (by omega), show j * 4 + 3 = 4 * j + 3 by omega, (hc j (by omega)).1 3 (by omega), hm _ (by omega)]
    exact SameR.ret rfl R
  · rw [if_neg (by omega), if_neg (by omega), if_neg (by omega), if_neg (by omega), if_pos rfl, if_pos (by omega), if_neg (by omega), if_pos (by omega), (hc j (by omega)).2, hm _ (by omega)]
    exact SameR.ret rfl R
  · rw [if_neg (by omega), if_neg (by omega), if_neg (by omega), if_neg (by omega), if_neg (by omega), if_pos rfl, if_pos (by omega)]
    exact SameR.ret rfl R
