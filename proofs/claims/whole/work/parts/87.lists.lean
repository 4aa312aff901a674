/-! the pure part: count, job, found, measure, clear, share -/
theorem p_job {n : Nat} {c m : St} (R : Rel n c m) (F : Nat) (hF : 3000 ≤ F) (a b v : Int32) : SameR n (c_job F a b v c) (m_job F a b v m) := by
  unfold c_job c_job_J24 m_job m_job_J26 c_Jobs_add
  simp only [gB2_mk, gB_mk, bz_ite, bz_01, gB2_id, c_isCell_eq, c_isKind_eq, c_isSort_eq, c_isPart_eq, c_Sheets_isSheet_eq, c_Sheets_isLane_eq, m_isCell_eq, m_isKind_eq, m_isSort_eq, m_isSheet_eq, m_isLane_eq, c_isIn_eq, m_in_0_0, m_in_0_1, m_in_0_2, m_in_0_3, m_in_0_5, m_in_0_7, m_in_0_8, m_in_0_9, m_in_0_11, m_in_0_15, m_in_0_16, m_in_0_99, m_in_0_143, m_in_0_999, m_in_1_4, m_in_1_8, m_in_1_9, m_in_1_60, m_in_m1_3, m_in_m1_5]
  by_cases h1 : (0 : Int32) ≤ a ∧ a ≤ 143
  case neg =>
    simp only [if_neg h1]
    exact ref_t R F ok1
  simp only [if_pos h1]
  obtain ⟨i, i_lo, i_hi, rfl⟩ := in_nat (lo := 0) (hi := 143) (by decide) h1 (by decide)
  by_cases h2 : (0 : Int32) ≤ b ∧ b ≤ 3
  case neg =>
    simp only [if_neg h2]
    exact ref_t R F ok1
  simp only [if_pos h2]
  obtain ⟨j, j_lo, j_hi, rfl⟩ := in_nat (lo := 0) (hi := 3) (by decide) h2 (by decide)
  by_cases h3 : (1 : Int32) ≤ v ∧ v ≤ 60
  case neg =>
    simp only [if_neg h3]
    exact ref_t R F ok1
  simp only [if_pos h3]
  obtain ⟨w, w_lo, w_hi, rfl⟩ := in_nat (lo := 1) (hi := 60) (by decide) h3 (by decide)
  obtain ⟨k, hk, e1, e2⟩ := R.1.jc
  have e1' : c.1 22 5 = nI k := e1
  have e2' : m.1 0 21 = nI k := e2
  simp (disch := omega) only [sI1_ne, sI1_eq, sI2, sJ1, sJ2_ne, sJ2_eq, upd_eq, upd_ne, e1', e2', fa_lit, fa_litL, leI, ltI, eqI, leL, ltL, eqL, cq_lt, cq_le, cq_gt, cq_ge, cq_eq, mulI, nI_add, lN_add, lN_mul, inb_iff, cl_nI, i2lN, l2iN, subI]
  by_cases h4 : k = 6
  · simp only [if_neg (show ¬ k < 6 by omega), if_pos h4, gB2_mk]
    simp (disch := omega) only [fa_lit, fa_litL, leI, ltI, eqI, leL, ltL, eqL, cq_lt, cq_le, cq_gt, cq_ge, cq_eq, mulI, nI_add, lN_add, lN_mul, inb_iff, cl_nI, i2lN, l2iN, answ_3, gB2_id]
    exact ref_t R F ok3
  · simp only [if_pos (show k < 6 by omega), if_neg h4, gB2_mk]
    simp (disch := omega) only [fa_lit, fa_litL, leI, ltI, eqI, leL, ltL, eqL, cq_lt, cq_le, cq_gt, cq_ge, cq_eq, mulI, nI_add, lN_add, lN_mul, inb_iff, cl_nI, i2lN, l2iN, Nat.add_sub_cancel, answ_ok]
    exact SameR.ret rfl ((((R.set_jcell (j := k) (by omega) i_hi).set_jsort (j := k) (by omega) j_hi).set_jmin (j := k) (by omega) w_hi).set_jc (by omega))
theorem p_measure {n : Nat} {c m : St} (R : Rel n c m) (F : Nat) (hF : 3000 ≤ F) (a b : Int32) : SameR n (c_measure F a b c) (m_measure F a b m) := by
  unfold c_measure c_measure_J20 m_measure m_measure_J24 c_Door_add
  simp only [gB2_mk, gB_mk, bz_ite, bz_01, gB2_id, c_isCell_eq, c_isKind_eq, c_isSort_eq, c_isPart_eq, c_Sheets_isSheet_eq, c_Sheets_isLane_eq, m_isCell_eq, m_isKind_eq, m_isSort_eq, m_isSheet_eq, m_isLane_eq, c_isIn_eq, m_in_0_0, m_in_0_1, m_in_0_2, m_in_0_3, m_in_0_5, m_in_0_7, m_in_0_8, m_in_0_9, m_in_0_11, m_in_0_15, m_in_0_16, m_in_0_99, m_in_0_143, m_in_0_999, m_in_1_4, m_in_1_8, m_in_1_9, m_in_1_60, m_in_m1_3, m_in_m1_5]
  by_cases h1 : (0 : Int32) ≤ a ∧ a ≤ 15
  case neg =>
    simp only [if_neg h1]
    exact ref_t R F ok1
  simp only [if_pos h1]
  obtain ⟨i, i_lo, i_hi, rfl⟩ := in_nat (lo := 0) (hi := 15) (by decide) h1 (by decide)
  by_cases h2 : (0 : Int32) ≤ b ∧ b ≤ 15
  case neg =>
    simp only [if_neg h2]
    exact ref_t R F ok1
  simp only [if_pos h2]
  obtain ⟨j, j_lo, j_hi, rfl⟩ := in_nat (lo := 0) (hi := 15) (by decide) h2 (by decide)
  obtain ⟨k, hk, e1, e2⟩ := R.1.dc
  have e1' : c.1 32 2 = nI k := e1
  have e2' : m.1 0 31 = nI k := e2
  simp (disch := omega) only [sI1_ne, sI1_eq, sI2, sJ1, sJ2_ne, sJ2_eq, upd_eq, upd_ne, e1', e2', fa_lit, fa_litL, leI, ltI, eqI, leL, ltL, eqL, cq_lt, cq_le, cq_gt, cq_ge, cq_eq, mulI, nI_add, lN_add, lN_mul, inb_iff, cl_nI, i2lN, l2iN, subI]
  by_cases h4 : k = 8
  · simp only [if_neg (show ¬ k < 8 by omega), if_pos h4, gB2_mk]
    simp (disch := omega) only [fa_lit, fa_litL, leI, ltI, eqI, leL, ltL, eqL, cq_lt, cq_le, cq_gt, cq_ge, cq_eq, mulI, nI_add, lN_add, lN_mul, inb_iff, cl_nI, i2lN, l2iN, answ_3, gB2_id]
    exact ref_t R F ok3
  · simp only [if_pos (show k < 8 by omega), if_neg h4, gB2_mk]
    simp (disch := omega) only [fa_lit, fa_litL, leI, ltI, eqI, leL, ltL, eqL, cq_lt, cq_le, cq_gt, cq_ge, cq_eq, mulI, nI_add, lN_add, lN_mul, inb_iff, cl_nI, i2lN, l2iN, Nat.add_sub_cancel, answ_ok]
    exact SameR.ret rfl (((R.set_keeps (j := k) (by omega) i_hi).set_shuts (j := k) (by omega) j_hi).set_dc (by omega))
abbrev toldP (x y z : Int64) : Prop := (0 ≤ x ∧ x ≤ 3) ∧ (0 ≤ y ∧ y ≤ 99) ∧ (0 ≤ z ∧ z ≤ 7)
theorem c_toldP (F : Nat) (x y z : Int64) (s : St) : c_Book_isAsTold F x y z s = some (bz (toldP x y z), s) := by
  unfold c_Book_isAsTold c_Book_isAsTold_J48
  simp only [lg_cmp_lt, lg_cmp_ge, lg_cmp_gt]
  have t4 : ∀ w : Int64, 4 ≤ w ↔ ¬ w ≤ 3 := fun w => by
    rw [Int64.le_iff_toInt_le, Int64.le_iff_toInt_le, show (4 : Int64).toInt = 4 by decide, show (3 : Int64).toInt = 3 by decide]
    omega
  have t8 : ∀ w : Int64, 8 ≤ w ↔ ¬ w ≤ 7 := fun w => by
    rw [Int64.le_iff_toInt_le, Int64.le_iff_toInt_le, show (8 : Int64).toInt = 8 by decide, show (7 : Int64).toInt = 7 by decide]
    omega
  simp only [t4, t8, ← Int64.not_le]
  by_cases a1 : 0 ≤ x <;> by_cases a2 : x ≤ 3 <;> by_cases a3 : 0 ≤ y <;> by_cases a4 : y ≤ 99 <;> by_cases a5 : 0 ≤ z <;> by_cases a6 : z ≤ 7 <;> simp [toldP, bz, a1, a2, a3, a4, a5, a6]
theorem m_toldP (F : Nat) (x y z : Int64) (s : St) : m_isFound F x y z s = some (bz (toldP x y z), s) := by
  unfold m_isFound m_isFound_J38
  simp only [m_in_eq, gB2_mk, bz_ite]
  unfold toldP
  by_cases a1 : 0 ≤ x ∧ x ≤ 3
  · by_cases a2 : 0 ≤ y ∧ y ≤ 99
    · by_cases a3 : 0 ≤ z ∧ z ≤ 7
      · rw [if_pos a1, if_pos a2, if_pos a3, bz_t ⟨a1, a2, a3⟩]
      · rw [if_pos a1, if_pos a2, if_neg a3, bz_f (fun h => a3 h.2.2)]
    · rw [if_pos a1, if_neg a2, bz_f (fun h => a2 h.2.1)]
  · rw [if_neg a1, bz_f (fun h => a1 h.1)]
theorem wide_nat {a : Int32} {hi : Nat} (hhi : hi < 2 ^ 31) (h : (0 : Int64) ≤ a.toInt64 ∧ a.toInt64 ≤ lN hi) : ∃ k, k ≤ hi ∧ a = nI k := by
  rw [← i2lN hhi, show (0 : Int64) = (nI 0).toInt64 from rfl, wide_le, wide_le] at h
  obtain ⟨k, -, h2, h3⟩ := in_nat hhi h (Nat.zero_le _)
  exact ⟨k, h2, h3⟩
theorem toldP.nat {a b v : Int32} (h : toldP a.toInt64 b.toInt64 v.toInt64) : ∃ i j w, i ≤ 3 ∧ j ≤ 99 ∧ w ≤ 7 ∧ a = nI i ∧ b = nI j ∧ v = nI w := by
  obtain ⟨i, hi, e1⟩ := wide_nat (hi := 3) (by decide) h.1
  obtain ⟨j, hj, e2⟩ := wide_nat (hi := 99) (by decide) h.2.1
  obtain ⟨w, hw, e3⟩ := wide_nat (hi := 7) (by decide) h.2.2
  exact ⟨i, j, w, hi, hj, hw, e1, e2, e3⟩
theorem p_found {n : Nat} {c m : St} (R : Rel n c m) (F : Nat) (hF : 3000 ≤ F) (a b v : Int32) : SameR n (c_found F a b v c) (m_found F a b v m) := by
  unfold c_found m_found c_Book_add m_writes
  simp only [gB2_mk, gB_mk, bz_ite, bz_01, gB2_id, c_isCell_eq, c_isKind_eq, c_isSort_eq, c_isPart_eq, c_Sheets_isSheet_eq, c_Sheets_isLane_eq, m_isCell_eq, m_isKind_eq, m_isSort_eq, m_isSheet_eq, m_isLane_eq, c_isIn_eq, m_in_0_0, m_in_0_1, m_in_0_2, m_in_0_3, m_in_0_5, m_in_0_7, m_in_0_8, m_in_0_9, m_in_0_11, m_in_0_15, m_in_0_16, m_in_0_99, m_in_0_143, m_in_0_999, m_in_1_4, m_in_1_8, m_in_1_9, m_in_1_60, m_in_m1_3, m_in_m1_5, c_toldP, m_toldP]
  by_cases h1 : toldP a.toInt64 b.toInt64 v.toInt64
  case neg =>
    simp only [if_neg h1]
    exact ref_t R F ok1
  simp only [if_pos h1]
  obtain ⟨i, j, w, i_hi, j_hi, w_hi, rfl, rfl, rfl⟩ := h1.nat
  obtain ⟨k, hk, e1, e2⟩ := R.1.bc
  have e1' : c.1 28 3 = nI k := e1
  have e2' : m.1 0 27 = nI k := e2
  simp (disch := omega) only [sI1_ne, sI1_eq, sI2, sJ1, sJ2_ne, sJ2_eq, upd_eq, upd_ne, e1', e2', fa_lit, fa_litL, leI, ltI, eqI, leL, ltL, eqL, cq_lt, cq_le, cq_gt, cq_ge, cq_eq, mulI, nI_add, lN_add, lN_mul, inb_iff, cl_nI, i2lN, l2iN, subI]
  by_cases h4 : k = 60
  · simp only [if_neg (show ¬ k < 60 by omega), if_pos h4, gB2_mk]
    simp (disch := omega) only [fa_lit, fa_litL, leI, ltI, eqI, leL, ltL, eqL, cq_lt, cq_le, cq_gt, cq_ge, cq_eq, mulI, nI_add, lN_add, lN_mul, inb_iff, cl_nI, i2lN, l2iN, answ_3, gB2_id]
    exact ref_t R F ok3
  · simp only [if_pos (show k < 60 by omega), if_neg h4, gB2_mk, gB_mk]
    simp (disch := omega) only [sI1_ne, sI1_eq, sI2, sJ1, sJ2_ne, sJ2_eq, upd_eq, upd_ne, e1', e2', fa_lit, fa_litL, leI, ltI, eqI, leL, ltL, eqL, cq_lt, cq_le, cq_gt, cq_ge, cq_eq, mulI, nI_add, lN_add, lN_mul, inb_iff, cl_nI, i2lN, l2iN, subI, answ_ok, gB2_mk]
    exact SameR.ret rfl ((((R.set_ages (j := k) (by omega) i_hi).set_fars (j := k) (by omega) j_hi).set_bkinds (j := k) (by omega) w_hi).set_bc (by omega))
theorem p_clear {n : Nat} {c m : St} (R : Rel n c m) (F : Nat) (hF : 3000 ≤ F) : SameR n (c_clear F c) (m_clear F m) := by
  unfold c_clear m_clear c_Teams_empty c_Jobs_empty c_Door_empty c_Book_empty
  simp only [gB2_mk]
  obtain ⟨k1, -, e1, f1⟩ := R.1.tc
  obtain ⟨k2, -, e2, f2⟩ := R.1.pc
  obtain ⟨k3, -, e3, f3⟩ := R.1.jc
  obtain ⟨k4, -, e4, f4⟩ := R.1.dc
  obtain ⟨k5, -, e5, f5⟩ := R.1.bc
  have e1' : c.1 14 7 = nI k1 := e1
  have e2' : c.1 14 8 = nI k2 := e2
  have e3' : c.1 22 5 = nI k3 := e3
  have e4' : c.1 32 2 = nI k4 := e4
  have e5' : c.1 28 3 = nI k5 := e5
  have f1' : m.1 0 14 = nI k1 := f1
  have f2' : m.1 0 18 = nI k2 := f2
  have f3' : m.1 0 21 = nI k3 := f3
  have f4' : m.1 0 31 = nI k4 := f4
  have f5' : m.1 0 27 = nI k5 := f5
  simp (disch := omega) only [sI1_ne, sI1_eq, sI2, sJ1, sJ2_ne, sJ2_eq, upd_eq, upd_ne, e1', e2', e3', e4', e5', f1', f2', f3', f4', f5']
  exact SameR.ret rfl (((((R.set_tc (k := 0) (by omega)).set_pc (k := 0) (by omega)).set_jc (k := 0) (by omega)).set_dc (k := 0) (by omega)).set_bc (k := 0) (by omega))
theorem c_kind_lp (F : Nat) {s : St} {g : Nat → Nat} {w n : Nat} (hn : s.1 28 3 = nI n) (h6 : n ≤ 60) (hg : ∀ j, j < 60 → s.1 31 j = nI (g j)) (hb : ∀ j, j < 60 → g j ≤ 7) (hw : w ≤ 7) : ∀ (d i k : Nat) (acc : Nat), i + d = n → d < k → c_Book_ofKind_L4 F k (nI w) (nI acc) (nI i) s = some (nI (acc + cF (fun j => decide (g j = w)) i d), s) := by
  intro d
  induction d with
  | zero =>
    intro i k acc hi hk
    obtain ⟨k, rfl⟩ : ∃ z, k = z + 1 := ⟨k - 1, by omega⟩
    show c_Book_ofKind_L4b F (c_Book_ofKind_L4 F k) (nI w) (nI acc) (nI i) s = _
    unfold c_Book_ofKind_L4b
    simp (disch := omega) only [fa_lit, fa_litL, leI, ltI, eqI, leL, ltL, eqL, cq_lt, cq_le, cq_gt, cq_ge, cq_eq, mulI, nI_add, lN_add, lN_mul, inb_iff, cl_nI, i2lN, l2iN, hn]
    rw [if_pos (by omega)]
    rfl
  | succ d ih =>
    intro i k acc hi hk
    obtain ⟨k, rfl⟩ : ∃ z, k = z + 1 := ⟨k - 1, by omega⟩
    show c_Book_ofKind_L4b F (c_Book_ofKind_L4 F k) (nI w) (nI acc) (nI i) s = _
    unfold c_Book_ofKind_L4b c_Book_ofKind_J25
    simp (disch := omega) only [fa_lit, fa_litL, leI, ltI, eqI, leL, ltL, eqL, cq_lt, cq_le, cq_gt, cq_ge, cq_eq, mulI, nI_add, lN_add, lN_mul, inb_iff, cl_nI, i2lN, l2iN, hn]
    rw [if_neg (by omega), if_pos (by omega), hg i (by omega)]
    obtain ⟨k', h1, hk7⟩ : ∃ q, g i = q ∧ q ≤ 7 := ⟨_, rfl, hb i (by omega)⟩
    rw [h1]
    simp (disch := omega) only [eqI]
    by_cases h : k' = w
    · rw [if_pos h, ih (i + 1) k _ (by omega) (by omega), cF, if_pos (by rw [decide_eq_true_eq, h1]; exact h), Nat.add_assoc]
    · rw [if_neg h, ih (i + 1) k _ (by omega) (by omega), cF, if_neg (by rw [decide_eq_true_eq, h1]; exact h), Nat.zero_add]
theorem m_share_lp (F : Nat) {v : Int32} {s : St} {g : Nat → Nat} {w n : Nat} (hn : s.1 0 27 = nI n) (h6 : n ≤ 60) (hg : ∀ j, j < 60 → s.1 23 j = nI (g j)) (hb : ∀ j, j < 60 → g j ≤ 7) (hw : w ≤ 7) : ∀ (d i k : Nat) (acc : Nat), i + d = n → d < k → acc ≤ i + 1 → m_share_L28 F k (nI w) v (nI acc) (nI i) s = (gB2 (m_lowest F (lN (acc + cF (fun j => decide (g j = w)) i d)) (lN (n + 8)) v s) fun r2 s2 => some (r2.toInt32, s2)) := by
  intro d
  induction d with
  | zero =>
    intro i k acc hi hk hc
    obtain ⟨k, rfl⟩ : ∃ z, k = z + 1 := ⟨k - 1, by omega⟩
    show m_share_L28b F (m_share_L28 F k) (nI w) v (nI acc) (nI i) s = _
    unfold m_share_L28b
    simp (disch := omega) only [fa_lit, fa_litL, leI, ltI, eqI, leL, ltL, eqL, cq_lt, cq_le, cq_gt, cq_ge, cq_eq, mulI, nI_add, lN_add, lN_mul, inb_iff, cl_nI, i2lN, l2iN, hn]
    rw [if_pos (by omega)]
    rfl
  | succ d ih =>
    intro i k acc hi hk hc
    obtain ⟨k, rfl⟩ : ∃ z, k = z + 1 := ⟨k - 1, by omega⟩
    show m_share_L28b F (m_share_L28 F k) (nI w) v (nI acc) (nI i) s = _
    unfold m_share_L28b m_share_J54
    simp (disch := omega) only [fa_lit, fa_litL, leI, ltI, eqI, leL, ltL, eqL, cq_lt, cq_le, cq_gt, cq_ge, cq_eq, mulI, nI_add, lN_add, lN_mul, inb_iff, cl_nI, i2lN, l2iN, hn]
    rw [if_neg (by omega), if_pos (by omega), hg i (by omega)]
    obtain ⟨k', h1, hk7⟩ : ∃ q, g i = q ∧ q ≤ 7 := ⟨_, rfl, hb i (by omega)⟩
    rw [h1]
    simp (disch := omega) only [eqI]
    by_cases h : k' = w
    · rw [if_pos h, ih (i + 1) k _ (by omega) (by omega) (by omega), cF, if_pos (by rw [decide_eq_true_eq, h1]; exact h), Nat.add_assoc]
    · rw [if_neg h, ih (i + 1) k _ (by omega) (by omega) (by omega), cF, if_neg (by rw [decide_eq_true_eq, h1]; exact h), Nat.zero_add]
      rfl
theorem p_share {n : Nat} {c m : St} (R : Rel n c m) (F : Nat) (hF : 3000 ≤ F) (a v : Int32) : SameR n (c_share F a v c) (m_share F a v m) := by
  unfold c_share c_share_J14 m_share m_share_J17 c_Book_ofKind
  simp only [gB2_mk, gB_mk, bz_ite, bz_01, gB2_id, c_isCell_eq, c_isKind_eq, c_isSort_eq, c_isPart_eq, c_Sheets_isSheet_eq, c_Sheets_isLane_eq, m_isCell_eq, m_isKind_eq, m_isSort_eq, m_isSheet_eq, m_isLane_eq, c_isIn_eq, m_in_0_0, m_in_0_1, m_in_0_2, m_in_0_3, m_in_0_5, m_in_0_7, m_in_0_8, m_in_0_9, m_in_0_11, m_in_0_15, m_in_0_16, m_in_0_99, m_in_0_143, m_in_0_999, m_in_1_4, m_in_1_8, m_in_1_9, m_in_1_60, m_in_m1_3, m_in_m1_5]
  by_cases h1 : (0 : Int32) ≤ a ∧ a ≤ 7
  case neg =>
    simp only [if_neg h1]
    exact ref_t R F ok1
  simp only [if_pos h1]
  obtain ⟨q, q_lo, q_hi, rfl⟩ := in_nat (lo := 0) (hi := 7) (by decide) h1 (by decide)
  by_cases h2 : (0 : Int32) ≤ v ∧ v ≤ 1
  case neg =>
    simp only [if_neg h2]
    exact ref_t R F ok1
  simp only [if_pos h2]
  obtain ⟨w, w_lo, w_hi, rfl⟩ := in_nat (lo := 0) (hi := 1) (by decide) h2 (by decide)
  obtain ⟨N, hk, e1, e2⟩ := R.1.bc
  obtain ⟨P, hP⟩ := R.1.bkinds.fn (by decide)
  have y1 : c_Book_ofKind_L4 F F (nI q) 0 0 c = _ := c_kind_lp F e1 hk (fun j hj => (hP j hj).2.1) (fun j hj => (hP j hj).1) q_hi N 0 F 0 (by omega) (by omega)
  have y2 : m_share_L28 F F (nI q) (nI w) 1 0 m = _ := m_share_lp F (v := nI w) e2 hk (fun j hj => (hP j hj).2.2) (fun j hj => (hP j hj).1) q_hi N 0 F 1 (by omega) (by omega) (by omega)
  rw [y1, y2, gB2_mk]
  have hc := cF_le (fun j => decide (P j = q)) N 0
  generalize cF (fun j => decide (P j = q)) 0 N = T at hc
  have e1' : c.1 28 3 = nI N := e1
  simp (disch := omega) only [fa_lit, fa_litL, leI, ltI, eqI, leL, ltL, eqL, cq_lt, cq_le, cq_gt, cq_ge, cq_eq, mulI, nI_add, lN_add, lN_mul, inb_iff, cl_nI, i2lN, l2iN, e1']
  rw [Nat.zero_add, Nat.add_comm 1 T, c_low hF (by omega) (by omega) (by omega) (by omega), m_low hF (by omega) (by omega) (by omega) (by omega), gB2_mk, gB2_mk]
  exact SameR.ret rfl R
theorem c_srch_lp (F : Nat) {s : St} {g : Nat → Nat} (hg : ∀ j, j < 144 → s.1 5 j = nI (g j)) (hb : ∀ j, j < 144 → g j ≤ 1000) : ∀ (d i k : Nat) (acc : Nat), i + d = 144 → d < k → c_Land_searchedCells_L4 F k (nI acc) (nI i) s = some (nI (acc + cF (fun j => decide (0 < g j)) i d), s) := by
  intro d
  induction d with
  | zero =>
    intro i k acc hi hk
    obtain ⟨k, rfl⟩ : ∃ z, k = z + 1 := ⟨k - 1, by omega⟩
    show c_Land_searchedCells_L4b F (c_Land_searchedCells_L4 F k) (nI acc) (nI i) s = _
    unfold c_Land_searchedCells_L4b
    simp (disch := omega) only [fa_lit, fa_litL, leI, ltI, eqI, leL, ltL, eqL, cq_lt, cq_le, cq_gt, cq_ge, cq_eq, mulI, nI_add, lN_add, lN_mul, inb_iff, cl_nI, i2lN, l2iN]
    rw [if_pos (by omega)]
    rfl
  | succ d ih =>
    intro i k acc hi hk
    obtain ⟨k, rfl⟩ : ∃ z, k = z + 1 := ⟨k - 1, by omega⟩
    show c_Land_searchedCells_L4b F (c_Land_searchedCells_L4 F k) (nI acc) (nI i) s = _
    unfold c_Land_searchedCells_L4b c_Land_searchedCells_J23
    simp (disch := omega) only [fa_lit, fa_litL, leI, ltI, eqI, leL, ltL, eqL, cq_lt, cq_le, cq_gt, cq_ge, cq_eq, mulI, nI_add, lN_add, lN_mul, inb_iff, cl_nI, i2lN, l2iN]
    rw [if_neg (by omega), if_pos (by omega), hg i (by omega)]
    obtain ⟨k', h1, hk7⟩ : ∃ q, g i = q ∧ q ≤ 1000 := ⟨_, rfl, hb i (by omega)⟩
    rw [h1]
    simp (disch := omega) only [leI]
    by_cases h : k' ≤ 0
    · rw [if_pos h, ih (i + 1) k _ (by omega) (by omega), cF, if_neg (by rw [decide_eq_true_eq, h1]; omega), Nat.zero_add]
    · rw [if_neg h, ih (i + 1) k _ (by omega) (by omega), cF, if_pos (by rw [decide_eq_true_eq, h1]; omega), Nat.add_assoc]
def m_count_end (F : Nat) (a x i : Int32) (s : St) : Option (Int32 × St) := m_count_L4b F (fun _ _ _ _ => none) a x i s
theorem m_srch_lp (F : Nat) {a : Int32} {s : St} {g : Nat → Nat} (hg : ∀ j, j < 144 → s.1 4 j = nI (g j)) (hb : ∀ j, j < 144 → g j ≤ 1000) : ∀ (d i k : Nat) (acc : Nat), i + d = 144 → d < k → m_count_L4 F k a (nI acc) (nI i) s = m_count_end F a (nI (acc + cF (fun j => decide (0 < g j)) i d)) (nI 144) s := by
  intro d
  induction d with
  | zero =>
    intro i k acc hi hk
    obtain ⟨k, rfl⟩ : ∃ z, k = z + 1 := ⟨k - 1, by omega⟩
    show m_count_L4b F (m_count_L4 F k) a (nI acc) (nI i) s = _
    rw [show i = 144 by omega]
    rfl
  | succ d ih =>
    intro i k acc hi hk
    obtain ⟨k, rfl⟩ : ∃ z, k = z + 1 := ⟨k - 1, by omega⟩
    show m_count_L4b F (m_count_L4 F k) a (nI acc) (nI i) s = _
    unfold m_count_L4b m_count_J26
    simp (disch := omega) only [fa_lit, fa_litL, leI, ltI, eqI, leL, ltL, eqL, cq_lt, cq_le, cq_gt, cq_ge, cq_eq, mulI, nI_add, lN_add, lN_mul, inb_iff, cl_nI, i2lN, l2iN]
    rw [if_neg (by omega), if_pos (by omega), hg i (by omega)]
    obtain ⟨k', h1, hk7⟩ : ∃ q, g i = q ∧ q ≤ 1000 := ⟨_, rfl, hb i (by omega)⟩
    rw [h1]
    simp (disch := omega) only [leI]
    by_cases h : k' ≤ 0
    · rw [if_pos h, ih (i + 1) k _ (by omega) (by omega), cF, if_neg (by rw [decide_eq_true_eq, h1]; omega), Nat.zero_add]
      rfl
    · rw [if_neg h, ih (i + 1) k _ (by omega) (by omega), cF, if_pos (by rw [decide_eq_true_eq, h1]; omega), Nat.add_assoc]
theorem p_count {n : Nat} {c m : St} (R : Rel n c m) (hn : n ≤ 64) (F : Nat) (hF : 3000 ≤ F) (a : Int32) : SameR n (c_count F a c) (m_count F a m) := by
  unfold c_count m_count c_Land_searchedCells c_Land_cellsOf
  obtain ⟨S, hS⟩ := R.1.searched.fn (by omega)
  obtain ⟨K, hK⟩ := R.1.kinds.fn (by decide)
  have y1 : c_Land_searchedCells_L4 F F 0 0 c = _ := c_srch_lp F (fun j hj => (hS j hj).2.1) (fun j hj => Nat.le_trans (hS j hj).1 (by omega)) 144 0 F 0 (by omega) (by omega)
  have y2 : m_count_L4 F F a 0 0 m = _ := m_srch_lp F (a := a) (fun j hj => (hS j hj).2.2) (fun j hj => Nat.le_trans (hS j hj).1 (by omega)) 144 0 F 0 (by omega) (by omega)
  have c6 : c_Land_cellsOf_L4 F F 6 0 0 c = _ := c_cells_lp F (w := 6) (fun j hj => (hK j hj).2.1) (fun j hj => (hK j hj).1) (by decide) 144 0 F 0 (by omega) (by omega)
  have c7 : c_Land_cellsOf_L4 F F 7 0 0 c = _ := c_cells_lp F (w := 7) (fun j hj => (hK j hj).2.1) (fun j hj => (hK j hj).1) (by decide) 144 0 F 0 (by omega) (by omega)
  have m6 : m_cellsOf_L4 F F 6 0 0 m = _ := m_cells_lp F (w := 6) (fun j hj => (hK j hj).2.2) (fun j hj => (hK j hj).1) (by decide) 144 0 F 0 (by omega) (by omega)
  have m7 : m_cellsOf_L4 F F 7 0 0 m = _ := m_cells_lp F (w := 7) (fun j hj => (hK j hj).2.2) (fun j hj => (hK j hj).1) (by decide) 144 0 F 0 (by omega) (by omega)
  rw [y2]
  unfold m_count_end m_count_L4b m_cellsOf
  simp only [y1, c6, c7, m6, m7, gB2_mk, gB2_id, c_out, bz_ite, if_pos (show (144 : Int32) ≤ nI 144 by decide)]
  by_cases h0 : a = 0
  · simp only [if_pos h0]
    rcases (show EqM (c.1 9 4) (m.1 0 13) from R.1.minute) with ⟨e1, e2⟩ | ⟨t, ht, e1, e2⟩
    · rw [e1, e2]
      exact ref_t R F ok4
    · rw [e1, e2, if_pos (show (0 : Int32) ≤ nI t from nI_le (a := 0) (Nat.zero_le t) (by omega)), m_tells_nI (by omega)]
      exact SameR.ret rfl R
  by_cases h1 : a = 1
  · obtain ⟨k, -, e1, e2⟩ := R.1.tc
    simp only [if_neg h0, if_pos h1]
    exact SameR.ret (e1.trans e2.symm) R
  by_cases h2 : a = 2
  · obtain ⟨k, -, e1, e2⟩ := R.1.pc
    simp only [if_neg h0, if_neg h1, if_pos h2]
    exact SameR.ret (e1.trans e2.symm) R
  by_cases h3 : a = 3
  · obtain ⟨k, -, e1, e2⟩ := R.1.jc
    simp only [if_neg h0, if_neg h1, if_neg h2, if_pos h3]
    exact SameR.ret (e1.trans e2.symm) R
  by_cases h4 : a = 4
  · obtain ⟨k, -, e1, e2⟩ := R.1.bc
    simp only [if_neg h0, if_neg h1, if_neg h2, if_neg h3, if_pos h4]
    exact SameR.ret (e1.trans e2.symm) R
  by_cases h5 : a = 5
  · obtain ⟨k, -, e1, e2⟩ := R.1.dc
    simp only [if_neg h0, if_neg h1, if_neg h2, if_neg h3, if_neg h4, if_pos h5]
    exact SameR.ret (e1.trans e2.symm) R
  by_cases h6 : a = 6
  · simp only [if_neg h0, if_neg h1, if_neg h2, if_neg h3, if_neg h4, if_neg h5, if_pos h6]
    exact SameR.ret rfl R
  by_cases h7 : a = 7
  · simp only [if_neg h0, if_neg h1, if_neg h2, if_neg h3, if_neg h4, if_neg h5, if_neg h6, if_pos h7]
    exact SameR.ret rfl R
  by_cases h8 : a = 8
  · simp only [if_neg h0, if_neg h1, if_neg h2, if_neg h3, if_neg h4, if_neg h5, if_neg h6, if_neg h7, if_pos h8]
    exact SameR.ret rfl R
  simp only [if_neg h0, if_neg h1, if_neg h2, if_neg h3, if_neg h4, if_neg h5, if_neg h6, if_neg h7, if_neg h8]
  exact ref_t R F ok1
