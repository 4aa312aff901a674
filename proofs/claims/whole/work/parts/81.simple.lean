/-! the pure part: simple calls -/
theorem m_in_0_0 (F : Nat) (a : Int32) (s : St) : m_in F a.toInt64 (0 : Int64) (0 : Int64) s = some (bz ((0 : Int32) ≤ a ∧ a ≤ (0 : Int32)), s) := m_in32 F a 0 0 s
theorem m_in_0_1 (F : Nat) (a : Int32) (s : St) : m_in F a.toInt64 (0 : Int64) (1 : Int64) s = some (bz ((0 : Int32) ≤ a ∧ a ≤ (1 : Int32)), s) := m_in32 F a 0 1 s
theorem m_in_0_2 (F : Nat) (a : Int32) (s : St) : m_in F a.toInt64 (0 : Int64) (2 : Int64) s = some (bz ((0 : Int32) ≤ a ∧ a ≤ (2 : Int32)), s) := m_in32 F a 0 2 s
theorem m_in_0_3 (F : Nat) (a : Int32) (s : St) : m_in F a.toInt64 (0 : Int64) (3 : Int64) s = some (bz ((0 : Int32) ≤ a ∧ a ≤ (3 : Int32)), s) := m_in32 F a 0 3 s
theorem m_in_0_5 (F : Nat) (a : Int32) (s : St) : m_in F a.toInt64 (0 : Int64) (5 : Int64) s = some (bz ((0 : Int32) ≤ a ∧ a ≤ (5 : Int32)), s) := m_in32 F a 0 5 s
theorem m_in_0_7 (F : Nat) (a : Int32) (s : St) : m_in F a.toInt64 (0 : Int64) (7 : Int64) s = some (bz ((0 : Int32) ≤ a ∧ a ≤ (7 : Int32)), s) := m_in32 F a 0 7 s
theorem m_in_0_8 (F : Nat) (a : Int32) (s : St) : m_in F a.toInt64 (0 : Int64) (8 : Int64) s = some (bz ((0 : Int32) ≤ a ∧ a ≤ (8 : Int32)), s) := m_in32 F a 0 8 s
theorem m_in_0_9 (F : Nat) (a : Int32) (s : St) : m_in F a.toInt64 (0 : Int64) (9 : Int64) s = some (bz ((0 : Int32) ≤ a ∧ a ≤ (9 : Int32)), s) := m_in32 F a 0 9 s
theorem m_in_0_11 (F : Nat) (a : Int32) (s : St) : m_in F a.toInt64 (0 : Int64) (11 : Int64) s = some (bz ((0 : Int32) ≤ a ∧ a ≤ (11 : Int32)), s) := m_in32 F a 0 11 s
theorem m_in_0_15 (F : Nat) (a : Int32) (s : St) : m_in F a.toInt64 (0 : Int64) (15 : Int64) s = some (bz ((0 : Int32) ≤ a ∧ a ≤ (15 : Int32)), s) := m_in32 F a 0 15 s
theorem m_in_0_16 (F : Nat) (a : Int32) (s : St) : m_in F a.toInt64 (0 : Int64) (16 : Int64) s = some (bz ((0 : Int32) ≤ a ∧ a ≤ (16 : Int32)), s) := m_in32 F a 0 16 s
theorem m_in_0_99 (F : Nat) (a : Int32) (s : St) : m_in F a.toInt64 (0 : Int64) (99 : Int64) s = some (bz ((0 : Int32) ≤ a ∧ a ≤ (99 : Int32)), s) := m_in32 F a 0 99 s
theorem m_in_0_143 (F : Nat) (a : Int32) (s : St) : m_in F a.toInt64 (0 : Int64) (143 : Int64) s = some (bz ((0 : Int32) ≤ a ∧ a ≤ (143 : Int32)), s) := m_in32 F a 0 143 s
theorem m_in_0_999 (F : Nat) (a : Int32) (s : St) : m_in F a.toInt64 (0 : Int64) (999 : Int64) s = some (bz ((0 : Int32) ≤ a ∧ a ≤ (999 : Int32)), s) := m_in32 F a 0 999 s
theorem m_in_1_4 (F : Nat) (a : Int32) (s : St) : m_in F a.toInt64 (1 : Int64) (4 : Int64) s = some (bz ((1 : Int32) ≤ a ∧ a ≤ (4 : Int32)), s) := m_in32 F a 1 4 s
theorem m_in_1_8 (F : Nat) (a : Int32) (s : St) : m_in F a.toInt64 (1 : Int64) (8 : Int64) s = some (bz ((1 : Int32) ≤ a ∧ a ≤ (8 : Int32)), s) := m_in32 F a 1 8 s
theorem m_in_1_9 (F : Nat) (a : Int32) (s : St) : m_in F a.toInt64 (1 : Int64) (9 : Int64) s = some (bz ((1 : Int32) ≤ a ∧ a ≤ (9 : Int32)), s) := m_in32 F a 1 9 s
theorem m_in_1_60 (F : Nat) (a : Int32) (s : St) : m_in F a.toInt64 (1 : Int64) (60 : Int64) s = some (bz ((1 : Int32) ≤ a ∧ a ≤ (60 : Int32)), s) := m_in32 F a 1 60 s
theorem m_in_m1_3 (F : Nat) (a : Int32) (s : St) : m_in F a.toInt64 (-1 : Int64) (3 : Int64) s = some (bz ((-1 : Int32) ≤ a ∧ a ≤ (3 : Int32)), s) := m_in32 F a (-1) 3 s
theorem m_in_m1_5 (F : Nat) (a : Int32) (s : St) : m_in F a.toInt64 (-1 : Int64) (5 : Int64) s = some (bz ((-1 : Int32) ≤ a ∧ a ≤ (5 : Int32)), s) := m_in32 F a (-1) 5 s
theorem m_in_32_126 (F : Nat) (a : Int32) (s : St) : m_in F a.toInt64 (32 : Int64) (126 : Int64) s = some (bz ((32 : Int32) ≤ a ∧ a ≤ (126 : Int32)), s) := m_in32 F a 32 126 s
theorem c_isCell_eq (F : Nat) (a : Int32) (s : St) : c_isCell F a s = some (bz ((0 : Int32) ≤ a ∧ a ≤ (143 : Int32)), s) := by unfold c_isCell; rw [c_isIn_eq, gB2_mk, bz_01]
theorem c_isKind_eq (F : Nat) (a : Int32) (s : St) : c_isKind F a s = some (bz ((0 : Int32) ≤ a ∧ a ≤ (7 : Int32)), s) := by unfold c_isKind; rw [c_isIn_eq, gB2_mk, bz_01]
theorem c_isSort_eq (F : Nat) (a : Int32) (s : St) : c_isSort F a s = some (bz ((0 : Int32) ≤ a ∧ a ≤ (3 : Int32)), s) := by unfold c_isSort; rw [c_isIn_eq, gB2_mk, bz_01]
theorem c_isPart_eq (F : Nat) (a : Int32) (s : St) : c_isPart F a s = some (bz ((0 : Int32) ≤ a ∧ a ≤ (1 : Int32)), s) := by unfold c_isPart; rw [c_isIn_eq, gB2_mk, bz_01]
theorem c_Sheets_isSheet_eq (F : Nat) (a : Int32) (s : St) : c_Sheets_isSheet F a s = some (bz ((0 : Int32) ≤ a ∧ a ≤ (3 : Int32)), s) := by unfold c_Sheets_isSheet; rw [c_isIn_eq, gB2_mk, bz_01]
theorem c_Sheets_isLane_eq (F : Nat) (a : Int32) (s : St) : c_Sheets_isLane F a s = some (bz ((0 : Int32) ≤ a ∧ a ≤ (3 : Int32)), s) := by unfold c_Sheets_isLane; rw [c_isIn_eq, gB2_mk, bz_01]
theorem m_isCell_eq (F : Nat) (a : Int32) (s : St) : m_isCell F a s = some (bz ((0 : Int32) ≤ a ∧ a ≤ (143 : Int32)), s) := by unfold m_isCell; rw [m_in_0_143, gB2_mk, bz_01]
theorem m_isKind_eq (F : Nat) (a : Int32) (s : St) : m_isKind F a s = some (bz ((0 : Int32) ≤ a ∧ a ≤ (7 : Int32)), s) := by unfold m_isKind; rw [m_in_0_7, gB2_mk, bz_01]
theorem m_isSort_eq (F : Nat) (a : Int32) (s : St) : m_isSort F a s = some (bz ((0 : Int32) ≤ a ∧ a ≤ (3 : Int32)), s) := by unfold m_isSort; rw [m_in_0_3, gB2_mk, bz_01]
theorem m_isSheet_eq (F : Nat) (a : Int32) (s : St) : m_isSheet F a s = some (bz ((0 : Int32) ≤ a ∧ a ≤ (3 : Int32)), s) := by unfold m_isSheet; rw [m_in_0_3, gB2_mk, bz_01]
theorem m_isLane_eq (F : Nat) (a : Int32) (s : St) : m_isLane F a s = some (bz ((0 : Int32) ≤ a ∧ a ≤ (3 : Int32)), s) := by unfold m_isLane; rw [m_in_0_3, gB2_mk, bz_01]
theorem i64_i32 (e : Int32) : e.toInt64.toInt32 = e := by simp
/-- an answer below 0 is counted alike -/
theorem refuse_gen {n : Nat} {c m : St} (R : Rel n c m) (F : Nat) (e : Int32) (k : Nat) (hk : k < 9) (hc : c_reasonOf F e c = some (nI k, c)) (hm : m_says F e.toInt64 m = m_says_J42 F e.toInt64 (nI k) m) :
    ∃ c' m', c_refuse F e c = some (e, c') ∧ m_tells F e m = some (e, m') ∧ m_says F e.toInt64 m = some (e.toInt64, m') ∧ Rel n c' m' := by
  have hq : c.1 80 k = m.1 1 k := R.2.2.2.2.2.2.2.1 k hk
  have hi : (0 : Int32) ≤ nI k ∧ nI k ≤ (8 : Int32) := ⟨nI_le (Nat.zero_le k) (by omega), nI_le (b := 8) (by omega) (by decide)⟩
  unfold c_refuse m_tells
  rw [hc, hm]
  unfold m_says_J42 m_says_J66
  simp only [gB2_mk, c_isIn_eq, bz_ite, if_pos hi, inb_nI hk (by decide), if_true, cl_nI (show k < 2 ^ 31 by omega), hq]
  by_cases h : (1000000 : Int32) ≤ m.1 1 k
  · simp only [if_pos h, gB2_mk, i64_i32]
    exact ⟨_, _, rfl, rfl, rfl, R.set_refused0 hk (by simp)⟩
  · simp only [if_neg h, gB2_mk, i64_i32]
    exact ⟨_, _, rfl, rfl, rfl, R.set_refused⟩
def okR (e : Int32) : Prop := e = -1 ∨ e = -2 ∨ e = -3 ∨ e = -4 ∨ e = -11 ∨ e = -12 ∨ e = -13 ∨ e = -14 ∨ ∃ k : Nat, k ≤ 160 ∧ e = (-20 : Int32) - nI k
theorem refuse_all {n : Nat} {c m : St} (R : Rel n c m) (F : Nat) {e : Int32} (h : okR e) :
    ∃ c' m', c_refuse F e c = some (e, c') ∧ m_tells F e m = some (e, m') ∧ m_says F e.toInt64 m = some (e.toInt64, m') ∧ Rel n c' m' := by
  rcases h with rfl | rfl | rfl | rfl | rfl | rfl | rfl | rfl | ⟨k, hk, rfl⟩
  · exact refuse_gen R F _ 0 (by decide) rfl rfl
  · exact refuse_gen R F _ 1 (by decide) rfl rfl
  · exact refuse_gen R F _ 2 (by decide) rfl rfl
  · exact refuse_gen R F _ 3 (by decide) rfl rfl
  · exact refuse_gen R F _ 4 (by decide) rfl rfl
  · exact refuse_gen R F _ 5 (by decide) rfl rfl
  · exact refuse_gen R F _ 6 (by decide) rfl rfl
  · exact refuse_gen R F _ 7 (by decide) rfl rfl
  · have e1 : ((-20 : Int32) - nI k).toInt = -20 - (k : Int) := by
      have e0 : (-20 : Int32).toInt = -20 := by decide
      have ek : (nI k).toInt = (k : Int) := nI_toInt (by omega)
      rw [fb_subI (by rw [e0, ek]; omega) (by rw [e0, ek]; omega), e0, ek]
    have n1 : ((-20 : Int32) - nI k) < (-4 : Int32) := by
      rw [Int32.lt_iff_toInt_lt, e1]
      show -20 - (k : Int) < -4
      omega
    have n2 : ¬ (-20 : Int32) < ((-20 : Int32) - nI k) := by
      rw [Int32.lt_iff_toInt_lt, e1]
      show ¬ (-20 : Int) < -20 - (k : Int)
      omega
    refine refuse_gen R F _ 8 (by decide) ?_ ?_
    · unfold c_reasonOf
      rw [if_pos n1, if_neg n2]
      rfl
    · have eL : ((-20 : Int32) - nI k).toInt64.toInt = -20 - (k : Int) := by rw [Int32.toInt_toInt64, e1]
      unfold m_says
      rw [if_neg (fun h => by
        have h2 := (lg_cmp_ge _ _).mp h
        rw [Int64.le_iff_toInt_le, eL] at h2
        have : (0 : Int64).toInt = 0 := by decide
        omega), if_neg (fun h => by
        have h2 := (lg_cmp_gt _ _).mp h
        rw [Int64.lt_iff_toInt_lt, eL] at h2
        have : (-20 : Int64).toInt = -20 := by decide
        omega)]
      rfl
theorem ref_t {n : Nat} {c m : St} (R : Rel n c m) (F : Nat) {e : Int32} (h : okR e) : SameR n (c_refuse F e c) (m_tells F e m) := by
  obtain ⟨c', m', h1, h2, -, h4⟩ := refuse_all R F h
  exact ⟨e, c', m', h1, h2, h4⟩
theorem ref_s {n : Nat} {c m : St} (R : Rel n c m) (F : Nat) {e : Int32} (h : okR e) {E : Int64} (hE : E = e.toInt64) : SameR n (gB2 (c_refuse F e c) fun r s => some (r.toInt64, s)) (m_says F E m) := by
  obtain ⟨c', m', h1, h2, h3, h4⟩ := refuse_all R F h
  rw [hE, h1, h3]
  exact ⟨_, c', m', rfl, rfl, h4⟩
theorem ok1 : okR (-1) := Or.inl rfl
theorem ok2 : okR (-2) := Or.inr (Or.inl rfl)
theorem ok3 : okR (-3) := Or.inr (Or.inr (Or.inl rfl))
theorem ok4 : okR (-4) := Or.inr (Or.inr (Or.inr (Or.inl rfl)))
theorem ok11 : okR (-11) := Or.inr (Or.inr (Or.inr (Or.inr (Or.inl rfl))))
theorem ok12 : okR (-12) := Or.inr (Or.inr (Or.inr (Or.inr (Or.inr (Or.inl rfl)))))
theorem ok13 : okR (-13) := Or.inr (Or.inr (Or.inr (Or.inr (Or.inr (Or.inr (Or.inl rfl))))))
theorem ok14 : okR (-14) := Or.inr (Or.inr (Or.inr (Or.inr (Or.inr (Or.inr (Or.inr (Or.inl rfl)))))))
theorem p_kind {n : Nat} {c m : St} (R : Rel n c m) (F : Nat) (a v : Int32) : SameR n (c_kind F a v c) (m_kind F a v m) := by
  unfold c_kind c_kind_J14 m_kind m_kind_J14
  simp only [gB2_mk, gB_mk, bz_ite, bz_01, gB2_id, c_isCell_eq, c_isKind_eq, c_isSort_eq, c_isPart_eq, c_Sheets_isSheet_eq, c_Sheets_isLane_eq, m_isCell_eq, m_isKind_eq, m_isSort_eq, m_isSheet_eq, m_isLane_eq, c_isIn_eq, m_in_0_0, m_in_0_1, m_in_0_2, m_in_0_3, m_in_0_5, m_in_0_7, m_in_0_8, m_in_0_9, m_in_0_11, m_in_0_15, m_in_0_16, m_in_0_99, m_in_0_143, m_in_0_999, m_in_1_4, m_in_1_8, m_in_1_9, m_in_1_60, m_in_m1_3, m_in_m1_5]
  by_cases h1 : (0 : Int32) ≤ a ∧ a ≤ 143
  · simp only [if_pos h1]
    by_cases h2 : (0 : Int32) ≤ v ∧ v ≤ 7
    · simp only [if_pos h2]
      obtain ⟨j, -, hj, rfl⟩ := in_nat (lo := 0) (hi := 143) (by decide) h1 (by decide)
      obtain ⟨k, -, hk, rfl⟩ := in_nat (lo := 0) (hi := 7) (by decide) h2 (by decide)
      simp only [inb_nI (show j < 144 by omega) (by decide), if_true, cl_nI (show j < 2 ^ 31 by omega)]
      obtain ⟨q, -, e1, e2⟩ := R.1.kinds j (by omega)
      exact SameR.ret (e1.trans e2.symm) (R.set_kinds (by omega) hk)
    · simp only [if_neg h2]
      exact ref_t R F ok1
  · simp only [if_neg h1]
    exact ref_t R F ok1
