/-! the pure part: alive, team, place, count -/
theorem sI1_ne {s : St} {c k q : Nat} {v : Int32} (h : q ≠ c) : (sI s c k v).1 q = s.1 q := if_neg h
theorem sI1_eq {s : St} {c k : Nat} {v : Int32} : (sI s c k v).1 c = upd (s.1 c) k v := if_pos rfl
theorem sI2 {s : St} {c k : Nat} {v : Int32} : (sI s c k v).2 = s.2 := rfl
theorem sJ1 {s : St} {c k : Nat} {v : Int64} : (sJ s c k v).1 = s.1 := rfl
theorem sJ2_ne {s : St} {c k q : Nat} {v : Int64} (h : q ≠ c) : (sJ s c k v).2 q = s.2 q := if_neg h
theorem sJ2_eq {s : St} {c k : Nat} {v : Int64} : (sJ s c k v).2 c = vp_updL (s.2 c) k v := if_pos rfl
theorem upd_eq {f : Nat → Int32} {k : Nat} {v : Int32} : upd f k v k = v := if_pos rfl
theorem upd_ne {f : Nat → Int32} {k j : Nat} {v : Int32} (h : j ≠ k) : upd f k v j = f j := if_neg h
theorem updL_eq {f : Nat → Int64} {k : Nat} {v : Int64} : vp_updL f k v k = v := if_pos rfl
theorem updL_ne {f : Nat → Int64} {k j : Nat} {v : Int64} (h : j ≠ k) : vp_updL f k v j = f j := if_neg h
theorem answ_ok {F k : Nat} {s : St} (hk : k < 2 ^ 31) : c_answered F (nI k) s = some (nI k, s) := by
  unfold c_answered
  rw [if_pos (show (0 : Int32) ≤ nI k from nI_le (a := 0) (Nat.zero_le k) hk)]
theorem answ_3 {F : Nat} {s : St} : c_answered F (-nI 3) s = c_refuse F (-3) s := by
  unfold c_answered
  rw [if_neg (show ¬ (0 : Int32) ≤ -nI 3 by decide), gB2_id]
  rfl
theorem answ_2 {F : Nat} {s : St} : c_answered F (-nI 2) s = c_refuse F (-2) s := by
  unfold c_answered
  rw [if_neg (show ¬ (0 : Int32) ≤ -nI 2 by decide), gB2_id]
  rfl
def anyF (Q : Nat → Bool) : Nat → Nat → Bool
  | _, 0 => false
  | i, d + 1 => Q i || anyF Q (i + 1) d
theorem max0 (x : Int32) : gMmax 0 x = if 0 ≤ x then x else 0 := by
  unfold gMmax
  by_cases h : (0 : Int32) < x
  · rw [if_pos h, if_pos (Int32.le_of_lt h)]
  · rw [if_neg h]
    by_cases h2 : (0 : Int32) ≤ x
    · rw [if_pos h2]
      exact Int32.le_antisymm h2 (Int32.not_lt.mp h)
    · rw [if_neg h2]
theorem living {n : Nat} {c m : St} (R : Rel n c m) (F : Nat) (a : Int32) : ∃ v, c_Law_livingAt F a c = some (v, c) ∧ m_aliveAt F a m = some (v, m) := by
  unfold c_Law_livingAt m_aliveAt m_aliveAt_J54
  obtain ⟨x6, b6, c6, m6⟩ := R.1.settings 6 (by omega)
  obtain ⟨x7, b7, c7, m7⟩ := R.1.settings 7 (by omega)
  have c6' : c.1 7 6 = nI x6 := c6
  have c7' : c.1 7 7 = nI x7 := c7
  have m6' : m.1 5 6 = nI x6 := m6
  have m7' : m.1 5 7 = nI x7 := m7
  have i6 : inb (6 : Int32) 10 = true := by decide
  have i7 : inb (7 : Int32) 10 = true := by decide
  have k6 : (6 : Int32).toNatClampNeg = 6 := by decide
  have k7 : (7 : Int32).toNatClampNeg = 7 := by decide
  simp only [i6, i7, if_true, k6, k7, c6', c7', m6', m7', max0]
  generalize (240 : Int32) + 60 * nI x6 - 20 * nI x7 = L
  by_cases h : L < a
  · simp only [if_pos h]
    generalize (1000 : Int32) - (2 + nI x7) * (a - L) = V
    by_cases h2 : 0 ≤ V
    · simp only [if_pos h2]
      exact ⟨_, rfl, rfl⟩
    · simp only [if_neg h2]
      exact ⟨_, rfl, rfl⟩
  · simp only [if_neg h]
    exact ⟨_, rfl, rfl⟩
theorem p_alive {n : Nat} {c m : St} (R : Rel n c m) (F : Nat) (hF : 3000 ≤ F) (a : Int32) : SameR n (c_alive F a c) (m_alive F a m) := by
  obtain ⟨v, e1, e2⟩ := living R F a
  unfold c_alive m_alive
  simp only [gB2_mk, gB_mk, bz_ite, bz_01, gB2_id, c_isCell_eq, c_isKind_eq, c_isSort_eq, c_isPart_eq, c_Sheets_isSheet_eq, c_Sheets_isLane_eq, m_isCell_eq, m_isKind_eq, m_isSort_eq, m_isSheet_eq, m_isLane_eq, c_isIn_eq, m_in_0_0, m_in_0_1, m_in_0_2, m_in_0_3, m_in_0_5, m_in_0_7, m_in_0_8, m_in_0_9, m_in_0_11, m_in_0_15, m_in_0_16, m_in_0_99, m_in_0_143, m_in_0_999, m_in_1_4, m_in_1_8, m_in_1_9, m_in_1_60, m_in_m1_3, m_in_m1_5, e1, e2]
  by_cases h1 : (0 : Int32) ≤ a ∧ a ≤ 999
  · simp only [if_pos h1]
    exact SameR.ret rfl R
  · simp only [if_neg h1]
    exact ref_t R F ok1
theorem p_team {n : Nat} {c m : St} (R : Rel n c m) (F : Nat) (hF : 3000 ≤ F) (a b v : Int32) : SameR n (c_team F a b v c) (m_team F a b v m) := by
  unfold c_team c_team_J24 m_team m_team_J26 c_Teams_addTeam
  simp only [gB2_mk, gB_mk, bz_ite, bz_01, gB2_id, c_isCell_eq, c_isKind_eq, c_isSort_eq, c_isPart_eq, c_Sheets_isSheet_eq, c_Sheets_isLane_eq, m_isCell_eq, m_isKind_eq, m_isSort_eq, m_isSheet_eq, m_isLane_eq, c_isIn_eq, m_in_0_0, m_in_0_1, m_in_0_2, m_in_0_3, m_in_0_5, m_in_0_7, m_in_0_8, m_in_0_9, m_in_0_11, m_in_0_15, m_in_0_16, m_in_0_99, m_in_0_143, m_in_0_999, m_in_1_4, m_in_1_8, m_in_1_9, m_in_1_60, m_in_m1_3, m_in_m1_5]
  by_cases h1 : (0 : Int32) ≤ a ∧ a ≤ 3
  case neg =>
    simp only [if_neg h1]
    exact ref_t R F ok1
  simp only [if_pos h1]
  obtain ⟨i, i_lo, i_hi, rfl⟩ := in_nat (lo := 0) (hi := 3) (by decide) h1 (by decide)
  by_cases h2 : (0 : Int32) ≤ b ∧ b ≤ 143
  case neg =>
    simp only [if_neg h2]
    exact ref_t R F ok1
  simp only [if_pos h2]
  obtain ⟨j, j_lo, j_hi, rfl⟩ := in_nat (lo := 0) (hi := 143) (by decide) h2 (by decide)
  by_cases h3 : (1 : Int32) ≤ v ∧ v ≤ 9
  case neg =>
    simp only [if_neg h3]
    exact ref_t R F ok1
  simp only [if_pos h3]
  obtain ⟨w, w_lo, w_hi, rfl⟩ := in_nat (lo := 1) (hi := 9) (by decide) h3 (by decide)
  obtain ⟨k, hk, e1, e2⟩ := R.1.tc
  have e1' : c.1 14 7 = nI k := e1
  have e2' : m.1 0 14 = nI k := e2
  simp (disch := omega) only [sI1_ne, sI1_eq, sI2, sJ1, sJ2_ne, sJ2_eq, upd_eq, upd_ne, e1', e2', fa_lit, fa_litL, leI, ltI, eqI, leL, ltL, eqL, cq_lt, cq_le, cq_gt, cq_ge, cq_eq, mulI, nI_add, lN_add, lN_mul, inb_iff, cl_nI, i2lN, l2iN, subI]
  by_cases h4 : k = 4
  · simp only [if_neg (show ¬ k < 4 by omega), if_pos h4, gB2_mk]
    simp (disch := omega) only [fa_lit, fa_litL, leI, ltI, eqI, leL, ltL, eqL, cq_lt, cq_le, cq_gt, cq_ge, cq_eq, mulI, nI_add, lN_add, lN_mul, inb_iff, cl_nI, i2lN, l2iN, answ_3, gB2_id]
    exact ref_t R F ok3
  · simp only [if_pos (show k < 4 by omega), if_neg h4, gB2_mk]
    simp (disch := omega) only [fa_lit, fa_litL, leI, ltI, eqI, leL, ltL, eqL, cq_lt, cq_le, cq_gt, cq_ge, cq_eq, mulI, nI_add, lN_add, lN_mul, inb_iff, cl_nI, i2lN, l2iN, Nat.add_sub_cancel, answ_ok]
    exact SameR.ret rfl ((((R.set_tsort (j := k) (by omega) i_hi).set_tcell (j := k) (by omega) j_hi).set_tpace (j := k) (by omega) w_hi).set_tc (by omega))
theorem c_has_lp (F : Nat) {n a : Nat} {P : Nat → Nat} {s : St} (hn : s.1 14 8 = nI n) (h6 : n ≤ 6) (ha : a ≤ 143) (hP : ∀ j, j < 6 → s.1 18 j = nI (P j)) (hb : ∀ j, j < 6 → P j ≤ 143) : ∀ (d i k : Nat) , i + d = n → d < k → c_Teams_hasPlace_L2 F k (nI a) (nI i) s = some (nI (if anyF (fun j => decide (P j = a)) i d = true then 1 else 0), s) := by
  intro d
  induction d with
  | zero =>
    intro i k  hi hk
    obtain ⟨k, rfl⟩ : ∃ z, k = z + 1 := ⟨k - 1, by omega⟩
    show c_Teams_hasPlace_L2b F (c_Teams_hasPlace_L2 F k) (nI a) (nI i) s = _
    unfold c_Teams_hasPlace_L2b
    simp (disch := omega) only [fa_lit, fa_litL, leI, ltI, eqI, leL, ltL, eqL, cq_lt, cq_le, cq_gt, cq_ge, cq_eq, mulI, nI_add, lN_add, lN_mul, inb_iff, cl_nI, i2lN, l2iN, hn]
    rw [if_pos (by omega)]
    rfl
  | succ d ih =>
    intro i k  hi hk
    obtain ⟨k, rfl⟩ : ∃ z, k = z + 1 := ⟨k - 1, by omega⟩
    show c_Teams_hasPlace_L2b F (c_Teams_hasPlace_L2 F k) (nI a) (nI i) s = _
    unfold c_Teams_hasPlace_L2b
    have := hb i (by omega)
    simp (disch := omega) only [fa_lit, fa_litL, leI, ltI, eqI, leL, ltL, eqL, cq_lt, cq_le, cq_gt, cq_ge, cq_eq, mulI, nI_add, lN_add, lN_mul, inb_iff, cl_nI, i2lN, l2iN, hn, hP]
    rw [if_neg (by omega), if_pos (by omega), anyF]
    by_cases h : P i = a
    · rw [if_pos h, if_pos (by simp [h])]
    · rw [if_neg h, ih (i + 1) k (by omega) (by omega)]
      simp [h]
def m_place_end (F : Nat) (a x i : Int32) (s : St) : Option (Int32 × St) := m_place_L17b F (fun _ _ _ _ => none) a x i s
theorem anyF0 {x n : Nat} {Q : Nat → Bool} (hx : x ≤ 1) : (if x = 1 ∨ anyF Q n 0 = true then 1 else 0) = x := by
  rw [anyF]
  by_cases h : x = 1
  · rw [if_pos (Or.inl h), h]
  · rw [if_neg (fun e => e.elim h (fun e => absurd e (by decide)))]
    omega
theorem m_place_lp (F : Nat) {n a : Nat} {P : Nat → Nat} {s : St} (hn : s.1 0 18 = nI n) (h6 : n ≤ 6) (ha : a ≤ 143) (hP : ∀ j, j < 6 → s.1 14 j = nI (P j)) (hb : ∀ j, j < 6 → P j ≤ 143) : ∀ (d i k : Nat) (x : Nat), i + d = n → d < k → x ≤ 1 → m_place_L17 F k (nI a) (nI x) (nI i) s = m_place_end F (nI a) (nI (if x = 1 ∨ anyF (fun j => decide (P j = a)) i d = true then 1 else 0)) (nI n) s := by
  intro d
  induction d with
  | zero =>
    intro i k x hi hk hc
    obtain ⟨k, rfl⟩ : ∃ z, k = z + 1 := ⟨k - 1, by omega⟩
    show m_place_L17b F (m_place_L17 F k) (nI a) (nI x) (nI i) s = _
    rw [show i = n by omega, anyF0 hc]
    unfold m_place_end m_place_L17b
    simp (disch := omega) only [fa_lit, fa_litL, leI, ltI, eqI, leL, ltL, eqL, cq_lt, cq_le, cq_gt, cq_ge, cq_eq, mulI, nI_add, lN_add, lN_mul, inb_iff, cl_nI, i2lN, l2iN, hn]
    rw [if_pos (Nat.le_refl n), if_pos (Nat.le_refl n)]
  | succ d ih =>
    intro i k x hi hk hc
    obtain ⟨k, rfl⟩ : ∃ z, k = z + 1 := ⟨k - 1, by omega⟩
    show m_place_L17b F (m_place_L17 F k) (nI a) (nI x) (nI i) s = _
    unfold m_place_L17b m_place_J39 m_place_J44
    have := hb i (by omega)
    simp (disch := omega) only [fa_lit, fa_litL, leI, ltI, eqI, leL, ltL, eqL, cq_lt, cq_le, cq_gt, cq_ge, cq_eq, mulI, nI_add, lN_add, lN_mul, inb_iff, cl_nI, i2lN, l2iN, hn, hP]
    rw [if_neg (by omega), anyF]
    by_cases hx : x = 0
    · rw [if_pos hx, if_pos (show i < 6 by omega)]
      by_cases h : P i = a
      · rw [if_pos h, ih (i + 1) k 1 (by omega) (by omega) (by omega)]
        simp [h]
      · rw [if_neg h, ih (i + 1) k 0 (by omega) (by omega) (by omega)]
        simp [h, hx]
    · rw [if_neg hx, ih (i + 1) k 1 (by omega) (by omega) (by omega)]
      simp [show x = 1 by omega]
theorem p_place {n : Nat} {c m : St} (R : Rel n c m) (F : Nat) (hF : 3000 ≤ F) (a : Int32) : SameR n (c_place F a c) (m_place F a m) := by
  unfold c_place m_place c_Teams_addPlace c_Teams_hasPlace
  simp only [gB2_mk, gB_mk, bz_ite, bz_01, gB2_id, c_isCell_eq, c_isKind_eq, c_isSort_eq, c_isPart_eq, c_Sheets_isSheet_eq, c_Sheets_isLane_eq, m_isCell_eq, m_isKind_eq, m_isSort_eq, m_isSheet_eq, m_isLane_eq, c_isIn_eq, m_in_0_0, m_in_0_1, m_in_0_2, m_in_0_3, m_in_0_5, m_in_0_7, m_in_0_8, m_in_0_9, m_in_0_11, m_in_0_15, m_in_0_16, m_in_0_99, m_in_0_143, m_in_0_999, m_in_1_4, m_in_1_8, m_in_1_9, m_in_1_60, m_in_m1_3, m_in_m1_5]
  by_cases h1 : (0 : Int32) ≤ a ∧ a ≤ 143
  case neg =>
    simp only [if_neg h1]
    exact ref_t R F ok1
  simp only [if_pos h1]
  obtain ⟨q, q_lo, q_hi, rfl⟩ := in_nat (lo := 0) (hi := 143) (by decide) h1 (by decide)
  obtain ⟨N, hk, e1, e2⟩ := R.1.pc
  obtain ⟨P, hP⟩ := R.1.places.fn (by decide)
  have e1' : c.1 14 8 = nI N := e1
  have e2' : m.1 0 18 = nI N := e2
  have y1 := c_has_lp F e1' hk q_hi (fun j hj => (hP j hj).2.1) (fun j hj => (hP j hj).1) N 0 F (by omega) (by omega)
  have y2 := m_place_lp F e2' hk q_hi (fun j hj => (hP j hj).2.2) (fun j hj => (hP j hj).1) N 0 F 0 (by omega) (by omega) (by omega)
  have y1' : c_Teams_hasPlace_L2 F F (nI q) 0 c = _ := y1
  have y2' : m_place_L17 F F (nI q) 0 0 m = _ := y2
  rw [y1', y2']
  unfold m_place_end m_place_L17b
  cases hA : anyF (fun j => decide (P j = q)) 0 N with
  | false =>
    rw [show (if false = true then 1 else 0) = 0 from rfl, show (if 0 = 1 ∨ false = true then 1 else 0) = 0 from rfl]
    simp (disch := omega) only [sI1_ne, sI1_eq, sI2, sJ1, sJ2_ne, sJ2_eq, upd_eq, upd_ne, e1', e2', fa_lit, fa_litL, leI, ltI, eqI, leL, ltL, eqL, cq_lt, cq_le, cq_gt, cq_ge, cq_eq, mulI, nI_add, lN_add, lN_mul, inb_iff, cl_nI, i2lN, l2iN, subI, gB2_mk, show ¬ ((0 : Nat) = 1 ∨ false = true) by simp, show ¬ (false = true) by simp, if_false, if_true, Nat.le_refl]
    by_cases h6 : N = 6
    · simp only [if_neg (show ¬ N < 6 by omega), if_pos h6, gB2_mk]
      simp (disch := omega) only [fa_lit, fa_litL, leI, ltI, eqI, leL, ltL, eqL, cq_lt, cq_le, cq_gt, cq_ge, cq_eq, mulI, nI_add, lN_add, lN_mul, inb_iff, cl_nI, i2lN, l2iN, answ_3, gB2_id]
      exact ref_t R F ok3
    · simp only [if_pos (show N < 6 by omega), if_neg h6, gB2_mk]
      simp (disch := omega) only [fa_lit, fa_litL, leI, ltI, eqI, leL, ltL, eqL, cq_lt, cq_le, cq_gt, cq_ge, cq_eq, mulI, nI_add, lN_add, lN_mul, inb_iff, cl_nI, i2lN, l2iN, Nat.add_sub_cancel, answ_ok]
      exact SameR.ret rfl ((R.set_places (j := N) (by omega) q_hi).set_pc (by omega))
  | true =>
    rw [show (if true = true then 1 else 0) = 1 from rfl, show (if 0 = 1 ∨ true = true then 1 else 0) = 1 from rfl]
    simp (disch := omega) only [sI1_ne, sI1_eq, sI2, sJ1, sJ2_ne, sJ2_eq, upd_eq, upd_ne, e1', e2', fa_lit, fa_litL, leI, ltI, eqI, leL, ltL, eqL, cq_lt, cq_le, cq_gt, cq_ge, cq_eq, mulI, nI_add, lN_add, lN_mul, inb_iff, cl_nI, i2lN, l2iN, subI, gB2_mk, show ((0 : Nat) = 1 ∨ true = true) by simp, if_true, Nat.le_refl]
    by_cases h6 : N = 6
    · simp only [if_neg (show ¬ N < 6 by omega), if_pos h6, gB2_mk]
      simp (disch := omega) only [fa_lit, fa_litL, leI, ltI, eqI, leL, ltL, eqL, cq_lt, cq_le, cq_gt, cq_ge, cq_eq, mulI, nI_add, lN_add, lN_mul, inb_iff, cl_nI, i2lN, l2iN, answ_3, gB2_id]
      exact ref_t R F ok3
    · simp only [if_pos (show N < 6 by omega), if_neg h6, gB2_mk, if_neg (show ¬ (1 : Nat) = 0 by decide)]
      simp (disch := omega) only [fa_lit, fa_litL, leI, ltI, eqI, leL, ltL, eqL, cq_lt, cq_le, cq_gt, cq_ge, cq_eq, mulI, nI_add, lN_add, lN_mul, inb_iff, cl_nI, i2lN, l2iN, answ_2, gB2_id]
      exact ref_t R F ok2
