/-! the pure part: sheets: what is wrong, item -/
abbrev hold (v w : Int32) (k : Nat) : Prop := 0 ≤ w.toInt ∧ 0 ≤ v.toInt ∧ v.toInt + w.toInt ≤ (k : Int)
theorem t0 : (0 : Int32).toInt = 0 := by decide
theorem c_hold (F : Nat) {c : St} {q k : Nat} {v w : Int32} (hq : q < 4) (hk : k ≤ 24) (hs : c.1 79 q = nI k) : c_Sheets_holds F (nI q) v w c = some (bz (hold v w k), c) := by
  unfold c_Sheets_holds c_Sheets_holds_J34
  rw [inb_nI hq (by decide), cl_nI (by omega), hs]
  by_cases h1 : w < 0
  · rw [if_pos h1, bz_f (fun h => by rw [Int32.lt_iff_toInt_lt, t0] at h1; have := h.1; omega)]
  rw [if_neg h1]
  by_cases h2 : v < 0
  · rw [if_pos h2, bz_f (fun h => by rw [Int32.lt_iff_toInt_lt, t0] at h2; have := h.2.1; omega)]
  rw [if_neg h2, if_pos rfl]
  rw [Int32.lt_iff_toInt_lt, t0] at h1 h2
  by_cases h3 : nI k < v
  · rw [if_pos h3, bz_f (fun h => by rw [Int32.lt_iff_toInt_lt, tI (by omega)] at h3; have := h.2.2; omega)]
  rw [if_neg h3, if_pos rfl]
  rw [Int32.lt_iff_toInt_lt, tI (by omega)] at h3
  have e : (nI k - v).toInt = (k : Int) - v.toInt := by
    rw [fb_subI (by rw [tI (by omega)]; omega) (by rw [tI (by omega)]; omega), tI (by omega)]
  by_cases h4 : nI k - v < w
  · rw [if_pos h4, bz_f (fun h => by rw [Int32.lt_iff_toInt_lt, e] at h4; have := h.2.2; omega)]
  · rw [if_neg h4, bz_t (by rw [Int32.lt_iff_toInt_lt, e] at h4; exact ⟨by omega, by omega, by omega⟩)]
theorem m_whyE (F : Nat) {m : St} {q k : Nat} {b v w x : Int32} (hq : q < 4) (hk : k ≤ 24) (hx : LaneV x) (hl : m.1 29 q = x) (hs : m.1 30 q = nI k) (hw : 0 ≤ w) : m_why F (nI q) b v w m = some (if x = -1 then -11 else if x = b then (if hold v w k then 0 else -13) else -12, m) := by
  unfold m_why m_why_J46
  rw [inb_nI hq (by decide), cl_nI (by omega), hl, hs, if_pos rfl]
  rw [Int32.le_iff_toInt_le, t0] at hw
  rcases hx.or with ⟨g1, g2⟩ | ⟨g1, g2⟩
  · rw [if_neg g2, if_pos g1]
  · rw [if_pos g2, if_neg g1, if_pos rfl]
    by_cases h1 : x = b
    · rw [if_pos h1, if_pos h1]
      by_cases h2 : v < 0
      · rw [if_pos h2, if_neg (fun h => by rw [Int32.lt_iff_toInt_lt, t0] at h2; have := h.2.1; omega)]
      · rw [if_neg h2, if_pos rfl]
        rw [Int32.lt_iff_toInt_lt, t0] at h2
        have rv := fb_rng v
        have rw' := fb_rng w
        have e1 : (v.toInt64 + w.toInt64).toInt = v.toInt + w.toInt := by
          rw [fb_addL (by rw [Int32.toInt_toInt64, Int32.toInt_toInt64]; omega) (by rw [Int32.toInt_toInt64, Int32.toInt_toInt64]; omega), Int32.toInt_toInt64, Int32.toInt_toInt64]
        have e2 : (lg_cmp (v.toInt64 + w.toInt64) (nI k).toInt64 ≤ 0) = (v.toInt + w.toInt ≤ (k : Int)) := by
          rw [cmp_le, Int64.le_iff_toInt_le, e1, Int32.toInt_toInt64, tI (by omega)]
        by_cases h3 : v.toInt + w.toInt ≤ (k : Int)
        · rw [if_pos (e2.mpr h3), if_pos ⟨hw, by omega, h3⟩]
        · rw [if_neg (fun e => h3 (e2.mp e)), if_neg (fun h => h3 h.2.2)]
    · rw [if_neg h1, if_neg h1]
theorem c_wrongE (F : Nat) {c : St} {q k : Nat} {b v w x : Int32} (hq : q < 4) (hk : k ≤ 24) (hl : c.1 78 q = x) (hs : c.1 79 q = nI k) : c_Sheets_wrong F (nI q) b v w c = some (if x = -1 then -11 else if x = b then (if hold v w k then 0 else -13) else -12, c) := by
  unfold c_Sheets_wrong c_Sheets_isThere
  rw [inb_nI hq (by decide), cl_nI (by omega), hl, if_pos rfl]
  by_cases h1 : x = -1
  · rw [if_pos h1, if_pos h1, gB2_mk, if_pos rfl]
  · rw [if_neg h1, if_neg h1, gB2_mk, if_neg (show ¬ (1 : Int32) = 0 by decide), if_pos rfl, hl]
    by_cases h2 : x = b
    · rw [if_pos h2, if_pos h2, c_hold F hq hk hs, gB2_mk, bz_ite]
      split <;> rfl
    · rw [if_neg h2, if_neg h2]
theorem Rel.size {n : Nat} {c m : St} (R : Rel n c m) {j : Nat} (hj : j < 4) : ∃ k, k ≤ 24 ∧ c.1 79 j = nI k ∧ m.1 30 j = nI k := R.2.2.2.2.2.1 j hj
theorem wrong_or {x b v w : Int32} {k : Nat} : (if x = -1 then (-11 : Int32) else if x = b then (if hold v w k then 0 else -13) else -12) = 0 ∧ x ≠ -1 ∧ x = b ∧ hold v w k ∨ ((if x = -1 then (-11 : Int32) else if x = b then (if hold v w k then 0 else -13) else -12) ≠ 0 ∧ ¬ 0 ≤ (if x = -1 then (-11 : Int32) else if x = b then (if hold v w k then 0 else -13) else -12) ∧ okR (if x = -1 then (-11 : Int32) else if x = b then (if hold v w k then 0 else -13) else -12)) := by
  by_cases h1 : x = -1
  · rw [if_pos h1]
    exact Or.inr ⟨by decide, by decide, ok11⟩
  · rw [if_neg h1]
    by_cases h2 : x = b
    · rw [if_pos h2]
      by_cases h3 : hold v w k
      · rw [if_pos h3]
        exact Or.inl ⟨rfl, h1, h2, h3⟩
      · rw [if_neg h3]
        exact Or.inr ⟨by decide, by decide, ok13⟩
    · rw [if_neg h2]
      exact Or.inr ⟨by decide, by decide, ok12⟩
/-- what a lane keeps of a number -/
def cutL (x : Int32) (y : Int64) : Int64 := if x = 0 then y.toInt32.toInt8.toInt32.toInt64 else if x = 1 then y.toInt32.toInt16.toInt32.toInt64 else if x = 2 then y.toInt32.toInt64 else y
theorem c_put (F : Nat) {c : St} {q j : Nat} {x : Int32} {y : Int64} (hq : q < 4) (hj : j < 24) (hl : c.1 78 q = x) : c_Sheets_put F (nI q) (nI j) y c = some (sJ c 77 (24 * q + j) (cutL x y)) := by
  unfold c_Sheets_put c_Sheets_cut cutL
  have e : nI q * (24 : Int32) + nI j = nI (24 * q + j) := by
    rw [show (24 : Int32) = nI 24 from rfl, mulI, nI_add, Nat.mul_comm]
  rw [inb_nI hq (by decide), if_pos rfl, cl_nI (by omega), hl, e, inb_nI (show 24 * q + j < 96 by omega) (by decide), cl_nI (by omega)]
  by_cases h0 : x = 0
  · simp only [if_pos h0, gB2_mk, if_true]
  · by_cases h1 : x = 1
    · simp only [if_neg h0, if_pos h1, gB2_mk, if_true]
    · by_cases h2 : x = 2
      · simp only [if_neg h0, if_neg h1, if_pos h2, gB2_mk, if_true]
      · simp only [if_neg h0, if_neg h1, if_neg h2, gB2_mk, if_true]
theorem m_put (F : Nat) {c : St} {q j : Nat} {x : Int32} {y : Int64} (hq : q < 4) (hj : j < 24) (hl : c.1 29 q = x) : m_puts F (nI q) (nI j) y c = some (sJ c 31 (24 * q + j) (cutL x y)) := by
  unfold m_puts cutL
  have e : (24 : Int32) * nI q + nI j = nI (24 * q + j) := by
    rw [show (24 : Int32) = nI 24 from rfl, mulI, nI_add]
  rw [inb_nI hq (by decide), if_pos rfl, cl_nI (by omega), hl, e, inb_nI (show 24 * q + j < 96 by omega) (by decide), cl_nI (by omega)]
  by_cases h0 : x = 0
  · simp only [if_pos h0, if_true]
  · by_cases h1 : x = 1
    · simp only [if_neg h0, if_pos h1, if_true]
    · by_cases h2 : x = 2
      · simp only [if_neg h0, if_neg h1, if_pos h2, if_true]
      · simp only [if_neg h0, if_neg h1, if_neg h2, if_true]
theorem p_item {n : Nat} {c m : St} (R : Rel n c m) (F : Nat) (hF : 3000 ≤ F) (a b v : Int32) (y : Int64) : SameR n (c_item F a b v y c) (m_item F a b v y m) := by
  unfold c_item c_item_J14 m_item m_item_J14
  simp only [gB2_mk, gB_mk, bz_ite, bz_01, gB2_id, c_isCell_eq, c_isKind_eq, c_isSort_eq, c_isPart_eq, c_Sheets_isSheet_eq, c_Sheets_isLane_eq, m_isCell_eq, m_isKind_eq, m_isSort_eq, m_isSheet_eq, m_isLane_eq, c_isIn_eq, m_in_0_0, m_in_0_1, m_in_0_2, m_in_0_3, m_in_0_5, m_in_0_7, m_in_0_8, m_in_0_9, m_in_0_11, m_in_0_15, m_in_0_16, m_in_0_99, m_in_0_143, m_in_0_999, m_in_1_4, m_in_1_8, m_in_1_9, m_in_1_60, m_in_m1_3, m_in_m1_5]
  by_cases h1 : (0 : Int32) ≤ a ∧ a ≤ 3
  case neg =>
    simp only [if_neg h1]
    exact ref_t R F ok1
  simp only [if_pos h1]
  obtain ⟨q, q_lo, q_hi, rfl⟩ := in_nat (lo := 0) (hi := 3) (by decide) h1 (by decide)
  by_cases h2 : (0 : Int32) ≤ b ∧ b ≤ 3
  case neg =>
    simp only [if_neg h2]
    exact ref_t R F ok1
  simp only [if_pos h2]
  obtain ⟨l, l_lo, l_hi, rfl⟩ := in_nat (lo := 0) (hi := 3) (by decide) h2 (by decide)
  obtain ⟨x, hx, l1, l2⟩ := R.lane (j := q) (by omega)
  obtain ⟨k, hk, s1, s2⟩ := R.size (j := q) (by omega)
  rw [c_wrongE F (by omega) hk l1 s1, m_whyE F (by omega) hk hx l2 s2 (by decide), gB2_mk, gB2_mk]
  rcases wrong_or (x := x) (b := nI l) (v := v) (w := 1) (k := k) with ⟨e, -, -, g⟩ | ⟨-, g, ok⟩
  · rw [e, if_pos (by decide), if_pos (by decide)]
    obtain ⟨w1, w2, w3⟩ := g
    rw [show (1 : Int32).toInt = 1 by decide] at w3
    obtain ⟨j, hj, rfl⟩ : ∃ j, j < 24 ∧ v = nI j := ⟨v.toInt.toNat, by omega, by
      apply Int32.toInt_inj.mp
      rw [tI (by omega)]
      omega⟩
    rw [c_put F (by omega) hj l1, m_put F (by omega) hj l2, gB_mk, gB_mk]
    exact SameR.ret rfl R.set_item
  · rw [if_neg g, if_neg g]
    exact ref_t R F ok
