/-! the pure part: truly -/
def tN (p : Nat → Nat) (dd q x : Nat) : Nat := if near dd q x = true then tg p x else 0
theorem sF_le {f g : Nat → Nat} : ∀ (d i : Nat), (∀ j, i ≤ j → j < i + d → f j ≤ g j) → sF f i d ≤ sF g i d
  | 0, _, _ => Nat.le_refl _
  | d + 1, i, h => by
    rw [sF, sF]
    have := sF_le d (i + 1) (fun j h1 h2 => h j (by omega) (by omega))
    have := h i (by omega) (by omega)
    omega
theorem tN_le (p : Nat → Nat) (dd q x : Nat) : tN p dd q x ≤ tg p x := by
  unfold tN
  by_cases h : near dd q x = true
  · rw [if_pos h]
    exact Nat.le_refl _
  · rw [if_neg h]
    exact Nat.zero_le _
theorem cF_pos {P : Nat → Bool} {q : Nat} (hP : P q = true) : ∀ (d i : Nat), i ≤ q → q < i + d → 0 < cF P i d
  | 0, i, h1, h2 => by omega
  | d + 1, i, h1, h2 => by
    rw [cF]
    by_cases e : i = q
    · rw [e, if_pos hP]
      omega
    · have := cF_pos hP d (i + 1) (by omega) (by omega)
      omega
theorem near_self (dd q : Nat) : near dd q q = true := by
  unfold near rowA colA dN
  rw [decide_eq_true_eq]
  simp
theorem c_nearS_lp (F : Nat) (hF : 3000 ≤ F) {p : Nat → Nat} {s : St} {q dd : Nat} (hp : PC p s) (hq : q < 144) (hdd : dd ≤ 9) : ∀ (d i k : Nat) (acc : Nat), i + d = 144 → d < k → c_Night_near_L5 F k (nI q) (nI dd) (lN acc) (nI i) s = some (lN (acc + sF (tN p dd q) i d), s) := by
  intro d
  induction d with
  | zero =>
    intro i k acc hi hk
    obtain ⟨k, rfl⟩ : ∃ z, k = z + 1 := ⟨k - 1, by omega⟩
    show c_Night_near_L5b F (c_Night_near_L5 F k) (nI q) (nI dd) (lN acc) (nI i) s = _
    unfold c_Night_near_L5b
    simp (disch := omega) only [fa_lit, fa_litL, leI, ltI, eqI, leL, ltL, eqL, cq_lt, cq_le, cq_gt, cq_ge, cq_eq, mulI, nI_add, lN_add, lN_mul, inb_iff, cl_nI, i2lN, l2iN]
    rw [if_pos (by omega)]
    rfl
  | succ d ih =>
    intro i k acc hi hk
    obtain ⟨k, rfl⟩ : ∃ z, k = z + 1 := ⟨k - 1, by omega⟩
    show c_Night_near_L5b F (c_Night_near_L5 F k) (nI q) (nI dd) (lN acc) (nI i) s = _
    unfold c_Night_near_L5b c_Night_near_J32
    rw [c_near F s hq (show i < 144 by omega) hdd, gB2_mk, bz_ite, c_tog F hF hp (show i < 144 by omega), gB2_mk]
    simp (disch := omega) only [fa_lit, fa_litL, leI, ltI, eqI, leL, ltL, eqL, cq_lt, cq_le, cq_gt, cq_ge, cq_eq, mulI, nI_add, lN_add, lN_mul, inb_iff, cl_nI, i2lN, l2iN]
    rw [if_neg (by omega), sF]
    cases hn : near dd q i with
    | true =>
      rw [if_pos rfl, ih (i + 1) k _ (by omega) (by omega), show tN p dd q i = tg p i from if_pos hn, Nat.add_assoc]
    | false =>
      rw [if_neg (by decide), ih (i + 1) k _ (by omega) (by omega), show tN p dd q i = 0 from if_neg (by rw [hn]; decide), Nat.zero_add]
theorem c_nearC_lp (F : Nat) {s : St} {q dd : Nat} (hq : q < 144) (hdd : dd ≤ 9) : ∀ (d i k : Nat) (acc : Nat), i + d = 144 → d < k → c_Land_cellsNear_L4 F k (nI q) (nI dd) (nI acc) (nI i) s = some (nI (acc + cF (near dd q) i d), s) := by
  intro d
  induction d with
  | zero =>
    intro i k acc hi hk
    obtain ⟨k, rfl⟩ : ∃ z, k = z + 1 := ⟨k - 1, by omega⟩
    show c_Land_cellsNear_L4b F (c_Land_cellsNear_L4 F k) (nI q) (nI dd) (nI acc) (nI i) s = _
    unfold c_Land_cellsNear_L4b
    simp (disch := omega) only [fa_lit, fa_litL, leI, ltI, eqI, leL, ltL, eqL, cq_lt, cq_le, cq_gt, cq_ge, cq_eq, mulI, nI_add, lN_add, lN_mul, inb_iff, cl_nI, i2lN, l2iN]
    rw [if_pos (by omega)]
    rfl
  | succ d ih =>
    intro i k acc hi hk
    obtain ⟨k, rfl⟩ : ∃ z, k = z + 1 := ⟨k - 1, by omega⟩
    show c_Land_cellsNear_L4b F (c_Land_cellsNear_L4 F k) (nI q) (nI dd) (nI acc) (nI i) s = _
    unfold c_Land_cellsNear_L4b c_Land_cellsNear_J23
    rw [c_near F s hq (show i < 144 by omega) hdd, gB2_mk, bz_ite]
    simp (disch := omega) only [fa_lit, fa_litL, leI, ltI, eqI, leL, ltL, eqL, cq_lt, cq_le, cq_gt, cq_ge, cq_eq, mulI, nI_add, lN_add, lN_mul, inb_iff, cl_nI, i2lN, l2iN]
    rw [if_neg (by omega), cF]
    cases hn : near dd q i with
    | true =>
      rw [if_pos rfl, ih (i + 1) k _ (by omega) (by omega), if_pos rfl, Nat.add_assoc]
    | false =>
      rw [if_neg (by decide), ih (i + 1) k _ (by omega) (by omega), if_neg (by decide), Nat.zero_add]
def m_truly_end (F : Nat) (a1 a2 a3 a4 : Int32) (T x : Int64) (n i : Int32) (s : St) : Option (Int64 × St) := m_truly_L73b F (fun _ _ _ _ _ _ _ _ _ => none) a1 a2 a3 a4 T x n i s
theorem m_truly_lp (F : Nat) (hF : 3000 ≤ F) {v w : Int32} {T : Nat} {p : Nat → Nat} {s : St} {q dd : Nat} (hp : PM p s) (hq : q < 144) (hdd : dd ≤ 9) : ∀ (d i k : Nat) (acc : Nat) (acd : Nat), i + d = 144 → d < k → m_truly_L73 F k (nI q) (nI dd) v w (lN T) (lN acc) (nI acd) (nI i) s = m_truly_end F (nI q) (nI dd) v w (lN T) (lN (acc + sF (tN p dd q) i d)) (nI (acd + cF (near dd q) i d)) (nI 144) s := by
  intro d
  induction d with
  | zero =>
    intro i k acc acd hi hk
    obtain ⟨k, rfl⟩ : ∃ z, k = z + 1 := ⟨k - 1, by omega⟩
    show m_truly_L73b F (m_truly_L73 F k) (nI q) (nI dd) v w (lN T) (lN acc) (nI acd) (nI i) s = _
    rw [show i = 144 by omega]
    rfl
  | succ d ih =>
    intro i k acc acd hi hk
    obtain ⟨k, rfl⟩ : ∃ z, k = z + 1 := ⟨k - 1, by omega⟩
    show m_truly_L73b F (m_truly_L73 F k) (nI q) (nI dd) v w (lN T) (lN acc) (nI acd) (nI i) s = _
    unfold m_truly_L73b m_truly_J103 m_truly_J123
    simp only [m_apart_eq F s (show i < 144 by omega) hq, gB2_mk, m_tog F hF hp (show i < 144 by omega), apart_near (show i < 144 by omega) hq hdd]
    simp (disch := omega) only [fa_lit, fa_litL, leI, ltI, eqI, leL, ltL, eqL, cq_lt, cq_le, cq_gt, cq_ge, cq_eq, mulI, nI_add, lN_add, lN_mul, inb_iff, cl_nI, i2lN, l2iN]
    rw [if_neg (by omega), sF, cF]
    cases hn : near dd q i with
    | true =>
      rw [if_pos rfl, if_pos rfl, ih (i + 1) k _ _ (by omega) (by omega), show tN p dd q i = tg p i from if_pos hn, if_pos rfl, Nat.add_assoc, Nat.add_assoc]
    | false =>
      rw [if_neg (by decide), if_neg (by decide), ih (i + 1) k _ _ (by omega) (by omega), show tN p dd q i = 0 from if_neg (by rw [hn]; decide), if_neg (by decide), Nat.zero_add, Nat.zero_add]
      rfl
theorem p_truly {n : Nat} {c m : St} (R : Rel n c m) (F : Nat) (hF : 3000 ≤ F) (a b v w : Int32) : SameR n (c_truly F a b v w c) (m_truly F a b v w m) := by
  obtain ⟨p, hc, hm, hs⟩ := R.1.pp
  have eA := c_all F hF hc
  have eB := m_allE F hF hm
  unfold c_truly c_truly_J35 m_truly m_truly_J20 c_Night_near c_Land_cellsNear
  simp only [gB2_mk, gB_mk, bz_ite, bz_01, gB2_id, c_isCell_eq, c_isKind_eq, c_isSort_eq, c_isPart_eq, c_Sheets_isSheet_eq, c_Sheets_isLane_eq, m_isCell_eq, m_isKind_eq, m_isSort_eq, m_isSheet_eq, m_isLane_eq, c_isIn_eq, m_in_0_0, m_in_0_1, m_in_0_2, m_in_0_3, m_in_0_5, m_in_0_7, m_in_0_8, m_in_0_9, m_in_0_11, m_in_0_15, m_in_0_16, m_in_0_99, m_in_0_143, m_in_0_999, m_in_1_4, m_in_1_8, m_in_1_9, m_in_1_60, m_in_m1_3, m_in_m1_5, c_out, eA, eB, m_isCall_eq]
  by_cases h1 : (0 : Int32) ≤ a ∧ a ≤ 143
  case neg =>
    simp only [if_neg h1, if_neg (show ¬ ((0 ≤ a ∧ a ≤ 143) ∧ (0 ≤ b ∧ b ≤ 9) ∧ (0 ≤ v ∧ v ≤ 15)) from fun h => h1 h.1)]
    exact ref_s R F ok1 rfl
  by_cases h2 : (0 : Int32) ≤ b ∧ b ≤ 9
  case neg =>
    simp only [if_pos h1, if_neg h2, if_neg (show ¬ ((0 ≤ a ∧ a ≤ 143) ∧ (0 ≤ b ∧ b ≤ 9) ∧ (0 ≤ v ∧ v ≤ 15)) from fun h => h2 h.2.1)]
    exact ref_s R F ok1 rfl
  by_cases h3 : (0 : Int32) ≤ v ∧ v ≤ 15
  case neg =>
    simp only [if_pos h1, if_pos h2, if_neg h3, if_neg (show ¬ ((0 ≤ a ∧ a ≤ 143) ∧ (0 ≤ b ∧ b ≤ 9) ∧ (0 ≤ v ∧ v ≤ 15)) from fun h => h3 h.2.2)]
    exact ref_s R F ok1 rfl
  simp only [if_pos h1, if_pos h2, if_pos h3, if_pos (show ((0 ≤ a ∧ a ≤ 143) ∧ (0 ≤ b ∧ b ≤ 9) ∧ (0 ≤ v ∧ v ≤ 15)) from ⟨h1, h2, h3⟩)]
  by_cases h4 : (0 : Int32) ≤ w ∧ w ≤ 1
  case neg =>
    simp only [if_neg h4]
    exact ref_s R F ok1 rfl
  simp only [if_pos h4]
  obtain ⟨q, -, q_hi, rfl⟩ := in_nat (lo := 0) (hi := 143) (by decide) h1 (by decide)
  obtain ⟨dd, -, d_hi, rfl⟩ := in_nat (lo := 0) (hi := 9) (by decide) h2 (by decide)
  obtain ⟨z, -, z_hi, rfl⟩ := in_nat (lo := 0) (hi := 15) (by decide) h3 (by decide)
  obtain ⟨u, -, u_hi, rfl⟩ := in_nat (lo := 0) (hi := 1) (by decide) h4 (by decide)
  have hq : q < 144 := by omega
  rcases R.minuteV.out with ⟨e1, e2⟩ | ⟨t, ht, e1, e2, e3⟩
  · simp only [if_neg e1, if_neg e2]
    exact ref_s R F ok2 rfl
  simp only [e1, e2, if_pos e3]
  by_cases h0 : sumN p 720 = 0
  · have k1 : ¬ 0 < lg_cmp (lN (sumN p 720)) 0 := by rw [h0]; decide
    have k2 : lg_cmp (lN (sumN p 720)) 0 = 0 := by rw [h0]; decide
    rw [if_neg k1, if_pos k2]
    exact ref_s R F ok4 rfl
  have hsub : (16 : Int32) - nI z = nI (16 - z) := by
    rw [show (16 : Int32) = nI 16 from rfl, subI (by omega)]
  have y1 : c_Night_near_L5 F F (nI q) (nI dd) 0 0 c = _ := c_nearS_lp F hF hc hq d_hi 144 0 F 0 rfl (by omega)
  have y2 : c_Land_cellsNear_L4 F F (nI q) (nI dd) 0 0 c = _ := c_nearC_lp F hq d_hi 144 0 F 0 rfl (by omega)
  have y3 : m_truly_L73 F F (nI q) (nI dd) (nI z) (nI u) (lN (sumN p 720)) 0 0 0 m = _ := m_truly_lp F hF (v := nI z) (w := nI u) (T := sumN p 720) hm hq d_hi 144 0 F 0 0 rfl (by omega)
  have hN : 0 < cF (near dd q) 0 144 := cF_pos (near_self dd q) 144 0 (Nat.zero_le _) (by omega)
  have hN2 := cF_le (near dd q) 144 0
  have hS : sF (tN p dd q) 0 144 ≤ AL := by
    refine Nat.le_trans (sF_le 144 0 (fun j _ _ => tN_le p dd q j)) ?_
    rw [sF_sum, ← sum_tg]
    exact hs
  rw [y1, gB2_mk, y2, gB2_mk, y3, hsub]
  unfold m_truly_end m_truly_L73b
  rw [if_pos (show (144 : Int32) ≤ nI 144 by decide), hsub, Nat.zero_add, Nat.zero_add]
  have hTA : sumN p 720 ≤ AL := hs
  generalize cF (near dd q) 0 144 = N at *
  generalize sF (tN p dd q) 0 144 = S at *
  generalize sumN p 720 = T at *
  unfold AL at hTA hS
  have k1 : 0 < lg_cmp (lN T) 0 := by
    simp (disch := omega) only [fa_lit, fa_litL, leI, ltI, eqI, leL, ltL, eqL, cq_lt, cq_le, cq_gt, cq_ge, cq_eq, mulI, nI_add, lN_add, lN_mul, inb_iff, cl_nI, i2lN, l2iN]
    omega
  have k2 : ¬ lg_cmp (lN T) 0 = 0 := by
    simp (disch := omega) only [fa_lit, fa_litL, leI, ltI, eqI, leL, ltL, eqL, cq_lt, cq_le, cq_gt, cq_ge, cq_eq, mulI, nI_add, lN_add, lN_mul, inb_iff, cl_nI, i2lN, l2iN]
    exact h0
  rw [if_pos k1, if_neg k2, i2lN (by omega), i2lN (by omega), i2lN (by omega), show (144 : Int64) = lN 144 from rfl, lN_mul, lN_mul, lN_mul, lN_mul, lN_add]
  have b1 : S * z ≤ 1099511627776 * 15 := Nat.mul_le_mul hS z_hi
  have b2 : T * (16 - z) ≤ 1099511627776 * 16 := Nat.mul_le_mul hTA (by omega)
  have b3 : T * (16 - z) * N ≤ 1099511627776 * 16 * 144 := Nat.mul_le_mul b2 hN2
  have b4 : 0 < T * (16 - z) * N := Nat.mul_pos (Nat.mul_pos (by omega) (by omega)) hN
  rw [c_low hF (by omega) (by omega) (by omega) u_hi, m_low hF (by omega) (by omega) (by omega) u_hi]
  exact SameR.ret rfl R
