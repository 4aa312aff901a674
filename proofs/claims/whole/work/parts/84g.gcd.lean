/-! the pure part: fractions -/
theorem gcd_half {a b : Nat} (hb : 0 < b) (h : b ≤ a) : 2 * (a % b) < a := by
  have h1 := Nat.mod_lt a hb
  have h2 := Nat.div_add_mod a b
  have h3 : 1 ≤ a / b := Nat.div_pos h hb
  have h4 : b * 1 ≤ b * (a / b) := Nat.mul_le_mul_left b h3
  omega
/-- the greatest common divisor: Euclid ends soon -/
theorem c_gcd_lp (F : Nat) (s : St) : ∀ (e a b i k : Nat), a < 2 ^ 62 → b < 2 ^ e → e ≤ 61 → i + 2 * e + 1 < 1000 → 2 * e + 2 < k → c_commonDivisor_L3 F k (lN a) (lN b) (nI i) s = some (lN (Nat.gcd a b), s) := by
  intro e
  induction e with
  | zero =>
    intro a b i k ha hb he hi hk
    obtain ⟨k, rfl⟩ : ∃ z, k = z + 1 := ⟨k - 1, by omega⟩
    have hb0 : b = 0 := by omega
    subst hb0
    show c_commonDivisor_L3b F (c_commonDivisor_L3 F k) (lN a) (lN 0) (nI i) s = _
    unfold c_commonDivisor_L3b
    simp (disch := omega) only [fa_lit, fa_litL, leI, ltI, eqI, leL, ltL, eqL, cq_lt, cq_le, cq_gt, cq_ge, cq_eq, mulI, nI_add, lN_add, lN_mul, inb_iff, cl_nI, i2lN, l2iN]
    rw [if_neg (by omega), if_pos trivial, Nat.gcd_zero_right]
  | succ e ih =>
    intro a b i k ha hb he hi hk
    have hp : 2 ^ (e + 1) ≤ 2 ^ 61 := Nat.pow_le_pow_right (by decide) he
    obtain ⟨k, rfl⟩ : ∃ z, k = z + 1 := ⟨k - 1, by omega⟩
    show c_commonDivisor_L3b F (c_commonDivisor_L3 F k) (lN a) (lN b) (nI i) s = _
    unfold c_commonDivisor_L3b
    have hdv : b ≠ 0 → lN a / lN b = lN (a / b) := fun h => divL (by omega) (by omega) (by omega)
    simp (disch := omega) only [fa_lit, fa_litL, leI, ltI, eqI, leL, ltL, eqL, cq_lt, cq_le, cq_gt, cq_ge, cq_eq, mulI, nI_add, lN_add, lN_mul, inb_iff, cl_nI, i2lN, l2iN]
    by_cases h0 : b = 0
    · rw [if_neg (by omega), if_pos h0, h0, Nat.gcd_zero_right]
    rw [if_neg (by omega), if_neg h0, if_neg h0, divL (by omega) (by omega) (by omega), remL (by omega) (by omega) (by omega)]
    obtain ⟨k, rfl⟩ : ∃ z, k = z + 1 := ⟨k - 1, by omega⟩
    show c_commonDivisor_L3b F (c_commonDivisor_L3 F k) (lN b) (lN (a % b)) (nI (i + 1)) s = _
    unfold c_commonDivisor_L3b
    have hm := Nat.mod_lt a (show 0 < b by omega)
    rw [Nat.gcd_comm a b, Nat.gcd_rec b a, Nat.gcd_comm]
    simp (disch := omega) only [fa_lit, fa_litL, leI, ltI, eqI, leL, ltL, eqL, cq_lt, cq_le, cq_gt, cq_ge, cq_eq, mulI, nI_add, lN_add, lN_mul, inb_iff, cl_nI, i2lN, l2iN]
    by_cases h1 : a % b = 0
    · rw [if_neg (by omega), if_pos h1, h1, Nat.gcd_zero_right]
    rw [if_neg (by omega), if_neg h1, if_neg h1, divL (by omega) (by omega) (by omega), remL (by omega) (by omega) (by omega)]
    have hh := gcd_half (show 0 < a % b by omega) (Nat.le_of_lt hm)
    have hm2 := Nat.mod_lt b (show 0 < a % b by omega)
    rw [ih (a % b) (b % (a % b)) (i + 1 + 1) k (by omega) (by rw [Nat.pow_succ] at hb; omega) (by omega) (by omega) (by omega)]
    rw [Nat.gcd_comm b (a % b), Nat.gcd_rec (a % b) b, Nat.gcd_comm]
theorem m_low_lp (F : Nat) (s : St) : ∀ (e x y w a b k : Nat), x < 2 ^ 62 → y < 2 ^ 62 → w ≤ 1 → a < 2 ^ 62 → b < 2 ^ e → e ≤ 61 → 2 * e + 2 < k → 0 < Nat.gcd a b → m_lowest_L6 F k (lN x) (lN y) (nI w) (lN a) (lN b) s = some (lN ((if w = 0 then x else y) / Nat.gcd a b), s) := by
  intro e
  induction e with
  | zero =>
    intro x y w a b k hx hy hw ha hb he hk hg
    obtain ⟨k, rfl⟩ : ∃ z, k = z + 1 := ⟨k - 1, by omega⟩
    have hb0 : b = 0 := by omega
    subst hb0
    show m_lowest_L6b F (m_lowest_L6 F k) (lN x) (lN y) (nI w) (lN a) (lN 0) s = _
    unfold m_lowest_L6b
    rw [Nat.gcd_zero_right] at hg ⊢
    simp (disch := omega) only [fa_lit, fa_litL, leI, ltI, eqI, leL, ltL, eqL, cq_lt, cq_le, cq_gt, cq_ge, cq_eq, mulI, nI_add, lN_add, lN_mul, inb_iff, cl_nI, i2lN, l2iN]
    simp only [if_pos trivial, if_neg (show ¬ a = 0 by omega)]
    rw [divL (by omega) (by omega) (by omega), divL (by omega) (by omega) (by omega)]
    split <;> rfl
  | succ e ih =>
    intro x y w a b k hx hy hw ha hb he hk hg
    have hp : 2 ^ (e + 1) ≤ 2 ^ 61 := Nat.pow_le_pow_right (by decide) he
    obtain ⟨k, rfl⟩ : ∃ z, k = z + 1 := ⟨k - 1, by omega⟩
    show m_lowest_L6b F (m_lowest_L6 F k) (lN x) (lN y) (nI w) (lN a) (lN b) s = _
    unfold m_lowest_L6b
    simp (disch := omega) only [fa_lit, fa_litL, leI, ltI, eqI, leL, ltL, eqL, cq_lt, cq_le, cq_gt, cq_ge, cq_eq, mulI, nI_add, lN_add, lN_mul, inb_iff, cl_nI, i2lN, l2iN]
    by_cases h0 : b = 0
    · rw [h0, Nat.gcd_zero_right] at hg
      simp only [if_pos h0, h0, Nat.gcd_zero_right, if_neg (show ¬ a = 0 by omega)]
      rw [if_pos trivial, divL (by omega) (by omega) (by omega), divL (by omega) (by omega) (by omega)]
      split <;> rfl
    rw [if_neg h0, if_neg h0, divL (by omega) (by omega) (by omega), remL (by omega) (by omega) (by omega)]
    obtain ⟨k, rfl⟩ : ∃ z, k = z + 1 := ⟨k - 1, by omega⟩
    show m_lowest_L6b F (m_lowest_L6 F k) (lN x) (lN y) (nI w) (lN b) (lN (a % b)) s = _
    unfold m_lowest_L6b
    have hm := Nat.mod_lt a (show 0 < b by omega)
    rw [Nat.gcd_comm a b, Nat.gcd_rec b a, Nat.gcd_comm] at hg ⊢
    simp (disch := omega) only [fa_lit, fa_litL, leI, ltI, eqI, leL, ltL, eqL, cq_lt, cq_le, cq_gt, cq_ge, cq_eq, mulI, nI_add, lN_add, lN_mul, inb_iff, cl_nI, i2lN, l2iN]
    by_cases h1 : a % b = 0
    · simp only [if_pos h1, h1, Nat.gcd_zero_right, if_neg h0]
      rw [if_pos trivial, divL (by omega) (by omega) (by omega), divL (by omega) (by omega) (by omega)]
      split <;> rfl
    rw [if_neg h1, if_neg h1, divL (by omega) (by omega) (by omega), remL (by omega) (by omega) (by omega)]
    have hh := gcd_half (show 0 < a % b by omega) (Nat.le_of_lt hm)
    have hm2 := Nat.mod_lt b (show 0 < a % b by omega)
    rw [Nat.gcd_comm b (a % b), Nat.gcd_rec (a % b) b, Nat.gcd_comm] at hg ⊢
    rw [ih x y w (a % b) (b % (a % b)) k hx hy hw (by omega) (by rw [Nat.pow_succ] at hb; omega) (by omega) (by omega) hg]
theorem c_low {F : Nat} (hF : 3000 ≤ F) {s : St} {x y w : Nat} (hx : x < 2 ^ 61) (hy : y < 2 ^ 61) (hg : 0 < y) (hw : w ≤ 1) : c_lowest F (lN x) (lN y) (nI w) s = some (lN ((if w = 0 then x else y) / Nat.gcd x y), s) := by
  unfold c_lowest c_commonDivisor c_lowest_J26
  have h0 := Nat.gcd_pos_of_pos_right x hg
  have h1 := Nat.gcd_le_right x hg
  rw [show (0 : Int32) = nI 0 from rfl, c_gcd_lp F s 61 x y 0 F (by omega) hy (by decide) (by decide) (by omega), gB2_mk]
  simp (disch := omega) only [fa_lit, fa_litL, leI, ltI, eqI, leL, ltL, eqL, cq_lt, cq_le, cq_gt, cq_ge, cq_eq, mulI, nI_add, lN_add, lN_mul, inb_iff, cl_nI, i2lN, l2iN]
  simp only [if_pos h0, if_neg (show ¬ Nat.gcd x y = 0 by omega)]
  rw [divL (by omega) (by omega) (by omega), divL (by omega) (by omega) (by omega)]
  split <;> rfl
theorem m_low {F : Nat} (hF : 3000 ≤ F) {s : St} {x y w : Nat} (hx : x < 2 ^ 61) (hy : y < 2 ^ 61) (hg : 0 < y) (hw : w ≤ 1) : m_lowest F (lN x) (lN y) (nI w) s = some (lN ((if w = 0 then x else y) / Nat.gcd x y), s) := by
  unfold m_lowest
  exact m_low_lp F s 61 x y w x y F (by omega) (by omega) hw (by omega) hy (by decide) (by omega) (Nat.gcd_pos_of_pos_right x hg)
theorem p_odds {n : Nat} {c m : St} (R : Rel n c m) (F : Nat) (hF : 3000 ≤ F) (a v : Int32) : SameR n (c_odds F a v c) (m_odds F a v m) := by
  unfold c_odds c_odds_J14 m_odds m_odds_J17
  obtain ⟨p, hc, hm, hs⟩ := R.1.pp
  have eA := c_all F hF hc
  have eB := m_allE F hF hm
  have ht := fun (q : Nat) (hq : q < 144) => tg_le (p := p) hq hs
  generalize sumN p 720 = T at hs eA eB
  unfold AL at hs ht
  simp only [gB2_mk, gB_mk, bz_ite, bz_01, gB2_id, c_isCell_eq, c_isKind_eq, c_isSort_eq, c_isPart_eq, c_Sheets_isSheet_eq, c_Sheets_isLane_eq, m_isCell_eq, m_isKind_eq, m_isSort_eq, m_isSheet_eq, m_isLane_eq, c_isIn_eq, m_in_0_0, m_in_0_1, m_in_0_2, m_in_0_3, m_in_0_5, m_in_0_7, m_in_0_8, m_in_0_9, m_in_0_11, m_in_0_15, m_in_0_16, m_in_0_99, m_in_0_143, m_in_0_999, m_in_1_4, m_in_1_8, m_in_1_9, m_in_1_60, m_in_m1_3, m_in_m1_5, eA, eB]
  by_cases h1 : (0 : Int32) ≤ a ∧ a ≤ 143
  case neg =>
    simp only [if_neg h1]
    exact ref_s R F ok1 rfl
  simp only [if_pos h1]
  obtain ⟨j, j_lo, j_hi, rfl⟩ := in_nat (lo := 0) (hi := 143) (by decide) h1 (by decide)
  by_cases h2 : (0 : Int32) ≤ v ∧ v ≤ 1
  case neg =>
    simp only [if_neg h2]
    exact ref_s R F ok1 rfl
  simp only [if_pos h2]
  obtain ⟨w, w_lo, w_hi, rfl⟩ := in_nat (lo := 0) (hi := 1) (by decide) h2 (by decide)
  have hj := ht j (by omega)
  rw [c_tog F hF hc (by omega), m_tog F hF hm (by omega), gB2_mk, gB2_mk, eB, gB2_mk]
  by_cases h0 : T = 0
  · have k1 : ¬ 0 < lg_cmp (lN T) 0 := by
      simp (disch := omega) only [fa_lit, fa_litL, leI, ltI, eqI, leL, ltL, eqL, cq_lt, cq_le, cq_gt, cq_ge, cq_eq, mulI, nI_add, lN_add, lN_mul, inb_iff, cl_nI, i2lN, l2iN]
      omega
    have k2 : lg_cmp (lN T) 0 = 0 := by
      simp (disch := omega) only [fa_lit, fa_litL, leI, ltI, eqI, leL, ltL, eqL, cq_lt, cq_le, cq_gt, cq_ge, cq_eq, mulI, nI_add, lN_add, lN_mul, inb_iff, cl_nI, i2lN, l2iN]
      exact h0
    rw [if_neg k1, if_pos k2]
    exact ref_s R F ok4 rfl
  · rw [c_low hF (by omega) (by omega) (by omega) (by omega), m_low hF (by omega) (by omega) (by omega) (by omega)]
    simp (disch := omega) only [fa_lit, fa_litL, leI, ltI, eqI, leL, ltL, eqL, cq_lt, cq_le, cq_gt, cq_ge, cq_eq, mulI, nI_add, lN_add, lN_mul, inb_iff, cl_nI, i2lN, l2iN]
    rw [if_pos (show 0 < T by omega), if_neg h0]
    exact SameR.ret rfl R
