/-! the pure part: search, to its end -/
theorem Rel.minuteV {n : Nat} {c m : St} (R : Rel n c m) : EqM (c.1 9 4) (m.1 0 13) := R.1.minute
theorem thou {F s T : Nat} {st : St} (hs : s < 2 ^ 50) (hT : 0 < T) (hT2 : T < 2 ^ 62) : c_thousandths F (lN s) (lN T) st = some (nI (s * 1000 / T), st) := by
  unfold c_thousandths
  simp (disch := omega) only [fa_lit, fa_litL, leI, ltI, eqI, leL, ltL, eqL, cq_lt, cq_le, cq_gt, cq_ge, cq_eq, mulI, nI_add, lN_add, lN_mul, inb_iff, cl_nI, i2lN, l2iN]
  simp only [if_pos hT, if_neg (show ¬ T = 0 by omega)]
  rw [divL (by omega) (by omega) (by omega), l2iN]
theorem c_lookE (F : Nat) (hF : 3000 ≤ F) {p K : Nat → Nat} {x8 x9 a q t z : Nat} {c : St} (hp : PC p c) (hs : sumN p 720 ≤ AL) (hl : LawC K x8 x9 c) (hb : LawB K x8 x9) (ha : a ≤ 3) (hq : q < 144) (ht : t ≤ 100000) (hm : c.1 9 4 = nI t) (hz : c.1 5 q = nI z) : ∃ c', c_State_lookFor F (nI a) (nI q) c = some (lN (seenS p K x8 x9 a q t), sI c' 5 q (nI (z + 1))) ∧ PC (lose p q (sg a (K q) 0 t x8 x9) (sg a (K q) 1 t x8 x9)) c' ∧ OnlyP kC c c' := by
  obtain ⟨c', e, h1, h2⟩ := c_lose F hF hp hs hq (sg16 a (K q) 0 t x8 x9) (sg16 a (K q) 1 t x8 x9)
  refine ⟨c', ?_, h1, h2⟩
  unfold c_State_lookFor
  have hz' : c'.1 5 q = nI z := by rw [h2.1]; exact hz
  rw [inb_nI hq (by decide), cl_nI (by omega), hm, c_seenS F hF hp hs hl hb ha hq ht, show (0 : Int32) = nI 0 from rfl, show (1 : Int32) = nI 1 from rfl]
  simp only [if_true, gB2_mk, hm, hl.sight hb F ha hq (show 0 ≤ 1 by decide) ht, hl.sight hb F ha hq (show 1 ≤ 1 by decide) ht, e, gB_mk, hz', nI_add]
theorem m_search_lp (F : Nat) (hF : 3000 ≤ F) {p K : Nat → Nat} {x8 x9 a q t z T : Nat} (hs : sumN p 720 ≤ AL) (hb : LawB K x8 x9) (ha : a ≤ 3) (hq : q < 144) (ht : t ≤ 100000) (hT : T = sumN p 720) (hT0 : 0 < T) : ∀ (d i k : Nat) (m : St), i + d = 5 → d < k → LawM K x8 x9 m → m.1 0 13 = nI t → m.1 4 q = nI z → PM (fun j => if 5 * q ≤ j ∧ j < 5 * q + i then lose p q (sg a (K q) 0 t x8 x9) (sg a (K q) 1 t x8 x9) j else p j) m → ∃ m', m_search_L55 F k (nI a) (nI q) (lN T) (nI i) m = some (nI ((T - sumN (lose p q (sg a (K q) 0 t x8 x9) (sg a (K q) 1 t x8 x9)) 720) * 1000 / T), sI m' 4 q (nI (z + 1))) ∧ PM (lose p q (sg a (K q) 0 t x8 x9) (sg a (K q) 1 t x8 x9)) m' ∧ OnlyP kM m m' := by
  intro d
  induction d with
  | zero =>
    intro i k m hi hk hl hm hz hp
    obtain ⟨k, rfl⟩ : ∃ z, k = z + 1 := ⟨k - 1, by omega⟩
    have hi5 : i = 5 := by omega
    subst hi5
    have hp2 : PM (lose p q (sg a (K q) 0 t x8 x9) (sg a (K q) 1 t x8 x9)) m := hp.cong (fun j hj => by
      by_cases g : 5 * q ≤ j ∧ j < 5 * q + 5
      · rw [if_pos g]
      · rw [if_neg g, lose, if_neg (by omega)])
    refine ⟨m, ?_, hp2, OnlyP.refl _ _⟩
    show m_search_L55b F (m_search_L55 F k) (nI a) (nI q) (lN T) (nI 5) m = _
    unfold m_search_L55b
    have hle : sumN (lose p q (sg a (K q) 0 t x8 x9) (sg a (K q) 1 t x8 x9)) 720 ≤ T := by
      have := sum_lose (p := p) hq (sg16 a (K q) 0 t x8 x9) (sg16 a (K q) 1 t x8 x9)
      rw [hT, ← this]
      exact Nat.le_add_right _ _
    have hTA : T ≤ AL := by rw [hT]; exact hs
    have hall := m_allE F hF (show PM _ (sI m 4 q (nI (z + 1))) from hp2)
    generalize sumN (lose p q (sg a (K q) 0 t x8 x9) (sg a (K q) 1 t x8 x9)) 720 = W at hle hall ⊢
    unfold AL at hTA
    have hmul : (T - W) * 1000 ≤ 1099511627776 * 1000 := Nat.mul_le_mul_right 1000 (by omega)
    simp (disch := omega) only [fa_lit, fa_litL, leI, ltI, eqI, leL, ltL, eqL, cq_lt, cq_le, cq_gt, cq_ge, cq_eq, mulI, nI_add, lN_add, lN_mul, inb_iff, cl_nI, i2lN, l2iN, hz, hall, gB2_mk, subL]
    simp only [if_pos (show 5 ≤ 5 by omega), if_pos hq, hall, gB2_mk]
    simp only [subL hle, lN_mul, if_neg (show ¬ T = 0 by omega)]
    rw [divL (by omega) (by omega) (by omega), l2iN]
  | succ d ih =>
    intro i k m hi hk hl hm hz hp
    obtain ⟨k, rfl⟩ : ∃ z, k = z + 1 := ⟨k - 1, by omega⟩
    have hv : m.2 9 (5 * q + i) = lN (p (5 * q + i)) := by
      rw [hp _ (by omega)]
      exact congrArg lN (if_neg (by omega))
    have hx : ∀ w, w ≤ 1 → m_search_J98 F (m_search_L55 F k) (nI a) (nI q) (lN T) (nI i) (nI (5 * q + i)) (lN (p (5 * q + i))) (lN (p (5 * q + i))) (nI a) (nI q) (nI w) m = m_search_L55 F k (nI a) (nI q) (lN T) (nI (i + 1)) (sJ m 9 (5 * q + i) (lN (p (5 * q + i) - p (5 * q + i) * (sg a (K q) w t x8 x9) / 16))) := by
      intro w hw
      have h1 := sg_le a (K q) w t x8 x9
      have h2 := mul16 (p_le (show 5 * q + i < 720 by omega) hs) (sg16 a (K q) w t x8 x9)
      have h3 := le16 (a := p (5 * q + i)) (sg16 a (K q) w t x8 x9)
      unfold m_search_J98
      rw [hm, hl.sixt hb F ha hq hw ht, gB2_mk]
      simp (disch := omega) only [fa_lit, fa_litL, leI, ltI, eqI, leL, ltL, eqL, cq_lt, cq_le, cq_gt, cq_ge, cq_eq, mulI, nI_add, lN_add, lN_mul, inb_iff, cl_nI, i2lN, l2iN, div16, subL]
      rw [if_pos (by omega)]
    have e : m_search_L55 F (k + 1) (nI a) (nI q) (lN T) (nI i) m = m_search_L55 F k (nI a) (nI q) (lN T) (nI (i + 1)) (sJ m 9 (5 * q + i) (lN (lose p q (sg a (K q) 0 t x8 x9) (sg a (K q) 1 t x8 x9) (5 * q + i)))) := by
      show m_search_L55b F (m_search_L55 F k) (nI a) (nI q) (lN T) (nI i) m = _
      unfold m_search_L55b
      simp (disch := omega) only [fa_lit, fa_litL, leI, ltI, eqI, leL, ltL, eqL, cq_lt, cq_le, cq_gt, cq_ge, cq_eq, mulI, nI_add, lN_add, lN_mul, inb_iff, cl_nI, i2lN, l2iN, hv]
      simp only [if_neg (show ¬ 5 ≤ i by omega), if_pos (show 5 * q + i < 720 by omega), hv, hx 1 (by omega), hx 0 (by omega)]
      unfold lose
      rw [if_pos (show (5 * q + i) / 5 = q by omega)]
      by_cases h4 : i = 4
      · rw [if_pos h4, if_pos (show (5 * q + i) % 5 = 4 by omega)]
      · rw [if_neg h4, if_neg (show ¬ (5 * q + i) % 5 = 4 by omega)]
    rw [e]
    obtain ⟨m', h1, h2, h3⟩ := ih (i + 1) k (sJ m 9 (5 * q + i) (lN (lose p q (sg a (K q) 0 t x8 x9) (sg a (K q) 1 t x8 x9) (5 * q + i)))) (by omega) (by omega) (hl.of rfl) hm hz ((hp.put (k := 5 * q + i) (v := lose p q (sg a (K q) 0 t x8 x9) (sg a (K q) 1 t x8 x9) (5 * q + i))).cong (fun j hj => by
      simp only [pput]
      by_cases e : j = 5 * q + i
      · rw [if_pos e, if_pos (show 5 * q ≤ j ∧ j < 5 * q + (i + 1) by omega), e]
      · rw [if_neg e]
        by_cases g : 5 * q ≤ j ∧ j < 5 * q + i
        · rw [if_pos g, if_pos (show 5 * q ≤ j ∧ j < 5 * q + (i + 1) by omega)]
        · rw [if_neg g, if_neg (show ¬ (5 * q ≤ j ∧ j < 5 * q + (i + 1)) by omega)]))
    exact ⟨m', h1, h2, (OnlyP.sJ m (by decide) _ _).trans h3⟩
theorem p_search {n : Nat} {c m : St} (R : Rel n c m) (hn : n ≤ 64) (F : Nat) (hF : 3000 ≤ F) (a b : Int32) : Same Rel n (c_search F a b c) (m_search F a b m) := by
  obtain ⟨p, hc, hm, hs⟩ := R.1.pp
  have eA := c_all F hF hc
  have eB := m_allE F hF hm
  unfold c_search c_search_J14 m_search m_search_J14
  simp only [gB2_mk, gB_mk, bz_ite, bz_01, gB2_id, c_isCell_eq, c_isKind_eq, c_isSort_eq, c_isPart_eq, c_Sheets_isSheet_eq, c_Sheets_isLane_eq, m_isCell_eq, m_isKind_eq, m_isSort_eq, m_isSheet_eq, m_isLane_eq, c_isIn_eq, m_in_0_0, m_in_0_1, m_in_0_2, m_in_0_3, m_in_0_5, m_in_0_7, m_in_0_8, m_in_0_9, m_in_0_11, m_in_0_15, m_in_0_16, m_in_0_99, m_in_0_143, m_in_0_999, m_in_1_4, m_in_1_8, m_in_1_9, m_in_1_60, m_in_m1_3, m_in_m1_5, c_out, eA, eB]
  by_cases h1 : (0 : Int32) ≤ a ∧ a ≤ 3
  case neg =>
    simp only [if_neg h1]
    exact (ref_t R F ok1).same
  simp only [if_pos h1]
  obtain ⟨i, -, i_hi, rfl⟩ := in_nat (lo := 0) (hi := 3) (by decide) h1 (by decide)
  by_cases h2 : (0 : Int32) ≤ b ∧ b ≤ 143
  case neg =>
    simp only [if_neg h2]
    exact (ref_t R F ok1).same
  simp only [if_pos h2]
  obtain ⟨q, -, q_hi, rfl⟩ := in_nat (lo := 0) (hi := 143) (by decide) h2 (by decide)
  have hq : q < 144 := by omega
  rcases R.minuteV.out with ⟨e1, e2⟩ | ⟨t, ht, e1, e2, e3⟩
  · simp only [if_neg e1, if_neg e2]
    exact (ref_t R F ok2).same
  simp only [e1, e2, if_pos e3]
  by_cases h0 : sumN p 720 = 0
  · have k1 : ¬ 0 < lg_cmp (lN (sumN p 720)) 0 := by rw [h0]; decide
    have k2 : lg_cmp (lN (sumN p 720)) 0 = 0 := by rw [h0]; decide
    rw [if_neg k1, if_pos k2]
    exact (ref_t R F ok4).same
  obtain ⟨K, x8, x9, hlc, hlm, hlb⟩ := R.law
  obtain ⟨z, hz, z1, z2⟩ := R.1.searched q hq
  obtain ⟨c', y1, y2, y3⟩ := c_lookE F hF hc hs hlc hlb i_hi hq (show t ≤ 100000 by omega) e1 z1
  obtain ⟨m', w1, w2, w3⟩ := m_search_lp F hF hs hlb i_hi hq (show t ≤ 100000 by omega) rfl (by omega) 5 0 F m rfl (by omega) hlm e2 z2 (hm.cong (fun j hj => by rw [if_neg (show ¬ (5 * q ≤ j ∧ j < 5 * q + 0) by omega)]))
  have hse := sum_lose (p := p) hq (sg16 i (K q) 0 t x8 x9) (sg16 i (K q) 1 t x8 x9)
  have hsl : sumN (lose p q (sg i (K q) 0 t x8 x9) (sg i (K q) 1 t x8 x9)) 720 ≤ AL := Nat.le_trans (by rw [← hse]; exact Nat.le_add_right _ _) hs
  have R2 := ((R.parts y3 w3 y2 w2 hsl).mono).set_searched (j := q) (k := z + 1) hq (by omega)
  have hTA : sumN p 720 ≤ AL := hs
  have hS : seenS p K x8 x9 i q t = sumN p 720 - sumN (lose p q (sg i (K q) 0 t x8 x9) (sg i (K q) 1 t x8 x9)) 720 := by
    unfold seenS
    rw [← hse]
    omega
  rw [y1, show m_search_L55 F F (nI i) (nI q) (lN (sumN p 720)) 0 m = _ from w1]
  rw [hS]
  generalize sumN (lose p q (sg i (K q) 0 t x8 x9) (sg i (K q) 1 t x8 x9)) 720 = W at *
  generalize sumN p 720 = T at *
  unfold AL at hTA
  have k1 : 0 < lg_cmp (lN T) 0 := by
    simp (disch := omega) only [fa_lit, fa_litL, leI, ltI, eqI, leL, ltL, eqL, cq_lt, cq_le, cq_gt, cq_ge, cq_eq, mulI, nI_add, lN_add, lN_mul, inb_iff, cl_nI, i2lN, l2iN]
    omega
  have k2 : ¬ lg_cmp (lN T) 0 = 0 := by
    simp (disch := omega) only [fa_lit, fa_litL, leI, ltI, eqI, leL, ltL, eqL, cq_lt, cq_le, cq_gt, cq_ge, cq_eq, mulI, nI_add, lN_add, lN_mul, inb_iff, cl_nI, i2lN, l2iN]
    exact h0
  rw [if_pos k1, if_neg k2, gB2_mk, thou (by omega) (by omega) (by omega)]
  exact ⟨_, _, _, rfl, rfl, R2⟩
