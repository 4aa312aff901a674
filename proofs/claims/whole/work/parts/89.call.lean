/-! the pure part: again, call, truly -/
theorem m_isCall_eq (F : Nat) (a b v : Int32) (s : St) : m_isCall F a b v s = some (bz ((0 ≤ a ∧ a ≤ 143) ∧ (0 ≤ b ∧ b ≤ 9) ∧ (0 ≤ v ∧ v ≤ 15)), s) := by
  unfold m_isCall m_isCall_J35
  simp only [gB2_mk, gB_mk, bz_ite, bz_01, gB2_id, c_isCell_eq, c_isKind_eq, c_isSort_eq, c_isPart_eq, c_Sheets_isSheet_eq, c_Sheets_isLane_eq, m_isCell_eq, m_isKind_eq, m_isSort_eq, m_isSheet_eq, m_isLane_eq, c_isIn_eq, m_in_0_0, m_in_0_1, m_in_0_2, m_in_0_3, m_in_0_5, m_in_0_7, m_in_0_8, m_in_0_9, m_in_0_11, m_in_0_15, m_in_0_16, m_in_0_99, m_in_0_143, m_in_0_999, m_in_1_4, m_in_1_8, m_in_1_9, m_in_1_60, m_in_m1_3, m_in_m1_5]
  by_cases a1 : (0 : Int32) ≤ a ∧ a ≤ 143
  · by_cases a2 : (0 : Int32) ≤ b ∧ b ≤ 9
    · by_cases a3 : (0 : Int32) ≤ v ∧ v ≤ 15
      · rw [if_pos a1, if_pos a2, if_pos a3, bz_t ⟨a1, a2, a3⟩]
      · rw [if_pos a1, if_pos a2, if_neg a3, bz_f (fun h => a3 h.2.2)]
    · rw [if_pos a1, if_neg a2, bz_f (fun h => a2 h.2.1)]
  · rw [if_neg a1, bz_f (fun h => a1 h.1)]
def farS (p : Nat → Nat) (q dd v n : Nat) : Nat → Nat := fun j => if j < n ∧ near dd q (j / 5) = false then p j * v / 16 else p j
theorem c_doubt_in (F : Nat) {p : Nat → Nat} {q x v dd : Nat} (k3 : Int32 → Int32 → Int32 → Int32 → St → Option St) (hs : sumN p 720 ≤ AL) (hx : x < 144) (hv : v ≤ 16) : ∀ (d i k : Nat) (s : St), i + d = 4 → d < k → PC (fun j => if 5 * x ≤ j ∧ j < 5 * x + i then p j * v / 16 else p j) s → ∃ s', c_Night_doubtFarther_L48 F k3 k (nI q) (nI dd) (nI v) (nI x) (nI i) s = k3 (nI q) (nI dd) (nI v) (nI (x + 1)) s' ∧ PC (fun j => if 5 * x ≤ j ∧ j < 5 * x + 4 then p j * v / 16 else p j) s' ∧ OnlyP kC s s' := by
  intro d
  induction d with
  | zero =>
    intro i k s hi hk hp
    obtain ⟨k, rfl⟩ : ∃ z, k = z + 1 := ⟨k - 1, by omega⟩
    have hi4 : i = 4 := by omega
    subst hi4
    refine ⟨s, ?_, hp, OnlyP.refl _ _⟩
    show c_Night_doubtFarther_L48b F k3 (c_Night_doubtFarther_L48 F k3 k) (nI q) (nI dd) (nI v) (nI x) (nI 4) s = _
    unfold c_Night_doubtFarther_L48b c_Night_doubtFarther_J90
    simp (disch := omega) only [fa_lit, fa_litL, leI, ltI, eqI, leL, ltL, eqL, cq_lt, cq_le, cq_gt, cq_ge, cq_eq, mulI, nI_add, lN_add, lN_mul, inb_iff, cl_nI, i2lN, l2iN]
    rw [if_pos (Nat.le_refl 4)]
  | succ d ih =>
    intro i k s hi hk hp
    obtain ⟨k, rfl⟩ : ∃ z, k = z + 1 := ⟨k - 1, by omega⟩
    have hb := mul16 (p_le (show 5 * x + i < 720 by omega) hs) hv
    have hv2 : s.2 10 (4 * x + i) = lN (p (5 * x + i)) := by
      rw [(hp x hx).1 i (by omega)]
      exact congrArg lN (if_neg (by omega))
    have e : c_Night_doubtFarther_L48 F k3 (k + 1) (nI q) (nI dd) (nI v) (nI x) (nI i) s = c_Night_doubtFarther_L48 F k3 k (nI q) (nI dd) (nI v) (nI x) (nI (i + 1)) (sJ s 10 (4 * x + i) (lN (p (5 * x + i) * v / 16))) := by
      show c_Night_doubtFarther_L48b F k3 (c_Night_doubtFarther_L48 F k3 k) (nI q) (nI dd) (nI v) (nI x) (nI i) s = _
      unfold c_Night_doubtFarther_L48b
      simp (disch := omega) only [fa_lit, fa_litL, leI, ltI, eqI, leL, ltL, eqL, cq_lt, cq_le, cq_gt, cq_ge, cq_eq, mulI, nI_add, lN_add, lN_mul, inb_iff, cl_nI, i2lN, l2iN, show x * 4 + i = 4 * x + i by omega, hv2, div16]
      simp only [if_neg (show ¬ 4 ≤ i by omega), if_pos (show 4 * x + i < 576 by omega)]
    rw [e]
    obtain ⟨s', h1, h2, h3⟩ := ih (i + 1) k _ (by omega) (by omega) ((hp.put10 (q := x) (s := i) (v := p (5 * x + i) * v / 16) (by omega)).cong (fun j hj => by
      simp only [pput]
      by_cases e : j = 5 * x + i
      · rw [if_pos e, if_pos (show 5 * x ≤ j ∧ j < 5 * x + (i + 1) by omega), e]
      · rw [if_neg e]
        by_cases g : 5 * x ≤ j ∧ j < 5 * x + i
        · rw [if_pos g, if_pos (show 5 * x ≤ j ∧ j < 5 * x + (i + 1) by omega)]
        · rw [if_neg g, if_neg (show ¬ (5 * x ≤ j ∧ j < 5 * x + (i + 1)) by omega)]))
    exact ⟨s', h1, h2, (OnlyP.sJ s (by decide) _ _).trans h3⟩
theorem farS_le (p : Nat → Nat) {q dd v n : Nat} (hv : v ≤ 16) (j : Nat) : farS p q dd v n j ≤ p j := by
  unfold farS
  split
  · exact le16 hv
  · exact Nat.le_refl _
theorem c_doubt_lp (F : Nat) (hF : 3000 ≤ F) {p : Nat → Nat} {q v dd : Nat} (hs : sumN p 720 ≤ AL) (hq : q < 144) (hdd : dd ≤ 9) (hv : v ≤ 16) : ∀ (d i k : Nat) (s : St), i + d = 144 → d < k → PC (farS p q dd v (5 * i)) s → ∃ s', c_Night_doubtFarther_L3 F k (nI q) (nI dd) (nI v) (nI i) s = some s' ∧ PC (farS p q dd v 720) s' ∧ OnlyP kC s s' := by
  intro d
  induction d with
  | zero =>
    intro i k s hi hk hp
    obtain ⟨k, rfl⟩ : ∃ z, k = z + 1 := ⟨k - 1, by omega⟩
    have hi4 : i = 144 := by omega
    subst hi4
    refine ⟨s, ?_, hp, OnlyP.refl _ _⟩
    show c_Night_doubtFarther_L3b F (c_Night_doubtFarther_L3 F k) (nI q) (nI dd) (nI v) (nI 144) s = _
    unfold c_Night_doubtFarther_L3b
    simp (disch := omega) only [fa_lit, fa_litL, leI, ltI, eqI, leL, ltL, eqL, cq_lt, cq_le, cq_gt, cq_ge, cq_eq, mulI, nI_add, lN_add, lN_mul, inb_iff, cl_nI, i2lN, l2iN]
    rw [if_pos (Nat.le_refl 144)]
  | succ d ih =>
    intro i k s hi hk hp
    obtain ⟨k, rfl⟩ : ∃ z, k = z + 1 := ⟨k - 1, by omega⟩
    have hx : i < 144 := by omega
    have hsf : sumN (farS p q dd v (5 * i)) 720 ≤ AL := Nat.le_trans (sumN_le (fun j _ => farS_le p hv j)) hs
    have hpi : ∀ j, 5 * i ≤ j → farS p q dd v (5 * i) j = p j := fun j hj => by
      unfold farS
      rw [if_neg (by omega)]
    show ∃ s', c_Night_doubtFarther_L3b F (c_Night_doubtFarther_L3 F k) (nI q) (nI dd) (nI v) (nI i) s = some s' ∧ _
    unfold c_Night_doubtFarther_L3b
    rw [c_near F s hq hx hdd, gB2_mk, bz_ite]
    simp (disch := omega) only [fa_lit, fa_litL, leI, ltI, eqI, leL, ltL, eqL, cq_lt, cq_le, cq_gt, cq_ge, cq_eq, mulI, nI_add, lN_add, lN_mul, inb_iff, cl_nI, i2lN, l2iN, (hp i hx).2, hpi]
    simp only [if_neg (show ¬ 144 ≤ i by omega), if_pos hx]
    cases hn : near dd q i with
    | true =>
      simp only [if_true, c_Night_doubtFarther_J90]
      simp (disch := omega) only [fa_lit, fa_litL, leI, ltI, eqI, leL, ltL, eqL, cq_lt, cq_le, cq_gt, cq_ge, cq_eq, mulI, nI_add, lN_add, lN_mul, inb_iff, cl_nI, i2lN, l2iN]
      exact ih (i + 1) k s (by omega) (by omega) (hp.cong (fun j hj => by
        unfold farS
        by_cases g : j < 5 * i
        · by_cases g2 : near dd q (j / 5) = false
          · rw [if_pos ⟨g, g2⟩, if_pos ⟨by omega, g2⟩]
          · rw [if_neg (fun h => g2 h.2), if_neg (fun h => g2 h.2)]
        · rw [if_neg (fun h => g h.1)]
          by_cases g3 : j < 5 * (i + 1)
          · rw [if_neg (fun h => by rw [show j / 5 = i by omega, hn] at h; exact absurd h.2 (by decide))]
          · rw [if_neg (fun h => g3 h.1)]))
    | false =>
      simp only [Bool.false_eq_true, if_false]
      have hb := mul16 (p_le (show 5 * i + 4 < 720 by omega) hs) hv
      rw [div16 hb]
      have hput := hp.put11 (q := i) (v := p (5 * i + 4) * v / 16)
      have hsf2 : sumN (pput (farS p q dd v (5 * i)) (5 * i + 4) (p (5 * i + 4) * v / 16)) 720 ≤ AL := Nat.le_trans (sumN_le (fun j _ => by
        simp only [pput]
        split
        · rename_i e
          rw [e]
          exact le16 hv
        · exact farS_le p hv j)) hs
      obtain ⟨s1, y1, y2, y3⟩ := c_doubt_in F (q := q) (dd := dd) (c_Night_doubtFarther_L3 F k) hsf2 hx hv 4 0 F _ rfl (by omega) (hput.cong (fun j hj => by rw [if_neg (show ¬ (5 * i ≤ j ∧ j < 5 * i + 0) by omega)]))
      obtain ⟨s', z1, z2, z3⟩ := ih (i + 1) k s1 (by omega) (by omega) (y2.cong (fun j hj => by
        simp only [pput, farS]
        by_cases g4 : j = 5 * i + 4
        · rw [if_neg (show ¬ (5 * i ≤ j ∧ j < 5 * i + 4) by omega), if_pos g4, if_pos ⟨by omega, by rw [show j / 5 = i by omega]; exact hn⟩, g4]
        · by_cases g : 5 * i ≤ j ∧ j < 5 * i + 4
          · rw [if_pos g, if_neg g4, if_neg (show ¬ (j < 5 * i ∧ near dd q (j / 5) = false) by omega), if_pos ⟨by omega, by rw [show j / 5 = i by omega]; exact hn⟩]
          · rw [if_neg g, if_neg g4]
            by_cases g2 : near dd q (j / 5) = false
            · by_cases g5 : j < 5 * i
              · rw [if_pos ⟨g5, g2⟩, if_pos ⟨by omega, g2⟩]
              · rw [if_neg (fun h => g5 h.1), if_neg (fun h => by have := h.1; omega)]
            · rw [if_neg (fun h => g2 h.2), if_neg (fun h => g2 h.2)]))
      exact ⟨s', y1.trans z1, z2, ((OnlyP.sJ s (by decide) _ _).trans y3).trans z3⟩
theorem m_call_lp (F : Nat) (hF : 3000 ≤ F) {p : Nat → Nat} {q v dd T : Nat} (hs : sumN p 720 ≤ AL) (hq : q < 144) (hdd : dd ≤ 9) (hv : v ≤ 15) (hT0 : 0 < T) (hTA : T ≤ AL) : ∀ (d i k : Nat) (m : St), i + d = 720 → d < k → PM (farS p q dd (16 - v) i) m → ∃ m', m_call_L52 F k (nI q) (nI dd) (nI v) (lN T) (nI i) m = some (nI (sumN (farS p q dd (16 - v) 720) 720 * 1000 / T), m') ∧ PM (farS p q dd (16 - v) 720) m' ∧ OnlyP kM m m' := by
  intro d
  induction d with
  | zero =>
    intro i k m hi hk hp
    obtain ⟨k, rfl⟩ : ∃ z, k = z + 1 := ⟨k - 1, by omega⟩
    have hi5 : i = 720 := by omega
    subst hi5
    refine ⟨m, ?_, hp, OnlyP.refl _ _⟩
    show m_call_L52b F (m_call_L52 F k) (nI q) (nI dd) (nI v) (lN T) (nI 720) m = _
    unfold m_call_L52b
    have hall := m_allE F hF hp
    have hle : sumN (farS p q dd (16 - v) 720) 720 ≤ AL := Nat.le_trans (sumN_le (fun j _ => farS_le p (by omega) j)) hs
    rw [hall]
    generalize sumN (farS p q dd (16 - v) 720) 720 = W at hle ⊢
    unfold AL at hTA hle
    have hmul : W * 1000 ≤ 1099511627776 * 1000 := Nat.mul_le_mul_right 1000 hle
    simp (disch := omega) only [fa_lit, fa_litL, leI, ltI, eqI, leL, ltL, eqL, cq_lt, cq_le, cq_gt, cq_ge, cq_eq, mulI, nI_add, lN_add, lN_mul, inb_iff, cl_nI, i2lN, l2iN, gB2_mk]
    simp only [if_pos (Nat.le_refl 720), if_neg (show ¬ T = 0 by omega)]
    rw [divL (by omega) (by omega) (by omega), l2iN]
  | succ d ih =>
    intro i k m hi hk hp
    obtain ⟨k, rfl⟩ : ∃ z, k = z + 1 := ⟨k - 1, by omega⟩
    have hvi : m.2 9 i = lN (p i) := by
      rw [hp _ (by omega), farS, if_neg (by omega)]
    have hb := mul16 (p_le (show i < 720 by omega) hs) (show 16 - v ≤ 16 by omega)
    have h5 : nI i / nI 5 = nI (i / 5) := divI (by omega) (by decide) (by decide)
    have hq5 : i / 5 < 144 := by omega
    have e : m_call_L52 F (k + 1) (nI q) (nI dd) (nI v) (lN T) (nI i) m = m_call_L52 F k (nI q) (nI dd) (nI v) (lN T) (nI (i + 1)) (sJ m 9 i (lN (if near dd q (i / 5) = true then p i else p i * (16 - v) / 16))) := by
      show m_call_L52b F (m_call_L52 F k) (nI q) (nI dd) (nI v) (lN T) (nI i) m = _
      unfold m_call_L52b m_call_J105
      rw [show (5 : Int32) = nI 5 from rfl, h5, m_apart_eq F m hq5 hq, gB2_mk]
      simp only [apart_near hq5 hq hdd]
      simp (disch := omega) only [fa_lit, fa_litL, leI, ltI, eqI, leL, ltL, eqL, cq_lt, cq_le, cq_gt, cq_ge, cq_eq, mulI, nI_add, lN_add, lN_mul, inb_iff, cl_nI, i2lN, l2iN, hvi, subI, div16]
      simp only [if_neg (show ¬ 720 ≤ i by omega), if_pos (show i < 720 by omega)]
      cases near dd q (i / 5) with
      | true => simp only [if_true]
      | false => simp only [Bool.false_eq_true, if_false]
    rw [e]
    obtain ⟨m', h1, h2, h3⟩ := ih (i + 1) k _ (by omega) (by omega) ((hp.put (k := i) (v := if near dd q (i / 5) = true then p i else p i * (16 - v) / 16)).cong (fun j hj => by
      simp only [pput, farS]
      by_cases e : j = i
      · rw [if_pos e, e]
        cases hn : near dd q (i / 5) with
        | true => rw [if_pos rfl, if_neg (fun h => absurd h.2 (by decide))]
        | false => rw [if_neg (by decide), if_pos ⟨by omega, rfl⟩]
      · rw [if_neg e]
        by_cases g2 : near dd q (j / 5) = false
        · by_cases g5 : j < i
          · rw [if_pos ⟨g5, g2⟩, if_pos ⟨by omega, g2⟩]
          · rw [if_neg (fun h => g5 h.1), if_neg (fun h => by have := h.1; omega)]
        · rw [if_neg (fun h => g2 h.2), if_neg (fun h => g2 h.2)]))
    exact ⟨m', h1, h2, (OnlyP.sJ m (by decide) _ _).trans h3⟩
theorem p_call {n : Nat} {c m : St} (R : Rel n c m) (F : Nat) (hF : 3000 ≤ F) (a b v : Int32) : SameR n (c_call F a b v c) (m_call F a b v m) := by
  obtain ⟨p, hc, hm, hs⟩ := R.1.pp
  have eA := c_all F hF hc
  have eB := m_allE F hF hm
  unfold c_call c_call_J27 m_call c_Night_doubtFarther
  simp only [gB2_mk, gB_mk, bz_ite, bz_01, gB2_id, c_isCell_eq, c_isKind_eq, c_isSort_eq, c_isPart_eq, c_Sheets_isSheet_eq, c_Sheets_isLane_eq, m_isCell_eq, m_isKind_eq, m_isSort_eq, m_isSheet_eq, m_isLane_eq, c_isIn_eq, m_in_0_0, m_in_0_1, m_in_0_2, m_in_0_3, m_in_0_5, m_in_0_7, m_in_0_8, m_in_0_9, m_in_0_11, m_in_0_15, m_in_0_16, m_in_0_99, m_in_0_143, m_in_0_999, m_in_1_4, m_in_1_8, m_in_1_9, m_in_1_60, m_in_m1_3, m_in_m1_5, c_out, eA, eB, m_isCall_eq]
  by_cases h1 : (0 : Int32) ≤ a ∧ a ≤ 143
  case neg =>
    simp only [if_neg h1, if_neg (show ¬ ((0 ≤ a ∧ a ≤ 143) ∧ (0 ≤ b ∧ b ≤ 9) ∧ (0 ≤ v ∧ v ≤ 15)) from fun h => h1 h.1)]
    exact ref_t R F ok1
  by_cases h2 : (0 : Int32) ≤ b ∧ b ≤ 9
  case neg =>
    simp only [if_pos h1, if_neg h2, if_neg (show ¬ ((0 ≤ a ∧ a ≤ 143) ∧ (0 ≤ b ∧ b ≤ 9) ∧ (0 ≤ v ∧ v ≤ 15)) from fun h => h2 h.2.1)]
    exact ref_t R F ok1
  by_cases h3 : (0 : Int32) ≤ v ∧ v ≤ 15
  case neg =>
    simp only [if_pos h1, if_pos h2, if_neg h3, if_neg (show ¬ ((0 ≤ a ∧ a ≤ 143) ∧ (0 ≤ b ∧ b ≤ 9) ∧ (0 ≤ v ∧ v ≤ 15)) from fun h => h3 h.2.2)]
    exact ref_t R F ok1
  simp only [if_pos h1, if_pos h2, if_pos h3, if_pos (show ((0 ≤ a ∧ a ≤ 143) ∧ (0 ≤ b ∧ b ≤ 9) ∧ (0 ≤ v ∧ v ≤ 15)) from ⟨h1, h2, h3⟩)]
  obtain ⟨q, -, q_hi, rfl⟩ := in_nat (lo := 0) (hi := 143) (by decide) h1 (by decide)
  obtain ⟨dd, -, d_hi, rfl⟩ := in_nat (lo := 0) (hi := 9) (by decide) h2 (by decide)
  obtain ⟨w, -, w_hi, rfl⟩ := in_nat (lo := 0) (hi := 15) (by decide) h3 (by decide)
  have hq : q < 144 := by omega
  rcases R.minuteV.out with ⟨e1, e2⟩ | ⟨t, ht, e1, e2, e3⟩
  · simp only [if_neg e1, if_neg e2]
    exact ref_t R F ok2
  simp only [e1, e2, if_pos e3]
  by_cases h0 : sumN p 720 = 0
  · have k1 : ¬ 0 < lg_cmp (lN (sumN p 720)) 0 := by rw [h0]; decide
    have k2 : lg_cmp (lN (sumN p 720)) 0 = 0 := by rw [h0]; decide
    rw [if_neg k1, if_pos k2]
    exact ref_t R F ok4
  have hsub : (16 : Int32) - nI w = nI (16 - w) := by
    rw [show (16 : Int32) = nI 16 from rfl, subI (by omega)]
  obtain ⟨c', y1, y2, y3⟩ := c_doubt_lp F hF hs hq d_hi (show 16 - w ≤ 16 by omega) 144 0 F c rfl (by omega) (hc.cong (fun j hj => by rw [farS, if_neg (by omega)]))
  obtain ⟨m', w1, w2, w3⟩ := m_call_lp F hF hs hq d_hi w_hi (Nat.pos_of_ne_zero h0) hs 720 0 F m rfl (by omega) (hm.cong (fun j hj => by rw [farS, if_neg (by omega)]))
  have hsl : sumN (farS p q dd (16 - w) 720) 720 ≤ AL := Nat.le_trans (sumN_le (fun j _ => farS_le p (by omega) j)) hs
  have R2 := R.parts y3 w3 y2 w2 hsl
  have eC := c_all F hF y2
  rw [hsub, show c_Night_doubtFarther_L3 F F (nI q) (nI dd) (nI (16 - w)) 0 c = _ from y1, show m_call_L52 F F (nI q) (nI dd) (nI w) (lN (sumN p 720)) 0 m = _ from w1, gB_mk, eC]
  have hTA : sumN p 720 ≤ AL := hs
  generalize sumN (farS p q dd (16 - w) 720) 720 = W at *
  generalize sumN p 720 = T at *
  unfold AL at hTA hsl
  have k1 : 0 < lg_cmp (lN T) 0 := by
    simp (disch := omega) only [fa_lit, fa_litL, leI, ltI, eqI, leL, ltL, eqL, cq_lt, cq_le, cq_gt, cq_ge, cq_eq, mulI, nI_add, lN_add, lN_mul, inb_iff, cl_nI, i2lN, l2iN]
    omega
  have k2 : ¬ lg_cmp (lN T) 0 = 0 := by
    simp (disch := omega) only [fa_lit, fa_litL, leI, ltI, eqI, leL, ltL, eqL, cq_lt, cq_le, cq_gt, cq_ge, cq_eq, mulI, nI_add, lN_add, lN_mul, inb_iff, cl_nI, i2lN, l2iN]
    exact h0
  rw [if_pos k1, if_neg k2, gB2_mk, thou (by omega) (by omega) (by omega)]
  exact ⟨_, _, _, rfl, rfl, R2⟩
