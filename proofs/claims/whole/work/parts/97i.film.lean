/-! the pure part: sheets: film, copy -/
theorem Rel.items {n : Nat} {c m c' m' : St} (R : Rel n c m) (hc : OnlyP [77] c c') (hm : OnlyP [31, 32] m m') (hI : ∀ j, j < 96 → c'.2 77 j = m'.2 31 j) : Rel n c' m' := by
  obtain ⟨c1, c2⟩ := c
  obtain ⟨m1, m2⟩ := m
  obtain ⟨c1', c2'⟩ := c'
  obtain ⟨m1', m2'⟩ := m'
  obtain ⟨e1, f1⟩ := hc
  obtain ⟨e2, f2⟩ := hm
  simp only at e1 f1 e2 f2
  subst e1
  subst e2
  have v1 : vC (c1', c2') = vC (c1', c2) := by
    unfold vC
    simp only [f1 10 (by decide), f1 11 (by decide)]
  have v2 : vM (m1', m2') = vM (m1', m2) := by
    unfold vM
    simp only [f2 9 (by decide)]
  have v3 : vK (c1', c2') = vK (c1', c2) := by
    unfold vK
    simp only [f1 44 (by decide), f1 45 (by decide)]
  have v4 : vI (m1', m2') = vI (m1', m2) := by
    unfold vI
    simp only [f2 28 (by decide)]
  obtain ⟨h1, h2, h3, h4, h5, h6, h7, h8, h9⟩ := R
  unfold Rel
  rw [v1, v2, v3, v4]
  exact ⟨h1, h2, h3, h4, h5, h6, hI, h8, h9⟩
theorem PC.only77 {p : Nat → Nat} {c : St} (h : PC p c) {j : Nat} {x : Int64} : PC p (sJ c 77 j x) := fun q hq => by
  obtain ⟨a, b⟩ := h q hq
  rw [sJ2_ne (by decide), sJ2_ne (by decide)]
  exact ⟨a, b⟩
theorem PM.only31 {p : Nat → Nat} {c : St} (h : PM p c) {j : Nat} {x : Int64} : PM p (sJ c 31 j x) := fun q hq => by
  rw [sJ2_ne (by decide)]
  exact h q hq
theorem film_lp (F : Nat) (hF : 3000 ≤ F) {n q r v T : Nat} {x : Int32} {p : Nat → Nat} (hq : q < 4) (hr : r ≤ 11) (hv : v + 12 ≤ 24) (hT : T = sumN p 720) (h0 : 0 < T) (hs : T ≤ AL) : ∀ (d i f g : Nat) (c m : St), i + d = 12 → d < f → d < g → Rel n c m → PC p c → PM p m → c.1 78 q = x → m.1 29 q = x → ∃ c' m', c_film_L86 F f (nI r) (nI q) (nI v) (lN T) (nI i) c = some (12, c') ∧ m_film_L79 F g (nI r) (nI q) (nI v) (lN T) (nI i) m = some (12, m') ∧ Rel n c' m' := by
  have hAL : AL = 1099511627776 := rfl
  intro d
  induction d with
  | zero =>
    intro i f g c m hi hf hg R pc pm l1 l2
    obtain ⟨f, rfl⟩ : ∃ z, f = z + 1 := ⟨f - 1, by omega⟩
    obtain ⟨g, rfl⟩ : ∃ z, g = z + 1 := ⟨g - 1, by omega⟩
    have h12 : i = 12 := by omega
    subst h12
    refine ⟨c, m, ?_, ?_, R⟩
    · show c_film_L86b F (c_film_L86 F f) (nI r) (nI q) (nI v) (lN T) (nI 12) c = _
      unfold c_film_L86b
      rw [if_pos (show (12 : Int32) ≤ nI 12 by decide)]
    · show m_film_L79b F (m_film_L79 F g) (nI r) (nI q) (nI v) (lN T) (nI 12) m = _
      unfold m_film_L79b
      rw [if_pos (show (12 : Int32) ≤ nI 12 by decide)]
  | succ d ih =>
    intro i f g c m hi hf hg R pc pm l1 l2
    obtain ⟨f, rfl⟩ : ∃ z, f = z + 1 := ⟨f - 1, by omega⟩
    obtain ⟨g, rfl⟩ : ∃ z, g = z + 1 := ⟨g - 1, by omega⟩
    have hb := tg_le (p := p) (q := 12 * r + i) (by omega) (by omega)
    have hsub : tg p (12 * r + i) ≤ T := by
      rw [hT, sum_tg]
      exact sumN_one _ (by omega)
    have hle : tg p (12 * r + i) * 1000 / T ≤ 1000 := by
      apply Nat.le_of_lt_succ
      apply Nat.div_lt_of_lt_mul
      calc tg p (12 * r + i) * 1000 ≤ T * 1000 := Nat.mul_le_mul_right _ hsub
        _ < T * 1001 := by omega
    generalize hV : tg p (12 * r + i) * 1000 / T = V at *
    obtain ⟨c', m', y1, y2, y3⟩ := ih (i + 1) f g _ _ (by omega) (by omega) (by omega) (R.set_item (j := 24 * q + (v + i)) (x := cutL x (lN V))) pc.only77 pm.only31 l1 l2
    have g0 : ¬ (12 : Int32) ≤ nI i := by
      rw [show (12 : Int32) = nI 12 from rfl, leI (by omega) (by omega)]
      omega
    refine ⟨c', m', ?_, ?_, y3⟩
    · show c_film_L86b F (c_film_L86 F f) (nI r) (nI q) (nI v) (lN T) (nI i) c = _
      unfold c_film_L86b
      rw [if_neg g0, show (12 : Int32) = nI 12 from rfl, mulI, nI_add, show r * 12 + i = 12 * r + i by omega, c_tog F hF pc (by omega), gB2_mk, thou (by omega) h0 (by omega), gB2_mk, hV, nI_add, i2lN (by omega), c_put F hq (by omega) l1, gB_mk, show (1 : Int32) = nI 1 from rfl, nI_add]
      exact y1
    · show m_film_L79b F (m_film_L79 F g) (nI r) (nI q) (nI v) (lN T) (nI i) m = _
      unfold m_film_L79b
      have gT : ¬ lN T = 0 := by
        rw [show (0 : Int64) = lN 0 from rfl, eqL (by omega) (by omega)]
        omega
      rw [if_neg g0, show (12 : Int32) = nI 12 from rfl, mulI, nI_add, m_tog F hF pm (by omega), gB2_mk, if_neg gT, show (1000 : Int64) = lN 1000 from rfl, lN_mul, divL (by omega) h0 (by omega), hV, nI_add, m_put F hq (by omega) l2, gB_mk, show (1 : Int32) = nI 1 from rfl, nI_add]
      exact y2
theorem p_film {n : Nat} {c m : St} (R : Rel n c m) (F : Nat) (hF : 3000 ≤ F) (a b v w : Int32) : SameR n (c_film F a b v w c) (m_film F a b v w m) := by
  have hAL : AL = 1099511627776 := rfl
  unfold c_film c_film_J24 m_film m_film_J26
  simp only [gB2_mk, gB_mk, bz_ite, bz_01, gB2_id, c_isCell_eq, c_isKind_eq, c_isSort_eq, c_isPart_eq, c_Sheets_isSheet_eq, c_Sheets_isLane_eq, m_isCell_eq, m_isKind_eq, m_isSort_eq, m_isSheet_eq, m_isLane_eq, c_isIn_eq, m_in_0_0, m_in_0_1, m_in_0_2, m_in_0_3, m_in_0_5, m_in_0_7, m_in_0_8, m_in_0_9, m_in_0_11, m_in_0_15, m_in_0_16, m_in_0_99, m_in_0_143, m_in_0_999, m_in_1_4, m_in_1_8, m_in_1_9, m_in_1_60, m_in_m1_3, m_in_m1_5]
  by_cases h1 : (0 : Int32) ≤ a ∧ a ≤ 11
  case neg =>
    simp only [if_neg h1]
    exact ref_t R F ok1
  simp only [if_pos h1]
  obtain ⟨r, r_lo, r_hi, rfl⟩ := in_nat (lo := 0) (hi := 11) (by decide) h1 (by decide)
  by_cases h2 : (0 : Int32) ≤ b ∧ b ≤ 3
  case neg =>
    simp only [if_neg h2]
    exact ref_t R F ok1
  simp only [if_pos h2]
  obtain ⟨q, q_lo, q_hi, rfl⟩ := in_nat (lo := 0) (hi := 3) (by decide) h2 (by decide)
  by_cases h3 : (0 : Int32) ≤ v ∧ v ≤ 3
  case neg =>
    simp only [if_neg h3]
    exact ref_t R F ok1
  simp only [if_pos h3]
  obtain ⟨l, l_lo, l_hi, rfl⟩ := in_nat (lo := 0) (hi := 3) (by decide) h3 (by decide)
  obtain ⟨x, hx, l1, l2⟩ := R.lane (j := q) (by omega)
  obtain ⟨k, hk, s1, s2⟩ := R.size (j := q) (by omega)
  rw [c_wrongE F (by omega) hk l1 s1, m_whyE F (by omega) hk hx l2 s2 (by decide), gB2_mk, gB2_mk]
  rcases wrong_or (x := x) (b := nI l) (v := w) (w := 12) (k := k) with ⟨e, -, -, g⟩ | ⟨-, g, ok⟩
  · rw [e, if_pos (by decide), if_pos (by decide)]
    obtain ⟨w1, w2, w3⟩ := g
    rw [show (12 : Int32).toInt = 12 by decide] at w3
    obtain ⟨j, hj, rfl⟩ : ∃ j, j + 12 ≤ 24 ∧ w = nI j := ⟨w.toInt.toNat, by omega, by
      apply Int32.toInt_inj.mp
      rw [tI (by omega)]
      omega⟩
    obtain ⟨p, hc, hm, hs⟩ := R.1.pp
    rw [c_all F hF hc, m_allE F hF hm, gB2_mk, gB2_mk]
    generalize hT : sumN p 720 = T at *
    have k1 : (0 < lg_cmp (lN T) 0) = (0 < T) := by
      rw [cmp_gt, show (0 : Int64) = lN 0 from rfl, ltL (by omega) (by omega)]
    have k2 : (lg_cmp (lN T) 0 = 0) = (T = 0) := by
      rw [cmp_eq, show (0 : Int64) = lN 0 from rfl, eqL (by omega) (by omega)]
    by_cases h0 : 0 < T
    · rw [if_pos (k1.mpr h0), if_neg (fun e => by have := k2.mp e; omega)]
      obtain ⟨c', m', y1, y2, y3⟩ := film_lp F hF (v := j) (T := T) (show q < 4 by omega) r_hi hj hT.symm h0 hs 12 0 F F c m rfl (by omega) (by omega) R hc hm l1 l2
      rw [show c_film_L86 F F (nI r) (nI q) (nI j) (lN T) 0 c = some (12, c') from y1, show m_film_L79 F F (nI r) (nI q) (nI j) (lN T) 0 m = some (12, m') from y2]
      exact SameR.ret rfl y3
    · rw [if_neg (fun e => h0 (k1.mp e)), if_pos (k2.mpr (by omega))]
      exact ref_t R F ok4
  · rw [if_neg g, if_neg g]
    exact ref_t R F ok
theorem m_copy2 (F : Nat) {r w z : Nat} (hr : r < 4) (hw : w + z ≤ 24) : ∀ (d i f : Nat) (m : St), i + d = z → d < f → ∃ m', m_copy_L154 F f (nI r) (nI w) (nI z) (nI i) m = some (nI z, m') ∧ OnlyP [31, 32] m m' ∧ ∀ j, m'.2 31 j = if 24 * r + w + i ≤ j ∧ j < 24 * r + w + z then m.2 32 (j - (24 * r + w)) else m.2 31 j := by
  intro d
  induction d with
  | zero =>
    intro i f m hi hf
    obtain ⟨f, rfl⟩ : ∃ z, f = z + 1 := ⟨f - 1, by omega⟩
    refine ⟨m, ?_, OnlyP.refl _ _, fun j => by rw [if_neg (by omega)]⟩
    show m_copy_L154b F (m_copy_L154 F f) (nI r) (nI w) (nI z) (nI i) m = _
    unfold m_copy_L154b
    rw [if_pos (nI_le (by omega) (by omega))]
  | succ d ih =>
    intro i f m hi hf
    obtain ⟨f, rfl⟩ : ∃ z, f = z + 1 := ⟨f - 1, by omega⟩
    obtain ⟨m', y1, y2, y3⟩ := ih (i + 1) f (sJ m 31 (24 * r + w + i) (m.2 32 i)) (by omega) (by omega)
    refine ⟨m', ?_, (OnlyP.sJ m (by decide) _ _).trans y2, fun j => ?_⟩
    · show m_copy_L154b F (m_copy_L154 F f) (nI r) (nI w) (nI z) (nI i) m = _
      unfold m_copy_L154b
      have g0 : ¬ nI z ≤ nI i := by
        rw [leI (by omega) (by omega)]
        omega
      rw [if_neg g0, inb_nI (show i < 24 by omega) (by decide), if_pos rfl, show (24 : Int32) = nI 24 from rfl, mulI, nI_add, nI_add, inb_nI (show 24 * r + w + i < 96 by omega) (by decide), if_pos rfl, cl_nI (by omega), cl_nI (by omega), show (1 : Int32) = nI 1 from rfl, nI_add]
      exact y1
    · rw [y3 j, sJ2_eq, sJ2_ne (by decide)]
      by_cases e : j = 24 * r + w + i
      · subst e
        rw [if_neg (by omega), if_pos (by omega), updL_eq, show 24 * r + w + i - (24 * r + w) = i by omega]
      · rw [updL_ne e]
        by_cases h : 24 * r + w + (i + 1) ≤ j ∧ j < 24 * r + w + z
        · rw [if_pos h, if_pos (by omega)]
        · rw [if_neg h, if_neg (by omega)]
theorem m_copy1 (F : Nat) {q v r w z : Nat} (hq : q < 4) (hv : v + z ≤ 24) : ∀ (d i f : Nat) (m : St), i + d = z → d < f → ∃ m', m_copy_L117 F f (nI q) (nI v) (nI r) (nI w) (nI z) (nI i) m = m_copy_L154 F F (nI r) (nI w) (nI z) 0 m' ∧ OnlyP [32] m m' ∧ ∀ j, m'.2 32 j = if i ≤ j ∧ j < z then m.2 31 (24 * q + v + j) else m.2 32 j := by
  intro d
  induction d with
  | zero =>
    intro i f m hi hf
    obtain ⟨f, rfl⟩ : ∃ z, f = z + 1 := ⟨f - 1, by omega⟩
    refine ⟨m, ?_, OnlyP.refl _ _, fun j => by rw [if_neg (by omega)]⟩
    show m_copy_L117b F (m_copy_L117 F f) (nI q) (nI v) (nI r) (nI w) (nI z) (nI i) m = _
    unfold m_copy_L117b
    rw [if_pos (nI_le (by omega) (by omega))]
  | succ d ih =>
    intro i f m hi hf
    obtain ⟨f, rfl⟩ : ∃ z, f = z + 1 := ⟨f - 1, by omega⟩
    obtain ⟨m', y1, y2, y3⟩ := ih (i + 1) f (sJ m 32 i (m.2 31 (24 * q + v + i))) (by omega) (by omega)
    refine ⟨m', ?_, (OnlyP.sJ m (by decide) _ _).trans y2, fun j => ?_⟩
    · show m_copy_L117b F (m_copy_L117 F f) (nI q) (nI v) (nI r) (nI w) (nI z) (nI i) m = _
      unfold m_copy_L117b
      have g0 : ¬ nI z ≤ nI i := by
        rw [leI (by omega) (by omega)]
        omega
      rw [if_neg g0, inb_nI (show i < 24 by omega) (by decide), show (24 : Int32) = nI 24 from rfl, mulI, nI_add, nI_add, inb_nI (show 24 * q + v + i < 96 by omega) (by decide), if_pos rfl, if_pos rfl, cl_nI (by omega), cl_nI (by omega), show (1 : Int32) = nI 1 from rfl, nI_add]
      exact y1
    · rw [y3 j, sJ2_eq, sJ2_ne (by decide)]
      by_cases e : j = i
      · subst e
        rw [if_neg (by omega), if_pos (by omega), updL_eq]
      · rw [updL_ne e]
        by_cases h : i + 1 ≤ j ∧ j < z
        · rw [if_pos h, if_pos (by omega)]
        · rw [if_neg h, if_neg (by omega)]
theorem p_copy {n : Nat} {c m : St} (R : Rel n c m) (F : Nat) (hF : 3000 ≤ F) (a b v w z : Int32) : SameR n (c_copy F a b v w z c) (m_copy F a b v w z m) := by
  unfold c_copy c_copy_J14 c_copy_J42 c_copy_J97 c_Sheets_isThere c_Sheets_areAlike m_copy m_copy_J14 m_copy_J38 m_copy_J107
  simp only [gB2_mk, gB_mk, bz_ite, bz_01, gB2_id, c_isCell_eq, c_isKind_eq, c_isSort_eq, c_isPart_eq, c_Sheets_isSheet_eq, c_Sheets_isLane_eq, m_isCell_eq, m_isKind_eq, m_isSort_eq, m_isSheet_eq, m_isLane_eq, c_isIn_eq, m_in_0_0, m_in_0_1, m_in_0_2, m_in_0_3, m_in_0_5, m_in_0_7, m_in_0_8, m_in_0_9, m_in_0_11, m_in_0_15, m_in_0_16, m_in_0_99, m_in_0_143, m_in_0_999, m_in_1_4, m_in_1_8, m_in_1_9, m_in_1_60, m_in_m1_3, m_in_m1_5]
  by_cases h1 : (0 : Int32) ≤ a ∧ a ≤ 3
  case neg =>
    simp only [if_neg h1]
    exact ref_t R F ok1
  simp only [if_pos h1]
  obtain ⟨q, q_lo, q_hi, rfl⟩ := in_nat (lo := 0) (hi := 3) (by decide) h1 (by decide)
  by_cases h2 : (0 : Int32) ≤ v ∧ v ≤ 3
  case neg =>
    simp only [if_neg h2]
    exact ref_t R F ok1
  simp only [if_pos h2]
  obtain ⟨r, r_lo, r_hi, rfl⟩ := in_nat (lo := 0) (hi := 3) (by decide) h2 (by decide)
  simp (disch := omega) only [inb_nI, if_true, cl_nI]
  obtain ⟨x, hx, l1, l2⟩ := R.lane (j := q) (by omega)
  obtain ⟨k, hk, s1, s2⟩ := R.size (j := q) (by omega)
  obtain ⟨x', hx', l1', l2'⟩ := R.lane (j := r) (by omega)
  obtain ⟨k', hk', s1', s2'⟩ := R.size (j := r) (by omega)
  rw [l1, l2]
  rcases hx.or with ⟨g1, g2⟩ | ⟨g1, g2⟩
  · rw [if_pos g1, gB2_mk, if_pos rfl, if_pos (Int32.not_le.mp g2)]
    exact ref_t R F ok11
  rw [if_neg g1, gB2_mk, if_neg (show ¬ (1 : Int32) = 0 by decide), if_neg (Int32.not_lt.mpr g2), l1', l2']
  rcases hx'.or with ⟨g1', g2'⟩ | ⟨g1', g2'⟩
  · rw [if_pos g1', gB2_mk, if_pos rfl, if_neg g2']
    exact ref_t R F ok11
  rw [if_neg g1', gB2_mk, if_neg (show ¬ (1 : Int32) = 0 by decide), if_pos g2']
  rw [l1, l1']
  by_cases e : x = x'
  case neg =>
    rw [if_neg e, gB2_mk, if_pos rfl, if_neg e]
    exact ref_t R F ok12
  subst e
  rw [if_pos rfl, gB2_mk, if_neg (show ¬ (1 : Int32) = 0 by decide), if_pos rfl, c_hold F (by omega) hk s1, gB2_mk, bz_ite]
  by_cases h3 : z < 0
  · rw [if_pos h3, if_neg (fun h => by rw [Int32.lt_iff_toInt_lt, t0] at h3; have := h.1; omega)]
    exact ref_t R F ok13
  have h3' : 0 ≤ z := Int32.not_lt.mp h3
  rw [if_neg h3, m_whyE F (by omega) hk hx l2 s2 h3', gB2_mk, if_neg g1, if_pos rfl]
  by_cases h4 : hold b z k
  case neg =>
    rw [if_neg h4, if_neg h4, if_pos (by decide)]
    exact ref_t R F ok13
  rw [if_pos h4, if_pos h4, if_neg (by decide), l2', c_hold F (by omega) hk' s1', gB2_mk, bz_ite, m_whyE F (by omega) hk' hx' l2' s2' h3', gB2_mk, if_neg g1, if_pos rfl]
  by_cases h5 : hold w z k'
  case neg =>
    rw [if_neg h5, if_neg h5, if_neg (by decide)]
    exact ref_t R F ok13
  rw [if_pos h5, if_pos h5, if_pos (by decide)]
  obtain ⟨z1, b1, b2⟩ := h4
  obtain ⟨-, w1, w2⟩ := h5
  obtain ⟨j, hj, rfl⟩ : ∃ j : Nat, (j : Int) = b.toInt ∧ b = nI j := ⟨b.toInt.toNat, by omega, by
    apply Int32.toInt_inj.mp
    rw [tI (by omega)]
    omega⟩
  obtain ⟨i, hi, rfl⟩ : ∃ j : Nat, (j : Int) = w.toInt ∧ w = nI j := ⟨w.toInt.toNat, by omega, by
    apply Int32.toInt_inj.mp
    rw [tI (by omega)]
    omega⟩
  obtain ⟨y, hy, rfl⟩ : ∃ j : Nat, (j : Int) = z.toInt ∧ z = nI j := ⟨z.toInt.toNat, by omega, by
    apply Int32.toInt_inj.mp
    rw [tI (by omega)]
    omega⟩
  have n0 : ∀ k : Nat, k < 1000 → ¬ nI k < 0 := fun k hk => by
    rw [show (0 : Int32) = nI 0 from rfl, ltI (by omega) (by omega)]
    omega
  obtain ⟨m1, y1, y2, y3⟩ := m_copy1 F (q := q) (v := j) (r := r) (w := i) (z := y) (by omega) (by omega) y 0 F m (by omega) (by omega)
  obtain ⟨m2, u1, u2, u3⟩ := m_copy2 F (r := r) (w := i) (z := y) (by omega) (by omega) y 0 F m1 (by omega) (by omega)
  rw [show m_copy_L117 F F (nI q) (nI j) (nI r) (nI i) (nI y) 0 m = some (nI y, m2) from y1.trans u1]
  unfold c_Sheets_move
  rw [show (24 : Int32) = nI 24 from rfl, mulI, mulI, nI_add, nI_add, cl_nI (by omega), cl_nI (by omega), cl_nI (by omega), if_pos ⟨n0 _ (by omega), n0 _ (by omega), n0 _ (by omega), by omega, by omega⟩, gB_mk]
  refine SameR.ret rfl (R.items (c' := cpJ c 77 77 (q * 24 + j) (r * 24 + i) y) ⟨rfl, fun t ht => if_neg (fun e => ht (by rw [e]; decide))⟩ ?_ ?_)
  · exact ⟨u2.1.trans y2.1, fun t ht => (u2.2 t ht).trans (y2.2 t (fun e => ht (by rw [List.mem_singleton] at e; rw [e]; decide)))⟩
  · intro t ht
    show va_cpy (c.2 77) (c.2 77) (q * 24 + j) (r * 24 + i) y t = _
    unfold va_cpy
    have hJ : ∀ j, j < 96 → c.2 77 j = m.2 31 j := R.2.2.2.2.2.2.1
    rw [u3 t]
    by_cases h : r * 24 + i ≤ t ∧ t < r * 24 + i + y
    · rw [if_pos h, if_pos (by omega), y3, if_pos (by omega), hJ _ (by omega), show q * 24 + j + (t - (r * 24 + i)) = 24 * q + j + (t - (24 * r + i)) by omega]
    · rw [if_neg h, if_neg (by omega), y2.2 31 (by decide)]
      exact hJ t ht
