/-! the pure part: finds -/
def toldQ (T : Nat → Int64) (b f : Nat) : Bool := decide (toldP (T (b + 3 * f)) (T (b + 3 * f + 1)) (T (b + 3 * f + 2)))
theorem in_natL {x : Int64} {hi : Nat} (hhi : hi < 2 ^ 31) (h : (0 : Int64) ≤ x ∧ x ≤ lN hi) : ∃ k, k ≤ hi ∧ x = lN k := by
  obtain ⟨h1, h2⟩ := h
  rw [Int64.le_iff_toInt_le, show (0 : Int64).toInt = 0 from rfl] at h1
  rw [Int64.le_iff_toInt_le, lNt (by omega)] at h2
  refine ⟨x.toInt.toNat, by omega, ?_⟩
  apply Int64.toInt_inj.mp
  rw [lNt (by omega)]
  omega
theorem toldP.natL {a b v : Int64} (h : toldP a b v) : ∃ i j w, i ≤ 3 ∧ j ≤ 99 ∧ w ≤ 7 ∧ a = lN i ∧ b = lN j ∧ v = lN w := by
  obtain ⟨i, hi, e1⟩ := in_natL (hi := 3) (by decide) h.1
  obtain ⟨j, hj, e2⟩ := in_natL (hi := 99) (by decide) h.2.1
  obtain ⟨w, hw, e3⟩ := in_natL (hi := 7) (by decide) h.2.2
  exact ⟨i, j, w, hi, hj, hw, e1, e2, e3⟩
theorem c_atE (F : Nat) {c : St} {q j : Nat} (h : 24 * q + j < 96) : c_Sheets_at F (nI q) (nI j) c = some (c.2 77 (24 * q + j), c) := by
  unfold c_Sheets_at
  rw [show (24 : Int32) = nI 24 from rfl, mulI, nI_add, Nat.mul_comm q 24, inb_nI h (by decide), if_pos rfl, cl_nI (by omega)]
theorem c_told_lp (F : Nat) {T : Nat → Int64} {q v n : Nat} (hv : 24 * q + v + 3 * n ≤ 96) {c : St} (hT : ∀ j, j < 96 → c.2 77 j = T j) : ∀ (d i k : Nat), i + d = n → d < k → c_areFindsAsTold_L3 F k (nI q) (nI v) (nI n) (nI i) c = some (bz (allF (toldQ T (24 * q + v)) i d = true), c) := by
  intro d
  induction d with
  | zero =>
    intro i k hi hk
    obtain ⟨k, rfl⟩ : ∃ z, k = z + 1 := ⟨k - 1, by omega⟩
    show c_areFindsAsTold_L3b F (c_areFindsAsTold_L3 F k) (nI q) (nI v) (nI n) (nI i) c = _
    unfold c_areFindsAsTold_L3b
    rw [if_pos (nI_le (by omega) (by omega))]
    rfl
  | succ d ih =>
    intro i k hi hk
    obtain ⟨k, rfl⟩ : ∃ z, k = z + 1 := ⟨k - 1, by omega⟩
    show c_areFindsAsTold_L3b F (c_areFindsAsTold_L3 F k) (nI q) (nI v) (nI n) (nI i) c = _
    unfold c_areFindsAsTold_L3b
    have g0 : ¬ nI n ≤ nI i := by
      rw [leI (by omega) (by omega)]
      omega
    rw [if_neg g0, show (3 : Int32) = nI 3 from rfl, show (1 : Int32) = nI 1 from rfl, show (2 : Int32) = nI 2 from rfl, mulI, nI_add, nI_add, nI_add, c_atE F (by omega), gB2_mk, c_atE F (by omega), gB2_mk, c_atE F (by omega), gB2_mk, c_toldP, gB2_mk, bz_ite, hT _ (by omega), hT _ (by omega), hT _ (by omega)]
    rw [show 24 * q + (v + i * 3) = 24 * q + v + 3 * i by omega, show 24 * q + (v + i * 3 + 1) = 24 * q + v + 3 * i + 1 by omega, show 24 * q + (v + i * 3 + 2) = 24 * q + v + 3 * i + 2 by omega]
    unfold allF
    by_cases h : toldQ T (24 * q + v) i = true
    · have h' := h
      unfold toldQ at h'
      rw [if_pos (of_decide_eq_true h'), nI_add, ih (i + 1) k (by omega) (by omega), h, Bool.true_and]
    · rw [if_neg (fun e => h (by unfold toldQ; exact decide_eq_true e)), bz_f]
      rw [Bool.and_eq_true]
      exact fun e => h e.1
theorem m_told_lp (F : Nat) {T : Nat → Int64} {b n : Nat} (hv : b + 3 * n ≤ 96) {m : St} (hT : ∀ j, j < 96 → m.2 31 j = T j) : ∀ (d i k : Nat), i + d = n → d < k → m_finds_L69 F k (nI n) (nI b) (nI i) m = if allF (toldQ T b) i d = true then (if m.1 0 27 + nI n ≤ 60 then m_finds_L157 F F (nI n) (nI b) (nI 0) m else gB2 (m_tells F (-3) m) fun r s => some (r, s)) else gB2 (m_tells F (-2) m) fun r s => some (r, s) := by
  intro d
  induction d with
  | zero =>
    intro i k hi hk
    obtain ⟨k, rfl⟩ : ∃ z, k = z + 1 := ⟨k - 1, by omega⟩
    show m_finds_L69b F (m_finds_L69 F k) (nI n) (nI b) (nI i) m = _
    unfold m_finds_L69b
    rw [if_pos (nI_le (by omega) (by omega)), if_pos (show allF (toldQ T b) i 0 = true from rfl)]
    rfl
  | succ d ih =>
    intro i k hi hk
    obtain ⟨k, rfl⟩ : ∃ z, k = z + 1 := ⟨k - 1, by omega⟩
    show m_finds_L69b F (m_finds_L69 F k) (nI n) (nI b) (nI i) m = _
    unfold m_finds_L69b
    have g0 : ¬ nI n ≤ nI i := by
      rw [leI (by omega) (by omega)]
      omega
    rw [if_neg g0, show (3 : Int32) = nI 3 from rfl, show (1 : Int32) = nI 1 from rfl, show (2 : Int32) = nI 2 from rfl, mulI, nI_add, nI_add, nI_add, inb_nI (show b + 3 * i < 96 by omega) (by decide), inb_nI (show b + 3 * i + 1 < 96 by omega) (by decide), inb_nI (show b + 3 * i + 2 < 96 by omega) (by decide), if_pos rfl, if_pos rfl, if_pos rfl, cl_nI (by omega), cl_nI (by omega), cl_nI (by omega), m_toldP, gB2_mk, bz_ite, hT _ (by omega), hT _ (by omega), hT _ (by omega)]
    unfold allF
    by_cases h : toldQ T b i = true
    · have h' := h
      unfold toldQ at h'
      rw [if_pos (of_decide_eq_true h'), nI_add, ih (i + 1) k (by omega) (by omega), h, Bool.true_and]
      rfl
    · rw [if_neg (fun e => h (by unfold toldQ; exact decide_eq_true e)), if_neg]
      rw [Bool.and_eq_true]
      exact fun e => h e.1
theorem c_addE (F : Nat) {c : St} {k a b v : Nat} (e : c.1 28 3 = nI k) (hk : k < 60) : c_Book_add F (nI a) (nI b) (nI v) c = some (nI (k + 1), sI (sI (sI (sI c 29 k (nI a)) 30 k (nI b)) 31 k (nI v)) 28 3 (nI (k + 1))) := by
  unfold c_Book_add
  have g : (nI k < (60 : Int32)) := by
    rw [show (60 : Int32) = nI 60 from rfl, ltI (by omega) (by omega)]
    exact hk
  rw [e, if_pos g, inb_nI hk (by decide), if_pos rfl, cl_nI (by omega), sI1_ne (by decide), e, inb_nI hk (by decide), if_pos rfl, cl_nI (by omega), sI1_ne (by decide), sI1_ne (by decide), e, inb_nI hk (by decide), if_pos rfl, cl_nI (by omega), sI1_ne (by decide), sI1_ne (by decide), sI1_ne (by decide), e, show (1 : Int32) = nI 1 from rfl, nI_add]
theorem m_writeE (F : Nat) {c : St} {k a b v : Nat} (e : c.1 0 27 = nI k) (hk : k < 60) : m_writes F (nI a) (nI b) (nI v) c = some (sI (sI (sI (sI c 21 k (nI a)) 22 k (nI b)) 23 k (nI v)) 0 27 (nI (k + 1))) := by
  unfold m_writes
  rw [e, inb_nI hk (by decide), if_pos rfl, cl_nI (by omega), sI1_ne (by decide), e, inb_nI hk (by decide), if_pos rfl, cl_nI (by omega), sI1_ne (by decide), sI1_ne (by decide), e, inb_nI hk (by decide), if_pos rfl, cl_nI (by omega), sI1_ne (by decide), sI1_ne (by decide), sI1_ne (by decide), e, show (1 : Int32) = nI 1 from rfl, nI_add]
theorem finds_lp (F : Nat) {N q v n : Nat} {T : Nat → Int64} (hv : 24 * q + v + 3 * n ≤ 96) (hQ : ∀ j, j < n → toldQ T (24 * q + v) j = true) : ∀ (d i f g k : Nat) (c m : St), i + d = n → d < f → d < g → k + d ≤ 60 → Rel N c m → c.1 28 3 = nI k → m.1 0 27 = nI k → (∀ j, j < 96 → c.2 77 j = T j) → (∀ j, j < 96 → m.2 31 j = T j) → ∃ c' m', c_finds_L105 F f (nI q) (nI v) (nI n) (nI i) c = some (nI (k + d), c') ∧ m_finds_L157 F g (nI n) (nI (24 * q + v)) (nI i) m = some (nI (k + d), m') ∧ Rel N c' m' := by
  intro d
  induction d with
  | zero =>
    intro i f g k c m hi hf hg hk R s1 s2 t1 t2
    obtain ⟨f, rfl⟩ : ∃ z, f = z + 1 := ⟨f - 1, by omega⟩
    obtain ⟨g, rfl⟩ : ∃ z, g = z + 1 := ⟨g - 1, by omega⟩
    refine ⟨c, m, ?_, ?_, R⟩
    · show c_finds_L105b F (c_finds_L105 F f) (nI q) (nI v) (nI n) (nI i) c = _
      unfold c_finds_L105b
      rw [if_pos (nI_le (by omega) (by omega)), s1]
      rfl
    · show m_finds_L157b F (m_finds_L157 F g) (nI n) (nI (24 * q + v)) (nI i) m = _
      unfold m_finds_L157b
      rw [if_pos (nI_le (by omega) (by omega)), s2]
      rfl
  | succ d ih =>
    intro i f g k c m hi hf hg hk R s1 s2 t1 t2
    obtain ⟨f, rfl⟩ : ∃ z, f = z + 1 := ⟨f - 1, by omega⟩
    obtain ⟨g, rfl⟩ : ∃ z, g = z + 1 := ⟨g - 1, by omega⟩
    have hq := hQ i (by omega)
    unfold toldQ at hq
    obtain ⟨a, b, w, a_hi, b_hi, w_hi, x1, x2, x3⟩ := (of_decide_eq_true hq).natL
    have R2 := (((R.set_ages (j := k) (by omega) a_hi).set_fars (j := k) (by omega) b_hi).set_bkinds (j := k) (by omega) w_hi).set_bc (k := k + 1) (by omega)
    obtain ⟨c', m', y1, y2, y3⟩ := ih (i + 1) f g (k + 1) _ _ (by omega) (by omega) (by omega) (by omega) R2 (by rw [sI1_eq, upd_eq]) (by rw [sI1_eq, upd_eq]) t1 t2
    rw [show k + 1 + d = k + (d + 1) by omega] at y1 y2
    have g0 : ¬ nI n ≤ nI i := by
      rw [leI (by omega) (by omega)]
      omega
    refine ⟨c', m', ?_, ?_, y3⟩
    · show c_finds_L105b F (c_finds_L105 F f) (nI q) (nI v) (nI n) (nI i) c = _
      unfold c_finds_L105b
      rw [if_neg g0, show (3 : Int32) = nI 3 from rfl, show (1 : Int32) = nI 1 from rfl, show (2 : Int32) = nI 2 from rfl, mulI, nI_add, nI_add, nI_add, c_atE F (by omega), gB2_mk, c_atE F (by omega), gB2_mk, c_atE F (by omega), gB2_mk, t1 _ (by omega), t1 _ (by omega), t1 _ (by omega)]
      rw [show 24 * q + (v + i * 3) = 24 * q + v + 3 * i by omega, show 24 * q + (v + i * 3 + 1) = 24 * q + v + 3 * i + 1 by omega, show 24 * q + (v + i * 3 + 2) = 24 * q + v + 3 * i + 2 by omega]
      rw [x1, x2, x3, l2iN, l2iN, l2iN, c_addE F s1 (by omega), gB2_mk, nI_add]
      exact y1
    · show m_finds_L157b F (m_finds_L157 F g) (nI n) (nI (24 * q + v)) (nI i) m = _
      unfold m_finds_L157b
      rw [if_neg g0, show (3 : Int32) = nI 3 from rfl, show (1 : Int32) = nI 1 from rfl, show (2 : Int32) = nI 2 from rfl, mulI, nI_add, nI_add, nI_add, inb_nI (show 24 * q + v + 3 * i < 96 by omega) (by decide), inb_nI (show 24 * q + v + 3 * i + 1 < 96 by omega) (by decide), inb_nI (show 24 * q + v + 3 * i + 2 < 96 by omega) (by decide), if_pos rfl, if_pos rfl, if_pos rfl, cl_nI (by omega), cl_nI (by omega), cl_nI (by omega), t2 _ (by omega), t2 _ (by omega), t2 _ (by omega)]
      rw [x1, x2, x3, l2iN, l2iN, l2iN, m_writeE F s2 (by omega), gB_mk, nI_add]
      exact y2
theorem p_finds {n : Nat} {c m : St} (R : Rel n c m) (F : Nat) (hF : 3000 ≤ F) (a b v w : Int32) : SameR n (c_finds F a b v w c) (m_finds F a b v w m) := by
  unfold c_finds c_finds_J25 m_finds m_finds_J27 c_areFindsAsTold
  simp only [gB2_mk, gB_mk, bz_ite, bz_01, gB2_id, c_isCell_eq, c_isKind_eq, c_isSort_eq, c_isPart_eq, c_Sheets_isSheet_eq, c_Sheets_isLane_eq, m_isCell_eq, m_isKind_eq, m_isSort_eq, m_isSheet_eq, m_isLane_eq, c_isIn_eq, m_in_0_0, m_in_0_1, m_in_0_2, m_in_0_3, m_in_0_5, m_in_0_7, m_in_0_8, m_in_0_9, m_in_0_11, m_in_0_15, m_in_0_16, m_in_0_99, m_in_0_143, m_in_0_999, m_in_1_4, m_in_1_8, m_in_1_9, m_in_1_60, m_in_m1_3, m_in_m1_5]
  by_cases h1 : (0 : Int32) ≤ a ∧ a ≤ 3
  case neg =>
    simp only [if_neg h1]
    exact ref_t R F ok1
  simp only [if_pos h1]
  obtain ⟨q, q_lo, q_hi, rfl⟩ := in_nat (lo := 0) (hi := 3) (by decide) h1 (by decide)
  by_cases h2 : (0 : Int32) ≤ b ∧ b ≤ 3
  case neg =>
    simp only [if_neg h2]
    exact ref_t R F ok1
  simp only [if_pos h2]
  obtain ⟨l, l_lo, l_hi, rfl⟩ := in_nat (lo := 0) (hi := 3) (by decide) h2 (by decide)
  by_cases h3 : (1 : Int32) ≤ w ∧ w ≤ 8
  case neg =>
    simp only [if_neg h3]
    exact ref_t R F ok1
  simp only [if_pos h3]
  obtain ⟨z, z_lo, z_hi, rfl⟩ := in_nat (lo := 1) (hi := 8) (by decide) h3 (by decide)
  obtain ⟨x, hx, l1, l2⟩ := R.lane (j := q) (by omega)
  obtain ⟨k, hk, s1, s2⟩ := R.size (j := q) (by omega)
  have hz : (0 : Int32) ≤ nI (3 * z) := nI_le (a := 0) (Nat.zero_le _) (by omega)
  rw [show (3 : Int32) = nI 3 from rfl, mulI, mulI, Nat.mul_comm z 3, c_wrongE F (by omega) hk l1 s1, m_whyE F (by omega) hk hx l2 s2 hz, gB2_mk, gB2_mk]
  rcases wrong_or (x := x) (b := nI l) (v := v) (w := nI (3 * z)) (k := k) with ⟨e, -, -, g⟩ | ⟨-, g, ok⟩
  case inr =>
    rw [if_neg g, if_neg g]
    exact ref_t R F ok
  rw [e, if_pos (by decide), if_pos (by decide)]
  obtain ⟨w1, w2, w3⟩ := g
  rw [tI (by omega)] at w3
  obtain ⟨j, hj, rfl⟩ : ∃ j, j + 3 * z ≤ 24 ∧ v = nI j := ⟨v.toInt.toNat, by omega, by
    apply Int32.toInt_inj.mp
    rw [tI (by omega)]
    omega⟩
  obtain ⟨u, hu, e1, e2⟩ := R.1.bc
  have e1' : c.1 28 3 = nI u := e1
  have e2' : m.1 0 27 = nI u := e2
  have t2 : ∀ j, j < 96 → m.2 31 j = c.2 77 j := fun j hj => (R.2.2.2.2.2.2.1 j hj).symm
  rw [show c_areFindsAsTold_L3 F F (nI q) (nI j) (nI z) 0 c = _ from c_told_lp F (T := c.2 77) (q := q) (v := j) (n := z) (by omega) (fun _ _ => rfl) z 0 F (by omega) (by omega), gB2_mk, bz_ite]
  rw [show (24 : Int32) = nI 24 from rfl, mulI, nI_add, show (0 : Int32) = nI 0 from rfl, m_told_lp F (T := c.2 77) (b := 24 * q + j) (n := z) (by omega) t2 z 0 F (by omega) (by omega)]
  by_cases h4 : allF (toldQ (c.2 77) (24 * q + j)) 0 z = true
  case neg =>
    rw [if_neg h4, if_neg h4, gB2_id]
    exact ref_t R F ok2
  rw [if_pos h4, if_pos h4, e1', e2', show (60 : Int32) = nI 60 from rfl, subI (by omega), nI_add, itLe (by omega) (by omega), itLe (by omega) (by omega)]
  by_cases h5 : u + z ≤ 60
  · rw [if_pos (show z ≤ 60 - u by omega), if_pos h5]
    obtain ⟨c', m', y1, y2, y3⟩ := finds_lp F (N := n) (T := c.2 77) (q := q) (v := j) (n := z) (by omega) (fun i hi => allF_at z 0 h4 i (by omega) (by omega)) z 0 F F u c m (by omega) (by omega) (by omega) h5 R e1' e2' (fun _ _ => rfl) t2
    rw [y1, y2]
    exact SameR.ret rfl y3
  · rw [if_neg (show ¬ z ≤ 60 - u by omega), if_neg h5, gB2_id]
    exact ref_t R F ok3
