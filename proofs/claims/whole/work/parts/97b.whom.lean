/-! the pure part: whom, both -/
theorem fW_mono (V : Nat → Nat → Nat) (k n : Nat) : ∀ (d lo : Nat) (a : Nat × Nat), a.1 ≤ (fW V k n lo d a).1
  | 0, _, _ => Nat.le_refl _
  | d + 1, lo, a => by
    rw [fW]
    refine Nat.le_trans ?_ (fW_mono V k n d (lo + 1) _)
    unfold stW
    by_cases h : okP k n lo = true ∧ a.1 ≤ sumP V n lo
    · rw [if_pos h]
      show a.1 ≤ sumP V n lo + 1
      omega
    · rw [if_neg h]
      exact Nat.le_refl _
theorem fW_pos (V : Nat → Nat → Nat) (k n z : Nat) (hz : okP k n z = true) : ∀ (d lo : Nat) (a : Nat × Nat), lo ≤ z → z < lo + d → 0 < (fW V k n lo d a).1
  | 0, _, _, h1, h2 => by omega
  | d + 1, lo, a, h1, h2 => by
    rw [fW]
    by_cases e : lo = z
    · refine Nat.lt_of_lt_of_le ?_ (fW_mono V k n d (lo + 1) _)
      rw [e, stW]
      by_cases h : okP k n z = true ∧ a.1 ≤ sumP V n z
      · rw [if_pos h]
        exact Nat.succ_pos _
      · rw [if_neg h]
        have : ¬ a.1 ≤ sumP V n z := fun x => h ⟨hz, x⟩
        omega
    · exact fW_pos V k n z hz d (lo + 1) _ (by omega) (by omega)
theorem fW_le {V : Nat → Nat → Nat} {k n : Nat} (hn : n ≤ 4) (hk : k ≤ 6) (hB : ∀ a b, a < 4 → b < 6 → V a b ≤ AL * 1000) : ∀ (d lo : Nat) (a : Nat × Nat), a.1 ≤ 4 * (AL * 1000) + 1 → a.2 ≤ lo → (fW V k n lo d a).1 ≤ 4 * (AL * 1000) + 1 ∧ (fW V k n lo d a).2 ≤ lo + d
  | 0, _, _, h1, h2 => ⟨h1, h2⟩
  | d + 1, lo, a, h1, h2 => by
    rw [fW]
    have key : (stW V k n a lo).1 ≤ 4 * (AL * 1000) + 1 ∧ (stW V k n a lo).2 ≤ lo := by
      unfold stW
      by_cases h : okP k n lo = true ∧ a.1 ≤ sumP V n lo
      · rw [if_pos h]
        have hs := sumP_le hk hB n lo hn h.1
        have hs2 : sumP V n lo ≤ 4 * (AL * 1000) := Nat.le_trans hs (Nat.mul_le_mul_right _ hn)
        exact ⟨Nat.succ_le_succ hs2, Nat.le_refl _⟩
      · rw [if_neg h]
        exact ⟨h1, h2⟩
    have := fW_le hn hk hB d (lo + 1) _ key.1 (by omega)
    exact ⟨this.1, by omega⟩
theorem all6 (k : Nat) {n : Nat} (h1 : 1 ≤ n) (h4 : n ≤ 4) : okP k n (7 ^ n - 1) = true := by
  rcases (show n = 1 ∨ n = 2 ∨ n = 3 ∨ n = 4 by omega) with rfl | rfl | rfl | rfl <;> rfl
theorem m_codes (F : Nat) (hF : 3000 ≤ F) {V : Nat → Nat → Nat} {n k : Nat} {s : St} (hn : n ≤ 4) (hk : k ≤ 6) (en : s.1 0 14 = nI n) (ek : s.1 0 18 = nI k) (hV : Kept 15 V k n 0 s) (hB : ∀ a b, a < 4 → b < 6 → V a b ≤ AL * 1000) (x1 : Int32) {T : Nat} (hT : T ≤ 2401) : ∀ (d X f : Nat) (a : Nat × Nat), X + d = T → d < f → a.1 ≤ 4 * (AL * 1000) + 1 → m_whom_L97 F f x1 (nI T) (dL a.1) (nI a.2) (nI X) s = m_whom_L284 F F x1 (dL (fW V k n X d a).1) (nI (fW V k n X d a).2) (nI n - 1) s := by
  intro d
  induction d with
  | zero =>
    intro X f a hX hf ha
    obtain ⟨f, rfl⟩ : ∃ z, f = z + 1 := ⟨f - 1, by omega⟩
    have hXT : X = T := by omega
    subst hXT
    show m_whom_L97b F (m_whom_L97 F f) x1 (nI X) (dL a.1) (nI a.2) (nI X) s = _
    unfold m_whom_L97b
    rw [if_pos (Int32.le_refl _), en]
    rfl
  | succ d ih =>
    intro X f a hX hf ha
    obtain ⟨f, rfl⟩ : ∃ z, f = z + 1 := ⟨f - 1, by omega⟩
    show m_whom_L97b F (m_whom_L97 F f) x1 (nI T) (dL a.1) (nI a.2) (nI X) s = _
    unfold m_whom_L97b
    have g0 : ¬ nI T ≤ nI X := by
      rw [leI (by omega) (by omega)]
      omega
    have hd := m_dig F (m_whom_L97 F f) hn hk ek hV hB x1 (nI T) (M := a.1) (B := a.2) (X := X) ha n F X 0 0 (nI n - 1) (by omega) (Nat.le_refl _) (by omega) (by decide) (Nat.zero_le _) rfl
    rw [okS_0, Nat.zero_add] at hd
    rw [if_neg g0, en, show m_whom_L124 F (m_whom_L97 F f) F x1 (nI T) (dL a.1) (nI a.2) (nI X) 0 0 1 (nI X) (nI n - 1) s = _ from hd, fW, stW, show nI X + 1 = nI (X + 1) by rw [show (1 : Int32) = nI 1 from rfl, nI_add]]
    by_cases g : okP k n X = true ∧ a.1 ≤ sumP V n X
    · rw [if_pos g, if_pos g]
      have hs := sumP_le hk hB n X hn g.1
      have hs2 : sumP V n X ≤ 4 * (AL * 1000) := Nat.le_trans hs (Nat.mul_le_mul_right _ hn)
      exact ih (X + 1) f (sumP V n X + 1, X) (by omega) (by omega) (Nat.succ_le_succ hs2)
    · rw [if_neg g, if_neg g]
      exact ih (X + 1) f a (by omega) (by omega) ha
theorem m_pick (F : Nat) {s : St} {q : Nat} (hq : q < 4) (x3 : Int64) : ∀ (e f y : Nat), e < f → e < 4 → y < 2 ^ 30 → m_whom_L284 F f (nI q) x3 (nI y) (nI (q + e)) s = some (lN (y / 7 ^ e % 7), s) := by
  intro e
  induction e with
  | zero =>
    intro f y hf he hy
    obtain ⟨f, rfl⟩ : ∃ z, f = z + 1 := ⟨f - 1, by omega⟩
    show m_whom_L284b F (m_whom_L284 F f) (nI q) x3 (nI y) (nI (q + 0)) s = _
    unfold m_whom_L284b m_whom_J307
    rw [Nat.add_zero, if_pos (Int32.le_refl _), if_pos (show (0 : Int32) ≤ nI q from nI_le (a := 0) (Nat.zero_le q) (by omega)), div7 (by omega), rem7 (by omega), i2lN (by have := Nat.mod_lt y (show 0 < 7 by decide); omega), Nat.pow_zero, Nat.div_one]
  | succ e ih =>
    intro f y hf he hy
    obtain ⟨f, rfl⟩ : ∃ z, f = z + 1 := ⟨f - 1, by omega⟩
    show m_whom_L284b F (m_whom_L284 F f) (nI q) x3 (nI y) (nI (q + (e + 1))) s = _
    unfold m_whom_L284b
    have g0 : ¬ nI (q + (e + 1)) ≤ nI q := by
      rw [leI (by omega) (by omega)]
      omega
    have g1 : ¬ nI q < (0 : Int32) := Int32.not_lt.mpr (nI_le (a := 0) (Nat.zero_le q) (by omega))
    have g2 : nI (q + (e + 1)) + (-1 : Int32) = nI (q + e) := by
      rw [m1_add, show (1 : Int32) = nI 1 from rfl, subI (by omega), show q + (e + 1) - 1 = q + e by omega]
    rw [if_neg g0, if_neg g1, div7 (by omega), g2, ih f (y / 7) (by omega) (by omega) (by omega), Nat.div_div_eq_div_mul, show 7 * 7 ^ e = 7 ^ (e + 1) by rw [Nat.pow_succ, Nat.mul_comm]]
theorem m_pow (F : Nat) {s : St} {n : Nat} (x1 : Int32) (hn : n ≤ 4) (en : s.1 0 14 = nI n) : ∀ (d i f : Nat), i + d = n → d < f → m_whom_L68 F f x1 (nI (7 ^ i)) (nI i) s = m_whom_L97 F F x1 (nI (7 ^ n)) (-1) 0 0 s := by
  intro d
  induction d with
  | zero =>
    intro i f hi hf
    obtain ⟨f, rfl⟩ : ∃ z, f = z + 1 := ⟨f - 1, by omega⟩
    have hin : i = n := by omega
    subst hin
    show m_whom_L68b F (m_whom_L68 F f) x1 (nI (7 ^ i)) (nI i) s = _
    unfold m_whom_L68b
    rw [en, if_pos (Int32.le_refl _)]
  | succ d ih =>
    intro i f hi hf
    obtain ⟨f, rfl⟩ : ∃ z, f = z + 1 := ⟨f - 1, by omega⟩
    show m_whom_L68b F (m_whom_L68 F f) x1 (nI (7 ^ i)) (nI i) s = _
    unfold m_whom_L68b
    have g0 : ¬ nI n ≤ nI i := by
      rw [leI (by omega) (by omega)]
      omega
    rw [en, if_neg g0, show (7 : Int32) = nI 7 from rfl, mulI, ← Nat.pow_succ, show (1 : Int32) = nI 1 from rfl, nI_add]
    exact ih (i + 1) f (by omega) (by omega)
theorem in_m1 {a : Int32} {hi : Nat} (hhi : hi < 100) (h : -1 ≤ a ∧ a ≤ nI hi) : (a = -1) ∨ ∃ q, q ≤ hi ∧ a = nI q := by
  by_cases h0 : 0 ≤ a
  · obtain ⟨q, -, h1, h2⟩ := in_nat (lo := 0) (hi := hi) (by omega) ⟨h0, h.2⟩ (Nat.zero_le _)
    exact Or.inr ⟨q, h1, h2⟩
  · left
    have h1 := h.1
    rw [Int32.le_iff_toInt_le, show (-1 : Int32).toInt = -1 by decide] at h1
    rw [Int32.le_iff_toInt_le, show (0 : Int32).toInt = 0 by decide] at h0
    apply Int32.toInt_inj.mp
    rw [show (-1 : Int32).toInt = -1 by decide]
    omega
theorem p_whom {N : Nat} {c m : St} (R : Rel N c m) (F : Nat) (hF : 3000 ≤ F) (a : Int32) : SameR N (c_whom F a c) (m_whom F a m) := by
  unfold c_whom c_whom_J64 m_whom m_whom_J52 c_Teams_choose
  simp only [gB2_mk, gB_mk, bz_ite, bz_01, gB2_id, c_isCell_eq, c_isKind_eq, c_isSort_eq, c_isPart_eq, c_Sheets_isSheet_eq, c_Sheets_isLane_eq, m_isCell_eq, m_isKind_eq, m_isSort_eq, m_isSheet_eq, m_isLane_eq, c_isIn_eq, m_in_0_0, m_in_0_1, m_in_0_2, m_in_0_3, m_in_0_5, m_in_0_7, m_in_0_8, m_in_0_9, m_in_0_11, m_in_0_15, m_in_0_16, m_in_0_99, m_in_0_143, m_in_0_999, m_in_1_4, m_in_1_8, m_in_1_9, m_in_1_60, m_in_m1_3, m_in_m1_5, c_out]
  by_cases h1 : (-1 : Int32) ≤ a ∧ a ≤ 3
  case neg =>
    simp only [if_neg h1]
    exact ref_s R F ok1 rfl
  simp only [if_pos h1]
  rcases R.minuteV.out with ⟨e1, e2⟩ | ⟨t, ht, e1, e2, e3⟩
  · simp only [if_neg e1, if_neg e2]
    exact ref_s R F ok2 rfl
  simp only [e1, e2, if_pos e3]
  obtain ⟨p, K, A, C, W, Q, x6, x7, x8, x9, n, k, wc, wm, wb⟩ := R.world ht e1 e2
  have ec : c.1 14 7 = nI n := wc.2.2.2.2.2.1
  have em : m.1 0 14 = nI n := wm.2.2.2.2.2.1
  have bn : n ≤ 4 := wb.2.2.2.2.2.1
  have bk : k ≤ 6 := wb.2.2.2.2.2.2.1
  rw [ec, em]
  by_cases h0 : n = 0
  · rw [if_pos (show nI n = 0 by rw [h0]; rfl), if_pos (show nI n = 0 by rw [h0]; rfl)]
    exact ref_s R F ok4 rfl
  have hn0 : ¬ nI n = 0 := fun e => h0 ((eqI (b := 0) (by omega) (by omega)).mp e)
  rw [if_neg hn0, if_neg hn0]
  by_cases hlt : a < nI n
  case neg =>
    rw [if_neg hlt, if_neg hlt]
    exact ref_s R F ok4 rfl
  rw [if_pos hlt, if_pos hlt]
  obtain ⟨c', y1, y2, y3⟩ := c_weigh F hF wb wc
  obtain ⟨m', w1, w2, w3⟩ := m_weigh F hF wb wm
  have wc' := wc.of y3
  have wm' := wm.of w3
  have hB : ∀ a b, a < 4 → b < 6 → val p K A C W Q x6 x7 x8 x9 t a b ≤ AL * 1000 := fun a b ha hb => val_le wb ha hb
  have em' : m'.1 0 14 = nI n := wm'.2.2.2.2.2.1
  have ek' : m'.1 0 18 = nI k := wm'.2.2.2.2.2.2.1
  generalize val p K A C W Q x6 x7 x8 x9 t = V at y2 w2 hB
  obtain ⟨c2, z1, z2, -, z4⟩ := c_sendS F hF bn bk hB n 0 5 (by omega) (by omega) 0 (sJ c' 14 9 (-1)) (0, 0) rfl ⟨wc'.2.2.2.2.2.1, wc'.2.2.2.2.2.2.1, fun a b h h2 => y2 a b h h2⟩ ⟨by show vp_updL (c'.2 14) 9 (-1) 9 = dL 0; rw [updL_eq]; decide, Nat.zero_le _, fun h => absurd h (Nat.lt_irrefl 0)⟩ (fun t h => absurd h (Nat.not_lt_zero t))
  rw [Nat.zero_mul, Nat.sub_zero] at z2
  have p7 : 7 ^ n ≤ 2401 := by
    rcases (show n = 0 ∨ n = 1 ∨ n = 2 ∨ n = 3 ∨ n = 4 by omega) with rfl | rfl | rfl | rfl | rfl <;> decide
  have p70 : 0 < 7 ^ n := Nat.pow_pos (by decide)
  have r1 : m_whom_L68 F F a 1 0 m' = _ := m_pow F a bn em' n 0 F (by omega) (by omega)
  have r2 : m_whom_L97 F F a (nI (7 ^ n)) (-1) 0 0 m' = _ := m_codes F hF bn bk em' ek' w2 hB a p7 (7 ^ n) 0 F (0, 0) (by omega) (by omega) (Nat.zero_le _)
  have hpos := fW_pos V k n (7 ^ n - 1) (all6 k (by omega) bn) (7 ^ n) 0 (0, 0) (Nat.zero_le _) (by omega)
  have hle := fW_le bn bk hB (7 ^ n) 0 (0, 0) (Nat.zero_le _) (Nat.zero_le _)
  have z1' : c_Teams_send F 5 0 0 0 (sJ c' 14 9 (-1)) = some c2 := z1
  rw [y1, gB_mk, z1', gB_mk, gB_mk, w1, gB_mk, r1, r2]
  generalize fW V k n 0 (7 ^ n) (0, 0) = B at *
  obtain ⟨g1, g2, g3⟩ := z2
  have R2 : Rel N c2 m' := (R.frameM (onlyM w3)).frameC (onlyC (y3.trans ((Only.sJ c' (by decide) 9 (-1)).trans ⟨z4.1, fun q hq => z4.2 q (fun e => hq (by
    simp only [List.mem_cons, List.not_mem_nil, or_false] at e
    rw [e]
    decide))⟩)))
  rcases in_m1 (hi := 3) (by decide) h1 with rfl | ⟨q, hq, rfl⟩
  · rw [if_neg (show ¬ (0 : Int32) ≤ -1 by decide), g1]
    obtain ⟨f, rfl⟩ : ∃ z, F = z + 1 := ⟨F - 1, by omega⟩
    have r3 : m_whom_L284 (f + 1) (f + 1) (-1) (dL B.1) (nI B.2) (nI n - 1) m' = some (dL B.1, m') := by
      show m_whom_L284b (f + 1) (m_whom_L284 (f + 1) f) (-1) (dL B.1) (nI B.2) (nI n - 1) m' = _
      unfold m_whom_L284b m_whom_J307
      have gx : ¬ nI n - 1 ≤ (-1 : Int32) := by
        rw [show (1 : Int32) = nI 1 from rfl, subI (by omega), Int32.le_iff_toInt_le, tI (by omega), show (-nI 1 : Int32).toInt = -1 by decide]
        omega
      rw [if_neg gx, if_pos (show (-1 : Int32) < 0 by decide), if_neg (show ¬ (0 : Int32) ≤ -1 by decide)]
    rw [r3]
    exact SameR.ret rfl R2
  · have hqn : q < n := by
      rw [ltI (by omega) (by omega)] at hlt
      exact hlt
    have r3 := m_pick F (s := m') (q := q) (by omega) (dL B.1) (n - 1 - q) F B.2 (by omega) (by omega) (by omega)
    rw [if_pos (show (0 : Int32) ≤ nI q from nI_le (a := 0) (Nat.zero_le q) (by omega)), inb_nI (show q < 4 by omega) (by decide), if_pos rfl, cl_nI (by omega), g3 hpos q hqn, i2lN (by have := dig_lt B.2 n q; omega), show nI n - 1 = nI (q + (n - 1 - q)) by rw [show (1 : Int32) = nI 1 from rfl, subI (by omega), show q + (n - 1 - q) = n - 1 by omega], r3]
    exact SameR.ret rfl R2
