/-! the pure part: bound -/
def mxF (f : Nat → Nat) : Nat → Nat → Nat → Nat
  | _, 0, a => a
  | i, d + 1, a => mxF f (i + 1) d (if a < f i then f i else a)
theorem mxF_le {f : Nat → Nat} {B : Nat} : ∀ (d i a : Nat), (∀ j, i ≤ j → j < i + d → f j ≤ B) → a ≤ B → mxF f i d a ≤ B
  | 0, _, _, _, h => h
  | d + 1, i, a, h, h2 => by
    rw [mxF]
    apply mxF_le d (i + 1)
    · exact fun j h3 h4 => h j (by omega) (by omega)
    · split
      · exact h i (by omega) (by omega)
      · exact h2
theorem gmaxL {a b : Nat} (ha : a < 2 ^ 62) (hb : b < 2 ^ 62) : gMmaxL (lN a) (lN b) = lN (if a < b then b else a) := by
  unfold gMmaxL
  simp (disch := omega) only [ltL]
  by_cases h : b < a
  · rw [if_pos h, if_neg (by omega)]
  · rw [if_neg h]
    by_cases h2 : a < b
    · rw [if_pos h2]
    · rw [if_neg h2, show a = b by omega]
section WS
variable {p K A C W Q : Nat → Nat} {x6 x7 x8 x9 t n k : Nat}
theorem c_gt_in (F : Nat) {V : Nat → Nat → Nat} (k10 : Int64 → Int32 → St → Option (Int64 × St)) {s : St} {n k i S : Nat} (hi : i < n) (hn : n ≤ 4) (hk : k ≤ 6) (e : s.1 14 8 = nI k) (hV : Kept 19 V k n 0 s) (hB : ∀ a b, a < 4 → b < 6 → V a b ≤ AL * 1000) : ∀ (d j f a : Nat), j + d = k → d < f → a ≤ AL * 1000 → c_Teams_greatestTogether_L25 F k10 f (lN S) (nI i) (lN a) (nI j) s = k10 (lN (S + mxF (V i) j d a)) (nI (i + 1)) s := by
  intro d
  induction d with
  | zero =>
    intro j f a hj hf ha
    obtain ⟨f, rfl⟩ : ∃ z, f = z + 1 := ⟨f - 1, by omega⟩
    show c_Teams_greatestTogether_L25b F k10 (c_Teams_greatestTogether_L25 F k10 f) (lN S) (nI i) (lN a) (nI j) s = _
    unfold c_Teams_greatestTogether_L25b
    simp (disch := omega) only [fa_lit, fa_litL, leI, ltI, eqI, leL, ltL, eqL, cq_lt, cq_le, cq_gt, cq_ge, cq_eq, mulI, nI_add, lN_add, lN_mul, inb_iff, cl_nI, i2lN, l2iN, e]
    rw [if_pos (by omega)]
    rfl
  | succ d ih =>
    intro j f a hj hf ha
    obtain ⟨f, rfl⟩ : ∃ z, f = z + 1 := ⟨f - 1, by omega⟩
    show c_Teams_greatestTogether_L25b F k10 (c_Teams_greatestTogether_L25 F k10 f) (lN S) (nI i) (lN a) (nI j) s = _
    unfold c_Teams_greatestTogether_L25b
    have hv := hV i j (by omega) (Or.inl hi)
    have hb := hB i j (by omega) (by omega)
    have ha' := ha
    have hb' := hb
    unfold AL at ha hb
    simp (disch := omega) only [fa_lit, fa_litL, leI, ltI, eqI, leL, ltL, eqL, cq_lt, cq_le, cq_gt, cq_ge, cq_eq, mulI, nI_add, lN_add, lN_mul, inb_iff, cl_nI, i2lN, l2iN, e, show i * 6 + j = 6 * i + j by omega, hv, gmaxL]
    rw [if_neg (by omega), if_pos (by omega), mxF]
    exact ih (j + 1) f _ (by omega) (by omega) (by split <;> assumption)
theorem c_gt_lp (F : Nat) (hF : 3000 ≤ F) {V : Nat → Nat → Nat} {s : St} {n k : Nat} (hn : n ≤ 4) (hk : k ≤ 6) (en : s.1 14 7 = nI n) (e : s.1 14 8 = nI k) (hV : Kept 19 V k n 0 s) (hB : ∀ a b, a < 4 → b < 6 → V a b ≤ AL * 1000) : ∀ (d i f S : Nat), i + d = n → d < f → c_Teams_greatestTogether_L10 F f (lN S) (nI i) s = some (lN (S + sF (fun a => mxF (V a) 0 k 0) i d), s) := by
  intro d
  induction d with
  | zero =>
    intro i f S hi hf
    obtain ⟨f, rfl⟩ : ∃ z, f = z + 1 := ⟨f - 1, by omega⟩
    show c_Teams_greatestTogether_L10b F (c_Teams_greatestTogether_L10 F f) (lN S) (nI i) s = _
    unfold c_Teams_greatestTogether_L10b
    simp (disch := omega) only [fa_lit, fa_litL, leI, ltI, eqI, leL, ltL, eqL, cq_lt, cq_le, cq_gt, cq_ge, cq_eq, mulI, nI_add, lN_add, lN_mul, inb_iff, cl_nI, i2lN, l2iN, en]
    rw [if_pos (by omega)]
    rfl
  | succ d ih =>
    intro i f S hi hf
    obtain ⟨f, rfl⟩ : ∃ z, f = z + 1 := ⟨f - 1, by omega⟩
    show c_Teams_greatestTogether_L10b F (c_Teams_greatestTogether_L10 F f) (lN S) (nI i) s = _
    unfold c_Teams_greatestTogether_L10b
    simp (disch := omega) only [fa_lit, fa_litL, leI, ltI, eqI, leL, ltL, eqL, cq_lt, cq_le, cq_gt, cq_ge, cq_eq, mulI, nI_add, lN_add, lN_mul, inb_iff, cl_nI, i2lN, l2iN, en]
    rw [if_neg (by omega), c_gt_in F _ (show i < n by omega) hn hk e hV hB k 0 F 0 (by omega) (by omega) (Nat.zero_le _), ih (i + 1) f _ (by omega) (by omega), sF, Nat.add_assoc]
theorem m_bd_in (F : Nat) {V : Nat → Nat → Nat} (k38 : Int64 → Int32 → St → Option (Int64 × St)) {s : St} {n k i S : Nat} (hi : i < n) (hn : n ≤ 4) (hk : k ≤ 6) (e : s.1 0 18 = nI k) (hV : Kept 15 V k n 0 s) (hB : ∀ a b, a < 4 → b < 6 → V a b ≤ AL * 1000) : ∀ (d j f a : Nat), j + d = k → d < f → a ≤ AL * 1000 → m_bound_L52 F k38 f (lN S) (nI i) (lN a) (nI j) s = k38 (lN (S + mxF (V i) j d a)) (nI (i + 1)) s := by
  intro d
  induction d with
  | zero =>
    intro j f a hj hf ha
    obtain ⟨f, rfl⟩ : ∃ z, f = z + 1 := ⟨f - 1, by omega⟩
    show m_bound_L52b F k38 (m_bound_L52 F k38 f) (lN S) (nI i) (lN a) (nI j) s = _
    unfold m_bound_L52b
    simp (disch := omega) only [fa_lit, fa_litL, leI, ltI, eqI, leL, ltL, eqL, cq_lt, cq_le, cq_gt, cq_ge, cq_eq, mulI, nI_add, lN_add, lN_mul, inb_iff, cl_nI, i2lN, l2iN, e]
    rw [if_pos (by omega)]
    rfl
  | succ d ih =>
    intro j f a hj hf ha
    obtain ⟨f, rfl⟩ : ∃ z, f = z + 1 := ⟨f - 1, by omega⟩
    show m_bound_L52b F k38 (m_bound_L52 F k38 f) (lN S) (nI i) (lN a) (nI j) s = _
    unfold m_bound_L52b m_bound_J96
    have hv := hV i j (by omega) (Or.inl hi)
    have hb := hB i j (by omega) (by omega)
    have ha' := ha
    have hb' := hb
    unfold AL at ha hb
    simp (disch := omega) only [fa_lit, fa_litL, leI, ltI, eqI, leL, ltL, eqL, cq_lt, cq_le, cq_gt, cq_ge, cq_eq, mulI, nI_add, lN_add, lN_mul, inb_iff, cl_nI, i2lN, l2iN, e, hv]
    simp only [if_neg (show ¬ k ≤ j by omega), if_pos (show 6 * i + j < 24 by omega)]
    rw [mxF]
    by_cases g : V i j ≤ a
    · rw [if_pos g, if_neg (show ¬ a < V i j by omega)]
      exact ih (j + 1) f _ (by omega) (by omega) ha'
    · rw [if_neg g, if_pos (show a < V i j by omega)]
      exact ih (j + 1) f _ (by omega) (by omega) hb'
theorem m_bd_lp (F : Nat) (hF : 3000 ≤ F) {V : Nat → Nat → Nat} {s : St} {n k : Nat} (hn : n ≤ 4) (hk : k ≤ 6) (en : s.1 0 14 = nI n) (e : s.1 0 18 = nI k) (hV : Kept 15 V k n 0 s) (hB : ∀ a b, a < 4 → b < 6 → V a b ≤ AL * 1000) : ∀ (d i f S : Nat), i + d = n → d < f → m_bound_L38 F f (lN S) (nI i) s = some (lN (S + sF (fun a => mxF (V a) 0 k 0) i d), s) := by
  intro d
  induction d with
  | zero =>
    intro i f S hi hf
    obtain ⟨f, rfl⟩ : ∃ z, f = z + 1 := ⟨f - 1, by omega⟩
    show m_bound_L38b F (m_bound_L38 F f) (lN S) (nI i) s = _
    unfold m_bound_L38b
    simp (disch := omega) only [fa_lit, fa_litL, leI, ltI, eqI, leL, ltL, eqL, cq_lt, cq_le, cq_gt, cq_ge, cq_eq, mulI, nI_add, lN_add, lN_mul, inb_iff, cl_nI, i2lN, l2iN, en]
    rw [if_pos (by omega)]
    rfl
  | succ d ih =>
    intro i f S hi hf
    obtain ⟨f, rfl⟩ : ∃ z, f = z + 1 := ⟨f - 1, by omega⟩
    show m_bound_L38b F (m_bound_L38 F f) (lN S) (nI i) s = _
    unfold m_bound_L38b
    simp (disch := omega) only [fa_lit, fa_litL, leI, ltI, eqI, leL, ltL, eqL, cq_lt, cq_le, cq_gt, cq_ge, cq_eq, mulI, nI_add, lN_add, lN_mul, inb_iff, cl_nI, i2lN, l2iN, en]
    rw [if_neg (by omega), m_bd_in F _ (show i < n by omega) hn hk e hV hB k 0 F 0 (by omega) (by omega) (Nat.zero_le _), ih (i + 1) f _ (by omega) (by omega), sF, Nat.add_assoc]
end WS
theorem onlyC {c c' : St} (h : Only [20, 21] [14, 19] c c') : Only IC JC c c' :=
  ⟨fun q hq => h.1 q (fun e => hq (by
    simp only [List.mem_cons, List.not_mem_nil, or_false] at e
    rcases e with rfl | rfl <;> decide)), fun q hq => h.2 q (fun e => hq (by
    simp only [List.mem_cons, List.not_mem_nil, or_false] at e
    rcases e with rfl | rfl <;> decide))⟩
theorem onlyM {c c' : St} (h : Only [] [15] c c') : Only IM JM c c' :=
  ⟨fun q _ => h.1 q (by simp), fun q hq => h.2 q (fun e => hq (by
    simp only [List.mem_cons, List.not_mem_nil, or_false] at e
    rcases e with rfl
    decide))⟩
theorem p_bound {N : Nat} {c m : St} (R : Rel N c m) (F : Nat) (hF : 3000 ≤ F) : SameR N (c_bound F c) (m_bound F m) := by
  unfold c_bound m_bound c_Teams_greatestTogether
  simp only [gB2_mk, gB_mk, bz_ite, bz_01, gB2_id, c_isCell_eq, c_isKind_eq, c_isSort_eq, c_isPart_eq, c_Sheets_isSheet_eq, c_Sheets_isLane_eq, m_isCell_eq, m_isKind_eq, m_isSort_eq, m_isSheet_eq, m_isLane_eq, c_isIn_eq, m_in_0_0, m_in_0_1, m_in_0_2, m_in_0_3, m_in_0_5, m_in_0_7, m_in_0_8, m_in_0_9, m_in_0_11, m_in_0_15, m_in_0_16, m_in_0_99, m_in_0_143, m_in_0_999, m_in_1_4, m_in_1_8, m_in_1_9, m_in_1_60, m_in_m1_3, m_in_m1_5, c_out]
  rcases R.minuteV.out with ⟨e1, e2⟩ | ⟨t, ht, e1, e2, e3⟩
  · simp only [if_neg e1, if_neg e2]
    exact ref_s R F ok2 rfl
  simp only [e1, e2, if_pos e3]
  obtain ⟨p, K, A, C, W, Q, x6, x7, x8, x9, n, k, wc, wm, wb⟩ := R.world ht e1 e2
  have ec : c.1 14 7 = nI n := wc.2.2.2.2.2.1
  have em : m.1 0 14 = nI n := wm.2.2.2.2.2.1
  have bn : n ≤ 4 := wb.2.2.2.2.2.1
  have bk : k ≤ 6 := wb.2.2.2.2.2.2.1
  rw [ec, em]
  by_cases h0 : n = 0
  · rw [if_pos (show nI n = 0 by rw [h0]; rfl), if_pos (show nI n = 0 by rw [h0]; rfl)]
    exact ref_s R F ok4 rfl
  have hn0 : ¬ nI n = 0 := fun e => h0 ((eqI (b := 0) (by omega) (by omega)).mp e)
  rw [if_neg hn0, if_neg hn0]
  obtain ⟨c', y1, y2, y3⟩ := c_weigh F hF wb wc
  obtain ⟨m', w1, w2, w3⟩ := m_weigh F hF wb wm
  have wc' := wc.of y3
  have wm' := wm.of w3
  have hB : ∀ a b, a < 4 → b < 6 → val p K A C W Q x6 x7 x8 x9 t a b ≤ AL * 1000 := fun a b ha hb => val_le wb ha hb
  have r1 : c_Teams_greatestTogether_L10 F F 0 0 c' = _ := c_gt_lp F hF bn bk wc'.2.2.2.2.2.1 wc'.2.2.2.2.2.2.1 y2 hB n 0 F 0 (by omega) (by omega)
  have r2 : m_bound_L38 F F 0 0 m' = _ := m_bd_lp F hF bn bk wm'.2.2.2.2.2.1 wm'.2.2.2.2.2.2.1 w2 hB n 0 F 0 (by omega) (by omega)
  rw [y1, w1, gB_mk, gB_mk, r1, r2]
  exact SameR.ret rfl ((R.frameC (onlyC y3)).frameM (onlyM w3))
