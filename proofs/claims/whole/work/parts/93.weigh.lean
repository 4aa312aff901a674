/-! the pure part: the values of TEAMS at PLACES; bound -/
def LV (x6 x7 t : Nat) : Nat := (lv x6 x7 t).toNatClampNeg
theorem LV_eq {x6 x7 t : Nat} (h6 : x6 ≤ 3) (h7 : x7 ≤ 9) (ht : t ≤ 100000) : lv x6 x7 t = nI (LV x6 x7 t) ∧ LV x6 x7 t ≤ 1000 := by
  obtain ⟨v, h1, h2⟩ := lv_nat h6 h7 ht
  unfold LV
  rw [h2, cl_nI (by omega)]
  exact ⟨rfl, h1⟩
def WC (p K A C W Q : Nat → Nat) (x6 x7 x8 x9 t n k : Nat) (c : St) : Prop := PC p c ∧ LawC K x8 x9 c ∧ c.1 7 6 = nI x6 ∧ c.1 7 7 = nI x7 ∧ c.1 9 4 = nI t ∧ c.1 14 7 = nI n ∧ c.1 14 8 = nI k ∧ (∀ i, i < 4 → c.1 15 i = nI (A i) ∧ c.1 16 i = nI (C i) ∧ c.1 17 i = nI (W i)) ∧ ∀ j, j < 6 → c.1 18 j = nI (Q j)
def WM (p K A C W Q : Nat → Nat) (x6 x7 x8 x9 t n k : Nat) (m : St) : Prop := PM p m ∧ LawM K x8 x9 m ∧ m.1 5 6 = nI x6 ∧ m.1 5 7 = nI x7 ∧ m.1 0 13 = nI t ∧ m.1 0 14 = nI n ∧ m.1 0 18 = nI k ∧ (∀ i, i < 4 → m.1 11 i = nI (A i) ∧ m.1 12 i = nI (C i) ∧ m.1 13 i = nI (W i)) ∧ ∀ j, j < 6 → m.1 14 j = nI (Q j)
def WB (p K A C W Q : Nat → Nat) (x6 x7 x8 x9 t n k : Nat) : Prop := sumN p 720 ≤ AL ∧ LawB K x8 x9 ∧ x6 ≤ 3 ∧ x7 ≤ 9 ∧ t ≤ 999 ∧ n ≤ 4 ∧ k ≤ 6 ∧ (∀ i, i < 4 → A i ≤ 3 ∧ C i ≤ 143 ∧ W i ≤ 9) ∧ ∀ j, j < 6 → Q j ≤ 143
theorem Rel.world {N : Nat} {c m : St} (R : Rel N c m) {t : Nat} (ht : t ≤ 999) (e1 : c.1 9 4 = nI t) (e2 : m.1 0 13 = nI t) : ∃ p K A C W Q x6 x7 x8 x9 n k, WC p K A C W Q x6 x7 x8 x9 t n k c ∧ WM p K A C W Q x6 x7 x8 x9 t n k m ∧ WB p K A C W Q x6 x7 x8 x9 t n k := by
  obtain ⟨p, hc, hm, hs⟩ := R.1.pp
  obtain ⟨K, x8, x9, hlc, hlm, hlb⟩ := R.law
  obtain ⟨x6, b6, c6, m6⟩ := R.1.settings 6 (by omega)
  obtain ⟨x7, b7, c7, m7⟩ := R.1.settings 7 (by omega)
  obtain ⟨n, bn, cn, mn⟩ := R.1.tc
  obtain ⟨k, bk, ck, mk⟩ := R.1.pc
  obtain ⟨A, hA⟩ := R.1.tsort.fn (by decide)
  obtain ⟨C, hC⟩ := R.1.tcell.fn (by decide)
  obtain ⟨W, hW⟩ := R.1.tpace.fn (by decide)
  obtain ⟨Q, hQ⟩ := R.1.places.fn (by decide)
  exact ⟨p, K, A, C, W, Q, x6, x7, x8, x9, n, k, ⟨hc, hlc, c6, c7, e1, cn, ck, fun i hi => ⟨(hA i hi).2.1, (hC i hi).2.1, (hW i hi).2.1⟩, fun j hj => (hQ j hj).2.1⟩, ⟨hm, hlm, m6, m7, e2, mn, mk, fun i hi => ⟨(hA i hi).2.2, (hC i hi).2.2, (hW i hi).2.2⟩, fun j hj => (hQ j hj).2.2⟩, ⟨hs, hlb, b6, b7, ht, bn, bk, fun i hi => ⟨(hA i hi).1, (hC i hi).1, (hW i hi).1⟩, fun j hj => (hQ j hj).1⟩⟩
section WS
variable {p K A C W Q : Nat → Nat} {x6 x7 x8 x9 t n k : Nat}
def tt (C W Q : Nat → Nat) (t i j : Nat) : Nat := t + W i * (rowA (C i) (Q j) + colA (C i) (Q j))
def val (p K A C W Q : Nat → Nat) (x6 x7 x8 x9 t : Nat) (i j : Nat) : Nat := seenS p K x8 x9 (A i) (Q j) (tt C W Q t i j) * LV x6 x7 (tt C W Q t i j)
theorem tt_le (h : WB p K A C W Q x6 x7 x8 x9 t n k) {i j : Nat} (hi : i < 4) (hj : j < 6) : tt C W Q t i j ≤ 1197 := by
  obtain ⟨b1, b2, b3, b4, b5, b6, b7, b8, b9⟩ := h
  unfold tt
  have h1 := rowA_le (a := C i) (b := Q j) (by have := (b8 i hi).2.1; omega) (by have := b9 j hj; omega)
  have h2 := colA_le (a := C i) (b := Q j)
  have h3 : W i * (rowA (C i) (Q j) + colA (C i) (Q j)) ≤ 9 * 22 := Nat.mul_le_mul (b8 i hi).2.2 (by omega)
  omega
theorem val_le (h : WB p K A C W Q x6 x7 x8 x9 t n k) {i j : Nat} (hi : i < 4) (hj : j < 6) : val p K A C W Q x6 x7 x8 x9 t i j ≤ AL * 1000 := by
  have ht := tt_le h hi hj
  obtain ⟨b1, b2, b3, b4, b5, b6, b7, b8, b9⟩ := h
  unfold val
  exact Nat.mul_le_mul (seenS_le (by have := b9 j hj; omega) b1) (LV_eq b3 b4 (by omega)).2
theorem WC.of {c c' : St} (h : WC p K A C W Q x6 x7 x8 x9 t n k c) (o : Only [20, 21] [14, 19] c c') : WC p K A C W Q x6 x7 x8 x9 t n k c' := by
  unfold WC PC LawC at h ⊢
  simp only [o.1 3 (by decide), o.1 7 (by decide), o.1 9 (by decide), o.1 14 (by decide), o.1 15 (by decide), o.1 16 (by decide), o.1 17 (by decide), o.1 18 (by decide), o.2 10 (by decide), o.2 11 (by decide)]
  exact h
theorem WM.of {c c' : St} (h : WM p K A C W Q x6 x7 x8 x9 t n k c) (o : Only [] [15] c c') : WM p K A C W Q x6 x7 x8 x9 t n k c' := by
  unfold WM PM LawM at h ⊢
  simp only [o.1 2 (by decide), o.1 5 (by decide), o.1 0 (by decide), o.1 14 (by decide), o.1 11 (by decide), o.1 12 (by decide), o.1 13 (by decide), o.2 9 (by decide)]
  exact h
theorem c_worth (F : Nat) (hF : 3000 ≤ F) {c : St} (h : WC p K A C W Q x6 x7 x8 x9 t n k c) (b : WB p K A C W Q x6 x7 x8 x9 t n k) {i j : Nat} (hi : i < 4) (hj : j < 6) : c_State_worth F (nI (A i)) (nI (Q j)) (nI (tt C W Q t i j)) (nI (tt C W Q t i j)) c = some (lN (val p K A C W Q x6 x7 x8 x9 t i j), c) := by
  have ht := tt_le b hi hj
  obtain ⟨h1, h2, h3, h4, h5, h6, h7, h8, h9⟩ := h
  obtain ⟨b1, b2, b3, b4, b5, b6, b7, b8, b9⟩ := b
  unfold c_State_worth
  rw [c_seenS F hF h1 b1 h2 b2 (b8 i hi).1 (by have := b9 j hj; omega) (by omega), gB2_mk, c_liv F h3 h4, gB2_mk, (LV_eq b3 b4 (by omega)).1, i2lN (by have := (LV_eq (t := tt C W Q t i j) b3 b4 (by omega)).2; omega), lN_mul]
  rfl
theorem m_valueE (F : Nat) (hF : 3000 ≤ F) {m : St} (h : WM p K A C W Q x6 x7 x8 x9 t n k m) (b : WB p K A C W Q x6 x7 x8 x9 t n k) {i j : Nat} (hi : i < 4) (hj : j < 6) : m_value F (nI i) (nI j) m = some (lN (val p K A C W Q x6 x7 x8 x9 t i j), m) := by
  have ht := tt_le b hi hj
  obtain ⟨h1, h2, h3, h4, h5, h6, h7, h8, h9⟩ := h
  obtain ⟨b1, b2, b3, b4, b5, b6, b7, b8, b9⟩ := b
  have hc := (b8 i hi).2.1
  have hq := b9 j hj
  unfold m_value
  rw [inb_nI hi (by decide), inb_nI hj (by decide), cl_nI (by omega), cl_nI (by omega), (h8 i hi).2.1, h9 j hj, show (12 : Int32) = nI 12 from rfl, div12 (by omega), div12 (by omega)]
  simp only [if_true, size_sub F m (show C i / 12 < 2 ^ 30 by omega) (show Q j / 12 < 2 ^ 30 by omega), size_sub F m (show C i % 12 < 2 ^ 30 by omega) (show Q j % 12 < 2 ^ 30 by omega), gB2_mk, (h8 i hi).2.1, h9 j hj, (h8 i hi).1, (h8 i hi).2.2, div12 (show C i < 2 ^ 31 by omega), div12 (show Q j < 2 ^ 31 by omega), rem12' (show C i < 2 ^ 31 by omega), rem12' (show Q j < 2 ^ 31 by omega), h5, nI_add, mulI]
  have e : t + (dN (C i / 12) (Q j / 12) + dN (C i % 12) (Q j % 12)) * W i = tt C W Q t i j := by
    unfold tt rowA colA
    rw [Nat.mul_comm]
  rw [e, m_seenS F hF h1 b1 h2 b2 (b8 i hi).1 (by omega) (by omega), gB2_mk, m_liv F h3 h4, gB2_mk, (LV_eq b3 b4 (by omega)).1, i2lN (by have := (LV_eq (t := tt C W Q t i j) b3 b4 (by omega)).2; omega), lN_mul]
  rfl
def Kept (cell : Nat) (V : Nat → Nat → Nat) (k i j : Nat) (s : St) : Prop := ∀ a b, b < k → (a < i ∨ (a = i ∧ b < j)) → s.2 cell (6 * a + b) = lN (V a b)
theorem Kept.put {cell : Nat} {V : Nat → Nat → Nat} {k i j : Nat} {s : St} (h : Kept cell V k i j s) (hk : k ≤ 6) (hj : j < 6) : Kept cell V k i (j + 1) (sJ s cell (6 * i + j) (lN (V i j))) := fun a b hb hab => by
  rw [sJ2_eq]
  by_cases e : 6 * a + b = 6 * i + j
  · have e1 : a = i := by omega
    have e2 : b = j := by omega
    rw [e1, e2, updL_eq]
  · rw [updL_ne e]
    exact h a b hb (by omega)
theorem c_weigh_in (F : Nat) (hF : 3000 ≤ F) (b : WB p K A C W Q x6 x7 x8 x9 t n k) (k2 : Int32 → St → Option St) {i : Nat} (hi : i < 4) : ∀ (d j f : Nat) (s : St), j + d = k → d < f → WC p K A C W Q x6 x7 x8 x9 t n k s → Kept 19 (val p K A C W Q x6 x7 x8 x9 t) k i j s → ∃ s', c_Teams_weigh_L12 F k2 f (nI i) (nI j) s = k2 (nI (i + 1)) s' ∧ Kept 19 (val p K A C W Q x6 x7 x8 x9 t) k i k s' ∧ Only [20, 21] [14, 19] s s' := by
  intro d
  induction d with
  | zero =>
    intro j f s hj hf h hk
    obtain ⟨f, rfl⟩ : ∃ z, f = z + 1 := ⟨f - 1, by omega⟩
    have hjk : j = k := by omega
    subst hjk
    refine ⟨s, ?_, hk, Only.refl _ _ _⟩
    show c_Teams_weigh_L12b F k2 (c_Teams_weigh_L12 F k2 f) (nI i) (nI j) s = _
    obtain ⟨h1, h2, h3, h4, h5, h6, h7, h8, h9⟩ := h
    unfold c_Teams_weigh_L12b
    rw [h7, if_pos (Int32.le_refl _)]
    simp (disch := omega) only [fa_lit, fa_litL, leI, ltI, eqI, leL, ltL, eqL, cq_lt, cq_le, cq_gt, cq_ge, cq_eq, mulI, nI_add, lN_add, lN_mul, inb_iff, cl_nI, i2lN, l2iN]
  | succ d ih =>
    intro j f s hj hf h hk
    obtain ⟨f, rfl⟩ : ∃ z, f = z + 1 := ⟨f - 1, by omega⟩
    have b7 : k ≤ 6 := b.2.2.2.2.2.2.1
    have hj6 : j < 6 := by omega
    have e : c_Teams_weigh_L12 F k2 (f + 1) (nI i) (nI j) s = c_Teams_weigh_L12 F k2 f (nI i) (nI (j + 1)) (sJ s 19 (6 * i + j) (lN (val p K A C W Q x6 x7 x8 x9 t i j))) := by
      show c_Teams_weigh_L12b F k2 (c_Teams_weigh_L12 F k2 f) (nI i) (nI j) s = _
      have hw := c_worth F hF h b hi hj6
      obtain ⟨h1, h2, h3, h4, h5, h6, h7, h8, h9⟩ := h
      obtain ⟨b1, b2, b3, b4, b5, b6, -, b8, b9⟩ := b
      have hc := (b8 i hi).2.1
      have hq := b9 j hj6
      have i4 := inb_nI hi (by decide)
      have i6 := inb_nI hj6 (by decide)
      unfold c_Teams_weigh_L12b
      have e0 : t + W i * (rowA (C i) (Q j) + colA (C i) (Q j)) = tt C W Q t i j := by unfold tt; rfl
      rw [i4, i6, cl_nI (show i < 2 ^ 31 by omega), cl_nI (show j < 2 ^ 31 by omega), (h8 i hi).2.1, h9 j hj6, c_rows F s (show C i < 144 by omega) (show Q j < 144 by omega), gB2_mk, (h8 i hi).2.1, h9 j hj6, c_cols F s (show C i < 144 by omega) (show Q j < 144 by omega), gB2_mk, (h8 i hi).1, (h8 i hi).2.2, h9 j hj6, h5, h7, nI_add, mulI, nI_add, e0, hw, gB2_mk]
      simp only [if_true]
      simp (disch := omega) only [fa_lit, fa_litL, leI, ltI, eqI, leL, ltL, eqL, cq_lt, cq_le, cq_gt, cq_ge, cq_eq, mulI, nI_add, lN_add, lN_mul, inb_iff, cl_nI, i2lN, l2iN, show i * 6 + j = 6 * i + j by omega]
      rw [if_neg (by omega), if_pos (by omega)]
    rw [e]
    obtain ⟨s', y1, y2, y3⟩ := ih (j + 1) f _ (by omega) (by omega) (h.of (Only.sJ s (by decide) _ _)) (hk.put b7 hj6)
    exact ⟨s', y1, y2, (Only.sJ s (by decide) _ _).trans y3⟩
theorem c_weigh_lp (F : Nat) (hF : 3000 ≤ F) (b : WB p K A C W Q x6 x7 x8 x9 t n k) : ∀ (d i f : Nat) (s : St), i + d = n → d < f → WC p K A C W Q x6 x7 x8 x9 t n k s → Kept 19 (val p K A C W Q x6 x7 x8 x9 t) k i 0 s → ∃ s', c_Teams_weigh_L2 F f (nI i) s = some s' ∧ Kept 19 (val p K A C W Q x6 x7 x8 x9 t) k n 0 s' ∧ Only [20, 21] [14, 19] s s' := by
  intro d
  induction d with
  | zero =>
    intro i f s hi hf h hk
    obtain ⟨f, rfl⟩ : ∃ z, f = z + 1 := ⟨f - 1, by omega⟩
    have hin : i = n := by omega
    subst hin
    refine ⟨s, ?_, hk, Only.refl _ _ _⟩
    show c_Teams_weigh_L2b F (c_Teams_weigh_L2 F f) (nI i) s = _
    obtain ⟨h1, h2, h3, h4, h5, h6, h7, h8, h9⟩ := h
    unfold c_Teams_weigh_L2b
    rw [h6, if_pos (Int32.le_refl _)]
  | succ d ih =>
    intro i f s hi hf h hk
    obtain ⟨f, rfl⟩ : ∃ z, f = z + 1 := ⟨f - 1, by omega⟩
    have b6 : n ≤ 4 := b.2.2.2.2.2.1
    have b7 : k ≤ 6 := b.2.2.2.2.2.2.1
    have h6 : s.1 14 7 = nI n := h.2.2.2.2.2.1
    show ∃ s', c_Teams_weigh_L2b F (c_Teams_weigh_L2 F f) (nI i) s = some s' ∧ _
    unfold c_Teams_weigh_L2b
    rw [h6, if_neg (by rw [leI (by omega) (by omega)]; omega)]
    obtain ⟨s1, y1, y2, y3⟩ := c_weigh_in F hF b (c_Teams_weigh_L2 F f) (i := i) (by omega) k 0 F s (by omega) (by omega) h hk
    obtain ⟨s', z1, z2, z3⟩ := ih (i + 1) f s1 (by omega) (by omega) (h.of y3) (fun x y hy hxy => y2 x y hy (by omega))
    exact ⟨s', y1.trans z1, z2, y3.trans z3⟩
theorem m_weigh_in (F : Nat) (hF : 3000 ≤ F) (b : WB p K A C W Q x6 x7 x8 x9 t n k) (k2 : Int32 → St → Option St) {i : Nat} (hi : i < 4) : ∀ (d j f : Nat) (s : St), j + d = k → d < f → WM p K A C W Q x6 x7 x8 x9 t n k s → Kept 15 (val p K A C W Q x6 x7 x8 x9 t) k i j s → ∃ s', m_valuesAll_L12 F k2 f (nI i) (nI j) s = k2 (nI (i + 1)) s' ∧ Kept 15 (val p K A C W Q x6 x7 x8 x9 t) k i k s' ∧ Only [] [15] s s' := by
  intro d
  induction d with
  | zero =>
    intro j f s hj hf h hk
    obtain ⟨f, rfl⟩ : ∃ z, f = z + 1 := ⟨f - 1, by omega⟩
    have hjk : j = k := by omega
    subst hjk
    refine ⟨s, ?_, hk, Only.refl _ _ _⟩
    show m_valuesAll_L12b F k2 (m_valuesAll_L12 F k2 f) (nI i) (nI j) s = _
    obtain ⟨h1, h2, h3, h4, h5, h6, h7, h8, h9⟩ := h
    unfold m_valuesAll_L12b
    rw [h7, if_pos (Int32.le_refl _)]
    simp (disch := omega) only [fa_lit, fa_litL, leI, ltI, eqI, leL, ltL, eqL, cq_lt, cq_le, cq_gt, cq_ge, cq_eq, mulI, nI_add, lN_add, lN_mul, inb_iff, cl_nI, i2lN, l2iN]
  | succ d ih =>
    intro j f s hj hf h hk
    obtain ⟨f, rfl⟩ : ∃ z, f = z + 1 := ⟨f - 1, by omega⟩
    have b7 : k ≤ 6 := b.2.2.2.2.2.2.1
    have hj6 : j < 6 := by omega
    have e : m_valuesAll_L12 F k2 (f + 1) (nI i) (nI j) s = m_valuesAll_L12 F k2 f (nI i) (nI (j + 1)) (sJ s 15 (6 * i + j) (lN (val p K A C W Q x6 x7 x8 x9 t i j))) := by
      show m_valuesAll_L12b F k2 (m_valuesAll_L12 F k2 f) (nI i) (nI j) s = _
      have hw := m_valueE F hF h b hi hj6
      obtain ⟨h1, h2, h3, h4, h5, h6, h7, h8, h9⟩ := h
      unfold m_valuesAll_L12b
      rw [h7, hw, gB2_mk]
      simp (disch := omega) only [fa_lit, fa_litL, leI, ltI, eqI, leL, ltL, eqL, cq_lt, cq_le, cq_gt, cq_ge, cq_eq, mulI, nI_add, lN_add, lN_mul, inb_iff, cl_nI, i2lN, l2iN]
      rw [if_neg (by omega), if_pos (by omega)]
    rw [e]
    obtain ⟨s', y1, y2, y3⟩ := ih (j + 1) f _ (by omega) (by omega) (h.of (Only.sJ s (by decide) _ _)) (hk.put b7 hj6)
    exact ⟨s', y1, y2, (Only.sJ s (by decide) _ _).trans y3⟩
theorem m_weigh_lp (F : Nat) (hF : 3000 ≤ F) (b : WB p K A C W Q x6 x7 x8 x9 t n k) : ∀ (d i f : Nat) (s : St), i + d = n → d < f → WM p K A C W Q x6 x7 x8 x9 t n k s → Kept 15 (val p K A C W Q x6 x7 x8 x9 t) k i 0 s → ∃ s', m_valuesAll_L2 F f (nI i) s = some s' ∧ Kept 15 (val p K A C W Q x6 x7 x8 x9 t) k n 0 s' ∧ Only [] [15] s s' := by
  intro d
  induction d with
  | zero =>
    intro i f s hi hf h hk
    obtain ⟨f, rfl⟩ : ∃ z, f = z + 1 := ⟨f - 1, by omega⟩
    have hin : i = n := by omega
    subst hin
    refine ⟨s, ?_, hk, Only.refl _ _ _⟩
    show m_valuesAll_L2b F (m_valuesAll_L2 F f) (nI i) s = _
    obtain ⟨h1, h2, h3, h4, h5, h6, h7, h8, h9⟩ := h
    unfold m_valuesAll_L2b
    rw [h6, if_pos (Int32.le_refl _)]
  | succ d ih =>
    intro i f s hi hf h hk
    obtain ⟨f, rfl⟩ : ∃ z, f = z + 1 := ⟨f - 1, by omega⟩
    have b6 : n ≤ 4 := b.2.2.2.2.2.1
    have b7 : k ≤ 6 := b.2.2.2.2.2.2.1
    have h6 : s.1 0 14 = nI n := h.2.2.2.2.2.1
    show ∃ s', m_valuesAll_L2b F (m_valuesAll_L2 F f) (nI i) s = some s' ∧ _
    unfold m_valuesAll_L2b
    rw [h6, if_neg (by rw [leI (by omega) (by omega)]; omega)]
    obtain ⟨s1, y1, y2, y3⟩ := m_weigh_in F hF b (m_valuesAll_L2 F f) (i := i) (by omega) k 0 F s (by omega) (by omega) h hk
    obtain ⟨s', z1, z2, z3⟩ := ih (i + 1) f s1 (by omega) (by omega) (h.of y3) (fun x y hy hxy => y2 x y hy (by omega))
    exact ⟨s', y1.trans z1, z2, y3.trans z3⟩
theorem c_weigh (F : Nat) (hF : 3000 ≤ F) (b : WB p K A C W Q x6 x7 x8 x9 t n k) {s : St} (h : WC p K A C W Q x6 x7 x8 x9 t n k s) : ∃ s', c_Teams_weigh F s = some s' ∧ Kept 19 (val p K A C W Q x6 x7 x8 x9 t) k n 0 s' ∧ Only [20, 21] [14, 19] s s' :=
  c_weigh_lp F hF b n 0 F s (by omega) (by have := b.2.2.2.2.2.1; omega) h (fun x y _ hxy => by omega)
theorem m_weigh (F : Nat) (hF : 3000 ≤ F) (b : WB p K A C W Q x6 x7 x8 x9 t n k) {s : St} (h : WM p K A C W Q x6 x7 x8 x9 t n k s) : ∃ s', m_valuesAll F s = some s' ∧ Kept 15 (val p K A C W Q x6 x7 x8 x9 t) k n 0 s' ∧ Only [] [15] s s' :=
  m_weigh_lp F hF b n 0 F s (by omega) (by have := b.2.2.2.2.2.1; omega) h (fun x y _ hxy => by omega)
end WS
