/-! the pure part: again, truly -/
def zF (f : Nat → Nat) (s : Nat → Nat) (w : Nat) (j : Nat) : Nat := if (if 0 < s j then 1 else 0) = w then f j + 1 else 0
theorem zF_or (f s : Nat → Nat) (w j : Nat) : zF f s w j = 0 ∨ zF f s w j = f j + 1 := by
  unfold zF
  by_cases h : (if 0 < s j then 1 else 0) = w
  · exact Or.inr (if_pos h)
  · exact Or.inl (if_neg h)
theorem bF_le {f : Nat → Nat} {B : Nat} : ∀ (d i : Nat) (a : Option Nat × Nat), (∀ j, i ≤ j → j < i + d → f j ≤ B) → a.2 ≤ B → (bF f i d a).2 ≤ B
  | 0, _, _, _, h => h
  | d + 1, i, a, h, h2 => by
    rw [bF]
    apply bF_le d (i + 1)
    · exact fun j h3 h4 => h j (by omega) (by omega)
    · split
      · exact h i (by omega) (by omega)
      · exact h2
theorem bF_val {f : Nat → Nat} : ∀ (d i : Nat) (a : Option Nat × Nat), (∀ k, a.1 = some k → f k = a.2 ∧ 0 < a.2) → ∀ k, (bF f i d a).1 = some k → f k = (bF f i d a).2 ∧ 0 < (bF f i d a).2
  | 0, _, _, h => h
  | d + 1, i, a, h => by
    rw [bF]
    apply bF_val d (i + 1)
    split
    · rename_i g
      intro k e
      simp only [Option.some.injEq] at e
      rw [← e]
      exact ⟨rfl, by omega⟩
    · exact h
theorem tg62 {p : Nat → Nat} {q : Nat} (hq : q < 144) (hs : sumN p 720 ≤ AL) : tg p q < 2 ^ 61 := by
  have := tg_le hq hs
  unfold AL at this
  omega
theorem seenS_le {p K : Nat → Nat} {x8 x9 a q t : Nat} (hq : q < 144) (hs : sumN p 720 ≤ AL) : seenS p K x8 x9 a q t ≤ AL := by
  refine Nat.le_trans ?_ (tg_le hq hs)
  unfold seenS seenOf tg
  have a0 := le16 (a := p (5 * q)) (sg16 a (K q) 0 t x8 x9)
  have a1 := le16 (a := p (5 * q + 1)) (sg16 a (K q) 0 t x8 x9)
  have a2 := le16 (a := p (5 * q + 2)) (sg16 a (K q) 0 t x8 x9)
  have a3 := le16 (a := p (5 * q + 3)) (sg16 a (K q) 0 t x8 x9)
  have a4 := le16 (a := p (5 * q + 4)) (sg16 a (K q) 1 t x8 x9)
  omega
theorem c_best_lp (F : Nat) (z : Int32) (hF : 3000 ≤ F) {p K S : Nat → Nat} {x8 x9 a w t : Nat} {s : St} (hp : PC p s) (hs : sumN p 720 ≤ AL) (hl : LawC K x8 x9 s) (hb : LawB K x8 x9) (ha : a ≤ 3) (hw : w ≤ 1) (ht : t ≤ 100000) (hmin : s.1 9 4 = nI t) (hS : ∀ j, j < 144 → S j ≤ 1000 ∧ s.1 5 j = nI (S j)) : ∀ (d i k : Nat) (b : Option Nat × Nat), i + d = 144 → d < k → b.2 ≤ AL + 1 → c_State_bestOf_L10 F k (nI a) (nI w) (enc z b.1) (dL b.2) (nI i) s = some (enc z (bF (zF (fun j => seenS p K x8 x9 a j t) S w) i d b).1, s) := by
  intro d
  induction d with
  | zero =>
    intro i k b hi hk hc
    obtain ⟨k, rfl⟩ : ∃ z, k = z + 1 := ⟨k - 1, by omega⟩
    show c_State_bestOf_L10b F (c_State_bestOf_L10 F k) (nI a) (nI w) (enc z b.1) (dL b.2) (nI i) s = _
    unfold c_State_bestOf_L10b
    simp (disch := omega) only [fa_lit, fa_litL, leI, ltI, eqI, leL, ltL, eqL, cq_lt, cq_le, cq_gt, cq_ge, cq_eq, mulI, nI_add, lN_add, lN_mul, inb_iff, cl_nI, i2lN, l2iN]
    rw [if_pos (by omega)]
    rfl
  | succ d ih =>
    intro i k b hi hk hc
    obtain ⟨k, rfl⟩ : ∃ z, k = z + 1 := ⟨k - 1, by omega⟩
    show c_State_bestOf_L10b F (c_State_bestOf_L10 F k) (nI a) (nI w) (enc z b.1) (dL b.2) (nI i) s = _
    unfold c_State_bestOf_L10b
    have hS1 := hS i (by omega)
    have hsb := seenS_le (K := K) (x8 := x8) (x9 := x9) (a := a) (t := t) (show i < 144 by omega) hs
    have hJ : ∀ y, y ≤ 1 → c_State_bestOf_J36 F (c_State_bestOf_L10 F k) (nI a) (nI w) (enc z b.1) (dL b.2) (nI i) (nI y) s = if y = w ∧ b.2 < seenS p K x8 x9 a i t + 1 then c_State_bestOf_L10 F k (nI a) (nI w) (nI i) (dL (seenS p K x8 x9 a i t + 1)) (nI (i + 1)) s else c_State_bestOf_L10 F k (nI a) (nI w) (enc z b.1) (dL b.2) (nI (i + 1)) s := by
      intro y hy
      unfold c_State_bestOf_J36 c_State_bestOf_J74
      rw [hmin, c_seenS F hF hp hs hl hb ha (by omega) ht, gB2_mk]
      unfold AL at hsb hc
      simp (disch := omega) only [cmp_le, le_dL]
      simp (disch := omega) only [fa_lit, fa_litL, leI, ltI, eqI, leL, ltL, eqL, cq_lt, cq_le, cq_gt, cq_ge, cq_eq, mulI, nI_add, lN_add, lN_mul, inb_iff, cl_nI, i2lN, l2iN]
      rw [dL_1]
      by_cases g : y = w
      · rw [if_pos g]
        by_cases g2 : seenS p K x8 x9 a i t < b.2
        · rw [if_pos g2, if_neg (by omega)]
        · rw [if_neg g2, if_pos (by omega)]
      · rw [if_neg g, if_neg (fun h => g h.1)]
    simp (disch := omega) only [fa_lit, fa_litL, leI, ltI, eqI, leL, ltL, eqL, cq_lt, cq_le, cq_gt, cq_ge, cq_eq, mulI, nI_add, lN_add, lN_mul, inb_iff, cl_nI, i2lN, l2iN, hS1.2]
    rw [if_neg (by omega), if_pos (by omega), bF, hJ 0 (by omega), hJ 1 (by omega)]
    have hz : zF (fun j => seenS p K x8 x9 a j t) S w i = if (if 0 < S i then 1 else 0) = w then seenS p K x8 x9 a i t + 1 else 0 := rfl
    rw [hz]
    by_cases g0 : S i ≤ 0
    · rw [if_pos g0, if_neg (show ¬ 0 < S i by omega)]
      by_cases g : 0 = w ∧ b.2 < seenS p K x8 x9 a i t + 1
      · rw [if_pos g, if_pos g.1, if_pos g.2]
        exact ih (i + 1) k (some i, seenS p K x8 x9 a i t + 1) (by omega) (by omega) (by show seenS p K x8 x9 a i t + 1 ≤ AL + 1; omega)
      · rw [if_neg g, if_neg (by split <;> omega)]
        exact ih (i + 1) k b (by omega) (by omega) hc
    · rw [if_neg g0, if_pos (show 0 < S i by omega)]
      by_cases g : 1 = w ∧ b.2 < seenS p K x8 x9 a i t + 1
      · rw [if_pos g, if_pos g.1, if_pos g.2]
        exact ih (i + 1) k (some i, seenS p K x8 x9 a i t + 1) (by omega) (by omega) (by show seenS p K x8 x9 a i t + 1 ≤ AL + 1; omega)
      · rw [if_neg g, if_neg (by split <;> omega)]
        exact ih (i + 1) k b (by omega) (by omega) hc
theorem c_best (F : Nat) (hF : 3000 ≤ F) {p K S : Nat → Nat} {x8 x9 a w t : Nat} {s : St} (hp : PC p s) (hs : sumN p 720 ≤ AL) (hl : LawC K x8 x9 s) (hb : LawB K x8 x9) (ha : a ≤ 3) (hw : w ≤ 1) (ht : t ≤ 100000) (hmin : s.1 9 4 = nI t) (hS : ∀ j, j < 144 → S j ≤ 1000 ∧ s.1 5 j = nI (S j)) : c_State_bestOf F (nI a) (nI w) s = some (enc (-1) (bF (zF (fun j => seenS p K x8 x9 a j t) S w) 0 144 (none, 0)).1, s) := by
  unfold c_State_bestOf
  exact c_best_lp F (-1) hF hp hs hl hb ha hw ht hmin hS 144 0 F (none, 0) rfl (by omega) (Nat.zero_le _)
def m_again_end (F : Nat) (a v x : Int32) (y1 y0 : Int64) (i : Int32) (s : St) : Option (Int32 × St) := m_again_L53b F (fun _ _ _ _ _ _ _ => none) a v x y1 y0 i s
theorem m_again_lp (F : Nat) (z : Int32) (hF : 3000 ≤ F) {v : Int32} {p K S : Nat → Nat} {x8 x9 a t : Nat} {s : St} (hp : PM p s) (hs : sumN p 720 ≤ AL) (hl : LawM K x8 x9 s) (hb : LawB K x8 x9) (ha : a ≤ 3) (ht : t ≤ 100000) (hmin : s.1 0 13 = nI t) (hS : ∀ j, j < 144 → S j ≤ 1000 ∧ s.1 4 j = nI (S j)) : ∀ (d i k : Nat) (b : Option Nat × Nat) (b0 : Option Nat × Nat), i + d = 144 → d < k → b.2 ≤ AL + 1 ∧ b0.2 ≤ AL + 1 → m_again_L53 F k (nI a) v (enc z b.1) (dL b.2) (dL b0.2) (nI i) s = m_again_end F (nI a) v (enc z (bF (zF (fun j => seenS p K x8 x9 a j t) S 1) i d b).1) (dL (bF (zF (fun j => seenS p K x8 x9 a j t) S 1) i d b).2) (dL (bF (zF (fun j => seenS p K x8 x9 a j t) S 0) i d b0).2) (nI 144) s := by
  intro d
  induction d with
  | zero =>
    intro i k b b0 hi hk hc
    obtain ⟨k, rfl⟩ : ∃ z, k = z + 1 := ⟨k - 1, by omega⟩
    show m_again_L53b F (m_again_L53 F k) (nI a) v (enc z b.1) (dL b.2) (dL b0.2) (nI i) s = _
    rw [show i = 144 by omega]
    rfl
  | succ d ih =>
    intro i k b b0 hi hk hc
    obtain ⟨k, rfl⟩ : ∃ z, k = z + 1 := ⟨k - 1, by omega⟩
    show m_again_L53b F (m_again_L53 F k) (nI a) v (enc z b.1) (dL b.2) (dL b0.2) (nI i) s = _
    unfold m_again_L53b m_again_J99 m_again_J119
    have hS1 := hS i (by omega)
    have hsb := seenS_le (K := K) (x8 := x8) (x9 := x9) (a := a) (t := t) (show i < 144 by omega) hs
    have hsb2 := hsb
    have hc2 := hc
    unfold AL at hsb hc
    rw [hmin, m_seenS F hF hp hs hl hb ha (by omega) ht, gB2_mk]
    simp (disch := omega) only [cmp_le, le_dL]
    simp (disch := omega) only [fa_lit, fa_litL, leI, ltI, eqI, leL, ltL, eqL, cq_lt, cq_le, cq_gt, cq_ge, cq_eq, mulI, nI_add, lN_add, lN_mul, inb_iff, cl_nI, i2lN, l2iN, hS1.2]
    rw [if_neg (by omega), if_pos (by omega)]
    have hz : ∀ w, zF (fun j => seenS p K x8 x9 a j t) S w i = if (if 0 < S i then 1 else 0) = w then seenS p K x8 x9 a i t + 1 else 0 := fun w => rfl
    simp only [bF, hz]
    by_cases g0 : S i = 0
    · simp only [if_pos g0, if_neg (show ¬ 0 < S i by omega), if_true, if_neg (show ¬ (0 : Nat) = 1 by decide), if_neg (Nat.not_lt_zero b.2)]
      by_cases g : seenS p K x8 x9 a i t < b0.2
      · rw [if_pos g, if_neg (show ¬ b0.2 < seenS p K x8 x9 a i t + 1 by omega)]
        exact ih (i + 1) k b b0 (by omega) (by omega) hc2
      · rw [if_neg g, if_pos (show b0.2 < seenS p K x8 x9 a i t + 1 by omega), ← dL_1]
        exact ih (i + 1) k b (some i, seenS p K x8 x9 a i t + 1) (by omega) (by omega) ⟨hc2.1, by show seenS p K x8 x9 a i t + 1 ≤ AL + 1; omega⟩
    · simp only [if_neg g0, if_pos (show 0 < S i by omega), if_true, if_neg (show ¬ (1 : Nat) = 0 by decide), if_neg (Nat.not_lt_zero b0.2)]
      by_cases g : seenS p K x8 x9 a i t < b.2
      · rw [if_pos g, if_neg (show ¬ b.2 < seenS p K x8 x9 a i t + 1 by omega)]
        exact ih (i + 1) k b b0 (by omega) (by omega) hc2
      · rw [if_neg g, if_pos (show b.2 < seenS p K x8 x9 a i t + 1 by omega), ← dL_1]
        exact ih (i + 1) k (some i, seenS p K x8 x9 a i t + 1) b0 (by omega) (by omega) ⟨by show seenS p K x8 x9 a i t + 1 ≤ AL + 1; omega, hc2.2⟩
theorem p_again {n : Nat} {c m : St} (R : Rel n c m) (hn : n ≤ 64) (F : Nat) (hF : 3000 ≤ F) (a v : Int32) : SameR n (c_again F a v c) (m_again F a v m) := by
  obtain ⟨p, hc, hm, hs⟩ := R.1.pp
  unfold c_again c_again_J16 m_again m_again_J17 c_State_isWorthMore c_State_isWorthMore_J41
  simp only [gB2_mk, gB_mk, bz_ite, bz_01, gB2_id, c_isCell_eq, c_isKind_eq, c_isSort_eq, c_isPart_eq, c_Sheets_isSheet_eq, c_Sheets_isLane_eq, m_isCell_eq, m_isKind_eq, m_isSort_eq, m_isSheet_eq, m_isLane_eq, c_isIn_eq, m_in_0_0, m_in_0_1, m_in_0_2, m_in_0_3, m_in_0_5, m_in_0_7, m_in_0_8, m_in_0_9, m_in_0_11, m_in_0_15, m_in_0_16, m_in_0_99, m_in_0_143, m_in_0_999, m_in_1_4, m_in_1_8, m_in_1_9, m_in_1_60, m_in_m1_3, m_in_m1_5, c_out]
  by_cases h1 : (0 : Int32) ≤ a ∧ a ≤ 3
  case neg =>
    simp only [if_neg h1]
    exact ref_t R F ok1
  simp only [if_pos h1]
  obtain ⟨i, i_lo, i_hi, rfl⟩ := in_nat (lo := 0) (hi := 3) (by decide) h1 (by decide)
  by_cases h2 : (0 : Int32) ≤ v ∧ v ≤ 1
  case neg =>
    simp only [if_neg h2]
    exact ref_t R F ok1
  simp only [if_pos h2]
  obtain ⟨w, w_lo, w_hi, rfl⟩ := in_nat (lo := 0) (hi := 1) (by decide) h2 (by decide)
  rcases R.minuteV.out with ⟨e1, e2⟩ | ⟨t, ht, e1, e2, e3⟩
  · simp only [if_neg e1, if_neg e2]
    exact ref_t R F ok2
  obtain ⟨K, x8, x9, hlc, hlm, hlb⟩ := R.law
  obtain ⟨S, hS⟩ := R.1.searched.fn (by omega)
  have hSc : ∀ j, j < 144 → S j ≤ 1000 ∧ c.1 5 j = nI (S j) := fun j hj => ⟨Nat.le_trans (hS j hj).1 (by omega), (hS j hj).2.1⟩
  have hSm : ∀ j, j < 144 → S j ≤ 1000 ∧ m.1 4 j = nI (S j) := fun j hj => ⟨Nat.le_trans (hS j hj).1 (by omega), (hS j hj).2.2⟩
  have ht' : t ≤ 100000 := by omega
  have y0 : c_State_bestOf F (nI i) 0 c = _ := c_best F hF (w := 0) hc hs hlc hlb i_hi (by decide) ht' e1 hSc
  have y1 : c_State_bestOf F (nI i) 1 c = _ := c_best F hF (w := 1) hc hs hlc hlb i_hi (by decide) ht' e1 hSc
  have y2 : m_again_L53 F F (nI i) (nI w) (-4) (-1) (-1) 0 m = _ := m_again_lp F (-4) hF (v := nI w) hm hs hlm hlb i_hi ht' e2 hSm 144 0 F (none, 0) (none, 0) rfl (by omega) ⟨Nat.zero_le _, Nat.zero_le _⟩
  simp only [e1, e2, if_pos e3, y0, y1, gB2_mk, y2]
  have hBb : ∀ w, (bF (zF (fun j => seenS p K x8 x9 i j t) S w) 0 144 (none, 0)).2 ≤ AL + 1 := fun w => bF_le 144 0 (none, 0) (fun j _ hj => by
    have := seenS_le (K := K) (x8 := x8) (x9 := x9) (a := i) (t := t) (show j < 144 by omega) hs
    have := zF_or (fun j => seenS p K x8 x9 i j t) S w j
    omega) (Nat.zero_le _)
  have b1 := hBb 1
  have b0 := hBb 0
  have v1 := bF_val 144 0 (f := zF (fun j => seenS p K x8 x9 i j t) S 1) (none, 0) (fun k h => by cases h)
  have v0 := bF_val 144 0 (f := zF (fun j => seenS p K x8 x9 i j t) S 0) (none, 0) (fun k h => by cases h)
  have n0 := bF_inv (zF (fun j => seenS p K x8 x9 i j t) S 0) 144 0 (none, 0) (fun _ => rfl)
  have l1 := fun k => bF_bd (f := zF (fun j => seenS p K x8 x9 i j t) S 1) (i := 0) (d := 144) (k := k)
  have l0 := fun k => bF_bd (f := zF (fun j => seenS p K x8 x9 i j t) S 0) (i := 0) (d := 144) (k := k)
  generalize bF (zF (fun j => seenS p K x8 x9 i j t) S 1) 0 144 (none, 0) = B1 at *
  generalize bF (zF (fun j => seenS p K x8 x9 i j t) S 0) 0 144 (none, 0) = B0 at *
  unfold m_again_end m_again_L53b
  rw [if_pos (show (144 : Int32) ≤ nI 144 by decide)]
  cases o1 : B1.1 with
  | none =>
    rw [gB2_id]
    exact ref_t R F ok4
  | some k1 =>
    have hk1 := (l1 k1 o1).2
    have f1 := v1 k1 o1
    have p1 : (0 : Int32) ≤ nI k1 := nI_le (a := 0) (Nat.zero_le k1) (by omega)
    rw [show enc (-1) (some k1) = nI k1 from rfl, show enc (-4) (some k1) = nI k1 from rfl, if_pos p1, if_pos p1]
    rcases (show w = 0 ∨ w = 1 by omega) with rfl | rfl
    · exact SameR.ret rfl R
    · have hs1 := c_seenS F hF hc hs hlc hlb i_hi (show k1 < 144 by omega) ht'
      have hz1 : seenS p K x8 x9 i k1 t + 1 = B1.2 := by
        have := zF_or (fun j => seenS p K x8 x9 i j t) S 1 k1
        omega
      unfold AL at b1 b0
      rw [if_neg (show ¬ nI 1 = 0 by decide), if_neg (show ¬ nI 1 = 0 by decide)]
      cases o0 : B0.1 with
      | none =>
        have h0 := n0 o0
        have g : ¬ lg_cmp (dL B1.2) (dL B0.2) ≤ 0 := by
          rw [cmp_le, dL_le (by omega) (by omega)]
          omega
        rw [if_neg g, show enc (-1) none = -1 from rfl, if_pos (show (-1 : Int32) < 0 by decide), gB2_mk, if_neg (show ¬ (1 : Int32) = 0 by decide)]
        exact SameR.ret rfl R
      | some k0 =>
        have hk0 := (l0 k0 o0).2
        have f0 := v0 k0 o0
        have hs0 := c_seenS F hF hc hs hlc hlb i_hi (show k0 < 144 by omega) ht'
        have hz0 : seenS p K x8 x9 i k0 t + 1 = B0.2 := by
          have := zF_or (fun j => seenS p K x8 x9 i j t) S 0 k0
          omega
        have p0 : ¬ nI k0 < (0 : Int32) := Int32.not_lt.mpr (nI_le (a := 0) (Nat.zero_le k0) (by omega))
        rw [show enc (-1) (some k0) = nI k0 from rfl, if_neg p0, hs1, gB2_mk, e1, hs0, gB2_mk]
        by_cases g : B1.2 ≤ B0.2
        · have g1 : lg_cmp (dL B1.2) (dL B0.2) ≤ 0 := by
            rw [cmp_le, dL_le (by omega) (by omega)]
            exact g
          have g2 : lg_cmp (lN (seenS p K x8 x9 i k1 t)) (lN (seenS p K x8 x9 i k0 t)) ≤ 0 := by
            rw [cmp_le, leL (by omega) (by omega)]
            omega
          rw [if_pos g1, if_pos g2, gB2_mk, if_pos rfl]
          exact SameR.ret rfl R
        · have g1 : ¬ lg_cmp (dL B1.2) (dL B0.2) ≤ 0 := by
            rw [cmp_le, dL_le (by omega) (by omega)]
            exact g
          have g2 : ¬ lg_cmp (lN (seenS p K x8 x9 i k1 t)) (lN (seenS p K x8 x9 i k0 t)) ≤ 0 := by
            rw [cmp_le, leL (by omega) (by omega)]
            omega
          rw [if_neg g1, if_neg g2, gB2_mk, if_neg (show ¬ (1 : Int32) = 0 by decide)]
          exact SameR.ret rfl R
