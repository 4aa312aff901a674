/-! the pure part: span, held, on -/
theorem m_wi_lp (F : Nat) (k72 : Int32 → Int32 → Int32 → Int32 → Int32 → St → Option (Int32 × St)) {x : Nat} {x5 : Int32} (hx : x ≤ 99) {A D : Nat → Nat} {s : St} {n a z : Nat} {x3 : Int32} (hn : s.1 0 27 = nI n) (h6 : n ≤ 60) (ha : a ≤ 3) (hA : ∀ j, j < 60 → A j ≤ 3 ∧ s.1 21 j = nI (A j)) (hD : ∀ j, j < 60 → D j ≤ 99 ∧ s.1 22 j = nI (D j)) (hz : ∀ j, j < 60 → (nI j = x3 ↔ j = z)) : ∀ (d i k : Nat) (acc : Nat), i + d = n → d < k → m_spanOf_L88 F k72 k (nI a) x3 x5 (nI x) (nI acc) (nI i) s = k72 (nI a) x3 x5 (nI x) (nI (acc + cF (wi A D a z (x + 1)) i d)) s := by
  intro d
  induction d with
  | zero =>
    intro i k acc hi hk
    obtain ⟨k, rfl⟩ : ∃ z, k = z + 1 := ⟨k - 1, by omega⟩
    show m_spanOf_L88b F k72 (m_spanOf_L88 F k72 k) (nI a) x3 x5 (nI x) (nI acc) (nI i) s = _
    unfold m_spanOf_L88b
    simp (disch := omega) only [fa_lit, fa_litL, leI, ltI, eqI, leL, ltL, eqL, cq_lt, cq_le, cq_gt, cq_ge, cq_eq, mulI, nI_add, lN_add, lN_mul, inb_iff, cl_nI, i2lN, l2iN, hn]
    rw [if_pos (by omega)]
    rfl
  | succ d ih =>
    intro i k acc hi hk
    obtain ⟨k, rfl⟩ : ∃ z, k = z + 1 := ⟨k - 1, by omega⟩
    show m_spanOf_L88b F k72 (m_spanOf_L88 F k72 k) (nI a) x3 x5 (nI x) (nI acc) (nI i) s = _
    unfold m_spanOf_L88b m_spanOf_J132 m_spanOf_J133
    have hA1 := hA i (by omega)
    have hD1 := hD i (by omega)
    have hzi := hz i (by omega)
    rw [hn, cl_nI (by omega), hA1.2, hD1.2, inb_nI (show i < 60 by omega) (by decide), if_pos rfl, if_pos rfl, cF]
    have g0 : ¬ nI n ≤ nI i := by
      rw [leI (by omega) (by omega)]
      omega
    have gA : (nI (A i) = nI a) = (A i = a) := eqI (by omega) (by omega)
    have gD : (nI x < nI (D i)) = (x < D i) := ltI (by omega) (by omega)
    rw [if_neg g0, show (1 : Int32) = nI 1 from rfl, nI_add, nI_add, show (0 : Int32) = nI 0 from rfl, nI_add, Nat.add_zero]
    by_cases g : A i = a
    · rw [if_pos (gA.mpr g)]
      by_cases g3 : i = z
      · rw [if_pos (hzi.mpr g3), ih (i + 1) k _ (by omega) (by omega), if_neg (by simp [wi, g3]), Nat.zero_add]
      · rw [if_neg (fun e => g3 (hzi.mp e))]
        by_cases g2 : D i < x + 1
        · rw [if_neg (fun e => absurd (gD.mp e) (by omega)), ih (i + 1) k _ (by omega) (by omega), if_pos (by simp [wi, g, g2, g3]), Nat.add_assoc]
        · rw [if_pos (gD.mpr (by omega)), ih (i + 1) k _ (by omega) (by omega), if_neg (by simp [wi, g2]), Nat.zero_add]
    · rw [if_neg (fun e => g (gA.mp e)), ih (i + 1) k _ (by omega) (by omega), if_neg (by simp [wi, g]), Nat.zero_add]
def m_spanOf_end (F : Nat) (x1 x2 x3 x4 : Int32) (s : St) : Option (Int32 × St) := if x4 = 0 then some ((-4 : Int32), s) else m_spanOf_L72 F F x1 x3 (((x2 * x4) + (3 : Int32)) / (4 : Int32)) (-1 : Int32) (0 : Int32) s
theorem m_cn_lp (F : Nat) {x2 : Int32} {A D : Nat → Nat} {s : St} {n a z : Nat} {x3 : Int32} (hn : s.1 0 27 = nI n) (h6 : n ≤ 60) (ha : a ≤ 3) (hA : ∀ j, j < 60 → A j ≤ 3 ∧ s.1 21 j = nI (A j)) (hD : ∀ j, j < 60 → D j ≤ 99 ∧ s.1 22 j = nI (D j)) (hz : ∀ j, j < 60 → (nI j = x3 ↔ j = z)) : ∀ (d i k : Nat) (acc : Nat), i + d = n → d < k → m_spanOf_L6 F k (nI a) x2 x3 (nI acc) (nI i) s = m_spanOf_end F (nI a) x2 x3 (nI (acc + cF (wi A D a z 100) i d)) s := by
  intro d
  induction d with
  | zero =>
    intro i k acc hi hk
    obtain ⟨k, rfl⟩ : ∃ z, k = z + 1 := ⟨k - 1, by omega⟩
    show m_spanOf_L6b F (m_spanOf_L6 F k) (nI a) x2 x3 (nI acc) (nI i) s = _
    unfold m_spanOf_L6b
    rw [show i = n by omega, hn, if_pos (Int32.le_refl _)]
    rfl
  | succ d ih =>
    intro i k acc hi hk
    obtain ⟨k, rfl⟩ : ∃ z, k = z + 1 := ⟨k - 1, by omega⟩
    show m_spanOf_L6b F (m_spanOf_L6 F k) (nI a) x2 x3 (nI acc) (nI i) s = _
    unfold m_spanOf_L6b m_spanOf_J38 m_spanOf_J39
    have hA1 := hA i (by omega)
    have hD1 := hD i (by omega)
    have hzi := hz i (by omega)
    rw [hn, cl_nI (by omega), hA1.2, inb_nI (show i < 60 by omega) (by decide), if_pos rfl, cF]
    have g0 : ¬ nI n ≤ nI i := by
      rw [leI (by omega) (by omega)]
      omega
    have gA : (nI (A i) = nI a) = (A i = a) := eqI (by omega) (by omega)
    rw [if_neg g0, show (1 : Int32) = nI 1 from rfl, nI_add, nI_add, show (0 : Int32) = nI 0 from rfl, nI_add, Nat.add_zero]
    by_cases g : A i = a
    · rw [if_pos (gA.mpr g)]
      by_cases g3 : i = z
      · rw [if_pos (hzi.mpr g3), ih (i + 1) k _ (by omega) (by omega), if_neg (by simp [wi, g3]), Nat.zero_add]
      · rw [if_neg (fun e => g3 (hzi.mp e)), ih (i + 1) k _ (by omega) (by omega), if_pos (by simp [wi, g, g3]; omega), Nat.add_assoc]
    · rw [if_neg (fun e => g (gA.mp e)), ih (i + 1) k _ (by omega) (by omega), if_neg (by simp [wi, g]), Nat.zero_add]
/-- the first t at which enough are counted -/
def fs (g : Nat → Nat) (need : Nat) : Nat → Nat → Nat
  | 0, t => t
  | d + 1, t => if need ≤ g (t + 1) then t else fs g need d (t + 1)
theorem fs_le (g : Nat → Nat) (need : Nat) : ∀ (d t : Nat), fs g need d t ≤ t + d
  | 0, t => Nat.le_refl _
  | d + 1, t => by
    rw [fs]
    by_cases h : need ≤ g (t + 1)
    · rw [if_pos h]
      omega
    · rw [if_neg h]
      have := fs_le g need d (t + 1)
      omega
theorem fs_ge (g : Nat → Nat) (need : Nat) : ∀ (d t : Nat), t ≤ fs g need d t
  | 0, t => Nat.le_refl _
  | d + 1, t => by
    rw [fs]
    by_cases h : need ≤ g (t + 1)
    · rw [if_pos h]
      exact Nat.le_refl _
    · rw [if_neg h]
      have := fs_ge g need d (t + 1)
      omega
theorem fs_lt (g : Nat → Nat) (need : Nat) (hg : ∀ x y, x ≤ y → g x ≤ g y) : ∀ (d t y : Nat), need ≤ g (t + d + 1) → t ≤ y → (fs g need d t < y ↔ t < y ∧ need ≤ g y)
  | 0, t, y, hn, hy => by
    rw [fs]
    constructor
    · intro h
      exact ⟨h, Nat.le_trans hn (hg _ _ (by omega))⟩
    · exact fun h => h.1
  | d + 1, t, y, hn, hy => by
    rw [fs]
    by_cases h : need ≤ g (t + 1)
    · rw [if_pos h]
      constructor
      · intro h2
        exact ⟨h2, Nat.le_trans h (hg _ _ (by omega))⟩
      · exact fun h2 => h2.1
    · rw [if_neg h]
      by_cases e : t = y
      · constructor
        · intro h2
          have := fs_ge g need d (t + 1)
          omega
        · intro h2
          omega
      · rw [fs_lt g need hg d (t + 1) y (by rw [show t + 1 + d + 1 = t + (d + 1) + 1 by omega]; exact hn) (by omega)]
        constructor
        · exact fun h2 => ⟨by omega, h2.2⟩
        · intro h2
          refine ⟨?_, h2.2⟩
          by_cases e2 : t + 1 = y
          · rw [← e2] at h2
            exact absurd h2.2 h
          · omega
theorem c_reach_lp (F : Nat) (hF : 3000 ≤ F) {A D : Nat → Nat} {s : St} {n a need : Nat} (hn : s.1 28 3 = nI n) (h6 : n ≤ 60) (ha : a ≤ 3) (hA : ∀ j, j < 60 → A j ≤ 3 ∧ s.1 29 j = nI (A j)) (hD : ∀ j, j < 60 → D j ≤ 99 ∧ s.1 30 j = nI (D j)) (h0 : 0 < need) (hne : need ≤ wc A D a 1000 n 100) (hb : need ≤ 1000) : ∀ (d t k : Nat), t + d = 99 → d < k → c_Book_reach_L15 F k (nI a) (nI need) (nI t) s = some (nI (fs (wc A D a 1000 n) need d t), s) := by
  have hW : ∀ t, t ≤ 99 → c_Book_within F (nI a) (nI t) s = some (nI (wc A D a 1000 n (t + 1)), s) := fun t ht => by
    have := c_wi_lp F (x := t + 1) (b := nI t) hn h6 ha hA hD (fun v hv => by rw [ltI (by omega) (by omega)]; omega) n 0 F 0 (by omega) (by omega)
    rw [Nat.zero_add] at this
    exact this
  have hcl : ∀ x, wc A D a 1000 n x ≤ 60 := fun x => Nat.le_trans (cF_le _ _ _) h6
  intro d
  induction d with
  | zero =>
    intro t k ht hk
    obtain ⟨k, rfl⟩ : ∃ z, k = z + 1 := ⟨k - 1, by omega⟩
    have h99 : t = 99 := by omega
    subst h99
    show c_Book_reach_L15b F (c_Book_reach_L15 F k) (nI a) (nI need) (nI 99) s = _
    unfold c_Book_reach_L15b
    have hc := hcl 100
    have g1 : ¬ nI need ≤ (0 : Int32) := by
      rw [show (0 : Int32) = nI 0 from rfl, leI (by omega) (by omega)]
      omega
    have g2 : ¬ nI (wc A D a 1000 n 100) < nI need := by
      rw [ltI (by omega) (by omega)]
      omega
    rw [if_neg (show ¬ (99 : Int32) < nI 99 by decide), if_neg g1, hW 99 (by decide), gB2_mk, if_neg g2, fs]
  | succ d ih =>
    intro t k ht hk
    obtain ⟨k, rfl⟩ : ∃ z, k = z + 1 := ⟨k - 1, by omega⟩
    show c_Book_reach_L15b F (c_Book_reach_L15 F k) (nI a) (nI need) (nI t) s = _
    unfold c_Book_reach_L15b
    have hc := hcl (t + 1)
    have g0 : ¬ (99 : Int32) < nI t := by
      rw [show (99 : Int32) = nI 99 from rfl, ltI (by omega) (by omega)]
      omega
    have g1 : ¬ nI need ≤ (0 : Int32) := by
      rw [show (0 : Int32) = nI 0 from rfl, leI (by omega) (by omega)]
      omega
    have g2 : (nI (wc A D a 1000 n (t + 1)) < nI need) = (wc A D a 1000 n (t + 1) < need) := ltI (by omega) (by omega)
    rw [if_neg g0, if_neg g1, hW t (by omega), gB2_mk, show (1 : Int32) = nI 1 from rfl, nI_add, ih (t + 1) k (by omega) (by omega), fs]
    by_cases g : need ≤ wc A D a 1000 n (t + 1)
    · rw [if_neg (fun e => absurd (g2.mp e) (by omega)), if_pos g]
    · rw [if_pos (g2.mpr (by omega)), if_neg g]
