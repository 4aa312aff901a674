/-! the pure part: span, held -/
/-- finds of age a at most x far, but not the one at z -/
def wi (A D : Nat → Nat) (a z : Nat) (x : Nat) (j : Nat) : Bool := decide (A j = a) && (decide (D j < x) && !decide (j = z))
def wc (A D : Nat → Nat) (a z n x : Nat) : Nat := cF (wi A D a z x) 0 n
theorem cF_mono {P Q : Nat → Bool} : ∀ (d i : Nat), (∀ j, i ≤ j → j < i + d → P j = true → Q j = true) → cF P i d ≤ cF Q i d
  | 0, _, _ => Nat.le_refl _
  | d + 1, i, h => by
    rw [cF, cF]
    have h1 := cF_mono d (i + 1) (fun j h1 h2 => h j (by omega) (by omega))
    by_cases hp : P i = true
    · rw [if_pos hp, if_pos (h i (Nat.le_refl _) (by omega) hp)]
      omega
    · rw [if_neg hp]
      omega
theorem wc_mono {A D : Nat → Nat} {a z n x y : Nat} (h : x ≤ y) : wc A D a z n x ≤ wc A D a z n y := cF_mono n 0 (fun j _ _ hj => by
  unfold wi at hj ⊢
  rw [Bool.and_eq_true, Bool.and_eq_true, decide_eq_true_eq, decide_eq_true_eq] at hj ⊢
  exact ⟨hj.1, by omega, hj.2.2⟩)
theorem c_wi_lp (F : Nat) {A D : Nat → Nat} {s : St} {n a x : Nat} {b : Int32} (hn : s.1 28 3 = nI n) (h6 : n ≤ 60) (ha : a ≤ 3) (hA : ∀ j, j < 60 → A j ≤ 3 ∧ s.1 29 j = nI (A j)) (hD : ∀ j, j < 60 → D j ≤ 99 ∧ s.1 30 j = nI (D j)) (hb : ∀ v, v ≤ 99 → (b < nI v ↔ x ≤ v)) : ∀ (d i k : Nat) (acc : Nat), i + d = n → d < k → c_Book_within_L5 F k (nI a) b (nI acc) (nI i) s = some (nI (acc + cF (wi A D a 1000 x) i d), s) := by
  intro d
  induction d with
  | zero =>
    intro i k acc hi hk
    obtain ⟨k, rfl⟩ : ∃ z, k = z + 1 := ⟨k - 1, by omega⟩
    show c_Book_within_L5b F (c_Book_within_L5 F k) (nI a) b (nI acc) (nI i) s = _
    unfold c_Book_within_L5b
    simp (disch := omega) only [fa_lit, fa_litL, leI, ltI, eqI, leL, ltL, eqL, cq_lt, cq_le, cq_gt, cq_ge, cq_eq, mulI, nI_add, lN_add, lN_mul, inb_iff, cl_nI, i2lN, l2iN, hn]
    rw [if_pos (by omega)]
    rfl
  | succ d ih =>
    intro i k acc hi hk
    obtain ⟨k, rfl⟩ : ∃ z, k = z + 1 := ⟨k - 1, by omega⟩
    show c_Book_within_L5b F (c_Book_within_L5 F k) (nI a) b (nI acc) (nI i) s = _
    unfold c_Book_within_L5b c_Book_within_J39
    simp (disch := omega) only [fa_lit, fa_litL, leI, ltI, eqI, leL, ltL, eqL, cq_lt, cq_le, cq_gt, cq_ge, cq_eq, mulI, nI_add, lN_add, lN_mul, inb_iff, cl_nI, i2lN, l2iN, hn]
    rw [if_neg (by omega), cF]
    have hA1 := hA i (by omega)
    have hD1 := hD i (by omega)
    rw [hA1.2, hD1.2]
    have hbx := hb (D i) hD1.1
    simp (disch := omega) only [fa_lit, fa_litL, leI, ltI, eqI, leL, ltL, eqL, cq_lt, cq_le, cq_gt, cq_ge, cq_eq, mulI, nI_add, lN_add, lN_mul, inb_iff, cl_nI, i2lN, l2iN]
    simp only [if_pos (show i < 60 by omega)]
    by_cases g : A i = a
    · by_cases g2 : D i < x
      · rw [if_pos g, if_neg (fun e => absurd (hbx.mp e) (by omega)), ih (i + 1) k _ (by omega) (by omega), if_pos (by simp [wi, g, g2]; omega), Nat.add_assoc]
      · rw [if_pos g, if_pos (hbx.mpr (by omega)), ih (i + 1) k _ (by omega) (by omega), if_neg (by simp [wi, g, g2]), Nat.zero_add]
    · rw [if_neg g, ih (i + 1) k _ (by omega) (by omega), if_neg (by simp [wi, g]), Nat.zero_add]
