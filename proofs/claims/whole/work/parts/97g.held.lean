/-! the pure part: held -/
/-- one more with the find itself -/
theorem wc_self {A D : Nat → Nat} {n i x : Nat} (hi : i < n) (hx : D i < x) : wc A D (A i) 1000 n x = wc A D (A i) i n x + 1 ∨ 1000 < n := by
  by_cases hn : 1000 < n
  · exact Or.inr hn
  · left
    have key : ∀ d j, j ≤ i → i < j + d → j + d ≤ n → cF (wi A D (A i) 1000 x) j d = cF (wi A D (A i) i x) j d + 1 := by
      intro d
      induction d with
      | zero => intro j h1 h2; omega
      | succ d ih =>
        intro j h1 h2 h3
        rw [cF, cF]
        by_cases e : j = i
        · subst e
          have h4 : cF (wi A D (A j) 1000 x) (j + 1) d = cF (wi A D (A j) j x) (j + 1) d := cF_cong d (j + 1) (fun q hq hq2 => by simp [wi, show ¬ q = 1000 by omega, show ¬ q = j by omega])
          rw [h4, if_pos (by simp [wi, hx]; omega), if_neg (by simp [wi])]
          omega
        · rw [ih (j + 1) (by omega) (by omega) (by omega), show wi A D (A i) 1000 x j = wi A D (A i) i x j by simp [wi, show ¬ j = 1000 by omega, e]]
          omega
    exact key n 0 (Nat.zero_le _) (by omega) (by omega)
theorem wc_other {A D : Nat → Nat} {n i x : Nat} (hn : n ≤ 1000) (hx : x ≤ D i) : wc A D (A i) 1000 n x = wc A D (A i) i n x := cF_cong n 0 (fun q _ hq => by
  by_cases e : q = i
  · subst e
    simp [wi, show ¬ D q < x by omega]
  · simp [wi, e, show ¬ q = 1000 by omega])
def heldB (A D : Nat → Nat) (n i : Nat) : Bool := decide ((3 * wc A D (A i) i n 100 + 3) / 4 ≤ wc A D (A i) i n (D i))
theorem c_held_lp (F : Nat) (hF : 3000 ≤ F) {A D : Nat → Nat} {s : St} {n : Nat} (hn : s.1 28 3 = nI n) (h6 : n ≤ 60) (hA : ∀ j, j < 60 → A j ≤ 3 ∧ s.1 29 j = nI (A j)) (hD : ∀ j, j < 60 → D j ≤ 99 ∧ s.1 30 j = nI (D j)) : ∀ (d i k : Nat) (acc : Nat), i + d = n → d < k → c_Book_heldUp_L4 F k (nI acc) (nI i) s = some (nI (acc + cF (fun j => !heldB A D n j) i d), s) := by
  intro d
  induction d with
  | zero =>
    intro i k acc hi hk
    obtain ⟨k, rfl⟩ : ∃ z, k = z + 1 := ⟨k - 1, by omega⟩
    show c_Book_heldUp_L4b F (c_Book_heldUp_L4 F k) (nI acc) (nI i) s = _
    unfold c_Book_heldUp_L4b
    simp (disch := omega) only [fa_lit, fa_litL, leI, ltI, eqI, leL, ltL, eqL, cq_lt, cq_le, cq_gt, cq_ge, cq_eq, mulI, nI_add, lN_add, lN_mul, inb_iff, cl_nI, i2lN, l2iN, hn]
    rw [if_pos (by omega)]
    rfl
  | succ d ih =>
    intro i k acc hi hk
    obtain ⟨k, rfl⟩ : ∃ z, k = z + 1 := ⟨k - 1, by omega⟩
    show c_Book_heldUp_L4b F (c_Book_heldUp_L4 F k) (nI acc) (nI i) s = _
    unfold c_Book_heldUp_L4b c_Book_heldUp_J56
    have hA1 := hA i (by omega)
    have hD1 := hD i (by omega)
    have hw1 := c_wi_lp F (a := A i) (x := 100) (b := 99) hn h6 hA1.1 hA hD (fun v hv => by rw [show (99 : Int32) = nI 99 from rfl, ltI (by omega) (by omega)]; omega) n 0 F 0 (by omega) (by omega)
    have hw2 := c_wi_lp F (a := A i) (x := D i) (b := nI (D i) - 1) hn h6 hA1.1 hA hD (fun v hv => by
      have e := subT (a := D i) (b := 1) (by omega) (by decide)
      have e' : (nI (D i) - 1 : Int32).toInt = (D i : Int) - 1 := e
      rw [Int32.lt_iff_toInt_lt, e', tI (by omega)]
      omega) n 0 F 0 (by omega) (by omega)
    rw [Nat.zero_add] at hw1 hw2
    have hw1' : c_Book_within F (nI (A i)) 99 s = some (nI (wc A D (A i) 1000 n 100), s) := hw1
    have hw2' : c_Book_within F (nI (A i)) (nI (D i) - 1) s = some (nI (wc A D (A i) 1000 n (D i)), s) := hw2
    have g0 : ¬ nI n ≤ nI i := by
      rw [leI (by omega) (by omega)]
      omega
    have k1 : wc A D (A i) 1000 n 100 = wc A D (A i) i n 100 + 1 := (wc_self (by omega) (by omega)).resolve_right (by omega)
    have k2 : wc A D (A i) 1000 n (D i) = wc A D (A i) i n (D i) := wc_other (by omega) (Nat.le_refl _)
    have c1 : wc A D (A i) i n 100 ≤ 60 := Nat.le_trans (cF_le _ _ _) h6
    have c2 : wc A D (A i) i n (D i) ≤ 60 := Nat.le_trans (cF_le _ _ _) h6
    rw [hn, if_neg g0, inb_nI (show i < 60 by omega) (by decide), if_pos rfl, cl_nI (by omega), hA1.2, hw1', gB2_mk, if_pos rfl, if_pos rfl, hA1.2, hD1.2, hw2', gB2_mk, k1, k2]
    unfold c_Book_quarters
    rw [show (1 : Int32) = nI 1 from rfl, subI (by omega), Nat.add_sub_cancel, show (3 : Int32) = nI 3 from rfl, mulI, nI_add, show (4 : Int32) = nI 4 from rfl, divI (by omega) (by decide) (by decide), gB2_mk, nI_add, nI_add, cF]
    have gg : (nI ((3 * wc A D (A i) i n 100 + 3) / 4) ≤ nI (wc A D (A i) i n (D i))) = ((3 * wc A D (A i) i n 100 + 3) / 4 ≤ wc A D (A i) i n (D i)) := leI (by omega) (by omega)
    by_cases g : (3 * wc A D (A i) i n 100 + 3) / 4 ≤ wc A D (A i) i n (D i)
    · rw [if_pos (gg.mpr g), ih (i + 1) k _ (by omega) (by omega), if_neg (by simp [heldB, g]), Nat.zero_add]
    · rw [if_neg (fun e => g (gg.mp e)), ih (i + 1) k _ (by omega) (by omega), if_pos (by simp [heldB]; omega), Nat.add_assoc]
theorem m_held_lp (F : Nat) (hF : 3000 ≤ F) {A D : Nat → Nat} {s : St} {n : Nat} (hn : s.1 0 27 = nI n) (h6 : n ≤ 60) (hA : ∀ j, j < 60 → A j ≤ 3 ∧ s.1 21 j = nI (A j)) (hD : ∀ j, j < 60 → D j ≤ 99 ∧ s.1 22 j = nI (D j)) : ∀ (d i k : Nat) (acc : Nat), i + d = n → d < k → m_held_L4 F k (nI acc) (nI i) s = some (nI (acc + cF (fun j => !heldB A D n j) i d), s) := by
  intro d
  induction d with
  | zero =>
    intro i k acc hi hk
    obtain ⟨k, rfl⟩ : ∃ z, k = z + 1 := ⟨k - 1, by omega⟩
    show m_held_L4b F (m_held_L4 F k) (nI acc) (nI i) s = _
    unfold m_held_L4b
    simp (disch := omega) only [fa_lit, fa_litL, leI, ltI, eqI, leL, ltL, eqL, cq_lt, cq_le, cq_gt, cq_ge, cq_eq, mulI, nI_add, lN_add, lN_mul, inb_iff, cl_nI, i2lN, l2iN, hn]
    rw [if_pos (by omega)]
    rfl
  | succ d ih =>
    intro i k acc hi hk
    obtain ⟨k, rfl⟩ : ∃ z, k = z + 1 := ⟨k - 1, by omega⟩
    show m_held_L4b F (m_held_L4 F k) (nI acc) (nI i) s = _
    unfold m_held_L4b m_held_J39
    have hA1 := hA i (by omega)
    have hD1 := hD i (by omega)
    have hs := m_spanE F hF (z := i) (x3 := nI i) hn h6 hA1.1 hA hD (fun j hj => nI_eq (show j < 2 ^ 31 by omega) (show i < 2 ^ 31 by omega)) (show 1 ≤ 3 by decide) (show 3 ≤ 4 by decide)
    have hs' : m_spanOf F (nI (A i)) 3 (nI i) s = _ := hs
    have g0 : ¬ nI n ≤ nI i := by
      rw [leI (by omega) (by omega)]
      omega
    have c1 : wc A D (A i) i n 100 ≤ 60 := Nat.le_trans (cF_le _ _ _) h6
    rw [hn, if_neg g0, inb_nI (show i < 60 by omega) (by decide), if_pos rfl, if_pos rfl, cl_nI (by omega), hA1.2, hD1.2, hs', gB2_mk, cF]
    have hkey : ((if wc A D (A i) i n 100 = 0 then (-4 : Int32) else nI (fs (wc A D (A i) i n) ((3 * wc A D (A i) i n 100 + 3) / 4) 99 0)) < nI (D i)) = ((3 * wc A D (A i) i n 100 + 3) / 4 ≤ wc A D (A i) i n (D i)) := by
      by_cases h0 : wc A D (A i) i n 100 = 0
      · rw [if_pos h0, h0]
        apply propext
        constructor
        · intro _
          exact Nat.zero_le _
        · intro _
          rw [Int32.lt_iff_toInt_lt, tI (by omega), show (-4 : Int32).toInt = -4 by decide]
          omega
      · rw [if_neg h0]
        have hf := fs_le (wc A D (A i) i n) ((3 * wc A D (A i) i n 100 + 3) / 4) 99 0
        have hl := fs_lt (wc A D (A i) i n) ((3 * wc A D (A i) i n 100 + 3) / 4) (fun x y h => wc_mono h) 99 0 (D i) (by show _ ≤ wc A D (A i) i n 100; omega) (Nat.zero_le _)
        rw [ltI (by omega) (by omega)]
        apply propext
        rw [hl]
        constructor
        · exact fun h => h.2
        · intro h
          refine ⟨?_, h⟩
          by_cases e : D i = 0
          · rw [e, wc0] at h
            omega
          · omega
    rw [show (1 : Int32) = nI 1 from rfl, nI_add, nI_add, show (0 : Int32) = nI 0 from rfl, nI_add, Nat.add_zero]
    by_cases g : (3 * wc A D (A i) i n 100 + 3) / 4 ≤ wc A D (A i) i n (D i)
    · rw [if_pos (hkey.mpr g), ih (i + 1) k _ (by omega) (by omega), if_neg (by simp [heldB, g]), Nat.zero_add, Nat.add_zero]
    · rw [if_neg (fun e => g (hkey.mp e)), ih (i + 1) k _ (by omega) (by omega), if_pos (by simp [heldB]; omega), Nat.add_assoc]
theorem p_held {N : Nat} {c m : St} (R : Rel N c m) (F : Nat) (hF : 3000 ≤ F) : SameR N (c_held F c) (m_held F m) := by
  unfold c_held m_held c_Book_heldUp
  obtain ⟨n, hn, e1, e2⟩ := R.1.bc
  obtain ⟨A, hA⟩ := R.1.ages.fn (by decide)
  obtain ⟨D, hD⟩ := R.1.fars.fn (by decide)
  have y1 : c_Book_heldUp_L4 F F 0 0 c = _ := c_held_lp F hF e1 hn (fun j hj => ⟨(hA j hj).1, (hA j hj).2.1⟩) (fun j hj => ⟨(hD j hj).1, (hD j hj).2.1⟩) n 0 F 0 (by omega) (by omega)
  have y2 : m_held_L4 F F 0 0 m = _ := m_held_lp F hF e2 hn (fun j hj => ⟨(hA j hj).1, (hA j hj).2.2⟩) (fun j hj => ⟨(hD j hj).1, (hD j hj).2.2⟩) n 0 F 0 (by omega) (by omega)
  rw [y1, y2, gB2_mk]
  exact SameR.ret rfl R
