/-! the pure part: image, restore -/
theorem EqR.cong {f g f' g' : Nat → Int32} {len hi : Nat} (h : EqR f g len hi) (hf : ∀ j, j < len → f' j = f j) (hg : ∀ j, j < len → g' j = g j) : EqR f' g' len hi := fun j hj => by
  rw [hf j hj, hg j hj]
  exact h j hj
theorem EqS.cong {f g f' g' : Nat → Int32} (h : EqS f g) (hf : ∀ j, j < 10 → f' j = f j) (hg : ∀ j, j < 10 → g' j = g j) : EqS f' g' := fun j hj => by
  rw [hf j hj, hg j hj]
  exact h j hj
theorem EqP.cong {f g f' g' : Nat → Int64} (h : EqP f g) (hf : ∀ j, j < 720 → f' j = f j) (hg : ∀ j, j < 720 → g' j = g j) : EqP f' g' := by
  obtain ⟨p, h1, h2⟩ := h
  refine ⟨p, fun k hk => ?_, h2⟩
  rw [hf k hk, hg k hk]
  exact h1 k hk
def layGb (T : Nat) (N : Int32) (n : Nat) (k2 : Int32 → Int32 → St → Option (Int32 × St)) (x2 : Int32) (x3 : Int32) (s0 : St) : Option (Int32 × St) :=
    if N ≤ x3 then
      some (x2 + N, s0)
    else
      if inb x3 n = true then
      if inb (x2 + x3) 760 = true then
      k2 x2 (x3 + (1 : Int32)) (sI s0 27 (x2 + x3).toNatClampNeg (s0.1 T (x3).toNatClampNeg))
      else none
      else none
def givGb (T : Nat) (N : Int32) (n : Nat) (k2 : Int32 → Int32 → St → Option (Int32 × St)) (x1 : Int32) (x3 : Int32) (s0 : St) : Option (Int32 × St) :=
    if N ≤ x3 then
      some (x1 + N, s0)
    else
      if inb (x1 + x3) 760 = true then
      if inb x3 n = true then
      k2 x1 (x3 + (1 : Int32)) (sI s0 T (x3).toNatClampNeg (s0.1 27 (x1 + x3).toNatClampNeg))
      else none
      else none
theorem layG {T n o : Nat} (hT : T ≠ 27) (ho : o + n ≤ 760) : ∀ (d i k : Nat) (s : St), i + d = n → d < k → ∃ s', lp (fun _ _ _ => none) (layGb T (nI n) n) k (nI o) (nI i) s = some (nI (o + n), s') ∧ (∀ j, j < n → i ≤ j → s'.1 27 (o + j) = s.1 T j) ∧ (∀ j, j < o + i → s'.1 27 j = s.1 27 j) ∧ Only [27] [] s s' := by
  intro d
  induction d with
  | zero =>
    intro i k s hi hk
    obtain ⟨k, rfl⟩ : ∃ z, k = z + 1 := ⟨k - 1, by omega⟩
    refine ⟨s, ?_, fun j h1 h2 => by omega, fun _ _ => rfl, Only.refl _ _ _⟩
    show layGb T (nI n) n (lp (fun _ _ _ => none) (layGb T (nI n) n) k) (nI o) (nI i) s = _
    unfold layGb
    rw [if_pos (nI_le (by omega) (by omega)), nI_add]
  | succ d ih =>
    intro i k s hi hk
    obtain ⟨k, rfl⟩ : ∃ z, k = z + 1 := ⟨k - 1, by omega⟩
    obtain ⟨s', y1, y2, y3, y4⟩ := ih (i + 1) k (sI s 27 (o + i) (s.1 T i)) (by omega) (by omega)
    refine ⟨s', ?_, fun j h1 h2 => ?_, fun j h1 => ?_, (Only.sI _ (by decide) _ _).trans y4⟩
    · show layGb T (nI n) n (lp (fun _ _ _ => none) (layGb T (nI n) n) k) (nI o) (nI i) s = _
      rw [layGb]
      have g0 : ¬ nI n ≤ nI i := by
        rw [leI (by omega) (by omega)]
        omega
      rw [if_neg g0, inb_nI (show i < n by omega) (by omega), if_pos rfl, nI_add, inb_nI (show o + i < 760 by omega) (by decide), if_pos rfl, cl_nI (by omega), cl_nI (by omega), show (1 : Int32) = nI 1 from rfl, nI_add]
      exact y1
    · by_cases e : j = i
      · rw [e, y3 (o + i) (by omega), sI1_eq, upd_eq]
      · rw [y2 j h1 (by omega), sI1_ne hT]
    · rw [y3 j (by omega), sI1_eq, upd_ne (by omega)]
theorem givG {T n o : Nat} (hT : T ≠ 27) (ho : o + n ≤ 760) : ∀ (d i k : Nat) (s : St), i + d = n → d < k → ∃ s', lp (fun _ _ _ => none) (givGb T (nI n) n) k (nI o) (nI i) s = some (nI (o + n), s') ∧ (∀ j, j < n → i ≤ j → s'.1 T j = s.1 27 (o + j)) ∧ (∀ j, j < i → s'.1 T j = s.1 T j) ∧ Only [T] [] s s' := by
  intro d
  induction d with
  | zero =>
    intro i k s hi hk
    obtain ⟨k, rfl⟩ : ∃ z, k = z + 1 := ⟨k - 1, by omega⟩
    refine ⟨s, ?_, fun j h1 h2 => by omega, fun _ _ => rfl, Only.refl _ _ _⟩
    show givGb T (nI n) n (lp (fun _ _ _ => none) (givGb T (nI n) n) k) (nI o) (nI i) s = _
    unfold givGb
    rw [if_pos (nI_le (by omega) (by omega)), nI_add]
  | succ d ih =>
    intro i k s hi hk
    obtain ⟨k, rfl⟩ : ∃ z, k = z + 1 := ⟨k - 1, by omega⟩
    obtain ⟨s', y1, y2, y3, y4⟩ := ih (i + 1) k (sI s T i (s.1 27 (o + i))) (by omega) (by omega)
    refine ⟨s', ?_, fun j h1 h2 => ?_, fun j h1 => ?_, (Only.sI _ (List.mem_singleton.mpr rfl) _ _).trans y4⟩
    · show givGb T (nI n) n (lp (fun _ _ _ => none) (givGb T (nI n) n) k) (nI o) (nI i) s = _
      rw [givGb]
      have g0 : ¬ nI n ≤ nI i := by
        rw [leI (by omega) (by omega)]
        omega
      rw [if_neg g0, inb_nI (show i < n by omega) (by omega), nI_add, inb_nI (show o + i < 760 by omega) (by decide), if_pos rfl, if_pos rfl, cl_nI (by omega), cl_nI (by omega), show (1 : Int32) = nI 1 from rfl, nI_add]
      exact y1
    · by_cases e : j = i
      · rw [e, y3 i (by omega), sI1_eq, upd_eq]
      · rw [y2 j h1 (by omega), sI1_ne (Ne.symm hT)]
    · rw [y3 j (by omega), sI1_eq, upd_ne (by omega)]
theorem lay_0 (F : Nat) (hF : 3000 ≤ F) (s : St) : ∃ s', m_lay F (nI 0) s = some (nI 144, s') ∧ (∀ j, j < 144 → s'.1 27 (0 + j) = s.1 2 j) ∧ (∀ j, j < 0 → s'.1 27 j = s.1 27 j) ∧ Only [27] [] s s' := by
  obtain ⟨s', h1, h2, h3, h4⟩ := layG (T := 2) (n := 144) (o := 0) (by decide) (by decide) 144 0 F s (by decide) (by omega)
  exact ⟨s', h1, fun j hj => h2 j hj (Nat.zero_le _), h3, h4⟩
theorem giv_0 (F : Nat) (hF : 3000 ≤ F) (s : St) : ∃ s', m_gives F (nI 0) s = some (nI 144, s') ∧ (∀ j, j < 144 → s'.1 2 j = s.1 27 (0 + j)) ∧ Only [2] [] s s' := by
  obtain ⟨s', h1, h2, -, h4⟩ := givG (T := 2) (n := 144) (o := 0) (by decide) (by decide) 144 0 F s (by decide) (by omega)
  exact ⟨s', h1, fun j hj => h2 j hj (Nat.zero_le _), h4⟩
theorem lay_1 (F : Nat) (hF : 3000 ≤ F) (s : St) : ∃ s', m_lay_v1 F (nI 144) s = some (nI 288, s') ∧ (∀ j, j < 144 → s'.1 27 (144 + j) = s.1 3 j) ∧ (∀ j, j < 144 → s'.1 27 j = s.1 27 j) ∧ Only [27] [] s s' := by
  obtain ⟨s', h1, h2, h3, h4⟩ := layG (T := 3) (n := 144) (o := 144) (by decide) (by decide) 144 0 F s (by decide) (by omega)
  exact ⟨s', h1, fun j hj => h2 j hj (Nat.zero_le _), h3, h4⟩
theorem giv_1 (F : Nat) (hF : 3000 ≤ F) (s : St) : ∃ s', m_gives_v1 F (nI 144) s = some (nI 288, s') ∧ (∀ j, j < 144 → s'.1 3 j = s.1 27 (144 + j)) ∧ Only [3] [] s s' := by
  obtain ⟨s', h1, h2, -, h4⟩ := givG (T := 3) (n := 144) (o := 144) (by decide) (by decide) 144 0 F s (by decide) (by omega)
  exact ⟨s', h1, fun j hj => h2 j hj (Nat.zero_le _), h4⟩
theorem lay_2 (F : Nat) (hF : 3000 ≤ F) (s : St) : ∃ s', m_lay_v2 F (nI 288) s = some (nI 432, s') ∧ (∀ j, j < 144 → s'.1 27 (288 + j) = s.1 4 j) ∧ (∀ j, j < 288 → s'.1 27 j = s.1 27 j) ∧ Only [27] [] s s' := by
  obtain ⟨s', h1, h2, h3, h4⟩ := layG (T := 4) (n := 144) (o := 288) (by decide) (by decide) 144 0 F s (by decide) (by omega)
  exact ⟨s', h1, fun j hj => h2 j hj (Nat.zero_le _), h3, h4⟩
theorem giv_2 (F : Nat) (hF : 3000 ≤ F) (s : St) : ∃ s', m_gives_v2 F (nI 288) s = some (nI 432, s') ∧ (∀ j, j < 144 → s'.1 4 j = s.1 27 (288 + j)) ∧ Only [4] [] s s' := by
  obtain ⟨s', h1, h2, -, h4⟩ := givG (T := 4) (n := 144) (o := 288) (by decide) (by decide) 144 0 F s (by decide) (by omega)
  exact ⟨s', h1, fun j hj => h2 j hj (Nat.zero_le _), h4⟩
theorem lay_3 (F : Nat) (hF : 3000 ≤ F) (s : St) : ∃ s', m_lay_v3 F (nI 432) s = some (nI 442, s') ∧ (∀ j, j < 10 → s'.1 27 (432 + j) = s.1 5 j) ∧ (∀ j, j < 432 → s'.1 27 j = s.1 27 j) ∧ Only [27] [] s s' := by
  obtain ⟨s', h1, h2, h3, h4⟩ := layG (T := 5) (n := 10) (o := 432) (by decide) (by decide) 10 0 F s (by decide) (by omega)
  exact ⟨s', h1, fun j hj => h2 j hj (Nat.zero_le _), h3, h4⟩
theorem giv_3 (F : Nat) (hF : 3000 ≤ F) (s : St) : ∃ s', m_gives_v3 F (nI 432) s = some (nI 442, s') ∧ (∀ j, j < 10 → s'.1 5 j = s.1 27 (432 + j)) ∧ Only [5] [] s s' := by
  obtain ⟨s', h1, h2, -, h4⟩ := givG (T := 5) (n := 10) (o := 432) (by decide) (by decide) 10 0 F s (by decide) (by omega)
  exact ⟨s', h1, fun j hj => h2 j hj (Nat.zero_le _), h4⟩
theorem lay_4 (F : Nat) (hF : 3000 ≤ F) (s : St) : ∃ s', m_lay_v4 F (nI 442) s = some (nI 450, s') ∧ (∀ j, j < 8 → s'.1 27 (442 + j) = s.1 6 j) ∧ (∀ j, j < 442 → s'.1 27 j = s.1 27 j) ∧ Only [27] [] s s' := by
  obtain ⟨s', h1, h2, h3, h4⟩ := layG (T := 6) (n := 8) (o := 442) (by decide) (by decide) 8 0 F s (by decide) (by omega)
  exact ⟨s', h1, fun j hj => h2 j hj (Nat.zero_le _), h3, h4⟩
theorem giv_4 (F : Nat) (hF : 3000 ≤ F) (s : St) : ∃ s', m_gives_v4 F (nI 442) s = some (nI 450, s') ∧ (∀ j, j < 8 → s'.1 6 j = s.1 27 (442 + j)) ∧ Only [6] [] s s' := by
  obtain ⟨s', h1, h2, -, h4⟩ := givG (T := 6) (n := 8) (o := 442) (by decide) (by decide) 8 0 F s (by decide) (by omega)
  exact ⟨s', h1, fun j hj => h2 j hj (Nat.zero_le _), h4⟩
theorem lay_5 (F : Nat) (hF : 3000 ≤ F) (s : St) : ∃ s', m_lay_v5 F (nI 450) s = some (nI 454, s') ∧ (∀ j, j < 4 → s'.1 27 (450 + j) = s.1 11 j) ∧ (∀ j, j < 450 → s'.1 27 j = s.1 27 j) ∧ Only [27] [] s s' := by
  obtain ⟨s', h1, h2, h3, h4⟩ := layG (T := 11) (n := 4) (o := 450) (by decide) (by decide) 4 0 F s (by decide) (by omega)
  exact ⟨s', h1, fun j hj => h2 j hj (Nat.zero_le _), h3, h4⟩
theorem giv_5 (F : Nat) (hF : 3000 ≤ F) (s : St) : ∃ s', m_gives_v5 F (nI 450) s = some (nI 454, s') ∧ (∀ j, j < 4 → s'.1 11 j = s.1 27 (450 + j)) ∧ Only [11] [] s s' := by
  obtain ⟨s', h1, h2, -, h4⟩ := givG (T := 11) (n := 4) (o := 450) (by decide) (by decide) 4 0 F s (by decide) (by omega)
  exact ⟨s', h1, fun j hj => h2 j hj (Nat.zero_le _), h4⟩
theorem lay_6 (F : Nat) (hF : 3000 ≤ F) (s : St) : ∃ s', m_lay_v6 F (nI 454) s = some (nI 458, s') ∧ (∀ j, j < 4 → s'.1 27 (454 + j) = s.1 12 j) ∧ (∀ j, j < 454 → s'.1 27 j = s.1 27 j) ∧ Only [27] [] s s' := by
  obtain ⟨s', h1, h2, h3, h4⟩ := layG (T := 12) (n := 4) (o := 454) (by decide) (by decide) 4 0 F s (by decide) (by omega)
  exact ⟨s', h1, fun j hj => h2 j hj (Nat.zero_le _), h3, h4⟩
theorem giv_6 (F : Nat) (hF : 3000 ≤ F) (s : St) : ∃ s', m_gives_v6 F (nI 454) s = some (nI 458, s') ∧ (∀ j, j < 4 → s'.1 12 j = s.1 27 (454 + j)) ∧ Only [12] [] s s' := by
  obtain ⟨s', h1, h2, -, h4⟩ := givG (T := 12) (n := 4) (o := 454) (by decide) (by decide) 4 0 F s (by decide) (by omega)
  exact ⟨s', h1, fun j hj => h2 j hj (Nat.zero_le _), h4⟩
theorem lay_7 (F : Nat) (hF : 3000 ≤ F) (s : St) : ∃ s', m_lay_v7 F (nI 458) s = some (nI 462, s') ∧ (∀ j, j < 4 → s'.1 27 (458 + j) = s.1 13 j) ∧ (∀ j, j < 458 → s'.1 27 j = s.1 27 j) ∧ Only [27] [] s s' := by
  obtain ⟨s', h1, h2, h3, h4⟩ := layG (T := 13) (n := 4) (o := 458) (by decide) (by decide) 4 0 F s (by decide) (by omega)
  exact ⟨s', h1, fun j hj => h2 j hj (Nat.zero_le _), h3, h4⟩
theorem giv_7 (F : Nat) (hF : 3000 ≤ F) (s : St) : ∃ s', m_gives_v7 F (nI 458) s = some (nI 462, s') ∧ (∀ j, j < 4 → s'.1 13 j = s.1 27 (458 + j)) ∧ Only [13] [] s s' := by
  obtain ⟨s', h1, h2, -, h4⟩ := givG (T := 13) (n := 4) (o := 458) (by decide) (by decide) 4 0 F s (by decide) (by omega)
  exact ⟨s', h1, fun j hj => h2 j hj (Nat.zero_le _), h4⟩
theorem lay_8 (F : Nat) (hF : 3000 ≤ F) (s : St) : ∃ s', m_lay_v8 F (nI 462) s = some (nI 468, s') ∧ (∀ j, j < 6 → s'.1 27 (462 + j) = s.1 14 j) ∧ (∀ j, j < 462 → s'.1 27 j = s.1 27 j) ∧ Only [27] [] s s' := by
  obtain ⟨s', h1, h2, h3, h4⟩ := layG (T := 14) (n := 6) (o := 462) (by decide) (by decide) 6 0 F s (by decide) (by omega)
  exact ⟨s', h1, fun j hj => h2 j hj (Nat.zero_le _), h3, h4⟩
theorem giv_8 (F : Nat) (hF : 3000 ≤ F) (s : St) : ∃ s', m_gives_v8 F (nI 462) s = some (nI 468, s') ∧ (∀ j, j < 6 → s'.1 14 j = s.1 27 (462 + j)) ∧ Only [14] [] s s' := by
  obtain ⟨s', h1, h2, -, h4⟩ := givG (T := 14) (n := 6) (o := 462) (by decide) (by decide) 6 0 F s (by decide) (by omega)
  exact ⟨s', h1, fun j hj => h2 j hj (Nat.zero_le _), h4⟩
theorem lay_9 (F : Nat) (hF : 3000 ≤ F) (s : St) : ∃ s', m_lay_v9 F (nI 468) s = some (nI 474, s') ∧ (∀ j, j < 6 → s'.1 27 (468 + j) = s.1 16 j) ∧ (∀ j, j < 468 → s'.1 27 j = s.1 27 j) ∧ Only [27] [] s s' := by
  obtain ⟨s', h1, h2, h3, h4⟩ := layG (T := 16) (n := 6) (o := 468) (by decide) (by decide) 6 0 F s (by decide) (by omega)
  exact ⟨s', h1, fun j hj => h2 j hj (Nat.zero_le _), h3, h4⟩
theorem giv_9 (F : Nat) (hF : 3000 ≤ F) (s : St) : ∃ s', m_gives_v9 F (nI 468) s = some (nI 474, s') ∧ (∀ j, j < 6 → s'.1 16 j = s.1 27 (468 + j)) ∧ Only [16] [] s s' := by
  obtain ⟨s', h1, h2, -, h4⟩ := givG (T := 16) (n := 6) (o := 468) (by decide) (by decide) 6 0 F s (by decide) (by omega)
  exact ⟨s', h1, fun j hj => h2 j hj (Nat.zero_le _), h4⟩
theorem lay_10 (F : Nat) (hF : 3000 ≤ F) (s : St) : ∃ s', m_lay_v10 F (nI 474) s = some (nI 480, s') ∧ (∀ j, j < 6 → s'.1 27 (474 + j) = s.1 17 j) ∧ (∀ j, j < 474 → s'.1 27 j = s.1 27 j) ∧ Only [27] [] s s' := by
  obtain ⟨s', h1, h2, h3, h4⟩ := layG (T := 17) (n := 6) (o := 474) (by decide) (by decide) 6 0 F s (by decide) (by omega)
  exact ⟨s', h1, fun j hj => h2 j hj (Nat.zero_le _), h3, h4⟩
theorem giv_10 (F : Nat) (hF : 3000 ≤ F) (s : St) : ∃ s', m_gives_v10 F (nI 474) s = some (nI 480, s') ∧ (∀ j, j < 6 → s'.1 17 j = s.1 27 (474 + j)) ∧ Only [17] [] s s' := by
  obtain ⟨s', h1, h2, -, h4⟩ := givG (T := 17) (n := 6) (o := 474) (by decide) (by decide) 6 0 F s (by decide) (by omega)
  exact ⟨s', h1, fun j hj => h2 j hj (Nat.zero_le _), h4⟩
theorem lay_11 (F : Nat) (hF : 3000 ≤ F) (s : St) : ∃ s', m_lay_v11 F (nI 480) s = some (nI 486, s') ∧ (∀ j, j < 6 → s'.1 27 (480 + j) = s.1 18 j) ∧ (∀ j, j < 480 → s'.1 27 j = s.1 27 j) ∧ Only [27] [] s s' := by
  obtain ⟨s', h1, h2, h3, h4⟩ := layG (T := 18) (n := 6) (o := 480) (by decide) (by decide) 6 0 F s (by decide) (by omega)
  exact ⟨s', h1, fun j hj => h2 j hj (Nat.zero_le _), h3, h4⟩
theorem giv_11 (F : Nat) (hF : 3000 ≤ F) (s : St) : ∃ s', m_gives_v11 F (nI 480) s = some (nI 486, s') ∧ (∀ j, j < 6 → s'.1 18 j = s.1 27 (480 + j)) ∧ Only [18] [] s s' := by
  obtain ⟨s', h1, h2, -, h4⟩ := givG (T := 18) (n := 6) (o := 480) (by decide) (by decide) 6 0 F s (by decide) (by omega)
  exact ⟨s', h1, fun j hj => h2 j hj (Nat.zero_le _), h4⟩
theorem lay_12 (F : Nat) (hF : 3000 ≤ F) (s : St) : ∃ s', m_lay_v12 F (nI 486) s = some (nI 546, s') ∧ (∀ j, j < 60 → s'.1 27 (486 + j) = s.1 21 j) ∧ (∀ j, j < 486 → s'.1 27 j = s.1 27 j) ∧ Only [27] [] s s' := by
  obtain ⟨s', h1, h2, h3, h4⟩ := layG (T := 21) (n := 60) (o := 486) (by decide) (by decide) 60 0 F s (by decide) (by omega)
  exact ⟨s', h1, fun j hj => h2 j hj (Nat.zero_le _), h3, h4⟩
theorem giv_12 (F : Nat) (hF : 3000 ≤ F) (s : St) : ∃ s', m_gives_v12 F (nI 486) s = some (nI 546, s') ∧ (∀ j, j < 60 → s'.1 21 j = s.1 27 (486 + j)) ∧ Only [21] [] s s' := by
  obtain ⟨s', h1, h2, -, h4⟩ := givG (T := 21) (n := 60) (o := 486) (by decide) (by decide) 60 0 F s (by decide) (by omega)
  exact ⟨s', h1, fun j hj => h2 j hj (Nat.zero_le _), h4⟩
theorem lay_13 (F : Nat) (hF : 3000 ≤ F) (s : St) : ∃ s', m_lay_v13 F (nI 546) s = some (nI 606, s') ∧ (∀ j, j < 60 → s'.1 27 (546 + j) = s.1 22 j) ∧ (∀ j, j < 546 → s'.1 27 j = s.1 27 j) ∧ Only [27] [] s s' := by
  obtain ⟨s', h1, h2, h3, h4⟩ := layG (T := 22) (n := 60) (o := 546) (by decide) (by decide) 60 0 F s (by decide) (by omega)
  exact ⟨s', h1, fun j hj => h2 j hj (Nat.zero_le _), h3, h4⟩
theorem giv_13 (F : Nat) (hF : 3000 ≤ F) (s : St) : ∃ s', m_gives_v13 F (nI 546) s = some (nI 606, s') ∧ (∀ j, j < 60 → s'.1 22 j = s.1 27 (546 + j)) ∧ Only [22] [] s s' := by
  obtain ⟨s', h1, h2, -, h4⟩ := givG (T := 22) (n := 60) (o := 546) (by decide) (by decide) 60 0 F s (by decide) (by omega)
  exact ⟨s', h1, fun j hj => h2 j hj (Nat.zero_le _), h4⟩
theorem lay_14 (F : Nat) (hF : 3000 ≤ F) (s : St) : ∃ s', m_lay_v14 F (nI 606) s = some (nI 666, s') ∧ (∀ j, j < 60 → s'.1 27 (606 + j) = s.1 23 j) ∧ (∀ j, j < 606 → s'.1 27 j = s.1 27 j) ∧ Only [27] [] s s' := by
  obtain ⟨s', h1, h2, h3, h4⟩ := layG (T := 23) (n := 60) (o := 606) (by decide) (by decide) 60 0 F s (by decide) (by omega)
  exact ⟨s', h1, fun j hj => h2 j hj (Nat.zero_le _), h3, h4⟩
theorem giv_14 (F : Nat) (hF : 3000 ≤ F) (s : St) : ∃ s', m_gives_v14 F (nI 606) s = some (nI 666, s') ∧ (∀ j, j < 60 → s'.1 23 j = s.1 27 (606 + j)) ∧ Only [23] [] s s' := by
  obtain ⟨s', h1, h2, -, h4⟩ := givG (T := 23) (n := 60) (o := 606) (by decide) (by decide) 60 0 F s (by decide) (by omega)
  exact ⟨s', h1, fun j hj => h2 j hj (Nat.zero_le _), h4⟩
theorem lay_15 (F : Nat) (hF : 3000 ≤ F) (s : St) : ∃ s', m_lay_v15 F (nI 666) s = some (nI 674, s') ∧ (∀ j, j < 8 → s'.1 27 (666 + j) = s.1 24 j) ∧ (∀ j, j < 666 → s'.1 27 j = s.1 27 j) ∧ Only [27] [] s s' := by
  obtain ⟨s', h1, h2, h3, h4⟩ := layG (T := 24) (n := 8) (o := 666) (by decide) (by decide) 8 0 F s (by decide) (by omega)
  exact ⟨s', h1, fun j hj => h2 j hj (Nat.zero_le _), h3, h4⟩
theorem giv_15 (F : Nat) (hF : 3000 ≤ F) (s : St) : ∃ s', m_gives_v15 F (nI 666) s = some (nI 674, s') ∧ (∀ j, j < 8 → s'.1 24 j = s.1 27 (666 + j)) ∧ Only [24] [] s s' := by
  obtain ⟨s', h1, h2, -, h4⟩ := givG (T := 24) (n := 8) (o := 666) (by decide) (by decide) 8 0 F s (by decide) (by omega)
  exact ⟨s', h1, fun j hj => h2 j hj (Nat.zero_le _), h4⟩
theorem lay_16 (F : Nat) (hF : 3000 ≤ F) (s : St) : ∃ s', m_lay_v16 F (nI 674) s = some (nI 682, s') ∧ (∀ j, j < 8 → s'.1 27 (674 + j) = s.1 25 j) ∧ (∀ j, j < 674 → s'.1 27 j = s.1 27 j) ∧ Only [27] [] s s' := by
  obtain ⟨s', h1, h2, h3, h4⟩ := layG (T := 25) (n := 8) (o := 674) (by decide) (by decide) 8 0 F s (by decide) (by omega)
  exact ⟨s', h1, fun j hj => h2 j hj (Nat.zero_le _), h3, h4⟩
theorem giv_16 (F : Nat) (hF : 3000 ≤ F) (s : St) : ∃ s', m_gives_v16 F (nI 674) s = some (nI 682, s') ∧ (∀ j, j < 8 → s'.1 25 j = s.1 27 (674 + j)) ∧ Only [25] [] s s' := by
  obtain ⟨s', h1, h2, -, h4⟩ := givG (T := 25) (n := 8) (o := 674) (by decide) (by decide) 8 0 F s (by decide) (by omega)
  exact ⟨s', h1, fun j hj => h2 j hj (Nat.zero_le _), h4⟩
theorem cpI_ne {s : St} {a b i j n q : Nat} (h : q ≠ b) : (cpI s a b i j n).1 q = s.1 q := if_neg h
theorem cpI_2 {s : St} {a b i j n : Nat} : (cpI s a b i j n).2 = s.2 := rfl
theorem cpJ_1 {s : St} {a b i j n : Nat} : (cpJ s a b i j n).1 = s.1 := rfl
theorem cpJ_ne {s : St} {a b i j n q : Nat} (h : q ≠ b) : (cpJ s a b i j n).2 q = s.2 q := if_neg h
theorem bec0_Land (F : Nat) (s : St) : ∃ s', c_Land_become F s = some s' ∧ (∀ j, j < 144 → s'.1 37 j = s.1 3 j) ∧ (∀ j, j < 144 → s'.1 38 j = s.1 4 j) ∧ (∀ j, j < 144 → s'.1 39 j = s.1 5 j) ∧ Only [37, 38, 39] [] s s' := by
  unfold c_Land_become
  repeat rw [if_pos (by decide)]
  refine ⟨_, rfl, ?_, ?_, ?_, ⟨fun q hq => ?_, fun q hq => ?_⟩⟩
  · intro j hj
    exact if_pos ⟨Nat.zero_le _, by show j < 0 + 144; omega⟩ |>.trans (congrArg _ (by show 0 + (j - 0) = j; omega))
  · intro j hj
    exact if_pos ⟨Nat.zero_le _, by show j < 0 + 144; omega⟩ |>.trans (congrArg _ (by show 0 + (j - 0) = j; omega))
  · intro j hj
    exact if_pos ⟨Nat.zero_le _, by show j < 0 + 144; omega⟩ |>.trans (congrArg _ (by show 0 + (j - 0) = j; omega))
  · simp only [List.mem_cons, List.not_mem_nil, or_false, not_or] at hq
    simp only [sI1_ne, cpI_ne, cpJ_1, ne_eq, hq, not_false_eq_true]
  · rfl
theorem bec0_Law (F : Nat) (s : St) : ∃ s', c_Law_become F s = some s' ∧ (∀ j, j < 10 → s'.1 41 j = s.1 7 j) ∧ (∀ j, j < 8 → s'.1 42 j = s.1 8 j) ∧ Only [41, 42] [] s s' := by
  unfold c_Law_become
  repeat rw [if_pos (by decide)]
  refine ⟨_, rfl, ?_, ?_, ⟨fun q hq => ?_, fun q hq => ?_⟩⟩
  · intro j hj
    exact if_pos ⟨Nat.zero_le _, by show j < 0 + 10; omega⟩ |>.trans (congrArg _ (by show 0 + (j - 0) = j; omega))
  · intro j hj
    exact if_pos ⟨Nat.zero_le _, by show j < 0 + 8; omega⟩ |>.trans (congrArg _ (by show 0 + (j - 0) = j; omega))
  · simp only [List.mem_cons, List.not_mem_nil, or_false, not_or] at hq
    simp only [sI1_ne, cpI_ne, cpJ_1, ne_eq, hq, not_false_eq_true]
  · rfl
theorem bec0_Night (F : Nat) (s : St) : ∃ s', c_Night_become F s = some s' ∧ (∀ j, j < 576 → s'.2 44 j = s.2 10 j) ∧ (∀ j, j < 144 → s'.2 45 j = s.2 11 j) ∧ s'.1 43 4 = s.1 9 4 ∧ Only [43] [44, 45] s s' := by
  unfold c_Night_become
  repeat rw [if_pos (by decide)]
  refine ⟨_, rfl, ?_, ?_, ?_, ⟨fun q hq => ?_, fun q hq => ?_⟩⟩
  · intro j hj
    exact if_pos ⟨Nat.zero_le _, by show j < 0 + 576; omega⟩ |>.trans (congrArg _ (by show 0 + (j - 0) = j; omega))
  · intro j hj
    exact if_pos ⟨Nat.zero_le _, by show j < 0 + 144; omega⟩ |>.trans (congrArg _ (by show 0 + (j - 0) = j; omega))
  · rfl
  · simp only [List.mem_cons, List.not_mem_nil, or_false, not_or] at hq
    simp only [sI1_ne, cpI_ne, cpJ_1, ne_eq, hq, not_false_eq_true]
  · simp only [List.mem_cons, List.not_mem_nil, or_false, not_or] at hq
    simp only [sI2, cpI_2, cpJ_ne, ne_eq, hq, not_false_eq_true]
theorem bec0_Teams (F : Nat) (s : St) : ∃ s', c_Teams_become F s = some s' ∧ (∀ j, j < 4 → s'.1 49 j = s.1 15 j) ∧ (∀ j, j < 4 → s'.1 50 j = s.1 16 j) ∧ (∀ j, j < 4 → s'.1 51 j = s.1 17 j) ∧ (∀ j, j < 6 → s'.1 52 j = s.1 18 j) ∧ s'.1 48 7 = s.1 14 7 ∧ s'.1 48 8 = s.1 14 8 ∧ Only [49, 50, 51, 52, 48] [] s s' := by
  unfold c_Teams_become
  repeat rw [if_pos (by decide)]
  refine ⟨_, rfl, ?_, ?_, ?_, ?_, ?_, ?_, ⟨fun q hq => ?_, fun q hq => ?_⟩⟩
  · intro j hj
    exact if_pos ⟨Nat.zero_le _, by show j < 0 + 4; omega⟩ |>.trans (congrArg _ (by show 0 + (j - 0) = j; omega))
  · intro j hj
    exact if_pos ⟨Nat.zero_le _, by show j < 0 + 4; omega⟩ |>.trans (congrArg _ (by show 0 + (j - 0) = j; omega))
  · intro j hj
    exact if_pos ⟨Nat.zero_le _, by show j < 0 + 4; omega⟩ |>.trans (congrArg _ (by show 0 + (j - 0) = j; omega))
  · intro j hj
    exact if_pos ⟨Nat.zero_le _, by show j < 0 + 6; omega⟩ |>.trans (congrArg _ (by show 0 + (j - 0) = j; omega))
  · rfl
  · rfl
  · simp only [List.mem_cons, List.not_mem_nil, or_false, not_or] at hq
    simp only [sI1_ne, cpI_ne, cpJ_1, ne_eq, hq, not_false_eq_true]
  · rfl
theorem bec0_Jobs (F : Nat) (s : St) : ∃ s', c_Jobs_become F s = some s' ∧ (∀ j, j < 6 → s'.1 57 j = s.1 23 j) ∧ (∀ j, j < 6 → s'.1 58 j = s.1 24 j) ∧ (∀ j, j < 6 → s'.1 59 j = s.1 25 j) ∧ s'.1 56 5 = s.1 22 5 ∧ Only [57, 58, 59, 56] [] s s' := by
  unfold c_Jobs_become
  repeat rw [if_pos (by decide)]
  refine ⟨_, rfl, ?_, ?_, ?_, ?_, ⟨fun q hq => ?_, fun q hq => ?_⟩⟩
  · intro j hj
    exact if_pos ⟨Nat.zero_le _, by show j < 0 + 6; omega⟩ |>.trans (congrArg _ (by show 0 + (j - 0) = j; omega))
  · intro j hj
    exact if_pos ⟨Nat.zero_le _, by show j < 0 + 6; omega⟩ |>.trans (congrArg _ (by show 0 + (j - 0) = j; omega))
  · intro j hj
    exact if_pos ⟨Nat.zero_le _, by show j < 0 + 6; omega⟩ |>.trans (congrArg _ (by show 0 + (j - 0) = j; omega))
  · rfl
  · simp only [List.mem_cons, List.not_mem_nil, or_false, not_or] at hq
    simp only [sI1_ne, cpI_ne, cpJ_1, ne_eq, hq, not_false_eq_true]
  · rfl
theorem bec0_Book (F : Nat) (s : St) : ∃ s', c_Book_become F s = some s' ∧ (∀ j, j < 60 → s'.1 63 j = s.1 29 j) ∧ (∀ j, j < 60 → s'.1 64 j = s.1 30 j) ∧ (∀ j, j < 60 → s'.1 65 j = s.1 31 j) ∧ s'.1 62 3 = s.1 28 3 ∧ Only [63, 64, 65, 62] [] s s' := by
  unfold c_Book_become
  repeat rw [if_pos (by decide)]
  refine ⟨_, rfl, ?_, ?_, ?_, ?_, ⟨fun q hq => ?_, fun q hq => ?_⟩⟩
  · intro j hj
    exact if_pos ⟨Nat.zero_le _, by show j < 0 + 60; omega⟩ |>.trans (congrArg _ (by show 0 + (j - 0) = j; omega))
  · intro j hj
    exact if_pos ⟨Nat.zero_le _, by show j < 0 + 60; omega⟩ |>.trans (congrArg _ (by show 0 + (j - 0) = j; omega))
  · intro j hj
    exact if_pos ⟨Nat.zero_le _, by show j < 0 + 60; omega⟩ |>.trans (congrArg _ (by show 0 + (j - 0) = j; omega))
  · rfl
  · simp only [List.mem_cons, List.not_mem_nil, or_false, not_or] at hq
    simp only [sI1_ne, cpI_ne, cpJ_1, ne_eq, hq, not_false_eq_true]
  · rfl
theorem bec0_Door (F : Nat) (s : St) : ∃ s', c_Door_become F s = some s' ∧ (∀ j, j < 8 → s'.1 67 j = s.1 33 j) ∧ (∀ j, j < 8 → s'.1 68 j = s.1 34 j) ∧ s'.1 66 2 = s.1 32 2 ∧ Only [67, 68, 66] [] s s' := by
  unfold c_Door_become
  repeat rw [if_pos (by decide)]
  refine ⟨_, rfl, ?_, ?_, ?_, ⟨fun q hq => ?_, fun q hq => ?_⟩⟩
  · intro j hj
    exact if_pos ⟨Nat.zero_le _, by show j < 0 + 8; omega⟩ |>.trans (congrArg _ (by show 0 + (j - 0) = j; omega))
  · intro j hj
    exact if_pos ⟨Nat.zero_le _, by show j < 0 + 8; omega⟩ |>.trans (congrArg _ (by show 0 + (j - 0) = j; omega))
  · rfl
  · simp only [List.mem_cons, List.not_mem_nil, or_false, not_or] at hq
    simp only [sI1_ne, cpI_ne, cpJ_1, ne_eq, hq, not_false_eq_true]
  · rfl
theorem bec1_Land (F : Nat) (s : St) : ∃ s', c_Land_become_v1 F s = some s' ∧ (∀ j, j < 144 → s'.1 3 j = s.1 37 j) ∧ (∀ j, j < 144 → s'.1 4 j = s.1 38 j) ∧ (∀ j, j < 144 → s'.1 5 j = s.1 39 j) ∧ Only [3, 4, 5] [] s s' := by
  unfold c_Land_become_v1
  repeat rw [if_pos (by decide)]
  refine ⟨_, rfl, ?_, ?_, ?_, ⟨fun q hq => ?_, fun q hq => ?_⟩⟩
  · intro j hj
    exact if_pos ⟨Nat.zero_le _, by show j < 0 + 144; omega⟩ |>.trans (congrArg _ (by show 0 + (j - 0) = j; omega))
  · intro j hj
    exact if_pos ⟨Nat.zero_le _, by show j < 0 + 144; omega⟩ |>.trans (congrArg _ (by show 0 + (j - 0) = j; omega))
  · intro j hj
    exact if_pos ⟨Nat.zero_le _, by show j < 0 + 144; omega⟩ |>.trans (congrArg _ (by show 0 + (j - 0) = j; omega))
  · simp only [List.mem_cons, List.not_mem_nil, or_false, not_or] at hq
    simp only [sI1_ne, cpI_ne, cpJ_1, ne_eq, hq, not_false_eq_true]
  · rfl
theorem bec1_Law (F : Nat) (s : St) : ∃ s', c_Law_become_v1 F s = some s' ∧ (∀ j, j < 10 → s'.1 7 j = s.1 41 j) ∧ (∀ j, j < 8 → s'.1 8 j = s.1 42 j) ∧ Only [7, 8] [] s s' := by
  unfold c_Law_become_v1
  repeat rw [if_pos (by decide)]
  refine ⟨_, rfl, ?_, ?_, ⟨fun q hq => ?_, fun q hq => ?_⟩⟩
  · intro j hj
    exact if_pos ⟨Nat.zero_le _, by show j < 0 + 10; omega⟩ |>.trans (congrArg _ (by show 0 + (j - 0) = j; omega))
  · intro j hj
    exact if_pos ⟨Nat.zero_le _, by show j < 0 + 8; omega⟩ |>.trans (congrArg _ (by show 0 + (j - 0) = j; omega))
  · simp only [List.mem_cons, List.not_mem_nil, or_false, not_or] at hq
    simp only [sI1_ne, cpI_ne, cpJ_1, ne_eq, hq, not_false_eq_true]
  · rfl
theorem bec1_Night (F : Nat) (s : St) : ∃ s', c_Night_become_v1 F s = some s' ∧ (∀ j, j < 576 → s'.2 10 j = s.2 44 j) ∧ (∀ j, j < 144 → s'.2 11 j = s.2 45 j) ∧ s'.1 9 4 = s.1 43 4 ∧ Only [9] [10, 11] s s' := by
  unfold c_Night_become_v1
  repeat rw [if_pos (by decide)]
  refine ⟨_, rfl, ?_, ?_, ?_, ⟨fun q hq => ?_, fun q hq => ?_⟩⟩
  · intro j hj
    exact if_pos ⟨Nat.zero_le _, by show j < 0 + 576; omega⟩ |>.trans (congrArg _ (by show 0 + (j - 0) = j; omega))
  · intro j hj
    exact if_pos ⟨Nat.zero_le _, by show j < 0 + 144; omega⟩ |>.trans (congrArg _ (by show 0 + (j - 0) = j; omega))
  · rfl
  · simp only [List.mem_cons, List.not_mem_nil, or_false, not_or] at hq
    simp only [sI1_ne, cpI_ne, cpJ_1, ne_eq, hq, not_false_eq_true]
  · simp only [List.mem_cons, List.not_mem_nil, or_false, not_or] at hq
    simp only [sI2, cpI_2, cpJ_ne, ne_eq, hq, not_false_eq_true]
theorem bec1_Teams (F : Nat) (s : St) : ∃ s', c_Teams_become_v1 F s = some s' ∧ (∀ j, j < 4 → s'.1 15 j = s.1 49 j) ∧ (∀ j, j < 4 → s'.1 16 j = s.1 50 j) ∧ (∀ j, j < 4 → s'.1 17 j = s.1 51 j) ∧ (∀ j, j < 6 → s'.1 18 j = s.1 52 j) ∧ s'.1 14 7 = s.1 48 7 ∧ s'.1 14 8 = s.1 48 8 ∧ Only [15, 16, 17, 18, 14] [] s s' := by
  unfold c_Teams_become_v1
  repeat rw [if_pos (by decide)]
  refine ⟨_, rfl, ?_, ?_, ?_, ?_, ?_, ?_, ⟨fun q hq => ?_, fun q hq => ?_⟩⟩
  · intro j hj
    exact if_pos ⟨Nat.zero_le _, by show j < 0 + 4; omega⟩ |>.trans (congrArg _ (by show 0 + (j - 0) = j; omega))
  · intro j hj
    exact if_pos ⟨Nat.zero_le _, by show j < 0 + 4; omega⟩ |>.trans (congrArg _ (by show 0 + (j - 0) = j; omega))
  · intro j hj
    exact if_pos ⟨Nat.zero_le _, by show j < 0 + 4; omega⟩ |>.trans (congrArg _ (by show 0 + (j - 0) = j; omega))
  · intro j hj
    exact if_pos ⟨Nat.zero_le _, by show j < 0 + 6; omega⟩ |>.trans (congrArg _ (by show 0 + (j - 0) = j; omega))
  · rfl
  · rfl
  · simp only [List.mem_cons, List.not_mem_nil, or_false, not_or] at hq
    simp only [sI1_ne, cpI_ne, cpJ_1, ne_eq, hq, not_false_eq_true]
  · rfl
theorem bec1_Jobs (F : Nat) (s : St) : ∃ s', c_Jobs_become_v1 F s = some s' ∧ (∀ j, j < 6 → s'.1 23 j = s.1 57 j) ∧ (∀ j, j < 6 → s'.1 24 j = s.1 58 j) ∧ (∀ j, j < 6 → s'.1 25 j = s.1 59 j) ∧ s'.1 22 5 = s.1 56 5 ∧ Only [23, 24, 25, 22] [] s s' := by
  unfold c_Jobs_become_v1
  repeat rw [if_pos (by decide)]
  refine ⟨_, rfl, ?_, ?_, ?_, ?_, ⟨fun q hq => ?_, fun q hq => ?_⟩⟩
  · intro j hj
    exact if_pos ⟨Nat.zero_le _, by show j < 0 + 6; omega⟩ |>.trans (congrArg _ (by show 0 + (j - 0) = j; omega))
  · intro j hj
    exact if_pos ⟨Nat.zero_le _, by show j < 0 + 6; omega⟩ |>.trans (congrArg _ (by show 0 + (j - 0) = j; omega))
  · intro j hj
    exact if_pos ⟨Nat.zero_le _, by show j < 0 + 6; omega⟩ |>.trans (congrArg _ (by show 0 + (j - 0) = j; omega))
  · rfl
  · simp only [List.mem_cons, List.not_mem_nil, or_false, not_or] at hq
    simp only [sI1_ne, cpI_ne, cpJ_1, ne_eq, hq, not_false_eq_true]
  · rfl
theorem bec1_Book (F : Nat) (s : St) : ∃ s', c_Book_become_v1 F s = some s' ∧ (∀ j, j < 60 → s'.1 29 j = s.1 63 j) ∧ (∀ j, j < 60 → s'.1 30 j = s.1 64 j) ∧ (∀ j, j < 60 → s'.1 31 j = s.1 65 j) ∧ s'.1 28 3 = s.1 62 3 ∧ Only [29, 30, 31, 28] [] s s' := by
  unfold c_Book_become_v1
  repeat rw [if_pos (by decide)]
  refine ⟨_, rfl, ?_, ?_, ?_, ?_, ⟨fun q hq => ?_, fun q hq => ?_⟩⟩
  · intro j hj
    exact if_pos ⟨Nat.zero_le _, by show j < 0 + 60; omega⟩ |>.trans (congrArg _ (by show 0 + (j - 0) = j; omega))
  · intro j hj
    exact if_pos ⟨Nat.zero_le _, by show j < 0 + 60; omega⟩ |>.trans (congrArg _ (by show 0 + (j - 0) = j; omega))
  · intro j hj
    exact if_pos ⟨Nat.zero_le _, by show j < 0 + 60; omega⟩ |>.trans (congrArg _ (by show 0 + (j - 0) = j; omega))
  · rfl
  · simp only [List.mem_cons, List.not_mem_nil, or_false, not_or] at hq
    simp only [sI1_ne, cpI_ne, cpJ_1, ne_eq, hq, not_false_eq_true]
  · rfl
theorem bec1_Door (F : Nat) (s : St) : ∃ s', c_Door_become_v1 F s = some s' ∧ (∀ j, j < 8 → s'.1 33 j = s.1 67 j) ∧ (∀ j, j < 8 → s'.1 34 j = s.1 68 j) ∧ s'.1 32 2 = s.1 66 2 ∧ Only [33, 34, 32] [] s s' := by
  unfold c_Door_become_v1
  repeat rw [if_pos (by decide)]
  refine ⟨_, rfl, ?_, ?_, ?_, ⟨fun q hq => ?_, fun q hq => ?_⟩⟩
  · intro j hj
    exact if_pos ⟨Nat.zero_le _, by show j < 0 + 8; omega⟩ |>.trans (congrArg _ (by show 0 + (j - 0) = j; omega))
  · intro j hj
    exact if_pos ⟨Nat.zero_le _, by show j < 0 + 8; omega⟩ |>.trans (congrArg _ (by show 0 + (j - 0) = j; omega))
  · rfl
  · simp only [List.mem_cons, List.not_mem_nil, or_false, not_or] at hq
    simp only [sI1_ne, cpI_ne, cpJ_1, ne_eq, hq, not_false_eq_true]
  · rfl
