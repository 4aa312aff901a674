/-! the pure part: whom, the reference -/
theorem shr_bit : ∀ m, m < 128 → ∀ j, j < 6 → (((nI m >>> (nI j &&& 31)) &&& 1 = 0) ↔ m.testBit j = false) := by decide
theorem or_lt {m j : Nat} (hm : m < 128) (hj : j < 7) : m ||| 2 ^ j < 128 := Nat.or_lt_two_pow (n := 7) hm (Nat.pow_lt_pow_right (by decide) hj)
def okS (k : Nat) : Nat → Nat → Nat → Bool
  | 0, _, _ => true
  | i + 1, y, ms => okS k i (y / 7) (ms ||| 2 ^ (y % 7)) && (decide (y % 7 = 6) || (decide (y % 7 < k) && !ms.testBit (y % 7)))
theorem tb_or (m d j : Nat) : (m ||| 2 ^ d).testBit j = (m.testBit j || decide (j = d)) := fb_bit_set m d j
theorem okS_iff (k : Nat) : ∀ (i y ms : Nat), okS k i y ms = true ↔ okP k i y = true ∧ ∀ j, j < 6 → ¬ ((maskP i y).testBit j = true ∧ ms.testBit j = true)
  | 0, y, ms => by
    constructor
    · intro _
      refine ⟨rfl, fun j _ h => ?_⟩
      rw [maskP, Nat.zero_testBit] at h
      exact absurd h.1 (by decide)
    · intro _
      rfl
  | i + 1, y, ms => by
    rw [okS, okP, maskP, Bool.and_eq_true, Bool.and_eq_true, okS_iff k i]
    have hd : y % 7 < 7 := Nat.mod_lt _ (by decide)
    generalize y % 7 = d at hd ⊢
    generalize y / 7 = z
    by_cases h6 : d = 6
    · subst h6
      simp only [if_true, tb_or, decide_true, Bool.true_or, and_true]
      constructor
      · rintro ⟨h1, h2⟩
        refine ⟨h1, fun j hj h => h2 j hj ⟨h.1, ?_⟩⟩
        rw [h.2]
        rfl
      · rintro ⟨h1, h2⟩
        refine ⟨h1, fun j hj h => h2 j hj ⟨h.1, ?_⟩⟩
        have := h.2
        rw [show decide (j = 6) = false from decide_eq_false (by omega), Bool.or_false] at this
        exact this
    · rw [if_neg h6, show decide (d = 6) = false from decide_eq_false h6, Bool.false_or, Bool.false_or]
      simp only [tb_or, Bool.and_eq_true, decide_eq_true_eq, Bool.not_eq_true', Bool.or_eq_true]
      constructor
      · rintro ⟨⟨h1, h2⟩, h3, h4⟩
        refine ⟨⟨h1, h3, ?_⟩, ?_⟩
        · cases hz : (maskP i z).testBit d with
          | false => rfl
          | true => exact absurd ⟨hz, Or.inr rfl⟩ (h2 d (by omega))
        · rintro j hj ⟨h5 | h5, h7⟩
          · exact h2 j hj ⟨h5, Or.inl h7⟩
          · rw [h5, h4] at h7
            exact absurd h7 (by decide)
      · rintro ⟨⟨h1, h3, h4⟩, h2⟩
        refine ⟨⟨h1, ?_⟩, h3, ?_⟩
        · rintro j hj ⟨h5, h7 | h7⟩
          · exact h2 j hj ⟨Or.inl h5, h7⟩
          · rw [h7, h4] at h5
            exact absurd h5 (by decide)
        · cases hz : ms.testBit d with
          | false => rfl
          | true => exact absurd ⟨Or.inr rfl, hz⟩ (h2 d (by omega))
theorem okS_0 (k i y : Nat) : okS k i y 0 = okP k i y := by
  have h := okS_iff k i y 0
  have e : okS k i y 0 = true ↔ okP k i y = true := by
    rw [h]
    constructor
    · exact fun x => x.1
    · refine fun x => ⟨x, fun j _ z => ?_⟩
      rw [Nat.zero_testBit] at z
      exact absurd z.2 (by decide)
  cases h1 : okS k i y 0 with
  | true => exact (e.mp h1).symm
  | false =>
    cases h2 : okP k i y with
    | true => rw [e.mpr h2] at h1; cases h1
    | false => rfl
theorem m1_add (x : Int32) : x + (-1 : Int32) = x - 1 := by
  rw [Int32.sub_eq_add_neg]
theorem neg_one_lt {i : Nat} (hi : i < 100) : (nI i - 1 < 0) = (i = 0) := by
  have e := subT (a := i) (b := 1) (by omega) (by decide)
  have e' : (nI i - 1 : Int32).toInt = (i : Int) - 1 := e
  rw [Int32.lt_iff_toInt_lt, e', show (0 : Int32).toInt = 0 by decide]
  apply propext
  omega
theorem div7 {a : Nat} (h : a < 2 ^ 31) : nI a / 7 = nI (a / 7) := divI (d := 7) h (by decide) (by decide)
theorem rem7 {a : Nat} (h : a < 2 ^ 31) : nI a - nI (a / 7) * 7 = nI (a % 7) := remI (d := 7) h (by decide) (by decide)
theorem m_dig_bad (F : Nat) (k97 : Int32 → Int32 → Int64 → Int32 → Int32 → St → Option (Int64 × St)) {s : St} (x1 x2 : Int32) (x3 : Int64) (x5 x6 : Int32) : ∀ (i f y ms : Nat) (x7 : Int64) (z : Int32), i < f → i ≤ 4 → y < 2 ^ 30 → z = nI i - 1 →
    m_whom_L124 F k97 f x1 x2 x3 x5 x6 x7 (nI ms) 0 (nI y) z s = k97 x1 x2 x3 x5 (x6 + 1) s := by
  intro i
  induction i with
  | zero =>
    intro f y ms x7 z hf hi hy hz
    obtain ⟨f, rfl⟩ : ∃ z, f = z + 1 := ⟨f - 1, by omega⟩
    show m_whom_L124b F k97 (m_whom_L124 F k97 f) x1 x2 x3 x5 x6 x7 (nI ms) 0 (nI y) z s = _
    unfold m_whom_L124b
    rw [if_pos (show z < 0 by rw [hz, neg_one_lt (by decide)]), if_pos rfl]
    unfold m_whom_J247 m_whom_J249 m_whom_J268 m_whom_J269
    rw [if_pos rfl]
  | succ i ih =>
    intro f y ms x7 z hf hi hy hz
    obtain ⟨f, rfl⟩ : ∃ z, f = z + 1 := ⟨f - 1, by omega⟩
    show m_whom_L124b F k97 (m_whom_L124 F k97 f) x1 x2 x3 x5 x6 x7 (nI ms) 0 (nI y) z s = _
    unfold m_whom_L124b
    have hd : y % 7 < 7 := Nat.mod_lt _ (by decide)
    have e1 : z = nI i := by
      rw [hz, show (1 : Int32) = nI 1 from rfl, subI (by omega), Nat.add_sub_cancel]
    rw [if_neg (show ¬ z < 0 by rw [hz, neg_one_lt (by omega)]; omega), if_pos rfl, e1, div7 (by omega), rem7 (by omega)]
    unfold m_whom_J178 m_whom_J179 m_whom_J220 m_whom_J221
    rw [if_pos rfl, shl1 hd, fa_or, m1_add]
    exact ih f (y / 7) _ _ _ (by omega) (by omega) (by omega) rfl
theorem m_dig (F : Nat) (k97 : Int32 → Int32 → Int64 → Int32 → Int32 → St → Option (Int64 × St)) {V : Nat → Nat → Nat} {n k : Nat} {s : St} (hn : n ≤ 4) (hk : k ≤ 6) (ek : s.1 0 18 = nI k) (hV : Kept 15 V k n 0 s) (hB : ∀ a b, a < 4 → b < 6 → V a b ≤ AL * 1000) (x1 x2 : Int32) {M B X : Nat} (hM : M ≤ 4 * (AL * 1000) + 1) : ∀ (i f y ms S : Nat) (z : Int32), i < f → i ≤ n → y < 2 ^ 30 → ms < 128 → S ≤ (n - i) * (AL * 1000) → z = nI i - 1 →
    m_whom_L124 F k97 f x1 x2 (dL M) (nI B) (nI X) (lN S) (nI ms) 1 (nI y) z s = if okS k i y ms = true ∧ M ≤ S + sumP V i y then k97 x1 x2 (dL (S + sumP V i y + 1)) (nI X) (nI X + 1) s else k97 x1 x2 (dL M) (nI B) (nI X + 1) s := by
  intro i
  induction i with
  | zero =>
    intro f y ms S z hf hi hy hms hS hz
    obtain ⟨f, rfl⟩ : ∃ z, f = z + 1 := ⟨f - 1, by omega⟩
    have hS2 : S ≤ 4 * (AL * 1000) := Nat.le_trans hS (Nat.mul_le_mul_right _ (by omega))
    show m_whom_L124b F k97 (m_whom_L124 F k97 f) x1 x2 (dL M) (nI B) (nI X) (lN S) (nI ms) 1 (nI y) z s = _
    unfold m_whom_L124b m_whom_J247 m_whom_J249 m_whom_J268 m_whom_J269
    rw [if_pos (show z < 0 by rw [hz, neg_one_lt (by decide)]), if_neg (show ¬ (1 : Int32) = 0 by decide), okS, sumP, Nat.add_zero, dL_1]
    have hc : (lg_cmp (lN S) (dL M) ≤ 0) = (S < M) := by
      rw [cmp_le, le_dL (by unfold AL at hS2; omega) (by unfold AL at hM; omega)]
    by_cases g : S < M
    · rw [if_pos (hc.mpr g), if_neg (show ¬ (1 : Int32) = 0 by decide), if_pos (hc.mpr g), if_neg (show ¬ (true = true ∧ M ≤ S) by omega)]
    · rw [if_neg (fun e => g (hc.mp e)), if_neg (show ¬ (1 : Int32) = 0 by decide), if_neg (fun e => g (hc.mp e)), if_pos (show true = true ∧ M ≤ S from ⟨rfl, by omega⟩)]
  | succ i ih =>
    intro f y ms S z hf hi hy hms hS hz
    obtain ⟨f, rfl⟩ : ∃ z, f = z + 1 := ⟨f - 1, by omega⟩
    show m_whom_L124b F k97 (m_whom_L124 F k97 f) x1 x2 (dL M) (nI B) (nI X) (lN S) (nI ms) 1 (nI y) z s = _
    unfold m_whom_L124b
    have hd : y % 7 < 7 := Nat.mod_lt _ (by decide)
    have e1 : z = nI i := by
      rw [hz, show (1 : Int32) = nI 1 from rfl, subI (by omega), Nat.add_sub_cancel]
    rw [if_neg (show ¬ z < 0 by rw [hz, neg_one_lt (by omega)]; omega), if_neg (show ¬ (1 : Int32) = 0 by decide), e1, div7 (by omega), rem7 (by omega), okS, sumP]
    have ho := or_lt hms hd
    have hm2 : (n - i) * (AL * 1000) = (n - (i + 1)) * (AL * 1000) + AL * 1000 := by
      rw [show n - i = (n - (i + 1)) + 1 by omega, Nat.succ_mul]
    have g6 : (nI (y % 7) = (6 : Int32)) = (y % 7 = 6) := eqI (b := 6) (by omega) (by decide)
    have i6 : ((6 : Int32) ≤ nI (y % 7)) = (6 ≤ y % 7) := leI (a := 6) (by decide) (by omega)
    have ik : (nI k ≤ nI (y % 7)) = (k ≤ y % 7) := leI (by omega) (by omega)
    by_cases h6 : y % 7 = 6
    · rw [if_pos (g6.mpr h6)]
      unfold m_whom_J174 m_whom_J179 m_whom_J220 m_whom_J221
      rw [if_neg (show ¬ (1 : Int32) = 0 by decide), if_pos (i6.mpr (by omega)), shl1 hd, fa_or, m1_add, show (0 : Int64) = lN 0 from rfl, lN_add, Nat.add_zero, if_pos h6, show decide (y % 7 = 6) = true from decide_eq_true h6, Bool.true_or, Bool.and_true, Nat.add_zero]
      rw [ih f (y / 7) _ S _ (by omega) (by omega) (by omega) ho (by rw [hm2]; exact Nat.le_trans hS (Nat.le_add_right _ _)) rfl]
    · rw [if_neg (fun e => h6 (g6.mp e)), ek, if_neg h6, show decide (y % 7 = 6) = false from decide_eq_false h6, Bool.false_or]
      by_cases hk2 : k ≤ y % 7
      · rw [if_pos (ik.mpr hk2)]
        unfold m_whom_J178 m_whom_J179 m_whom_J220 m_whom_J221
        rw [if_pos rfl, shl1 hd, fa_or, m1_add, m_dig_bad F k97 x1 x2 (dL M) (nI B) (nI X) i f (y / 7) _ _ _ (by omega) (by omega) (by omega) rfl, show decide (y % 7 < k) = false from decide_eq_false (by omega), Bool.false_and, Bool.and_false, if_neg (fun e => absurd e.1 (by decide))]
      · rw [if_neg (fun e => hk2 (ik.mp e)), show decide (y % 7 < k) = true from decide_eq_true (by omega), Bool.true_and]
        have hbit := shr_bit ms hms (y % 7) (by omega)
        cases hb : ms.testBit (y % 7) with
        | true =>
          rw [if_neg (fun e => by rw [hbit.mp e] at hb; cases hb)]
          unfold m_whom_J178 m_whom_J179 m_whom_J220 m_whom_J221
          rw [if_pos rfl, shl1 hd, fa_or, m1_add, m_dig_bad F k97 x1 x2 (dL M) (nI B) (nI X) i f (y / 7) _ _ _ (by omega) (by omega) (by omega) rfl, show (!true) = false from rfl, Bool.and_false, if_neg (fun e => absurd e.1 (by decide))]
        | false =>
          rw [if_pos (hbit.mpr hb)]
          have hv : s.2 15 (6 * i + y % 7) = lN (V i (y % 7)) := hV i (y % 7) (by omega) (Or.inl (by omega))
          have h24 : inb ((6 : Int32) * nI i + nI (y % 7)) 24 = true := by
            rw [show (6 : Int32) = nI 6 from rfl, mulI, nI_add]
            exact inb_nI (by omega) (by decide)
          have c24 : ((6 : Int32) * nI i + nI (y % 7)).toNatClampNeg = 6 * i + y % 7 := by
            rw [show (6 : Int32) = nI 6 from rfl, mulI, nI_add, cl_nI (by omega)]
          have hvb := hB i (y % 7) (by omega) (by omega)
          unfold m_whom_J174 m_whom_J179 m_whom_J221
          rw [if_neg (show ¬ (1 : Int32) = 0 by decide), if_neg (fun e => by have := i6.mp e; omega), h24, if_pos rfl, c24, hv, lN_add, shl1 hd, fa_or, m1_add, ih f (y / 7) _ (S + V i (y % 7)) _ (by omega) (by omega) (by omega) ho (by omega) rfl, show (!false) = true from rfl, Bool.and_true, Nat.add_assoc, Nat.add_comm (V i (y % 7))]
