/-! the pure part: net, the reference -/
theorem nI_xor (a b : Nat) : nI a ^^^ nI b = nI (a ^^^ b) := by
  apply Int32.toBitVec_inj.mp
  rw [Int32.toBitVec_xor]
  exact BitVec.ofNat_xor.symm
set_option maxRecDepth 100000 in
theorem shr10 : ∀ m, m < 1024 → ∀ j, j < 10 → ((nI m >>> (nI j &&& 31)) &&& 1) = nI (if m.testBit j = true then 1 else 0) := by decide +kernel
set_option maxRecDepth 100000 in
theorem low_neg : ∀ d, d < 1024 → (nI d &&& -(nI d)) = nI (if d = 0 then 0 else 2 ^ lowB 10 d) := by decide +kernel
set_option maxRecDepth 100000 in
theorem clr_eq : ∀ x, x < 1024 → nI x &&& (nI x - 1) = nI (clr x) := by decide +kernel
set_option maxRecDepth 100000 in
theorem low_ok : ∀ y, y < 1024 → 0 < y → lowB 10 y < 10 ∧ y.testBit (lowB 10 y) = true ∧ ∀ j, j < lowB 10 y → y.testBit j = false := by decide +kernel
set_option maxRecDepth 100000 in
theorem nW_ne : ∀ h, h < 11 → ∀ k, k < 5 → k ≤ h → (nW h k 0 []).isEmpty = false := by decide +kernel
theorem clr_le (x : Nat) : clr x ≤ x := Nat.and_le_left
theorem xor0 {a b : Nat} (z : a ^^^ b = 0) : a = b := by
  have h := congrArg (fun x => x ^^^ b) z
  simp only [Nat.xor_assoc, Nat.xor_self, Nat.xor_zero, Nat.zero_xor] at h
  exact h
def ahd (a b : Nat) : Bool := decide (a ≠ b) && a.testBit (lowB 10 (a ^^^ b))
theorem m_aheadE (F : Nat) (m : St) {a b : Nat} (ha : a < 1024) (hb : b < 1024) : m_isAhead F (nI a) (nI b) m = some (if ahd a b = true then 1 else 0, m) := by
  have hx : a ^^^ b < 1024 := Nat.xor_lt_two_pow (n := 10) ha hb
  unfold m_isAhead ahd
  rw [nI_xor, Int32.and_assoc, low_neg _ hx]
  by_cases e : a = b
  · subst e
    rw [Nat.xor_self, if_pos rfl, show nI 0 = nI 0 from rfl]
    have e0 : nI a &&& nI 0 = 0 := by
      rw [show nI 0 = (0 : Int32) from rfl, Int32.and_zero]
    rw [if_pos e0, show decide (a ≠ a) = false from decide_eq_false (fun h => h rfl), Bool.false_and, if_neg (by decide)]
  · have hne : ¬ a ^^^ b = 0 := fun z => e (xor0 z)
    have hl := (low_ok _ hx (by omega)).1
    rw [if_neg hne, show decide (a ≠ b) = true from decide_eq_true e, Bool.true_and, itBit (by omega)]
    split <;> rfl
theorem ahd_iff {a b : Nat} (ha : a < 1024) (hb : b < 1024) (e : a ≠ b) : ahd a b = true ↔ rR 10 b < rR 10 a := by
  unfold ahd
  rw [show decide (a ≠ b) = true from decide_eq_true e, Bool.true_and]
  exact rR_ahead 10 a b ha hb e
