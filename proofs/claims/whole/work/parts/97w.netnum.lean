/-! the pure part: net, in numbers -/
def nWL (f : Nat → List Nat → List (List Nat)) (r : List Nat) : Nat → Nat → List (List Nat)
  | _, 0 => []
  | j, m + 1 => f (j + 1) (r ++ [j]) ++ nWL f r (j + 1) m
def nW (h : Nat) : Nat → Nat → List Nat → List (List Nat)
  | 0, _, r => [r]
  | d + 1, j, r => nWL (nW h d) r j (h - j)
def rR : Nat → Nat → Nat
  | 0, _ => 0
  | h + 1, a => (a % 2) * 2 ^ h + rR h (a / 2)
def lowB : Nat → Nat → Nat
  | 0, _ => 0
  | h + 1, d => if d % 2 = 1 then 0 else 1 + lowB h (d / 2)
def chkDec : Nat → List Nat → Bool
  | _, [] => true
  | b, x :: l => decide (x < b) && chkDec x l
def clr (x : Nat) : Nat := x &&& (x - 1)
def clrN : Nat → Nat → Nat
  | 0, x => x
  | i + 1, x => clrN i (clr x)
def chkNet (h k : Nat) : Bool :=
  chkDec 1024 ((nW h k 0 []).map (fun r => rR 10 (oMsk r))) &&
  (nW h k 0 []).all (fun r => decide (oMsk r < 2 ^ h) && decide (bcN (oMsk r) h = k) && decide (r.length = k) && r.all (fun j => decide (j < h)) && (List.range k).all (fun i => decide (lowB 10 (clrN i (oMsk r)) = r.getD i 0) && decide (0 < clrN i (oMsk r)))) &&
  (List.range (2 ^ h)).all (fun x => !decide (bcN x h = k) || ((nW h k 0 []).map oMsk).contains x)
set_option maxRecDepth 100000 in
theorem chk_net : ∀ h, h < 11 → ∀ k, k < 5 → chkNet h k = true := by decide +kernel
theorem nine (a b c d g : Nat) : (if b + 1 = a + 0 ∧ d + 1 = c + 0 then g else 0) + (if b + 1 = a + 0 ∧ d + 1 = c + 1 then g else 0) + (if b + 1 = a + 0 ∧ d + 1 = c + 2 then g else 0) + (if b + 1 = a + 1 ∧ d + 1 = c + 0 then g else 0) + (if b + 1 = a + 1 ∧ d + 1 = c + 1 then g else 0) + (if b + 1 = a + 1 ∧ d + 1 = c + 2 then g else 0) + (if b + 1 = a + 2 ∧ d + 1 = c + 0 then g else 0) + (if b + 1 = a + 2 ∧ d + 1 = c + 1 then g else 0) + (if b + 1 = a + 2 ∧ d + 1 = c + 2 then g else 0) = if dN a b ≤ 1 ∧ dN c d ≤ 1 then g else 0 := by
  unfold dN
  by_cases hr : (if a ≤ b then b - a else a - b) ≤ 1
  · by_cases hc : (if c ≤ d then d - c else c - d) ≤ 1
    · rw [if_pos (show (if a ≤ b then b - a else a - b) ≤ 1 ∧ (if c ≤ d then d - c else c - d) ≤ 1 from ⟨hr, hc⟩)]
      have hr' : b + 1 = a + 0 ∨ b + 1 = a + 1 ∨ b + 1 = a + 2 := by
        split at hr <;> omega
      have hc' : d + 1 = c + 0 ∨ d + 1 = c + 1 ∨ d + 1 = c + 2 := by
        split at hc <;> omega
      rcases hr' with h1 | h1 | h1 <;> rcases hc' with h2 | h2 | h2
      · rw [if_pos (show b + 1 = a + 0 ∧ d + 1 = c + 0 by omega), if_neg (show ¬ (b + 1 = a + 0 ∧ d + 1 = c + 1) by omega), if_neg (show ¬ (b + 1 = a + 0 ∧ d + 1 = c + 2) by omega), if_neg (show ¬ (b + 1 = a + 1 ∧ d + 1 = c + 0) by omega), if_neg (show ¬ (b + 1 = a + 1 ∧ d + 1 = c + 1) by omega), if_neg (show ¬ (b + 1 = a + 1 ∧ d + 1 = c + 2) by omega), if_neg (show ¬ (b + 1 = a + 2 ∧ d + 1 = c + 0) by omega), if_neg (show ¬ (b + 1 = a + 2 ∧ d + 1 = c + 1) by omega), if_neg (show ¬ (b + 1 = a + 2 ∧ d + 1 = c + 2) by omega)]
        omega
      · rw [if_neg (show ¬ (b + 1 = a + 0 ∧ d + 1 = c + 0) by omega), if_pos (show b + 1 = a + 0 ∧ d + 1 = c + 1 by omega), if_neg (show ¬ (b + 1 = a + 0 ∧ d + 1 = c + 2) by omega), if_neg (show ¬ (b + 1 = a + 1 ∧ d + 1 = c + 0) by omega), if_neg (show ¬ (b + 1 = a + 1 ∧ d + 1 = c + 1) by omega), if_neg (show ¬ (b + 1 = a + 1 ∧ d + 1 = c + 2) by omega), if_neg (show ¬ (b + 1 = a + 2 ∧ d + 1 = c + 0) by omega), if_neg (show ¬ (b + 1 = a + 2 ∧ d + 1 = c + 1) by omega), if_neg (show ¬ (b + 1 = a + 2 ∧ d + 1 = c + 2) by omega)]
        omega
      · rw [if_neg (show ¬ (b + 1 = a + 0 ∧ d + 1 = c + 0) by omega), if_neg (show ¬ (b + 1 = a + 0 ∧ d + 1 = c + 1) by omega), if_pos (show b + 1 = a + 0 ∧ d + 1 = c + 2 by omega), if_neg (show ¬ (b + 1 = a + 1 ∧ d + 1 = c + 0) by omega), if_neg (show ¬ (b + 1 = a + 1 ∧ d + 1 = c + 1) by omega), if_neg (show ¬ (b + 1 = a + 1 ∧ d + 1 = c + 2) by omega), if_neg (show ¬ (b + 1 = a + 2 ∧ d + 1 = c + 0) by omega), if_neg (show ¬ (b + 1 = a + 2 ∧ d + 1 = c + 1) by omega), if_neg (show ¬ (b + 1 = a + 2 ∧ d + 1 = c + 2) by omega)]
        omega
      · rw [if_neg (show ¬ (b + 1 = a + 0 ∧ d + 1 = c + 0) by omega), if_neg (show ¬ (b + 1 = a + 0 ∧ d + 1 = c + 1) by omega), if_neg (show ¬ (b + 1 = a + 0 ∧ d + 1 = c + 2) by omega), if_pos (show b + 1 = a + 1 ∧ d + 1 = c + 0 by omega), if_neg (show ¬ (b + 1 = a + 1 ∧ d + 1 = c + 1) by omega), if_neg (show ¬ (b + 1 = a + 1 ∧ d + 1 = c + 2) by omega), if_neg (show ¬ (b + 1 = a + 2 ∧ d + 1 = c + 0) by omega), if_neg (show ¬ (b + 1 = a + 2 ∧ d + 1 = c + 1) by omega), if_neg (show ¬ (b + 1 = a + 2 ∧ d + 1 = c + 2) by omega)]
        omega
      · rw [if_neg (show ¬ (b + 1 = a + 0 ∧ d + 1 = c + 0) by omega), if_neg (show ¬ (b + 1 = a + 0 ∧ d + 1 = c + 1) by omega), if_neg (show ¬ (b + 1 = a + 0 ∧ d + 1 = c + 2) by omega), if_neg (show ¬ (b + 1 = a + 1 ∧ d + 1 = c + 0) by omega), if_pos (show b + 1 = a + 1 ∧ d + 1 = c + 1 by omega), if_neg (show ¬ (b + 1 = a + 1 ∧ d + 1 = c + 2) by omega), if_neg (show ¬ (b + 1 = a + 2 ∧ d + 1 = c + 0) by omega), if_neg (show ¬ (b + 1 = a + 2 ∧ d + 1 = c + 1) by omega), if_neg (show ¬ (b + 1 = a + 2 ∧ d + 1 = c + 2) by omega)]
        omega
      · rw [if_neg (show ¬ (b + 1 = a + 0 ∧ d + 1 = c + 0) by omega), if_neg (show ¬ (b + 1 = a + 0 ∧ d + 1 = c + 1) by omega), if_neg (show ¬ (b + 1 = a + 0 ∧ d + 1 = c + 2) by omega), if_neg (show ¬ (b + 1 = a + 1 ∧ d + 1 = c + 0) by omega), if_neg (show ¬ (b + 1 = a + 1 ∧ d + 1 = c + 1) by omega), if_pos (show b + 1 = a + 1 ∧ d + 1 = c + 2 by omega), if_neg (show ¬ (b + 1 = a + 2 ∧ d + 1 = c + 0) by omega), if_neg (show ¬ (b + 1 = a + 2 ∧ d + 1 = c + 1) by omega), if_neg (show ¬ (b + 1 = a + 2 ∧ d + 1 = c + 2) by omega)]
        omega
      · rw [if_neg (show ¬ (b + 1 = a + 0 ∧ d + 1 = c + 0) by omega), if_neg (show ¬ (b + 1 = a + 0 ∧ d + 1 = c + 1) by omega), if_neg (show ¬ (b + 1 = a + 0 ∧ d + 1 = c + 2) by omega), if_neg (show ¬ (b + 1 = a + 1 ∧ d + 1 = c + 0) by omega), if_neg (show ¬ (b + 1 = a + 1 ∧ d + 1 = c + 1) by omega), if_neg (show ¬ (b + 1 = a + 1 ∧ d + 1 = c + 2) by omega), if_pos (show b + 1 = a + 2 ∧ d + 1 = c + 0 by omega), if_neg (show ¬ (b + 1 = a + 2 ∧ d + 1 = c + 1) by omega), if_neg (show ¬ (b + 1 = a + 2 ∧ d + 1 = c + 2) by omega)]
        omega
      · rw [if_neg (show ¬ (b + 1 = a + 0 ∧ d + 1 = c + 0) by omega), if_neg (show ¬ (b + 1 = a + 0 ∧ d + 1 = c + 1) by omega), if_neg (show ¬ (b + 1 = a + 0 ∧ d + 1 = c + 2) by omega), if_neg (show ¬ (b + 1 = a + 1 ∧ d + 1 = c + 0) by omega), if_neg (show ¬ (b + 1 = a + 1 ∧ d + 1 = c + 1) by omega), if_neg (show ¬ (b + 1 = a + 1 ∧ d + 1 = c + 2) by omega), if_neg (show ¬ (b + 1 = a + 2 ∧ d + 1 = c + 0) by omega), if_pos (show b + 1 = a + 2 ∧ d + 1 = c + 1 by omega), if_neg (show ¬ (b + 1 = a + 2 ∧ d + 1 = c + 2) by omega)]
        omega
      · rw [if_neg (show ¬ (b + 1 = a + 0 ∧ d + 1 = c + 0) by omega), if_neg (show ¬ (b + 1 = a + 0 ∧ d + 1 = c + 1) by omega), if_neg (show ¬ (b + 1 = a + 0 ∧ d + 1 = c + 2) by omega), if_neg (show ¬ (b + 1 = a + 1 ∧ d + 1 = c + 0) by omega), if_neg (show ¬ (b + 1 = a + 1 ∧ d + 1 = c + 1) by omega), if_neg (show ¬ (b + 1 = a + 1 ∧ d + 1 = c + 2) by omega), if_neg (show ¬ (b + 1 = a + 2 ∧ d + 1 = c + 0) by omega), if_neg (show ¬ (b + 1 = a + 2 ∧ d + 1 = c + 1) by omega), if_pos (show b + 1 = a + 2 ∧ d + 1 = c + 2 by omega)]
        omega
    · have hc' : ¬ d + 1 = c + 0 ∧ ¬ d + 1 = c + 1 ∧ ¬ d + 1 = c + 2 := by
        split at hc <;> omega
      rw [if_neg (show ¬ (b + 1 = a + 0 ∧ d + 1 = c + 0) by omega), if_neg (show ¬ (b + 1 = a + 0 ∧ d + 1 = c + 1) by omega), if_neg (show ¬ (b + 1 = a + 0 ∧ d + 1 = c + 2) by omega), if_neg (show ¬ (b + 1 = a + 1 ∧ d + 1 = c + 0) by omega), if_neg (show ¬ (b + 1 = a + 1 ∧ d + 1 = c + 1) by omega), if_neg (show ¬ (b + 1 = a + 1 ∧ d + 1 = c + 2) by omega), if_neg (show ¬ (b + 1 = a + 2 ∧ d + 1 = c + 0) by omega), if_neg (show ¬ (b + 1 = a + 2 ∧ d + 1 = c + 1) by omega), if_neg (show ¬ (b + 1 = a + 2 ∧ d + 1 = c + 2) by omega), if_neg (show ¬ ((if a ≤ b then b - a else a - b) ≤ 1 ∧ (if c ≤ d then d - c else c - d) ≤ 1) from fun e => hc e.2)]
  · have hr' : ¬ b + 1 = a + 0 ∧ ¬ b + 1 = a + 1 ∧ ¬ b + 1 = a + 2 := by
      split at hr <;> omega
    rw [if_neg (show ¬ (b + 1 = a + 0 ∧ d + 1 = c + 0) by omega), if_neg (show ¬ (b + 1 = a + 0 ∧ d + 1 = c + 1) by omega), if_neg (show ¬ (b + 1 = a + 0 ∧ d + 1 = c + 2) by omega), if_neg (show ¬ (b + 1 = a + 1 ∧ d + 1 = c + 0) by omega), if_neg (show ¬ (b + 1 = a + 1 ∧ d + 1 = c + 1) by omega), if_neg (show ¬ (b + 1 = a + 1 ∧ d + 1 = c + 2) by omega), if_neg (show ¬ (b + 1 = a + 2 ∧ d + 1 = c + 0) by omega), if_neg (show ¬ (b + 1 = a + 2 ∧ d + 1 = c + 1) by omega), if_neg (show ¬ (b + 1 = a + 2 ∧ d + 1 = c + 2) by omega), if_neg (show ¬ ((if a ≤ b then b - a else a - b) ≤ 1 ∧ (if c ≤ d then d - c else c - d) ≤ 1) from fun e => hr e.1)]
theorem rR_lt : ∀ h a, rR h a < 2 ^ h
  | 0, _ => by unfold rR; decide
  | h + 1, a => by
    have := rR_lt h (a / 2)
    have h2 : a % 2 < 2 := Nat.mod_lt _ (by decide)
    rw [rR, Nat.pow_succ]
    rcases (show a % 2 = 0 ∨ a % 2 = 1 by omega) with e | e
    · rw [e, Nat.zero_mul]
      omega
    · rw [e, Nat.one_mul]
      omega
theorem rR_inj : ∀ h a b, a < 2 ^ h → b < 2 ^ h → rR h a = rR h b → a = b
  | 0, a, b, ha, hb, _ => by
    rw [Nat.pow_zero] at ha hb
    omega
  | h + 1, a, b, ha, hb, e => by
    rw [Nat.pow_succ] at ha hb
    rw [rR, rR] at e
    have l1 := rR_lt h (a / 2)
    have l2 := rR_lt h (b / 2)
    rcases (show a % 2 = 0 ∨ a % 2 = 1 by omega) with e1 | e1 <;> rcases (show b % 2 = 0 ∨ b % 2 = 1 by omega) with e2 | e2
    · rw [e1, e2, Nat.zero_mul, Nat.zero_add, Nat.zero_add] at e
      have := rR_inj h (a / 2) (b / 2) (by omega) (by omega) e
      omega
    · rw [e1, e2, Nat.zero_mul, Nat.one_mul] at e
      omega
    · rw [e1, e2, Nat.zero_mul, Nat.one_mul] at e
      omega
    · rw [e1, e2] at e
      have := rR_inj h (a / 2) (b / 2) (by omega) (by omega) (by omega)
      omega
theorem rR_ahead : ∀ h a b, a < 2 ^ h → b < 2 ^ h → a ≠ b → (a.testBit (lowB h (a ^^^ b)) = true ↔ rR h b < rR h a)
  | 0, a, b, ha, hb, hne => by
    rw [Nat.pow_zero] at ha hb
    omega
  | h + 1, a, b, ha, hb, hne => by
    rw [Nat.pow_succ] at ha hb
    have l1 := rR_lt h (a / 2)
    have l2 := rR_lt h (b / 2)
    have hx : (a ^^^ b) % 2 = (a + b) % 2 := by
      have h0 := Nat.xor_mod_two_eq_one (a := a) (b := b)
      by_cases h1 : a % 2 = 1 <;> by_cases h2 : b % 2 = 1 <;> simp only [h1, h2, iff_true, iff_false, not_true, not_false_iff, true_iff, false_iff] at h0 <;> omega
    rw [lowB, rR, rR, hx, Nat.xor_div_two]
    rcases (show a % 2 = 0 ∨ a % 2 = 1 by omega) with e1 | e1 <;> rcases (show b % 2 = 0 ∨ b % 2 = 1 by omega) with e2 | e2
    · rw [if_neg (by omega), e1, e2, Nat.zero_mul, Nat.zero_add, Nat.zero_add, Nat.add_comm 1, Nat.testBit_add_one]
      exact rR_ahead h (a / 2) (b / 2) (by omega) (by omega) (by omega)
    · rw [if_pos (by omega), e1, e2, Nat.zero_mul, Nat.one_mul, Nat.testBit_zero, e1]
      constructor
      · intro h
        exact absurd h (by decide)
      · intro h
        omega
    · rw [if_pos (by omega), e1, e2, Nat.zero_mul, Nat.one_mul, Nat.testBit_zero, e1]
      constructor
      · intro _
        omega
      · intro _
        rfl
    · rw [if_neg (by omega), e1, e2, Nat.one_mul, Nat.add_comm 1, Nat.testBit_add_one]
      have := rR_ahead h (a / 2) (b / 2) (by omega) (by omega) (by omega)
      rw [this]
      omega
theorem anyF_ex {Q : Nat → Bool} : ∀ (d i : Nat), anyF Q i d = true ↔ ∃ j, i ≤ j ∧ j < i + d ∧ Q j = true
  | 0, i => by
    rw [show anyF Q i 0 = false from rfl]
    constructor
    · intro h
      cases h
    · rintro ⟨j, h1, h2, -⟩
      omega
  | d + 1, i => by
    rw [show anyF Q i (d + 1) = (Q i || anyF Q (i + 1) d) from rfl, Bool.or_eq_true, anyF_ex d (i + 1)]
    constructor
    · rintro (h | ⟨j, h1, h2, h3⟩)
      · exact ⟨i, Nat.le_refl _, by omega, h⟩
      · exact ⟨j, by omega, by omega, h3⟩
    · rintro ⟨j, h1, h2, h3⟩
      by_cases e : j = i
      · left
        rw [← e]
        exact h3
      · exact Or.inr ⟨j, by omega, by omega, h3⟩
/-- how many of those told hear at a cell -/
def eC (Hs : Nat → Nat) (r : List Nat) (q : Nat) : Nat := r.foldl (fun a j => a + if near 1 (Hs j) q = true then 1 else 0) 0
theorem eC_put (Hs : Nat → Nat) (r : List Nat) (j q : Nat) : eC Hs (r ++ [j]) q = eC Hs r q + if near 1 (Hs j) q = true then 1 else 0 := by
  unfold eC
  rw [List.foldl_append]
  rfl
theorem eC_go (Hs : Nat → Nat) (q : Nat) : ∀ (r : List Nat) (a : Nat), a ≤ r.foldl (fun a j => a + if near 1 (Hs j) q = true then 1 else 0) a ∧ r.foldl (fun a j => a + if near 1 (Hs j) q = true then 1 else 0) a ≤ a + r.length ∧ (a < r.foldl (fun a j => a + if near 1 (Hs j) q = true then 1 else 0) a ↔ ∃ j, j ∈ r ∧ near 1 (Hs j) q = true)
  | [], a => by
    refine ⟨Nat.le_refl _, Nat.le_refl _, ⟨fun h => absurd h (Nat.lt_irrefl _), ?_⟩⟩
    rintro ⟨j, h, -⟩
    cases h
  | x :: r, a => by
    rw [List.foldl_cons, List.length_cons]
    obtain ⟨h1, h2, h3⟩ := eC_go Hs q r (a + if near 1 (Hs x) q = true then 1 else 0)
    by_cases e : near 1 (Hs x) q = true
    · rw [if_pos e] at h1 h2 h3 ⊢
      refine ⟨by omega, by omega, ⟨fun _ => ⟨x, List.mem_cons_self, e⟩, fun _ => by omega⟩⟩
    · rw [if_neg e] at h1 h2 h3 ⊢
      rw [Nat.add_zero] at h1 h2 h3 ⊢
      refine ⟨by omega, by omega, ?_⟩
      rw [h3]
      constructor
      · rintro ⟨j, hj, hn⟩
        exact ⟨j, List.mem_cons_of_mem _ hj, hn⟩
      · rintro ⟨j, hj, hn⟩
        rcases List.mem_cons.mp hj with rfl | hj
        · exact absurd hn e
        · exact ⟨j, hj, hn⟩
theorem eC_le (Hs : Nat → Nat) (r : List Nat) (q : Nat) : eC Hs r q ≤ r.length := by
  have := (eC_go Hs q r 0).2.1
  rw [Nat.zero_add] at this
  exact this
theorem eC_pos (Hs : Nat → Nat) (r : List Nat) (q : Nat) : 0 < eC Hs r q ↔ ∃ j, j ∈ r ∧ near 1 (Hs j) q = true := (eC_go Hs q r 0).2.2
def covM (Hs : Nat → Nat) (h x q : Nat) : Bool := anyF (fun i => x.testBit i && near 1 (Hs i) q) 0 h
theorem cov_eC {Hs : Nat → Nat} {h : Nat} {r : List Nat} (hr : r.all (fun j => decide (j < h)) = true) (q : Nat) : (covM Hs h (oMsk r) q = true) ↔ 0 < eC Hs r q := by
  unfold covM
  rw [anyF_ex, eC_pos]
  constructor
  · rintro ⟨j, -, -, h3⟩
    rw [Bool.and_eq_true, oMsk_bit, List.contains_iff_mem] at h3
    exact ⟨j, h3.1, h3.2⟩
  · rintro ⟨j, hj, hn⟩
    rw [List.all_eq_true] at hr
    have := of_decide_eq_true (hr j hj)
    refine ⟨j, Nat.zero_le _, by omega, ?_⟩
    rw [Bool.and_eq_true, oMsk_bit, List.contains_iff_mem]
    exact ⟨hj, hn⟩
def vMk (Hs p : Nat → Nat) (h x : Nat) : Nat := sumN (fun q => if covM Hs h x q = true then tg p q else 0) 144
def vL (Hs p : Nat → Nat) (r : List Nat) : Nat := sumN (fun q => if eC Hs r q = 0 then 0 else tg p q) 144
theorem vLM {Hs p : Nat → Nat} {h : Nat} {r : List Nat} (hr : r.all (fun j => decide (j < h)) = true) : vL Hs p r = vMk Hs p h (oMsk r) := sumN_cong (fun q _ => by
  have := cov_eC (Hs := Hs) hr q
  by_cases e : eC Hs r q = 0
  · rw [if_pos e, if_neg (fun z => by have := this.mp z; omega)]
  · rw [if_neg e, if_pos (this.mpr (by omega))])
theorem vMk_le {Hs p : Nat → Nat} {h x : Nat} (hs : sumN p 720 ≤ AL) : vMk Hs p h x ≤ AL := by
  refine Nat.le_trans (sumN_le (g := tg p) (fun q _ => ?_)) (by rw [← sum_tg]; exact hs)
  split
  · exact Nat.le_refl _
  · exact Nat.zero_le _
theorem vL_le {Hs p : Nat → Nat} {r : List Nat} (hs : sumN p 720 ≤ AL) : vL Hs p r ≤ AL := by
  refine Nat.le_trans (sumN_le (g := tg p) (fun q _ => ?_)) (by rw [← sum_tg]; exact hs)
  split
  · exact Nat.zero_le _
  · exact Nat.le_refl _
theorem sumN_add {f g k : Nat → Nat} : ∀ {n : Nat}, (∀ q, q < n → k q = f q + g q) → sumN k n = sumN f n + sumN g n
  | 0, _ => rfl
  | n + 1, h => by
    rw [show sumN k (n + 1) = sumN k n + k n from rfl, show sumN f (n + 1) = sumN f n + f n from rfl, show sumN g (n + 1) = sumN g n + g n from rfl, sumN_add (fun q hq => h q (by omega)), h n (by omega)]
    omega
def newG (Hs p : Nat → Nat) (r : List Nat) (q : Nat) : Nat := if eC Hs r q = 0 then tg p q else 0
def hS (Hs p : Nat → Nat) (r : List Nat) (H : Nat) : Nat := sumN (fun q => if near 1 H q = true then newG Hs p r q else 0) 144
theorem vL_put {Hs p : Nat → Nat} {r : List Nat} {j : Nat} : vL Hs p (r ++ [j]) = vL Hs p r + hS Hs p r (Hs j) := sumN_add (fun q _ => by
  unfold newG
  rw [eC_put]
  by_cases e : near 1 (Hs j) q = true
  · rw [if_pos e, if_pos e, if_neg (by omega)]
    by_cases e2 : eC Hs r q = 0
    · rw [if_pos e2, if_pos e2, Nat.zero_add]
    · rw [if_neg e2, if_neg e2, Nat.add_zero]
  · rw [if_neg e, if_neg e, Nat.add_zero, Nat.add_zero])
def nbr (H i : Nat) : Option Nat := if (1 ≤ H / 12 + i / 3 ∧ H / 12 + i / 3 ≤ 12) ∧ (1 ≤ H % 12 + i % 3 ∧ H % 12 + i % 3 ≤ 12) then some ((H / 12 + i / 3 - 1) * 12 + (H % 12 + i % 3 - 1)) else none
theorem nbr_lt {H i c : Nat} (h : nbr H i = some c) : c < 144 := by
  unfold nbr at h
  split at h
  · cases h
    omega
  · cases h
theorem nbr_iff {H i q : Nat} (hq : q < 144) : nbr H i = some q ↔ (q / 12 + 1 = H / 12 + i / 3 ∧ q % 12 + 1 = H % 12 + i % 3) := by
  unfold nbr
  constructor
  · intro h
    split at h
    · cases h
      omega
    · cases h
  · rintro ⟨h1, h2⟩
    rw [if_pos (by omega), show H / 12 + i / 3 - 1 = q / 12 by omega, show H % 12 + i % 3 - 1 = q % 12 by omega]
    congr 1
    omega
def nbC (H : Nat) : Nat → Nat → Nat
  | 0, _ => 0
  | i + 1, q => nbC H i q + if nbr H i = some q then 1 else 0
theorem nbC_mono {H q : Nat} {i : Nat} : ∀ d, nbC H i q ≤ nbC H (i + d) q
  | 0 => Nat.le_refl _
  | d + 1 => Nat.le_trans (nbC_mono d) (Nat.le_add_right _ _)
theorem nb_ind {H q g : Nat} (hq : q < 144) : (if nbr H 0 = some q then g else 0) + (if nbr H 1 = some q then g else 0) + (if nbr H 2 = some q then g else 0) + (if nbr H 3 = some q then g else 0) + (if nbr H 4 = some q then g else 0) + (if nbr H 5 = some q then g else 0) + (if nbr H 6 = some q then g else 0) + (if nbr H 7 = some q then g else 0) + (if nbr H 8 = some q then g else 0) = if near 1 H q = true then g else 0 := by
  have e := nine (H / 12) (q / 12) (H % 12) (q % 12) g
  have en : (near 1 H q = true) = (dN (H / 12) (q / 12) ≤ 1 ∧ dN (H % 12) (q % 12) ≤ 1) := by
    unfold near rowA colA
    rw [decide_eq_true_eq]
  simp only [nbr_iff hq, en]
  exact e
theorem nbC_9 {H q : Nat} (hq : q < 144) : nbC H 9 q = if near 1 H q = true then 1 else 0 := by
  rw [← nb_ind (g := 1) hq]
  simp only [nbC, Nat.zero_add]
theorem nbC_new {H i c : Nat} (hi : i < 9) (h : nbr H i = some c) : nbC H i c = 0 ∧ nbC H 9 c = 1 := by
  have hc := nbr_lt h
  have h9 := nbC_9 (H := H) hc
  have hm := nbC_mono (H := H) (q := c) (i := i + 1) (8 - i)
  rw [show i + 1 + (8 - i) = 9 by omega, nbC, if_pos h] at hm
  split at h9 <;> omega
def nbG (G : Nat → Nat) (H i : Nat) : Nat := match nbr H i with
  | none => 0
  | some c => G c
theorem nbG_sum {G : Nat → Nat} {H i : Nat} : nbG G H i = sumN (fun q => if nbr H i = some q then G q else 0) 144 := by
  unfold nbG
  cases h : nbr H i with
  | none =>
    rw [show sumN (fun q => if none = some q then G q else 0) 144 = sumN (fun _ => 0) 144 from sumN_cong (fun q _ => if_neg (fun e => nomatch e)), sumN_0]
  | some c =>
    have hc := nbr_lt h
    have := sumN_at (f := fun q => if some c = some q then G q else 0) (g := fun _ => 0) (q := c) hc (fun k _ e => if_neg (fun z => e (Option.some.inj z).symm))
    rw [sumN_0, if_pos rfl] at this
    show G c = _
    omega
theorem add_eq {a b c d : Nat} (h1 : a = c) (h2 : b = d) : a + b = c + d := by rw [h1, h2]
theorem nb_sum {G : Nat → Nat} {H : Nat} : sF (nbG G H) 0 9 = sumN (fun q => if near 1 H q = true then G q else 0) 144 := by
  have e1 : sF (nbG G H) 0 9 = nbG G H 0 + nbG G H 1 + nbG G H 2 + nbG G H 3 + nbG G H 4 + nbG G H 5 + nbG G H 6 + nbG G H 7 + nbG G H 8 := by
    simp only [sF, Nat.zero_add, Nat.reduceAdd]
    omega
  rw [e1]
  simp only [nbG_sum]
  symm
  refine (sumN_add (fun q hq => (nb_ind (g := G q) hq).symm)).trans (add_eq ?_ rfl)
  refine (sumN_add (fun q _ => rfl)).trans (add_eq ?_ rfl)
  refine (sumN_add (fun q _ => rfl)).trans (add_eq ?_ rfl)
  refine (sumN_add (fun q _ => rfl)).trans (add_eq ?_ rfl)
  refine (sumN_add (fun q _ => rfl)).trans (add_eq ?_ rfl)
  refine (sumN_add (fun q _ => rfl)).trans (add_eq ?_ rfl)
  refine (sumN_add (fun q _ => rfl)).trans (add_eq ?_ rfl)
  exact sumN_add (fun q _ => rfl)
