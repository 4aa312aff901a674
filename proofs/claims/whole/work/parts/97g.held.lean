/-! the pure part: held -/
/-- one more with the find itself -/
theorem wc_self {A D : Nat → Nat} {n i x : Nat} (hi : i < n) (hx : D i < x) : wc A D (A i) 1000 n x = wc A D (A i) i n x + 1 ∨ 1000 < n := by
  by_cases hn : 1000 < n
  · exact Or.inr hn
  · left
    have key : ∀ d j, j ≤ i → i < j + d → j + d ≤ n → cF (wi A D (A i) 1000 x) j d = cF (wi A D (A i) i x) j d + 1 := by
      intro d
      induction d with
      | zero => intro j h1 h2; omega
      | succ d ih =>
        intro j h1 h2 h3
        rw [cF, cF]
        by_cases e : j = i
        · subst e
          have h4 : cF (wi A D (A j) 1000 x) (j + 1) d = cF (wi A D (A j) j x) (j + 1) d := cF_cong d (j + 1) (fun q hq hq2 => by simp [wi, show ¬ q = 1000 by omega, show ¬ q = j by omega])
          rw [h4, if_pos (by simp [wi, hx]; omega), if_neg (by simp [wi])]
          omega
        · rw [ih (j + 1) (by omega) (by omega) (by omega), show wi A D (A i) 1000 x j = wi A D (A i) i x j by simp [wi, show ¬ j = 1000 by omega, e]]
          omega
    exact key n 0 (Nat.zero_le _) (by omega) (by omega)
theorem wc_other {A D : Nat → Nat} {n i x : Nat} (hn : n ≤ 1000) (hx : x ≤ D i) : wc A D (A i) 1000 n x = wc A D (A i) i n x := cF_cong n 0 (fun q _ hq => by
  by_cases e : q = i
  · subst e
    simp [wi, show ¬ D q < x by omega]
  · simp [wi, e, show ¬ q = 1000 by omega])
def heldB (A D : Nat → Nat) (n i : Nat) : Bool := decide ((3 * wc A D (A i) i n 100 + 3) / 4 ≤ wc A D (A i) i n (D i))
