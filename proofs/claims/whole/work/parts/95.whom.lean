/-! the pure part: whom -/
def maskP : Nat → Nat → Nat
  | 0, _ => 0
  | i + 1, x => if x % 7 = 6 then maskP i (x / 7) else maskP i (x / 7) ||| 2 ^ (x % 7)
def okP (k : Nat) : Nat → Nat → Bool
  | 0, _ => true
  | i + 1, x => okP k i (x / 7) && (decide (x % 7 = 6) || (decide (x % 7 < k) && !(maskP i (x / 7)).testBit (x % 7)))
def sumP (V : Nat → Nat → Nat) : Nat → Nat → Nat
  | 0, _ => 0
  | i + 1, x => sumP V i (x / 7) + if x % 7 = 6 then 0 else V i (x % 7)
def dig (x i t : Nat) : Nat := x / 7 ^ (i - 1 - t) % 7
def stW (V : Nat → Nat → Nat) (k n : Nat) (a : Nat × Nat) (x : Nat) : Nat × Nat := if okP k n x = true ∧ a.1 ≤ sumP V n x then (sumP V n x + 1, x) else a
def fW (V : Nat → Nat → Nat) (k n : Nat) : Nat → Nat → Nat × Nat → Nat × Nat
  | _, 0, a => a
  | lo, d + 1, a => fW V k n (lo + 1) d (stW V k n a lo)
theorem fW_add (V : Nat → Nat → Nat) (k n : Nat) : ∀ (d e lo : Nat) (a : Nat × Nat), fW V k n lo (d + e) a = fW V k n (lo + d) e (fW V k n lo d a)
  | 0, e, lo, a => by rw [Nat.zero_add]; rfl
  | d + 1, e, lo, a => by
    rw [show d + 1 + e = (d + e) + 1 by omega, fW, fW, fW_add V k n d e (lo + 1), show lo + 1 + d = lo + (d + 1) by omega]
theorem fW_skip (V : Nat → Nat → Nat) (k n : Nat) : ∀ (d lo : Nat) (a : Nat × Nat), (∀ z, lo ≤ z → z < lo + d → okP k n z = false) → fW V k n lo d a = a
  | 0, _, _, _ => rfl
  | d + 1, lo, a, h => by
    rw [fW, fW_skip V k n d (lo + 1) _ (fun z h1 h2 => h z (by omega) (by omega)), stW, if_neg]
    rw [h lo (Nat.le_refl _) (by omega)]
    exact fun e => absurd e.1 (by decide)
theorem okP_bad (k : Nat) : ∀ (e i z : Nat), okP k i (z / 7 ^ e) = false → okP k (i + e) z = false
  | 0, i, z, h => by
    rw [Nat.pow_zero, Nat.div_one] at h
    exact h
  | e + 1, i, z, h => by
    rw [show i + (e + 1) = (i + e) + 1 by omega, okP, okP_bad k e i (z / 7) (by rw [Nat.div_div_eq_div_mul, show 7 * 7 ^ e = 7 ^ (e + 1) by rw [Nat.pow_succ, Nat.mul_comm]]; exact h)]
    rfl
theorem dig_old {x j i t : Nat} (ht : t < i) (hj : j < 7) : dig (7 * x + j) (i + 1) t = dig x i t := by
  unfold dig
  rw [show i + 1 - 1 - t = (i - 1 - t) + 1 by omega, show 7 ^ ((i - 1 - t) + 1) = 7 * 7 ^ (i - 1 - t) by rw [Nat.pow_succ, Nat.mul_comm], ← Nat.div_div_eq_div_mul, show (7 * x + j) / 7 = x by omega]
theorem dig_new {x j i : Nat} (hj : j < 7) : dig (7 * x + j) (i + 1) i = j := by
  unfold dig
  rw [show i + 1 - 1 - i = 0 by omega, Nat.pow_zero, Nat.div_one]
  omega
theorem dig_lt (x i t : Nat) : dig x i t < 7 := Nat.mod_lt _ (by decide)
theorem shl1 {j : Nat} (hj : j < 7) : (1 : Int32) <<< (nI j &&& 31) = nI (2 ^ j) := by
  rcases (show j = 0 ∨ j = 1 ∨ j = 2 ∨ j = 3 ∨ j = 4 ∨ j = 5 ∨ j = 6 by omega) with rfl | rfl | rfl | rfl | rfl | rfl | rfl <;> decide
theorem okP_ext {k i x j : Nat} (hj : j < 7) : okP k (i + 1) (7 * x + j) = (okP k i x && (decide (j = 6) || (decide (j < k) && !(maskP i x).testBit j))) := by
  rw [okP, show (7 * x + j) / 7 = x by omega, show (7 * x + j) % 7 = j by omega]
theorem maskP_ext {i x j : Nat} (hj : j < 6) : maskP (i + 1) (7 * x + j) = maskP i x ||| 2 ^ j := by
  rw [maskP, show (7 * x + j) / 7 = x by omega, show (7 * x + j) % 7 = j by omega, if_neg (by omega)]
theorem maskP_6 {i x : Nat} : maskP (i + 1) (7 * x + 6) = maskP i x := by
  rw [maskP, show (7 * x + 6) / 7 = x by omega, show (7 * x + 6) % 7 = 6 by omega, if_pos rfl]
theorem sumP_ext {V : Nat → Nat → Nat} {i x j : Nat} (hj : j < 6) : sumP V (i + 1) (7 * x + j) = sumP V i x + V i j := by
  rw [sumP, show (7 * x + j) / 7 = x by omega, show (7 * x + j) % 7 = j by omega, if_neg (by omega)]
theorem sumP_6 {V : Nat → Nat → Nat} {i x : Nat} : sumP V (i + 1) (7 * x + 6) = sumP V i x := by
  rw [sumP, show (7 * x + 6) / 7 = x by omega, show (7 * x + 6) % 7 = 6 by omega, if_pos rfl, Nat.add_zero]
theorem sumP_le {V : Nat → Nat → Nat} {k B : Nat} (hk : k ≤ 6) (hB : ∀ a b, a < 4 → b < 6 → V a b ≤ B) : ∀ (i x : Nat), i ≤ 4 → okP k i x = true → sumP V i x ≤ i * B
  | 0, x, _, _ => Nat.zero_le _
  | i + 1, x, hi, ho => by
    rw [okP, Bool.and_eq_true] at ho
    have h1 := sumP_le hk hB i (x / 7) (by omega) ho.1
    rw [sumP, Nat.add_mul, Nat.one_mul]
    by_cases h6 : x % 7 = 6
    · rw [if_pos h6]
      omega
    · rw [if_neg h6]
      have := hB i (x % 7) (by omega) (by omega)
      omega
def SendI (V : Nat → Nat → Nat) (n k : Nat) (s : St) : Prop := s.1 14 7 = nI n ∧ s.1 14 8 = nI k ∧ Kept 19 V k n 0 s
theorem SendI.of {V : Nat → Nat → Nat} {n k : Nat} {s s' : St} (h : SendI V n k s) (o : Only [20, 21] [14] s s') : SendI V n k s' := by
  unfold SendI Kept at h ⊢
  simp only [o.1 14 (by decide), o.2 19 (by decide)]
  exact h
def BestI (n : Nat) (a : Nat × Nat) (s : St) : Prop := s.2 14 9 = dL a.1 ∧ a.1 ≤ 4 * (AL * 1000) + 1 ∧ (0 < a.1 → ∀ t, t < n → s.1 21 t = nI (dig a.2 n t))
def TriedI (i x : Nat) (s : St) : Prop := ∀ t, t < i → s.1 20 t = nI (dig x i t)
theorem TriedI.put {i x j : Nat} {s : St} (h : TriedI i x s) (hj : j < 7) : TriedI (i + 1) (7 * x + j) (sI s 20 i (nI j)) := fun t ht => by
  rw [sI1_eq]
  by_cases e : t = i
  · rw [e, upd_eq, dig_new hj]
  · rw [upd_ne e, dig_old (by omega) hj]
    exact h t (by omega)
theorem TriedI.back {i x j : Nat} {s : St} (h : TriedI (i + 1) (7 * x + j) s) (hj : j < 7) : TriedI i x s := fun t ht => by
  rw [← dig_old ht hj]
  exact h t (by omega)
