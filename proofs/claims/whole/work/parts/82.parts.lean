/-! the pure part: numbers, loops, PARTS -/
theorem inb_iff {k n : Nat} (hk : k < 2 ^ 31) : (inb (nI k) n = true) = (k < n) := by
  unfold inb
  rw [decide_eq_true_eq, nI_clamp hk]
  apply propext
  constructor
  · intro h
    exact Nat.not_le.mp (fun q => h (Or.inr q))
  · intro h q
    rcases q with q | q
    · exact nI_pos hk q
    · omega
theorem leI {a b : Nat} (ha : a < 2 ^ 31) (hb : b < 2 ^ 31) : (nI a ≤ nI b) = (a ≤ b) := propext (nI_leI ha hb)
theorem ltI {a b : Nat} (ha : a < 2 ^ 31) (hb : b < 2 ^ 31) : (nI a < nI b) = (a < b) := propext (nI_ltI ha hb)
theorem eqI {a b : Nat} (ha : a < 2 ^ 31) (hb : b < 2 ^ 31) : (nI a = nI b) = (a = b) := propext (nI_eq ha hb)
theorem leL {a b : Nat} (ha : a < 2 ^ 63) (hb : b < 2 ^ 63) : (lN a ≤ lN b) = (a ≤ b) := propext (pk_lLE ha hb)
theorem ltL {a b : Nat} (ha : a < 2 ^ 63) (hb : b < 2 ^ 63) : (lN a < lN b) = (a < b) := propext (pk_lLT ha hb)
theorem eqL {a b : Nat} (ha : a < 2 ^ 63) (hb : b < 2 ^ 63) : (lN a = lN b) = (a = b) := propext (pk_lEQ ha hb)
theorem cmp_lt (x y : Int64) : (lg_cmp x y < 0) = (x < y) := propext (lg_cmp_lt x y)
theorem cmp_le (x y : Int64) : (lg_cmp x y ≤ 0) = (x ≤ y) := propext (lg_cmp_le x y)
theorem cmp_gt (x y : Int64) : (0 < lg_cmp x y) = (y < x) := propext (lg_cmp_gt x y)
theorem cmp_ge (x y : Int64) : (0 ≤ lg_cmp x y) = (y ≤ x) := propext (lg_cmp_ge x y)
theorem cmp_eq (x y : Int64) : (lg_cmp x y = 0) = (x = y) := propext (lg_cmp_eq x y)
theorem i2lN {k : Nat} (h : k < 2 ^ 31) : (nI k).toInt64 = lN k := nI_l h
theorem divI {a d : Nat} (ha : a < 2 ^ 31) (h0 : 0 < d) (hd : d < 2 ^ 31) : nI a / nI d = nI (a / d) := pk_div ha h0 hd
theorem remI {a d : Nat} (ha : a < 2 ^ 31) (h0 : 0 < d) (hd : d < 2 ^ 31) : nI a - nI (a / d) * nI d = nI (a % d) := by
  rw [← pk_div ha h0 hd]; exact pk_rem ha h0 hd
theorem divL {a d : Nat} (ha : a < 2 ^ 63) (h0 : 0 < d) (hd : d < 2 ^ 63) : lN a / lN d = lN (a / d) := pk_lDiv ha h0 hd
theorem remL {a d : Nat} (ha : a < 2 ^ 63) (h0 : 0 < d) (hd : d < 2 ^ 63) : lN a - lN (a / d) * lN d = lN (a % d) := by
  rw [← pk_lDiv ha h0 hd]; exact pk_lRem ha h0 hd
theorem subI {a b : Nat} (h : b ≤ a) : nI a - nI b = nI (a - b) := pk_sub h
theorem subL {a b : Nat} (h : b ≤ a) : lN a - lN b = lN (a - b) := lN_sub h
theorem mulI (a b : Nat) : nI a * nI b = nI (a * b) := pk_mul a b
theorem l2iN (n : Nat) : (lN n).toInt32 = nI n := lN_i n
/-- sums from the front -/
def sF (f : Nat → Nat) : Nat → Nat → Nat
  | _, 0 => 0
  | i, d + 1 => f i + sF f (i + 1) d
theorem sF_end (f : Nat → Nat) : ∀ (d i : Nat), sF f i (d + 1) = sF f i d + f (i + d)
  | 0, i => by simp [sF]
  | d + 1, i => by
    rw [sF, sF_end f d (i + 1), sF, show i + 1 + d = i + (d + 1) by omega]
    omega
theorem sF_sum (f : Nat → Nat) : ∀ (d : Nat), sF f 0 d = sumN f d
  | 0 => rfl
  | d + 1 => by rw [sF_end, sF_sum f d, Nat.zero_add]; rfl
theorem sumN_cong {f g : Nat → Nat} : ∀ {n : Nat}, (∀ k, k < n → f k = g k) → sumN f n = sumN g n
  | 0, _ => rfl
  | n + 1, h => by rw [sumN, sumN, sumN_cong (fun k hk => h k (by omega)), h n (by omega)]
theorem sumN_le {f g : Nat → Nat} : ∀ {n : Nat}, (∀ k, k < n → f k ≤ g k) → sumN f n ≤ sumN g n
  | 0, _ => Nat.le_refl _
  | n + 1, h => Nat.add_le_add (sumN_le (fun k hk => h k (by omega))) (h n (by omega))
theorem sumN_one (f : Nat → Nat) : ∀ {n k : Nat}, k < n → f k ≤ sumN f n
  | 0, _, h => absurd h (Nat.not_lt_zero _)
  | n + 1, k, h => by
    rcases Nat.lt_or_ge k n with q | q
    · exact Nat.le_trans (sumN_one f q) (Nat.le_add_right _ _)
    · rw [show k = n by omega]; exact Nat.le_add_left _ _
theorem sumN_5 (p : Nat → Nat) : ∀ n : Nat, sumN p (5 * n) = sumN (fun q => p (5 * q) + p (5 * q + 1) + p (5 * q + 2) + p (5 * q + 3) + p (5 * q + 4)) n
  | 0 => rfl
  | n + 1 => by
    rw [show 5 * (n + 1) = 5 * n + 1 + 1 + 1 + 1 + 1 by omega, sumN, sumN, sumN, sumN, sumN, sumN_5 p n, sumN]
    omega
theorem sumN_zero {f : Nat → Nat} : ∀ {n : Nat}, sumN f n = 0 → ∀ k, k < n → f k = 0
  | 0, _, k, hk => absurd hk (Nat.not_lt_zero _)
  | n + 1, h, k, hk => by
    rw [sumN] at h
    rcases Nat.lt_or_ge k n with q | q
    · exact sumN_zero (by omega) k q
    · rw [show k = n by omega]; omega
/-- PARTS together, by cells -/
def tg (p : Nat → Nat) (q : Nat) : Nat := p (5 * q) + p (5 * q + 1) + p (5 * q + 2) + p (5 * q + 3) + p (5 * q + 4)
def AL : Nat := 1099511627776
theorem EqP.going {c m : St} {p : Nat → Nat} (h : ∀ k, k < 720 → (vC c).2 k = lN (p k) ∧ (vM m).2 k = lN (p k)) {q s : Nat} (hq : q < 144) (hs : s < 4) : c.2 10 (4 * q + s) = lN (p (5 * q + s)) ∧ m.2 9 (5 * q + s) = lN (p (5 * q + s)) := by
  obtain ⟨h1, h2⟩ := h (5 * q + s) (by omega)
  refine ⟨?_, h2⟩
  rw [← h1]
  show c.2 10 (4 * q + s) = if (5 * q + s) % 5 = 4 then c.2 11 ((5 * q + s) / 5) else c.2 10 (4 * ((5 * q + s) / 5) + (5 * q + s) % 5)
  rw [if_neg (by omega), show (5 * q + s) / 5 = q by omega, show (5 * q + s) % 5 = s by omega]
theorem EqP.sit {c m : St} {p : Nat → Nat} (h : ∀ k, k < 720 → (vC c).2 k = lN (p k) ∧ (vM m).2 k = lN (p k)) {q : Nat} (hq : q < 144) : c.2 11 q = lN (p (5 * q + 4)) ∧ m.2 9 (5 * q + 4) = lN (p (5 * q + 4)) := by
  obtain ⟨h1, h2⟩ := h (5 * q + 4) (by omega)
  refine ⟨?_, h2⟩
  rw [← h1]
  show c.2 11 q = if (5 * q + 4) % 5 = 4 then c.2 11 ((5 * q + 4) / 5) else c.2 10 (4 * ((5 * q + 4) / 5) + (5 * q + 4) % 5)
  rw [if_pos (by omega), show (5 * q + 4) / 5 = q by omega]
/-- what a state has as PARTS -/
def PC (p : Nat → Nat) (c : St) : Prop := ∀ q, q < 144 → (∀ s, s < 4 → c.2 10 (4 * q + s) = lN (p (5 * q + s))) ∧ c.2 11 q = lN (p (5 * q + 4))
def PM (p : Nat → Nat) (m : St) : Prop := ∀ k, k < 720 → m.2 9 k = lN (p k)
theorem RelV.pp {n : Nat} {c m : St} (h : RelV n (vC c) (vM m)) : ∃ p, PC p c ∧ PM p m ∧ sumN p 720 ≤ AL := by
  obtain ⟨p, h1, h2⟩ := h.parts
  exact ⟨p, fun q hq => ⟨fun s hs => (EqP.going h1 hq hs).1, (EqP.sit h1 hq).1⟩, fun k hk => (h1 k hk).2, h2⟩
theorem PC.eqP {p : Nat → Nat} {c m : St} (hc : PC p c) (hm : PM p m) (hs : sumN p 720 ≤ AL) : EqP (vC c).2 (vM m).2 := by
  refine ⟨p, fun k hk => ⟨?_, hm k hk⟩, hs⟩
  show (if k % 5 = 4 then c.2 11 (k / 5) else c.2 10 (4 * (k / 5) + k % 5)) = lN (p k)
  by_cases h : k % 5 = 4
  · rw [if_pos h, (hc (k / 5) (by omega)).2, show 5 * (k / 5) + 4 = k by omega]
  · rw [if_neg h, (hc (k / 5) (by omega)).1 (k % 5) (by omega), show 5 * (k / 5) + k % 5 = k by omega]
theorem tog_lp (F : Nat) {p : Nat → Nat} {c : St} (hp : PC p c) {q : Nat} (hq : q < 144) : ∀ (d i k acc : Nat), i + d = 4 → d < k → c_Night_together_L10 F k (nI q) (lN acc) (nI i) c = some (lN (acc + sF (fun s => p (5 * q + s)) i d), c) := by
  intro d
  induction d with
  | zero =>
    intro i k acc hi hk
    obtain ⟨k, rfl⟩ : ∃ z, k = z + 1 := ⟨k - 1, by omega⟩
    show c_Night_together_L10b F (c_Night_together_L10 F k) (nI q) (lN acc) (nI i) c = _
    unfold c_Night_together_L10b
    simp (disch := omega) only [fa_lit, leI]
    rw [if_pos (by omega)]
    rfl
  | succ d ih =>
    intro i k acc hi hk
    obtain ⟨k, rfl⟩ : ∃ z, k = z + 1 := ⟨k - 1, by omega⟩
    show c_Night_together_L10b F (c_Night_together_L10 F k) (nI q) (lN acc) (nI i) c = _
    unfold c_Night_together_L10b
    simp (disch := omega) only [fa_lit, leI, mulI, nI_add, inb_iff, cl_nI]
    rw [if_neg (by omega), if_pos (by omega), show q * 4 + i = 4 * q + i by omega, (hp q hq).1 i (by omega), lN_add, ih (i + 1) k _ (by omega) (by omega), sF]
    simp only [Nat.add_assoc]
theorem c_tog (F : Nat) (hF : 3000 ≤ F) {p : Nat → Nat} {c : St} (hp : PC p c) {q : Nat} (hq : q < 144) : c_Night_together F (nI q) c = some (lN (tg p q), c) := by
  unfold c_Night_together
  simp (disch := omega) only [inb_iff, cl_nI]
  rw [if_pos hq, (hp q hq).2, show (0 : Int32) = nI 0 from rfl, tog_lp F hp hq 4 0 F _ rfl (by omega)]
  simp only [sF, tg, Nat.zero_add, Nat.reduceAdd, Nat.add_zero]
  congr 3
  omega
theorem partsOf_lp (F : Nat) {p : Nat → Nat} {m : St} (hp : PM p m) {q : Nat} (hq : q < 144) : ∀ (d i k acc : Nat), i + d = 5 → d < k → m_partsOf_L5 F k (nI q) (lN acc) (nI i) m = some (lN (acc + sF (fun s => p (5 * q + s)) i d), m) := by
  intro d
  induction d with
  | zero =>
    intro i k acc hi hk
    obtain ⟨k, rfl⟩ : ∃ z, k = z + 1 := ⟨k - 1, by omega⟩
    show m_partsOf_L5b F (m_partsOf_L5 F k) (nI q) (lN acc) (nI i) m = _
    unfold m_partsOf_L5b
    simp (disch := omega) only [fa_lit, leI]
    rw [if_pos (by omega)]
    rfl
  | succ d ih =>
    intro i k acc hi hk
    obtain ⟨k, rfl⟩ : ∃ z, k = z + 1 := ⟨k - 1, by omega⟩
    show m_partsOf_L5b F (m_partsOf_L5 F k) (nI q) (lN acc) (nI i) m = _
    unfold m_partsOf_L5b
    simp (disch := omega) only [fa_lit, leI, mulI, nI_add, inb_iff, cl_nI]
    rw [if_neg (by omega), if_pos (by omega), hp (5 * q + i) (by omega), lN_add, ih (i + 1) k _ (by omega) (by omega), sF]
    simp only [Nat.add_assoc]
theorem m_tog (F : Nat) (hF : 3000 ≤ F) {p : Nat → Nat} {m : St} (hp : PM p m) {q : Nat} (hq : q < 144) : m_partsOf F (nI q) m = some (lN (tg p q), m) := by
  unfold m_partsOf
  rw [show (0 : Int32) = nI 0 from rfl, show (0 : Int64) = lN 0 from rfl, partsOf_lp F hp hq 5 0 F 0 rfl (by omega)]
  simp only [sF, tg, Nat.zero_add, Nat.reduceAdd, Nat.add_zero]
  congr 3
  omega
theorem c_all_lp (F : Nat) (hF : 3000 ≤ F) {p : Nat → Nat} {c : St} (hp : PC p c) : ∀ (d i k acc : Nat), i + d = 144 → d < k → c_Night_all_L4 F k (lN acc) (nI i) c = some (lN (acc + sF (tg p) i d), c) := by
  intro d
  induction d with
  | zero =>
    intro i k acc hi hk
    obtain ⟨k, rfl⟩ : ∃ z, k = z + 1 := ⟨k - 1, by omega⟩
    show c_Night_all_L4b F (c_Night_all_L4 F k) (lN acc) (nI i) c = _
    unfold c_Night_all_L4b
    simp (disch := omega) only [fa_lit, leI]
    rw [if_pos (by omega)]
    rfl
  | succ d ih =>
    intro i k acc hi hk
    obtain ⟨k, rfl⟩ : ∃ z, k = z + 1 := ⟨k - 1, by omega⟩
    show c_Night_all_L4b F (c_Night_all_L4 F k) (lN acc) (nI i) c = _
    unfold c_Night_all_L4b
    rw [c_tog F hF hp (by omega), gB2_mk]
    simp (disch := omega) only [fa_lit, leI, nI_add]
    rw [if_neg (by omega), lN_add, ih (i + 1) k _ (by omega) (by omega), sF]
    simp only [Nat.add_assoc]
theorem c_all (F : Nat) (hF : 3000 ≤ F) {p : Nat → Nat} {c : St} (hp : PC p c) : c_Night_all F c = some (lN (sumN p 720), c) := by
  unfold c_Night_all
  rw [show (0 : Int32) = nI 0 from rfl, show (0 : Int64) = lN 0 from rfl, c_all_lp F hF hp 144 0 F 0 rfl (by omega), sF_sum, Nat.zero_add, show (720 : Nat) = 5 * 144 from rfl, sumN_5]
  rfl
theorem m_all_lp (F : Nat) {p : Nat → Nat} {m : St} (hp : PM p m) : ∀ (d i k acc : Nat), i + d = 720 → d < k → m_all_L4 F k (lN acc) (nI i) m = some (lN (acc + sF p i d), m) := by
  intro d
  induction d with
  | zero =>
    intro i k acc hi hk
    obtain ⟨k, rfl⟩ : ∃ z, k = z + 1 := ⟨k - 1, by omega⟩
    show m_all_L4b F (m_all_L4 F k) (lN acc) (nI i) m = _
    unfold m_all_L4b
    simp (disch := omega) only [fa_lit, leI]
    rw [if_pos (by omega)]
    rfl
  | succ d ih =>
    intro i k acc hi hk
    obtain ⟨k, rfl⟩ : ∃ z, k = z + 1 := ⟨k - 1, by omega⟩
    show m_all_L4b F (m_all_L4 F k) (lN acc) (nI i) m = _
    unfold m_all_L4b
    simp (disch := omega) only [fa_lit, leI, nI_add, inb_iff, cl_nI]
    rw [if_neg (by omega), if_pos (by omega), hp i (by omega), lN_add, ih (i + 1) k _ (by omega) (by omega), sF]
    simp only [Nat.add_assoc]
theorem m_allE (F : Nat) (hF : 3000 ≤ F) {p : Nat → Nat} {m : St} (hp : PM p m) : m_all F m = some (lN (sumN p 720), m) := by
  unfold m_all
  rw [show (0 : Int32) = nI 0 from rfl, show (0 : Int64) = lN 0 from rfl, m_all_lp F hp 720 0 F 0 rfl (by omega), sF_sum, Nat.zero_add]
