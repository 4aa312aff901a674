/-! the pure part: night, in numbers and the class -/
def bes (q f : Nat) : Option Nat :=
  if f = 0 then (if q < 12 then none else some (q - 12))
  else if f = 1 then (if q % 12 = 11 then none else some (q + 1))
  else if f = 2 then (if 132 ≤ q then none else some (q + 12))
  else (if q % 12 = 0 then none else some (q - 1))
theorem bes_lt {q f r : Nat} (hq : q < 144) (h : bes q f = some r) : r < 144 := by
  unfold bes at h
  repeat' split at h
  all_goals first | (cases h; omega) | cases h
def besV (a f : Int32) : Int32 :=
  if f = 0 then (if (12 : Int32) ≤ a then a - 12 else -1)
  else if f = 1 then (if (a - a / (12 : Int32) * (12 : Int32)) = (11 : Int32) then -1 else a + 1)
  else if f = 2 then (if a < (132 : Int32) then a + 12 else -1)
  else (if (a - a / (12 : Int32) * (12 : Int32)) = 0 then -1 else a - 1)
set_option maxRecDepth 20000 in
theorem besV_eq : ∀ q, q < 144 → ∀ f, f < 4 → besV (nI q) (nI f) = enc (-1) (bes q f) := by decide
theorem if_some {P : Prop} [Decidable P] {a b : Int32} {s : St} : (if P then some (a, s) else some (b, s)) = some ((if P then a else b), s) := by
  by_cases h : P
  · rw [if_pos h, if_pos h]
  · rw [if_neg h, if_neg h]
theorem c_bes (F : Nat) (s : St) {q f : Nat} (hq : q < 144) (hf : f < 4) : c_Land_beside F (nI q) (nI f) s = some (enc (-1) (bes q f), s) := by
  rw [← besV_eq q hq f hf]
  unfold besV c_Land_beside
  simp only [if_some]
def tn (f x : Nat) : Nat := (f + (if x = 1 then 3 else if x = 2 then 1 else if x = 3 then 2 else 0)) % 4
theorem tn_lt (f x : Nat) : tn f x < 4 := Nat.mod_lt _ (by decide)
theorem turn_eq : ∀ f, f < 4 → ∀ x, x < 4 → (nI f + gTurns x) - (nI f + gTurns x) / (4 : Int32) * (4 : Int32) = nI (tn f x) := by decide
def por (P n w : Nat) : Nat := if w = 0 then 0 else P * n / w
theorem por_0 (P w : Nat) : por P 0 w = 0 := by
  unfold por
  split
  · rfl
  · rw [Nat.mul_zero, Nat.zero_div]
def addY (Y : Nat → Nat) (k v : Nat) : Nat → Nat := fun j => if j = k then Y j + v else Y j
theorem addY_0 (Y : Nat → Nat) (k : Nat) : addY Y k 0 = Y := funext fun j => by
  unfold addY
  split <;> rfl
/-- how she is drawn: no cell beside draws 0 -/
def LureOk (L : Nat → Nat → Nat) : Prop := ∀ q f, bes q f = none → L q f = 0
def pul (L : Nat → Nat → Nat) (S : Nat → Nat) (q f x : Nat) : Nat := S x * L q (tn f x)
def whl (L : Nat → Nat → Nat) (S I V : Nat → Nat) (q f : Nat) : Nat := I q + V q + (pul L S q f 0 + pul L S q f 1 + pul L S q f 2 + pul L S q f 3)
def tst (L : Nat → Nat → Nat) (S : Nat → Nat) (q f P w x : Nat) (Y : Nat → Nat) : Nat → Nat := match bes q (tn f x) with
  | none => Y
  | some r => addY Y (5 * r + tn f x) (por P (pul L S q f x) w)
def gon (L : Nat → Nat → Nat) (S I V : Nat → Nat) (q f P : Nat) : Nat := por P (pul L S q f 0) (whl L S I V q f) + por P (pul L S q f 1) (whl L S I V q f) + por P (pul L S q f 2) (whl L S I V q f) + por P (pul L S q f 3) (whl L S I V q f) + por P (V q) (whl L S I V q f)
def tst4 (L : Nat → Nat → Nat) (S : Nat → Nat) (q f P w : Nat) (Y : Nat → Nat) : Nat → Nat := tst L S q f P w 3 (tst L S q f P w 2 (tst L S q f P w 1 (tst L S q f P w 0 Y)))
def goS (L : Nat → Nat → Nat) (S I V B p : Nat → Nat) (q f : Nat) (Y : Nat → Nat) : Nat → Nat :=
  if p (5 * q + f) = 0 then Y else
  addY (addY (tst4 L S q f (p (5 * q + f)) (whl L S I V q f) Y) (5 * B q + f) (por (p (5 * q + f)) (V q) (whl L S I V q f))) (5 * q + 4) (p (5 * q + f) - gon L S I V q f (p (5 * q + f)))
def kStep (L : Nat → Nat → Nat) (S I V B p : Nat → Nat) (k : Nat) (Y : Nat → Nat) : Nat → Nat := if k % 5 = 4 then Y else goS L S I V B p (k / 5) (k % 5) Y
def kFold (L : Nat → Nat → Nat) (S I V B p : Nat → Nat) : Nat → Nat → (Nat → Nat) → (Nat → Nat)
  | _, 0, Y => Y
  | k, d + 1, Y => kFold L S I V B p (k + 1) d (kStep L S I V B p k Y)
theorem kFold_add (L : Nat → Nat → Nat) (S I V B p : Nat → Nat) : ∀ (d e k : Nat) (Y : Nat → Nat), kFold L S I V B p k (d + e) Y = kFold L S I V B p (k + d) e (kFold L S I V B p k d Y)
  | 0, e, k, Y => by rw [Nat.zero_add]; rfl
  | d + 1, e, k, Y => by
    rw [show d + 1 + e = d + e + 1 by omega, kFold, kFold, kFold_add L S I V B p d e (k + 1), show k + 1 + d = k + (d + 1) by omega]
/-- what goes is no more than what there was -/
theorem add_div_le {w : Nat} (hw : 0 < w) (a b : Nat) : a / w + b / w ≤ (a + b) / w := by
  rw [Nat.le_div_iff_mul_le hw, Nat.add_mul]
  exact Nat.add_le_add (Nat.div_mul_le_self a w) (Nat.div_mul_le_self b w)
theorem gon_le (L : Nat → Nat → Nat) (S I V : Nat → Nat) (q f P : Nat) : gon L S I V q f P ≤ P := by
  unfold gon por
  by_cases h : whl L S I V q f = 0
  · rw [if_pos h, if_pos h, if_pos h, if_pos h, if_pos h]
    omega
  · simp only [if_neg h]
    have hw : 0 < whl L S I V q f := by omega
    have e : V q + (pul L S q f 0 + pul L S q f 1 + pul L S q f 2 + pul L S q f 3) ≤ whl L S I V q f := by
      unfold whl
      omega
    generalize whl L S I V q f = w at *
    generalize pul L S q f 0 = a at *
    generalize pul L S q f 1 = b at *
    generalize pul L S q f 2 = c at *
    generalize pul L S q f 3 = d at *
    generalize V q = v at *
    have h1 := add_div_le hw (P * a) (P * b)
    have h2 := add_div_le hw (P * a + P * b) (P * c)
    have h3 := add_div_le hw (P * a + P * b + P * c) (P * d)
    have h4 := add_div_le hw (P * a + P * b + P * c + P * d) (P * v)
    have h5 : (P * a + P * b + P * c + P * d + P * v) / w ≤ P := by
      apply Nat.div_le_of_le_mul
      rw [← Nat.mul_add, ← Nat.mul_add, ← Nat.mul_add, ← Nat.mul_add, Nat.mul_comm w P]
      exact Nat.mul_le_mul_left P (by omega)
    omega
theorem sum_addY {Y : Nat → Nat} {k v n : Nat} (h : k < n) : sumN (addY Y k v) n = sumN Y n + v := by
  have := sumN_at (f := addY Y k v) (g := Y) (q := k) h (fun j _ e => if_neg e)
  rw [show addY Y k v k = Y k + v from if_pos rfl] at this
  omega
theorem sum_tst {L : Nat → Nat → Nat} (hL : LureOk L) {S : Nat → Nat} {q f P w x : Nat} {Y : Nat → Nat} (hq : q < 144) : sumN (tst L S q f P w x Y) 720 = sumN Y 720 + por P (pul L S q f x) w := by
  have ht := tn_lt f x
  unfold tst
  cases h : bes q (tn f x) with
  | none =>
    rw [pul, hL q _ h, Nat.mul_zero, por_0, Nat.add_zero]
  | some r =>
    have := bes_lt hq h
    exact sum_addY (by omega)
theorem sum_goS {L : Nat → Nat → Nat} (hL : LureOk L) {S I V B p : Nat → Nat} {q f : Nat} {Y : Nat → Nat} (hq : q < 144) (hf : f < 4) (hB : B q < 144) : sumN (goS L S I V B p q f Y) 720 = sumN Y 720 + p (5 * q + f) := by
  unfold goS
  by_cases h : p (5 * q + f) = 0
  · rw [if_pos h, h, Nat.add_zero]
  · have hg := gon_le L S I V q f (p (5 * q + f))
    rw [if_neg h, sum_addY (by omega), sum_addY (by omega), tst4, sum_tst hL hq, sum_tst hL hq, sum_tst hL hq, sum_tst hL hq]
    unfold gon at hg ⊢
    omega
/-- what is there in all -/
def gotB (p : Nat → Nat) (k : Nat) : Nat → Nat := fun j => if j % 5 = 4 ∨ j < k then p j else 0
def NS (p : Nat → Nat) (k : Nat) (Y : Nat → Nat) : Prop := sumN Y 720 = sumN (gotB p k) 720
theorem NS.le {p Y : Nat → Nat} {k : Nat} (h : NS p k Y) : sumN Y 720 ≤ sumN p 720 := by
  unfold NS at h
  rw [h]
  exact sumN_le (fun j _ => by
    unfold gotB
    split
    · exact Nat.le_refl _
    · exact Nat.zero_le _)
theorem NS.step {L : Nat → Nat → Nat} (hL : LureOk L) {S I V B p Y : Nat → Nat} {k : Nat} (hB : ∀ q, q < 144 → B q < 144) (hk : k < 720) (h : NS p k Y) : NS p (k + 1) (kStep L S I V B p k Y) := by
  have e := sumN_at (f := gotB p (k + 1)) (g := gotB p k) (q := k) hk (fun j _ e => by
    unfold gotB
    by_cases h1 : j % 5 = 4 ∨ j < k
    · rw [if_pos h1, if_pos (by omega)]
    · rw [if_neg h1, if_neg (by omega)])
  unfold NS kStep at *
  rw [show gotB p (k + 1) k = p k from if_pos (Or.inr (by omega))] at e
  by_cases h1 : k % 5 = 4
  · rw [if_pos h1, h]
    rw [show gotB p k k = p k from if_pos (Or.inl h1)] at e
    omega
  · rw [if_neg h1, sum_goS hL (by omega) (by omega) (hB _ (by omega)), h, show 5 * (k / 5) + k % 5 = k by omega]
    rw [show gotB p k k = 0 from if_neg (by omega)] at e
    omega
theorem NS.fold {L : Nat → Nat → Nat} (hL : LureOk L) {S I V B p : Nat → Nat} (hB : ∀ q, q < 144 → B q < 144) : ∀ (d k : Nat) (Y : Nat → Nat), k + d ≤ 720 → NS p k Y → NS p (k + d) (kFold L S I V B p k d Y) := by
  intro d
  induction d with
  | zero =>
    intro k Y _ h
    have e : kFold L S I V B p k 0 Y = Y := rfl
    rw [e, Nat.add_zero]
    exact h
  | succ d ih =>
    intro k Y hk h
    rw [show k + (d + 1) = k + 1 + d by omega]
    exact ih (k + 1) _ (by omega) (NS.step hL hB (by omega) h)
theorem NS.at {p Y : Nat → Nat} {k j : Nat} (h : NS p k Y) (hs : sumN p 720 ≤ AL) (hj : j < 720) : Y j ≤ AL :=
  Nat.le_trans (sumN_one Y hj) (Nat.le_trans h.le hs)
/-- the class's rows in a night -/
def NC (p Y : Nat → Nat) (c : St) : Prop := ∀ q, q < 144 → (∀ s, s < 4 → c.2 10 (4 * q + s) = lN (p (5 * q + s)) ∧ c.2 12 (4 * q + s) = lN (Y (5 * q + s))) ∧ c.2 11 q = lN (Y (5 * q + 4))
theorem NC.put12 {p Y : Nat → Nat} {c : St} (h : NC p Y c) {r f v : Nat} (hf : f < 4) : NC p (addY Y (5 * r + f) v) (sJ c 12 (4 * r + f) (lN (Y (5 * r + f) + v))) := fun q hq => by
  obtain ⟨h1, h2⟩ := h q hq
  refine ⟨fun s hs => ?_, ?_⟩
  · obtain ⟨a, b⟩ := h1 s hs
    rw [sJ2_ne (by decide), sJ2_eq]
    refine ⟨a, ?_⟩
    by_cases e : 4 * q + s = 4 * r + f
    · rw [e, updL_eq, addY, if_pos (by omega), show 5 * q + s = 5 * r + f by omega]
    · rw [updL_ne e, addY, if_neg (by omega)]
      exact b
  · rw [sJ2_ne (by decide), addY, if_neg (by omega)]
    exact h2
theorem NC.put11 {p Y : Nat → Nat} {c : St} (h : NC p Y c) {r v : Nat} : NC p (addY Y (5 * r + 4) v) (sJ c 11 r (lN (Y (5 * r + 4) + v))) := fun q hq => by
  obtain ⟨h1, h2⟩ := h q hq
  refine ⟨fun s hs => ?_, ?_⟩
  · obtain ⟨a, b⟩ := h1 s hs
    rw [sJ2_ne (by decide), sJ2_ne (by decide), addY, if_neg (by omega)]
    exact ⟨a, b⟩
  · rw [sJ2_eq]
    by_cases e : q = r
    · rw [e, updL_eq, addY, if_pos rfl]
    · rw [updL_ne e, addY, if_neg (by omega)]
      exact h2
abbrev oN (a b : St) : Prop := Only [13] [11, 12] a b
theorem c_arrive_some (F : Nat) {p Y : Nat → Nat} {c : St} (h : NC p Y c) {r f v : Nat} (hr : r < 144) (hf : f < 4) : ∃ c', c_Night_arrive F (nI r) (nI f) (lN v) c = some (lN v, c') ∧ NC p (addY Y (5 * r + f) v) c' ∧ Only [] [12] c c' := by
  refine ⟨_, ?_, h.put12 (r := r) (f := f) (v := v) hf, Only.sJ _ (by decide) _ _⟩
  unfold c_Night_arrive
  rw [if_pos (show (0 : Int32) ≤ nI r from nI_le (a := 0) (Nat.zero_le _) (by omega)), show (4 : Int32) = nI 4 from rfl, mulI, nI_add, inb_nI (show r * 4 + f < 576 by omega) (by decide), if_pos rfl, if_pos rfl, cl_nI (by omega), Nat.mul_comm r 4, ((h r hr).1 f hf).2, lN_add]
theorem c_por (F : Nat) {P n w : Nat} (hP : P ≤ AL) (hn : n ≤ 1000) (hw : w ≤ 1000) (s : St) : c_Night_portion F (lN P) (lN n) (lN w) s = some (lN (por P n w), s) := by
  have hAL : AL = 1099511627776 := rfl
  have hPn : P * n ≤ AL * 1000 := Nat.mul_le_mul hP hn
  unfold c_Night_portion por
  rw [show (0 : Int64) = lN 0 from rfl, lgGt (by omega) (by omega), itL0 (by omega) (by omega)]
  by_cases h : w = 0
  · rw [if_neg (by omega), if_pos h]
  · rw [if_pos (by omega), if_neg h, if_neg h, lN_mul, divL (by omega) (by omega) (by omega)]
/-- one of the four ways over the land -/
theorem c_turn_step (F k : Nat) {L : Nat → Nat → Nat} (hL : LureOk L) {S p Y : Nat → Nat} {q f P w x a : Nat} {c : St} (hq : q < 144) (hf : f < 4) (hx : x < 4) (hP : P ≤ AL) (hw : w ≤ 1000) (hpl : pul L S q f x ≤ 1000) (hS : c.1 7 x = nI (S x)) (hl : ∀ g, g < 4 → c.1 13 g = nI (L q g)) (h : NC p Y c) :
    ∃ c', c_Night_turn_L18 F (k + 1) (nI q) (nI f) (lN w) (lN P) (lN a) (nI x) c = c_Night_turn_L18 F k (nI q) (nI f) (lN w) (lN P) (lN (a + por P (pul L S q f x) w)) (nI (x + 1)) c' ∧ NC p (tst L S q f P w x Y) c' ∧ Only [] [12] c c' := by
  have g0 : ¬ (4 : Int32) ≤ nI x := by
    rw [show (4 : Int32) = nI 4 from rfl, leI (by omega) (by omega)]
    omega
  have ht := tn_lt f x
  have e0 : c_Night_turn_L18 F (k + 1) (nI q) (nI f) (lN w) (lN P) (lN a) (nI x) c = c_Night_turn_L18b F (c_Night_turn_L18 F k) (nI q) (nI f) (lN w) (lN P) (lN a) (nI x) c := rfl
  rw [e0]
  unfold c_Night_turn_L18b
  rw [if_neg g0, show (1 : Int32) = nI 1 from rfl, nI_add, inb_nI (show x < 4 by omega) (by decide), inb_nI (show x < 10 by omega) (by decide), if_pos rfl, if_pos rfl, cl_nI (by omega), turn_eq f hf x hx, inb_nI ht (by decide), if_pos rfl, cl_nI (by omega), c_bes F c hq ht, gB2_mk, hS, hl _ ht, mulI]
  rw [show nI (S x * L q (tn f x)) = nI (pul L S q f x) from rfl, i2lN (by omega), c_por F hP hpl hw, gB2_mk]
  unfold tst
  cases hb : bes q (tn f x) with
  | none =>
    have e1 : por P (pul L S q f x) w = 0 := by rw [pul, hL q _ hb, Nat.mul_zero, por_0]
    refine ⟨c, ?_, h, Only.refl _ _ _⟩
    unfold c_Night_arrive
    rw [if_neg (show ¬ (0 : Int32) ≤ enc (-1) none by decide), gB2_mk, e1]
    rw [show (0 : Int64) = lN 0 from rfl, lN_add]
  | some r =>
    obtain ⟨c', y1, y2, y3⟩ := c_arrive_some F h (r := r) (f := tn f x) (v := por P (pul L S q f x) w) (bes_lt hq hb) ht
    refine ⟨c', ?_, y2, y3⟩
    rw [show enc (-1) (some r) = nI r from rfl, y1, gB2_mk, lN_add]
theorem c_turn4 (F : Nat) (hF : 3000 ≤ F) {L : Nat → Nat → Nat} (hL : LureOk L) {S p Y : Nat → Nat} {q f P w : Nat} {c : St} (hq : q < 144) (hf : f < 4) (hP : P = p (5 * q + f)) (hPA : P ≤ AL) (hw : w ≤ 1000) (hpl : ∀ x, x < 4 → pul L S q f x ≤ 1000) (hS : ∀ x, x < 4 → c.1 7 x = nI (S x)) (hl : ∀ g, g < 4 → c.1 13 g = nI (L q g)) (h : NC p Y c) :
    ∃ c', c_Night_turn F (nI q) (nI f) (lN w) c = some (lN (por P (pul L S q f 0) w + por P (pul L S q f 1) w + por P (pul L S q f 2) w + por P (pul L S q f 3) w), c') ∧ NC p (tst4 L S q f P w Y) c' ∧ Only [] [12] c c' := by
  obtain ⟨k, rfl⟩ : ∃ k, F = k + 1 + 1 + 1 + 1 + 1 := ⟨F - 5, by omega⟩
  generalize hF' : k + 1 + 1 + 1 + 1 + 1 = F' at *
  obtain ⟨c1, a1, b1, d1⟩ := c_turn_step F' (k + 1 + 1 + 1 + 1) hL (a := 0) (x := 0) hq hf (by decide) hPA hw (hpl 0 (by decide)) (hS 0 (by decide)) hl h
  obtain ⟨c2, a2, b2, d2⟩ := c_turn_step F' (k + 1 + 1 + 1) hL (a := 0 + por P (pul L S q f 0) w) (x := 1) hq hf (by decide) hPA hw (hpl 1 (by decide)) (by rw [d1.1 7 (by simp)]; exact hS 1 (by decide)) (by rw [d1.1 13 (by simp)]; exact hl) b1
  obtain ⟨c3, a3, b3, d3⟩ := c_turn_step F' (k + 1 + 1) hL (a := 0 + por P (pul L S q f 0) w + por P (pul L S q f 1) w) (x := 2) hq hf (by decide) hPA hw (hpl 2 (by decide)) (by rw [d2.1 7 (by simp), d1.1 7 (by simp)]; exact hS 2 (by decide)) (by rw [d2.1 13 (by simp), d1.1 13 (by simp)]; exact hl) b2
  obtain ⟨c4, a4, b4, d4⟩ := c_turn_step F' (k + 1) hL (a := 0 + por P (pul L S q f 0) w + por P (pul L S q f 1) w + por P (pul L S q f 2) w) (x := 3) hq hf (by decide) hPA hw (hpl 3 (by decide)) (by rw [d3.1 7 (by simp), d2.1 7 (by simp), d1.1 7 (by simp)]; exact hS 3 (by decide)) (by rw [d3.1 13 (by simp), d2.1 13 (by simp), d1.1 13 (by simp)]; exact hl) b3
  refine ⟨c4, ?_, b4, ((d1.trans d2).trans d3).trans d4⟩
  unfold c_Night_turn
  rw [show (4 : Int32) = nI 4 from rfl, mulI, nI_add, inb_nI (show q * 4 + f < 576 by omega) (by decide), if_pos rfl, cl_nI (by omega), Nat.mul_comm q 4, ((h q hq).1 f hf).1, ← hP]
  have e : c_Night_turn_L18 F' F' (nI q) (nI f) (lN w) (lN P) 0 0 c = c_Night_turn_L18 F' (k + 1 + 1 + 1 + 1 + 1) (nI q) (nI f) (lN w) (lN P) (lN 0) (nI 0) c := by rw [hF']; rfl
  rw [e, a1, a2, a3, a4]
  show c_Night_turn_L18b F' (c_Night_turn_L18 F' k) (nI q) (nI f) (lN w) (lN P) _ (nI (3 + 1)) c4 = _
  unfold c_Night_turn_L18b
  rw [if_pos (show (4 : Int32) ≤ nI (3 + 1) by decide), Nat.zero_add]
theorem c_pulls (F : Nat) (hF : 3000 ≤ F) {L : Nat → Nat → Nat} {S : Nat → Nat} {q f : Nat} {c : St} (hf : f < 4) (hS : ∀ x, x < 4 → c.1 7 x = nI (S x)) (hl : ∀ g, g < 4 → c.1 13 g = nI (L q g)) : c_Night_pulls F (nI f) c = some (nI (pul L S q f 0 + pul L S q f 1 + pul L S q f 2 + pul L S q f 3), c) := by
  have step : ∀ (k x a : Nat), x < 4 → c_Night_pulls_L5 F (k + 1) (nI f) (nI a) (nI x) c = c_Night_pulls_L5 F k (nI f) (nI (a + pul L S q f x)) (nI (x + 1)) c := by
    intro k x a hx
    have g0 : ¬ (4 : Int32) ≤ nI x := by
      rw [show (4 : Int32) = nI 4 from rfl, leI (by omega) (by omega)]
      omega
    have ht := tn_lt f x
    have e0 : c_Night_pulls_L5 F (k + 1) (nI f) (nI a) (nI x) c = c_Night_pulls_L5b F (c_Night_pulls_L5 F k) (nI f) (nI a) (nI x) c := rfl
    rw [e0]
    unfold c_Night_pulls_L5b
    rw [if_neg g0, inb_nI (show x < 4 by omega) (by decide), inb_nI (show x < 10 by omega) (by decide), if_pos rfl, if_pos rfl, cl_nI (by omega), turn_eq f hf x hx, inb_nI ht (by decide), if_pos rfl, cl_nI (by omega), hS x hx, hl _ ht, mulI, nI_add, show (1 : Int32) = nI 1 from rfl, nI_add]
    rfl
  obtain ⟨k, hk⟩ : ∃ k, F = k + 1 + 1 + 1 + 1 + 1 := ⟨F - 5, by omega⟩
  unfold c_Night_pulls
  have e : c_Night_pulls_L5 F F (nI f) 0 0 c = c_Night_pulls_L5 F (k + 1 + 1 + 1 + 1 + 1) (nI f) (nI 0) (nI 0) c := by rw [← hk]; rfl
  rw [e, step _ 0 _ (by decide), step _ 1 _ (by decide), step _ 2 _ (by decide), step _ 3 _ (by decide)]
  show c_Night_pulls_L5b F (c_Night_pulls_L5 F k) (nI f) _ (nI (3 + 1)) c = _
  unfold c_Night_pulls_L5b
  rw [if_pos (show (4 : Int32) ≤ nI (3 + 1) by decide), Nat.zero_add]
