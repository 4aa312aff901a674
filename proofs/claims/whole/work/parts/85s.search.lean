/-! the pure part: search -/
theorem PC.cong {p p' : Nat → Nat} {c : St} (h : PC p c) (e : ∀ j, j < 720 → p j = p' j) : PC p' c := fun q hq =>
  ⟨fun s hs => by rw [← e _ (by omega)]; exact (h q hq).1 s hs, by rw [← e _ (by omega)]; exact (h q hq).2⟩
theorem PM.cong {p p' : Nat → Nat} {m : St} (h : PM p m) (e : ∀ j, j < 720 → p j = p' j) : PM p' m := fun k hk => by rw [← e k hk]; exact h k hk
def pput (p : Nat → Nat) (k v : Nat) : Nat → Nat := fun j => if j = k then v else p j
theorem PC.put10 {p : Nat → Nat} {c : St} (h : PC p c) {q s v : Nat} (hs : s < 4) : PC (pput p (5 * q + s) v) (sJ c 10 (4 * q + s) (lN v)) := fun q' hq' => by
  refine ⟨fun s' hs' => ?_, ?_⟩
  · show vp_updL (c.2 10) (4 * q + s) (lN v) (4 * q' + s') = _
    unfold pput vp_updL
    by_cases e : 4 * q' + s' = 4 * q + s
    · rw [if_pos e, if_pos (show 5 * q' + s' = 5 * q + s by omega)]
    · rw [if_neg e, if_neg (show ¬ 5 * q' + s' = 5 * q + s by omega)]
      exact (h q' hq').1 s' hs'
  · show c.2 11 q' = _
    unfold pput
    rw [if_neg (show ¬ 5 * q' + 4 = 5 * q + s by omega)]
    exact (h q' hq').2
theorem PC.put11 {p : Nat → Nat} {c : St} (h : PC p c) {q v : Nat} : PC (pput p (5 * q + 4) v) (sJ c 11 q (lN v)) := fun q' hq' => by
  refine ⟨fun s' hs' => ?_, ?_⟩
  · show c.2 10 (4 * q' + s') = _
    unfold pput
    rw [if_neg (show ¬ 5 * q' + s' = 5 * q + 4 by omega)]
    exact (h q' hq').1 s' hs'
  · show vp_updL (c.2 11) q (lN v) q' = _
    unfold pput vp_updL
    by_cases e : q' = q
    · rw [if_pos e, if_pos (show 5 * q' + 4 = 5 * q + 4 by omega)]
    · rw [if_neg e, if_neg (show ¬ 5 * q' + 4 = 5 * q + 4 by omega)]
      exact (h q' hq').2
theorem PM.put {p : Nat → Nat} {m : St} (h : PM p m) {k v : Nat} : PM (pput p k v) (sJ m 9 k (lN v)) := fun j hj => by
  show vp_updL (m.2 9) k (lN v) j = _
  unfold pput vp_updL
  by_cases e : j = k
  · rw [if_pos e, if_pos e]
  · rw [if_neg e, if_neg e]
    exact h j hj
/-- only PARTS have changed -/
def OnlyP (ks : List Nat) (c c' : St) : Prop := c'.1 = c.1 ∧ ∀ k, k ∉ ks → c'.2 k = c.2 k
theorem OnlyP.refl (ks : List Nat) (c : St) : OnlyP ks c c := ⟨rfl, fun _ _ => rfl⟩
theorem OnlyP.trans {ks : List Nat} {a b c : St} (h : OnlyP ks a b) (h2 : OnlyP ks b c) : OnlyP ks a c := ⟨h2.1.trans h.1, fun k hk => (h2.2 k hk).trans (h.2 k hk)⟩
theorem OnlyP.sJ {ks : List Nat} (c : St) {k : Nat} (hk : k ∈ ks) (j : Nat) (x : Int64) : OnlyP ks c (sJ c k j x) := by
  refine ⟨rfl, fun i hi => ?_⟩
  have hne : i ≠ k := fun e => hi (e ▸ hk)
  show (if i = k then _ else c.2 i) = c.2 i
  rw [if_neg hne]
def kC : List Nat := [10, 11, 12]
def kM : List Nat := [9, 10]
theorem Rel.parts {n : Nat} {c m c' m' : St} (R : Rel n c m) (hc : OnlyP kC c c') (hm : OnlyP kM m m') {p : Nat → Nat} (pc : PC p c') (pm : PM p m') (hs : sumN p 720 ≤ AL) : Rel n c' m' := by
  have hE := pc.eqP pm hs
  obtain ⟨c1, c2⟩ := c
  obtain ⟨m1, m2⟩ := m
  obtain ⟨c1', c2'⟩ := c'
  obtain ⟨m1', m2'⟩ := m'
  obtain ⟨e1, f1⟩ := hc
  obtain ⟨e2, f2⟩ := hm
  simp only at e1 f1 e2 f2
  subst e1
  subst e2
  obtain ⟨⟨h1, h2, h3, h4, h5, h6, h7, h8, h9, h10, h11, h12, h13, h14, h15, h16, h17, h18, h19, h20, h21, h22, h23, h24⟩, hI, hT1, hT2, hL, hS, hJ, hR, hEr⟩ := R
  refine ⟨⟨h1, h2, h3, h4, h5, h6, h7, h8, h9, h10, h11, h12, h13, h14, h15, h16, h17, h18, h19, h20, h21, h22, h23, hE⟩, ?_, hT1, hT2, hL, hS, ?_, hR, hEr⟩
  · rcases hI with hI | ⟨a, b, hI⟩
    · exact Or.inl hI
    · refine Or.inr ⟨a, b, ?_⟩
      have g44 := f1 44 (by decide)
      have g45 := f1 45 (by decide)
      have g28 := f2 28 (by decide)
      have ek : vK (c1', c2') = vK (c1', c2) := by
        unfold vK
        simp only [g44, g45]
      have ei : vI (m1', m2') = vI (m1', m2) := by
        unfold vI
        simp only [g28]
      show RelV n (vK (c1', c2')) (vI (m1', m2'))
      rw [ek, ei]
      exact hI
  · intro j hj
    show c2' 77 j = m2' 31 j
    rw [f1 77 (by decide), f2 31 (by decide)]
    exact hJ j hj
def lose (p : Nat → Nat) (q v0 v1 : Nat) : Nat → Nat := fun j => if j / 5 = q then p j - p j * (if j % 5 = 4 then v1 else v0) / 16 else p j
def seenOf (p : Nat → Nat) (q v0 v1 : Nat) : Nat := p (5 * q) * v0 / 16 + p (5 * q + 1) * v0 / 16 + p (5 * q + 2) * v0 / 16 + p (5 * q + 3) * v0 / 16 + p (5 * q + 4) * v1 / 16
theorem sumN_at {f g : Nat → Nat} {q : Nat} : ∀ {n : Nat}, q < n → (∀ k, k < n → k ≠ q → f k = g k) → sumN f n + g q = sumN g n + f q
  | 0, h, _ => absurd h (Nat.not_lt_zero _)
  | n + 1, h, e => by
    rw [sumN, sumN]
    by_cases c : q = n
    · rw [sumN_cong (fun k hk => e k (by omega) (by omega)), c]
      omega
    · have := sumN_at (n := n) (show q < n by omega) (fun k hk => e k (by omega))
      have := e n (by omega) (fun h => c h.symm)
      omega
theorem le16 {a v : Nat} (h : v ≤ 16) : a * v / 16 ≤ a := by
  have : a * v ≤ a * 16 := Nat.mul_le_mul_left a h
  omega
theorem tg_lose_ne {p : Nat → Nat} {q v0 v1 k : Nat} (e : k ≠ q) : tg (lose p q v0 v1) k = tg p k := by
  unfold tg lose
  rw [if_neg (show ¬ (5 * k) / 5 = q by omega), if_neg (show ¬ (5 * k + 1) / 5 = q by omega), if_neg (show ¬ (5 * k + 2) / 5 = q by omega), if_neg (show ¬ (5 * k + 3) / 5 = q by omega), if_neg (show ¬ (5 * k + 4) / 5 = q by omega)]
theorem lose_at {p : Nat → Nat} {q v0 v1 : Nat} (s : Nat) (h : s < 4) : lose p q v0 v1 (5 * q + s) = p (5 * q + s) - p (5 * q + s) * v0 / 16 := by
  unfold lose
  rw [if_pos (show (5 * q + s) / 5 = q by omega), if_neg (show ¬ (5 * q + s) % 5 = 4 by omega)]
theorem lose_at4 {p : Nat → Nat} {q v0 v1 : Nat} : lose p q v0 v1 (5 * q + 4) = p (5 * q + 4) - p (5 * q + 4) * v1 / 16 := by
  unfold lose
  rw [if_pos (show (5 * q + 4) / 5 = q by omega), if_pos (show (5 * q + 4) % 5 = 4 by omega)]
theorem tg_lose {p : Nat → Nat} {q v0 v1 : Nat} (h0 : v0 ≤ 16) (h1 : v1 ≤ 16) : tg (lose p q v0 v1) q + seenOf p q v0 v1 = tg p q := by
  unfold tg seenOf
  rw [lose_at4, lose_at 1 (by decide), lose_at 2 (by decide), lose_at 3 (by decide), show lose p q v0 v1 (5 * q) = p (5 * q) - p (5 * q) * v0 / 16 from lose_at 0 (by decide)]
  have a0 := le16 (a := p (5 * q)) h0
  have a1 := le16 (a := p (5 * q + 1)) h0
  have a2 := le16 (a := p (5 * q + 2)) h0
  have a3 := le16 (a := p (5 * q + 3)) h0
  have a4 := le16 (a := p (5 * q + 4)) h1
  generalize p (5 * q) * v0 / 16 = b0 at *
  generalize p (5 * q + 1) * v0 / 16 = b1 at *
  generalize p (5 * q + 2) * v0 / 16 = b2 at *
  generalize p (5 * q + 3) * v0 / 16 = b3 at *
  generalize p (5 * q + 4) * v1 / 16 = b4 at *
  generalize p (5 * q) = c0 at *
  generalize p (5 * q + 1) = c1 at *
  generalize p (5 * q + 2) = c2 at *
  generalize p (5 * q + 3) = c3 at *
  generalize p (5 * q + 4) = c4 at *
  omega
theorem sum_tg (p : Nat → Nat) : sumN p 720 = sumN (tg p) 144 := sumN_5 p 144
theorem sum_lose {p : Nat → Nat} {q v0 v1 : Nat} (hq : q < 144) (h0 : v0 ≤ 16) (h1 : v1 ≤ 16) : sumN (lose p q v0 v1) 720 + seenOf p q v0 v1 = sumN p 720 := by
  have hh := sumN_at (f := tg (lose p q v0 v1)) (g := tg p) hq (fun k _ e => tg_lose_ne e)
  have ht := tg_lose (p := p) (q := q) h0 h1
  rw [sum_tg, sum_tg]
  generalize sumN (tg (lose p q v0 v1)) 144 = X at hh ⊢
  generalize sumN (tg p) 144 = Y at hh ⊢
  generalize tg (lose p q v0 v1) q = z at hh ht
  omega
theorem div16 {a : Nat} (h : a < 2 ^ 62) : lN a / lN 16 = lN (a / 16) := divL (by omega) (by decide) (by decide)
theorem mul16 {a v : Nat} (ha : a ≤ AL) (hv : v ≤ 16) : a * v < 2 ^ 62 := by
  have : a * v ≤ AL * 16 := Nat.mul_le_mul ha hv
  unfold AL at this
  omega
theorem c_seen_lp (F : Nat) {p : Nat → Nat} {s : St} {q v : Nat} (hp : PC p s) (hs : sumN p 720 ≤ AL) (hq : q < 144) (hv : v ≤ 16) : ∀ (d i k : Nat) (acc : Nat), i + d = 4 → d < k → c_Night_seen_L18 F k (nI q) (nI v) (lN acc) (nI i) s = some (lN (acc + sF (fun j => p (5 * q + j) * v / 16) i d), s) := by
  intro d
  induction d with
  | zero =>
    intro i k acc hi hk
    obtain ⟨k, rfl⟩ : ∃ z, k = z + 1 := ⟨k - 1, by omega⟩
    show c_Night_seen_L18b F (c_Night_seen_L18 F k) (nI q) (nI v) (lN acc) (nI i) s = _
    unfold c_Night_seen_L18b
    simp (disch := omega) only [fa_lit, fa_litL, leI, ltI, eqI, leL, ltL, eqL, cq_lt, cq_le, cq_gt, cq_ge, cq_eq, mulI, nI_add, lN_add, lN_mul, inb_iff, cl_nI, i2lN, l2iN]
    rw [if_pos (by omega)]
    rfl
  | succ d ih =>
    intro i k acc hi hk
    obtain ⟨k, rfl⟩ : ∃ z, k = z + 1 := ⟨k - 1, by omega⟩
    show c_Night_seen_L18b F (c_Night_seen_L18 F k) (nI q) (nI v) (lN acc) (nI i) s = _
    unfold c_Night_seen_L18b
    have hb := mul16 (p_le (show 5 * q + i < 720 by omega) hs) hv
    simp (disch := omega) only [fa_lit, fa_litL, leI, ltI, eqI, leL, ltL, eqL, cq_lt, cq_le, cq_gt, cq_ge, cq_eq, mulI, nI_add, lN_add, lN_mul, inb_iff, cl_nI, i2lN, l2iN, show q * 4 + i = 4 * q + i by omega, (hp q hq).1, div16]
    rw [if_neg (by omega), if_pos (by omega), ih (i + 1) k _ (by omega) (by omega), sF]
    simp only [Nat.add_assoc]
theorem c_seen (F : Nat) (hF : 3000 ≤ F) {p : Nat → Nat} {s : St} {q v0 v1 : Nat} (hp : PC p s) (hs : sumN p 720 ≤ AL) (hq : q < 144) (h0 : v0 ≤ 16) (h1 : v1 ≤ 16) : c_Night_seen F (nI q) (nI v0) (nI v1) s = some (lN (seenOf p q v0 v1), s) := by
  unfold c_Night_seen
  have hb := mul16 (p_le (show 5 * q + 4 < 720 by omega) hs) h1
  simp (disch := omega) only [fa_lit, fa_litL, leI, ltI, eqI, leL, ltL, eqL, cq_lt, cq_le, cq_gt, cq_ge, cq_eq, mulI, nI_add, lN_add, lN_mul, inb_iff, cl_nI, i2lN, l2iN, (hp q hq).2, div16]
  rw [if_pos hq, c_seen_lp F hp hs hq h0 4 0 F _ rfl (by omega)]
  simp only [sF, seenOf, Nat.zero_add, Nat.reduceAdd, Nat.add_zero]
  congr 3
  omega
theorem c_lose_lp (F : Nat) {p : Nat → Nat} {q v : Nat} (hs : sumN p 720 ≤ AL) (hq : q < 144) (hv : v ≤ 16) : ∀ (d i k : Nat) (s : St), i + d = 4 → d < k → PC (fun j => if 5 * q ≤ j ∧ j < 5 * q + i then p j - p j * v / 16 else p j) s → ∃ s', c_Night_lose_L25 F k (nI q) (nI v) (nI i) s = some s' ∧ PC (fun j => if 5 * q ≤ j ∧ j < 5 * q + 4 then p j - p j * v / 16 else p j) s' ∧ OnlyP kC s s' := by
  intro d
  induction d with
  | zero =>
    intro i k s hi hk hp
    obtain ⟨k, rfl⟩ : ∃ z, k = z + 1 := ⟨k - 1, by omega⟩
    have hi4 : i = 4 := by omega
    subst hi4
    refine ⟨s, ?_, hp, OnlyP.refl _ _⟩
    show c_Night_lose_L25b F (c_Night_lose_L25 F k) (nI q) (nI v) (nI 4) s = _
    unfold c_Night_lose_L25b
    rfl
  | succ d ih =>
    intro i k s hi hk hp
    obtain ⟨k, rfl⟩ : ∃ z, k = z + 1 := ⟨k - 1, by omega⟩
    have e : c_Night_lose_L25 F (k + 1) (nI q) (nI v) (nI i) s = c_Night_lose_L25 F k (nI q) (nI v) (nI (i + 1)) (sJ s 10 (4 * q + i) (lN (p (5 * q + i) - p (5 * q + i) * v / 16))) := by
      show c_Night_lose_L25b F (c_Night_lose_L25 F k) (nI q) (nI v) (nI i) s = _
      unfold c_Night_lose_L25b
      have hb := mul16 (p_le (show 5 * q + i < 720 by omega) hs) hv
      have hv2 : s.2 10 (4 * q + i) = lN (p (5 * q + i)) := by
        rw [(hp q hq).1 i (by omega)]
        exact congrArg lN (if_neg (by omega))
      have hl := le16 (a := p (5 * q + i)) hv
      simp (disch := omega) only [fa_lit, fa_litL, leI, ltI, eqI, leL, ltL, eqL, cq_lt, cq_le, cq_gt, cq_ge, cq_eq, mulI, nI_add, lN_add, lN_mul, inb_iff, cl_nI, i2lN, l2iN, show q * 4 + i = 4 * q + i by omega, hv2, div16, subL]
      simp only [if_neg (show ¬ 4 ≤ i by omega), if_pos (show 4 * q + i < 576 by omega)]
    rw [e]
    obtain ⟨s', h1, h2, h3⟩ := ih (i + 1) k _ (by omega) (by omega) ((hp.put10 (q := q) (s := i) (v := p (5 * q + i) - p (5 * q + i) * v / 16) (by omega)).cong (fun j hj => by
      simp only [pput]
      by_cases e : j = 5 * q + i
      · rw [if_pos e, if_pos (show 5 * q ≤ j ∧ j < 5 * q + (i + 1) by omega), e]
      · rw [if_neg e]
        by_cases g : 5 * q ≤ j ∧ j < 5 * q + i
        · rw [if_pos g, if_pos (show 5 * q ≤ j ∧ j < 5 * q + (i + 1) by omega)]
        · rw [if_neg g, if_neg (show ¬ (5 * q ≤ j ∧ j < 5 * q + (i + 1)) by omega)]))
    exact ⟨s', h1, h2, (OnlyP.sJ s (by decide) _ _).trans h3⟩
theorem c_lose (F : Nat) (hF : 3000 ≤ F) {p : Nat → Nat} {q v0 v1 : Nat} {s : St} (hp : PC p s) (hs : sumN p 720 ≤ AL) (hq : q < 144) (h0 : v0 ≤ 16) (h1 : v1 ≤ 16) : ∃ s', c_Night_lose F (nI q) (nI v0) (nI v1) s = some s' ∧ PC (lose p q v0 v1) s' ∧ OnlyP kC s s' := by
  have hb := mul16 (p_le (show 5 * q + 4 < 720 by omega) hs) h1
  have hl := le16 (a := p (5 * q + 4)) h1
  have hp2 := hp.put11 (q := q) (v := p (5 * q + 4) - p (5 * q + 4) * v1 / 16)
  have hx : c_Night_lose F (nI q) (nI v0) (nI v1) s = c_Night_lose_L25 F F (nI q) (nI v0) (nI 0) (sJ s 11 q (lN (p (5 * q + 4) - p (5 * q + 4) * v1 / 16))) := by
    unfold c_Night_lose
    simp (disch := omega) only [fa_lit, fa_litL, leI, ltI, eqI, leL, ltL, eqL, cq_lt, cq_le, cq_gt, cq_ge, cq_eq, mulI, nI_add, lN_add, lN_mul, inb_iff, cl_nI, i2lN, l2iN, (hp q hq).2, div16, subL]
    simp only [if_pos hq]
  have hs2 : sumN (pput p (5 * q + 4) (p (5 * q + 4) - p (5 * q + 4) * v1 / 16)) 720 ≤ AL := by
    refine Nat.le_trans (sumN_le (fun k hk => ?_)) hs
    simp only [pput]
    by_cases e : k = 5 * q + 4
    · rw [if_pos e, e]
      omega
    · rw [if_neg e]
      exact Nat.le_refl _
  obtain ⟨s', y1, y2, y3⟩ := c_lose_lp F hs2 hq h0 4 0 F _ rfl (by omega) (hp2.cong (fun j hj => by rw [if_neg (show ¬ (5 * q ≤ j ∧ j < 5 * q + 0) by omega)]))
  refine ⟨s', hx.trans y1, y2.cong (fun j hj => ?_), (OnlyP.sJ s (by decide) _ _).trans y3⟩
  unfold lose pput
  by_cases g : j / 5 = q
  · rw [if_pos g]
    by_cases g4 : j % 5 = 4
    · rw [if_neg (show ¬ (5 * q ≤ j ∧ j < 5 * q + 4) by omega), if_pos (show j = 5 * q + 4 by omega), if_pos g4, show j = 5 * q + 4 by omega]
    · rw [if_pos (show 5 * q ≤ j ∧ j < 5 * q + 4 by omega), if_neg (show ¬ j = 5 * q + 4 by omega), if_neg g4]
  · rw [if_neg g, if_neg (show ¬ (5 * q ≤ j ∧ j < 5 * q + 4) by omega), if_neg (show ¬ j = 5 * q + 4 by omega)]
theorem EqR.fn {f g : Nat → Int32} {len hi : Nat} (h : EqR f g len hi) (hh : hi < 2 ^ 31) : ∃ K : Nat → Nat, ∀ j, j < len → K j ≤ hi ∧ f j = nI (K j) ∧ g j = nI (K j) :=
  ⟨fun j => (f j).toNatClampNeg, fun j hj => by
    obtain ⟨k, h1, h2, h3⟩ := h j hj
    simp only [h2, cl_nI (show k < 2 ^ 31 by omega)]
    exact ⟨h1, trivial, h3⟩⟩
def LawC (K : Nat → Nat) (x8 x9 : Nat) (c : St) : Prop := (∀ j, j < 144 → c.1 3 j = nI (K j)) ∧ c.1 7 8 = nI x8 ∧ c.1 7 9 = nI x9
def LawM (K : Nat → Nat) (x8 x9 : Nat) (m : St) : Prop := (∀ j, j < 144 → m.1 2 j = nI (K j)) ∧ m.1 5 8 = nI x8 ∧ m.1 5 9 = nI x9
def LawB (K : Nat → Nat) (x8 x9 : Nat) : Prop := (∀ j, j < 144 → K j ≤ 7) ∧ x8 ≤ 999 ∧ x9 ≤ 999
theorem Rel.law {n : Nat} {c m : St} (R : Rel n c m) : ∃ K x8 x9, LawC K x8 x9 c ∧ LawM K x8 x9 m ∧ LawB K x8 x9 := by
  obtain ⟨K, hK⟩ := R.1.kinds.fn (by decide)
  obtain ⟨x8, b8, c8, m8⟩ := R.1.settings 8 (by omega)
  obtain ⟨x9, b9, c9, m9⟩ := R.1.settings 9 (by omega)
  exact ⟨K, x8, x9, ⟨fun j hj => (hK j hj).2.1, c8, c9⟩, ⟨fun j hj => (hK j hj).2.2, m8, m9⟩, ⟨fun j hj => (hK j hj).1, b8, b9⟩⟩
theorem LawC.of {K : Nat → Nat} {x8 x9 : Nat} {c c' : St} (h : LawC K x8 x9 c) (e : c'.1 = c.1) : LawC K x8 x9 c' := by unfold LawC; rw [e]; exact h
theorem LawM.of {K : Nat → Nat} {x8 x9 : Nat} {c c' : St} (h : LawM K x8 x9 c) (e : c'.1 = c.1) : LawM K x8 x9 c' := by unfold LawM; rw [e]; exact h
theorem LawC.sight {K : Nat → Nat} {x8 x9 : Nat} {c : St} (h : LawC K x8 x9 c) (b : LawB K x8 x9) (F : Nat) {a q w t : Nat} (ha : a ≤ 3) (hq : q < 144) (hw : w ≤ 1) (ht : t ≤ 100000) : c_Law_sight F (nI a) (c.1 3 q) (nI w) (nI t) c = some (nI (sg a (K q) w t x8 x9), c) := by
  rw [h.1 q hq]
  exact c_sight F ha (b.1 q hq) hw ht h.2.1 h.2.2 b.2.1 b.2.2
theorem LawM.sixt {K : Nat → Nat} {x8 x9 : Nat} {c : St} (h : LawM K x8 x9 c) (b : LawB K x8 x9) (F : Nat) {a q w t : Nat} (ha : a ≤ 3) (hq : q < 144) (hw : w ≤ 1) (ht : t ≤ 100000) : m_sixteenths F (nI a) (nI q) (nI w) (nI t) c = some (nI (sg a (K q) w t x8 x9), c) :=
  m_sixt F ha (b.1 q hq) hw ht h.2.1 h.2.2 b.2.1 b.2.2 hq (h.1 q hq)
def seenS (p K : Nat → Nat) (x8 x9 a q t : Nat) : Nat := seenOf p q (sg a (K q) 0 t x8 x9) (sg a (K q) 1 t x8 x9)
theorem sg16 (a k w t x8 x9 : Nat) : sg a k w t x8 x9 ≤ 16 := Nat.le_trans (sg_le a k w t x8 x9) (by decide)
theorem c_seenS (F : Nat) (hF : 3000 ≤ F) {p K : Nat → Nat} {x8 x9 a q t : Nat} {c : St} (hp : PC p c) (hs : sumN p 720 ≤ AL) (hl : LawC K x8 x9 c) (hb : LawB K x8 x9) (ha : a ≤ 3) (hq : q < 144) (ht : t ≤ 100000) : c_State_seen F (nI a) (nI q) (nI t) c = some (lN (seenS p K x8 x9 a q t), c) := by
  unfold c_State_seen
  rw [inb_nI hq (by decide), if_pos rfl, cl_nI (by omega), show (0 : Int32) = nI 0 from rfl, show (1 : Int32) = nI 1 from rfl, hl.sight hb F ha hq (by decide) ht, gB2_mk, hl.sight hb F ha hq (by decide) ht, gB2_mk, c_seen F hF hp hs hq (sg16 _ _ _ _ _ _) (sg16 _ _ _ _ _ _)]
  rfl
theorem m_seen_lp (F : Nat) {p K : Nat → Nat} {x8 x9 a q t : Nat} {s : St} (hp : PM p s) (hs : sumN p 720 ≤ AL) (hl : LawM K x8 x9 s) (hb : LawB K x8 x9) (ha : a ≤ 3) (hq : q < 144) (ht : t ≤ 100000) : ∀ (d i k : Nat) (acc : Nat), i + d = 5 → d < k → m_seen_L6 F k (nI a) (nI q) (nI t) (lN acc) (nI i) s = some (lN (acc + sF (fun j => p (5 * q + j) * (sg a (K q) (if j = 4 then 1 else 0) t x8 x9) / 16) i d), s) := by
  intro d
  induction d with
  | zero =>
    intro i k acc hi hk
    obtain ⟨k, rfl⟩ : ∃ z, k = z + 1 := ⟨k - 1, by omega⟩
    show m_seen_L6b F (m_seen_L6 F k) (nI a) (nI q) (nI t) (lN acc) (nI i) s = _
    unfold m_seen_L6b
    simp (disch := omega) only [fa_lit, fa_litL, leI, ltI, eqI, leL, ltL, eqL, cq_lt, cq_le, cq_gt, cq_ge, cq_eq, mulI, nI_add, lN_add, lN_mul, inb_iff, cl_nI, i2lN, l2iN]
    rw [if_pos (by omega)]
    rfl
  | succ d ih =>
    intro i k acc hi hk
    obtain ⟨k, rfl⟩ : ∃ z, k = z + 1 := ⟨k - 1, by omega⟩
    show m_seen_L6b F (m_seen_L6 F k) (nI a) (nI q) (nI t) (lN acc) (nI i) s = _
    unfold m_seen_L6b
    have hb2 := fun w => mul16 (p_le (show 5 * q + i < 720 by omega) hs) (sg16 a (K q) w t x8 x9)
    have h16 := fun w => sg_le a (K q) w t x8 x9
    have hx : ∀ w, w ≤ 1 → m_seen_J39 F (m_seen_L6 F k) (nI a) (nI q) (nI t) (nI i) (lN acc) (lN (p (5 * q + i))) (nI a) (nI q) (nI w) s = m_seen_L6 F k (nI a) (nI q) (nI t) (lN (acc + p (5 * q + i) * (sg a (K q) w t x8 x9) / 16)) (nI (i + 1)) s := by
      intro w hw
      have := h16 w
      have := hb2 w
      unfold m_seen_J39
      rw [hl.sixt hb F ha hq hw ht, gB2_mk]
      simp (disch := omega) only [fa_lit, fa_litL, leI, ltI, eqI, leL, ltL, eqL, cq_lt, cq_le, cq_gt, cq_ge, cq_eq, mulI, nI_add, lN_add, lN_mul, inb_iff, cl_nI, i2lN, l2iN, div16]
    simp (disch := omega) only [fa_lit, fa_litL, leI, ltI, eqI, leL, ltL, eqL, cq_lt, cq_le, cq_gt, cq_ge, cq_eq, mulI, nI_add, lN_add, lN_mul, inb_iff, cl_nI, i2lN, l2iN]
    rw [if_neg (by omega), if_pos (by omega), hp (5 * q + i) (by omega), hx 1 (by omega), hx 0 (by omega), sF]
    simp only [← Nat.add_assoc]
    by_cases h4 : i = 4
    · rw [if_pos h4, ih (i + 1) k _ (by omega) (by omega), if_pos h4]
    · rw [if_neg h4, ih (i + 1) k _ (by omega) (by omega), if_neg h4]
theorem m_seenS (F : Nat) (hF : 3000 ≤ F) {p K : Nat → Nat} {x8 x9 a q t : Nat} {c : St} (hp : PM p c) (hs : sumN p 720 ≤ AL) (hl : LawM K x8 x9 c) (hb : LawB K x8 x9) (ha : a ≤ 3) (hq : q < 144) (ht : t ≤ 100000) : m_seen F (nI a) (nI q) (nI t) c = some (lN (seenS p K x8 x9 a q t), c) := by
  unfold m_seen
  rw [show (0 : Int32) = nI 0 from rfl, show (0 : Int64) = lN 0 from rfl, m_seen_lp F hp hs hl hb ha hq ht 5 0 F 0 rfl (by omega)]
  simp only [sF, seenS, seenOf, Nat.zero_add, Nat.reduceAdd, Nat.add_zero, Nat.reduceEqDiff, if_true, if_false]
  congr 3
  omega
