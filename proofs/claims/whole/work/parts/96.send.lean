/-! the pure part: whom, the class -/
theorem and31 {m j : Nat} (hj : j < 31) : (nI m &&& nI (2 ^ j) = 0) = (m.testBit j = false) := propext (fa_bit hj)
theorem c_send_leaf (F : Nat) {V : Nat → Nat → Nat} {n k x D : Nat} {s : St} {a : Nat × Nat} (hn : n ≤ 4) (hk : k ≤ 6) (hB : ∀ a b, a < 4 → b < 6 → V a b ≤ AL * 1000) (ho : okP k n x = true) (hI : SendI V n k s) (hb : BestI n a s) (ht : TriedI n x s) :
    ∃ s', c_Teams_send F (D + 1) (nI n) (nI (maskP n x)) (lN (sumP V n x)) s = some s' ∧ BestI n (stW V k n a x) s' ∧ TriedI n x s' ∧ Only [20, 21] [14] s s' := by
  obtain ⟨i1, i2, i3⟩ := hI
  obtain ⟨b1, b2, b3⟩ := hb
  have hs := sumP_le hk hB n x hn ho
  have hs2 : sumP V n x ≤ 4 * (AL * 1000) := Nat.le_trans hs (Nat.mul_le_mul_right _ hn)
  show ∃ s', c_Teams_send_b F (c_Teams_send F D) (nI n) (nI (maskP n x)) (lN (sumP V n x)) s = some s' ∧ _
  unfold c_Teams_send_b
  rw [i1, if_neg (show ¬ nI n < nI n from Int32.lt_irrefl), b1]
  by_cases g : a.1 ≤ sumP V n x
  · have hc : ¬ lg_cmp (lN (sumP V n x)) (dL a.1) ≤ 0 := by
      rw [cmp_le, le_dL (by unfold AL at hs2; omega) (by unfold AL at b2; omega)]
      omega
    rw [if_neg hc, if_pos (by decide)]
    refine ⟨_, rfl, ?_, ?_, ?_⟩
    · rw [stW, if_pos ⟨ho, g⟩]
      refine ⟨?_, by show sumP V n x + 1 ≤ _; omega, ?_⟩
      · show vp_updL (s.2 14) 9 (lN (sumP V n x)) 9 = dL (sumP V n x + 1)
        rw [updL_eq, dL_1]
      · intro _ t h
        show va_cpy (s.1 20) (s.1 21) 0 0 4 t = _
        unfold va_cpy
        rw [if_pos (by omega), show 0 + (t - 0) = t by omega]
        exact ht t h
    · intro t h
      exact ht t h
    · refine ⟨fun q hq => ?_, fun q hq => ?_⟩
      · show (if q = 21 then _ else s.1 q) = s.1 q
        rw [if_neg (fun e => hq (by rw [e]; decide))]
      · show (if q = 14 then _ else s.2 q) = s.2 q
        rw [if_neg (fun e => hq (by rw [e]; decide))]
  · have hc : lg_cmp (lN (sumP V n x)) (dL a.1) ≤ 0 := by
      rw [cmp_le, le_dL (by unfold AL at hs2; omega) (by unfold AL at b2; omega)]
      omega
    rw [if_pos hc]
    refine ⟨_, rfl, ?_, ht, Only.refl _ _ _⟩
    rw [stW, if_neg (fun e => g e.2)]
    exact ⟨b1, b2, b3⟩
/-- what a call of send does from level i with the prefix x -/
def SendS (F : Nat) (V : Nat → Nat → Nat) (n k D i : Nat) : Prop := ∀ (x : Nat) (s : St) (a : Nat × Nat), okP k i x = true → SendI V n k s → BestI n a s → TriedI i x s →
    ∃ s', c_Teams_send F D (nI i) (nI (maskP i x)) (lN (sumP V i x)) s = some s' ∧ BestI n (fW V k n (x * 7 ^ (n - i)) (7 ^ (n - i)) a) s' ∧ TriedI i x s' ∧ Only [20, 21] [14] s s'
theorem bad_range {V : Nat → Nat → Nat} {n k i x j : Nat} (hi : i < n) (hj : j < 7) (hb : okP k (i + 1) (7 * x + j) = false) (a : Nat × Nat) : fW V k n ((7 * x + j) * 7 ^ (n - (i + 1))) (7 ^ (n - (i + 1))) a = a := by
  apply fW_skip
  intro z h1 h2
  have hp : 0 < 7 ^ (n - (i + 1)) := Nat.pow_pos (by decide)
  have e : z / 7 ^ (n - (i + 1)) = 7 * x + j := by
    rw [Nat.div_eq_iff hp]
    constructor
    · omega
    · have : (7 * x + j) * 7 ^ (n - (i + 1)) + 7 ^ (n - (i + 1)) = (7 * x + j + 1) * 7 ^ (n - (i + 1)) := (Nat.succ_mul _ _).symm
      omega
  have := okP_bad k (n - (i + 1)) (i + 1) z (by rw [e]; exact hb)
  rw [show i + 1 + (n - (i + 1)) = n by omega] at this
  exact this
theorem c_send_lp (F : Nat) (hF : 3000 ≤ F) {V : Nat → Nat → Nat} {n k D i x : Nat} (hn : n ≤ 4) (hk : k ≤ 6) (hB : ∀ a b, a < 4 → b < 6 → V a b ≤ AL * 1000) (hi : i < n) (ih0 : SendS F V n k D (i + 1)) (ho : okP k i x = true) : ∀ (d j f : Nat) (s : St) (a : Nat × Nat), j + d = k → d < f → SendI V n k s → BestI n a s → TriedI i x s →
    ∃ s', c_Teams_send_L40 F (c_Teams_send F D) f (nI i) (nI (maskP i x)) (lN (sumP V i x)) (nI j) s = some s' ∧ BestI n (fW V k n ((7 * x + j) * 7 ^ (n - (i + 1))) ((7 - j) * 7 ^ (n - (i + 1))) a) s' ∧ TriedI i x s' ∧ Only [20, 21] [14] s s' := by
  intro d
  induction d with
  | zero =>
    intro j f s a hj hf hI hb ht
    obtain ⟨f, rfl⟩ : ∃ z, f = z + 1 := ⟨f - 1, by omega⟩
    have hjk : j = k := by omega
    subst hjk
    show ∃ s', c_Teams_send_L40b F (c_Teams_send F D) (c_Teams_send_L40 F (c_Teams_send F D) f) (nI i) (nI (maskP i x)) (lN (sumP V i x)) (nI j) s = some s' ∧ _
    unfold c_Teams_send_L40b
    obtain ⟨s', y1, y2, y3, y4⟩ := ih0 (7 * x + 6) (sI s 20 i (nI 6)) a (by rw [okP_ext (by decide), ho]; rfl) (hI.of (Only.sI s (by decide) _ _)) ⟨hb.1, hb.2.1, hb.2.2⟩ (ht.put (by decide))
    rw [maskP_6, sumP_6] at y1
    have hskip : ∀ m j', j' + m = 6 → j ≤ j' → ∀ b, fW V j n ((7 * x + j') * 7 ^ (n - (i + 1))) (m * 7 ^ (n - (i + 1))) b = b := by
      intro m
      induction m with
      | zero =>
        intro j' _ _ b
        rw [Nat.zero_mul]
        rfl
      | succ m ihm =>
        intro j' h1 h2 b
        rw [show (m + 1) * 7 ^ (n - (i + 1)) = 7 ^ (n - (i + 1)) + m * 7 ^ (n - (i + 1)) by rw [Nat.add_mul, Nat.one_mul, Nat.add_comm], fW_add, bad_range hi (by omega) (by rw [okP_ext (by omega), show decide (j' = 6) = false from decide_eq_false (by omega), show decide (j' < j) = false from decide_eq_false (by omega)]; simp)]
        have := ihm (j' + 1) (by omega) (by omega) b
        rw [show (7 * x + j') * 7 ^ (n - (i + 1)) + 7 ^ (n - (i + 1)) = (7 * x + (j' + 1)) * 7 ^ (n - (i + 1)) from (Nat.succ_mul _ _).symm]
        exact this
    rw [hI.2.1, if_pos (Int32.le_refl _), inb_nI (show i < 4 by omega) (by decide), if_pos rfl, cl_nI (by omega), show (6 : Int32) = nI 6 from rfl, show (1 : Int32) = nI 1 from rfl, nI_add, y1, gB_mk]
    refine ⟨s', rfl, ?_, y3.back (by decide), (Only.sI s (by decide) _ _).trans y4⟩
    rw [show (7 - j) * 7 ^ (n - (i + 1)) = (6 - j) * 7 ^ (n - (i + 1)) + 7 ^ (n - (i + 1)) by rw [show 7 - j = (6 - j) + 1 by omega, Nat.add_mul, Nat.one_mul], fW_add, hskip (6 - j) j (by omega) (Nat.le_refl _), show (7 * x + j) * 7 ^ (n - (i + 1)) + (6 - j) * 7 ^ (n - (i + 1)) = (7 * x + 6) * 7 ^ (n - (i + 1)) by rw [← Nat.add_mul]; congr 1; omega]
    exact y2
  | succ d ih =>
    intro j f s a hj hf hI hb ht
    obtain ⟨f, rfl⟩ : ∃ z, f = z + 1 := ⟨f - 1, by omega⟩
    show ∃ s', c_Teams_send_L40b F (c_Teams_send F D) (c_Teams_send_L40 F (c_Teams_send F D) f) (nI i) (nI (maskP i x)) (lN (sumP V i x)) (nI j) s = some s' ∧ _
    unfold c_Teams_send_L40b c_Teams_send_J96
    have e1 : (7 - j) * 7 ^ (n - (i + 1)) = 7 ^ (n - (i + 1)) + (7 - (j + 1)) * 7 ^ (n - (i + 1)) := by
      rw [show 7 - j = 1 + (7 - (j + 1)) by omega, Nat.add_mul, Nat.one_mul]
    have e2 : (7 * x + j) * 7 ^ (n - (i + 1)) + 7 ^ (n - (i + 1)) = (7 * x + (j + 1)) * 7 ^ (n - (i + 1)) := (Nat.succ_mul _ _).symm
    rw [e1, fW_add, e2]
    have g0 : ¬ nI k ≤ nI j := by
      rw [leI (by omega) (by omega)]
      omega
    rw [hI.2.1, if_neg g0, shl1 (show j < 7 by omega), fa_or]
    have hext := okP_ext (k := k) (i := i) (x := x) (show j < 7 by omega)
    rw [ho, show decide (j = 6) = false from decide_eq_false (by omega), show decide (j < k) = true from decide_eq_true (by omega)] at hext
    by_cases hm : (maskP i x).testBit j = false
    · rw [if_pos ((and31 (show j < 31 by omega)).mpr hm)]
      rw [hm] at hext
      have hv : s.2 19 (6 * i + j) = lN (V i j) := hI.2.2 i j (by omega) (Or.inl hi)
      obtain ⟨s1, y1, y2, y3, y4⟩ := ih0 (7 * x + j) (sI s 20 i (nI j)) a (by rw [hext]; rfl) (hI.of (Only.sI s (by decide) _ _)) ⟨hb.1, hb.2.1, hb.2.2⟩ (ht.put (by omega))
      rw [maskP_ext (by omega), sumP_ext (by omega)] at y1
      obtain ⟨s', z1, z2, z3, z4⟩ := ih (j + 1) f s1 _ (by omega) (by omega) (hI.of ((Only.sI s (by decide) _ _).trans y4)) y2 (y3.back (by omega))
      have h24 : inb (nI i * (6 : Int32) + nI j) 24 = true := by
        rw [show (6 : Int32) = nI 6 from rfl, mulI, nI_add]
        exact inb_nI (by omega) (by decide)
      have c24 : (nI i * (6 : Int32) + nI j).toNatClampNeg = 6 * i + j := by
        rw [show (6 : Int32) = nI 6 from rfl, mulI, nI_add, cl_nI (by omega)]
        omega
      rw [inb_nI (show i < 4 by omega) (by decide), if_pos rfl, h24, if_pos rfl, c24, cl_nI (by omega), sI2, hv, lN_add, show (1 : Int32) = nI 1 from rfl, nI_add, nI_add, y1, gB_mk, z1]
      exact ⟨s', rfl, z2, z3, ((Only.sI s (by decide) _ _).trans y4).trans z4⟩
    · rw [if_neg (fun e => hm ((and31 (show j < 31 by omega)).mp e))]
      have hmt : (maskP i x).testBit j = true := by simpa using hm
      rw [hmt] at hext
      rw [bad_range hi (by omega) (by rw [hext]; rfl), show (1 : Int32) = nI 1 from rfl, nI_add]
      exact ih (j + 1) f s a (by omega) (by omega) hI hb ht
theorem c_sendS (F : Nat) (hF : 3000 ≤ F) {V : Nat → Nat → Nat} {n k : Nat} (hn : n ≤ 4) (hk : k ≤ 6) (hB : ∀ a b, a < 4 → b < 6 → V a b ≤ AL * 1000) : ∀ (e i D : Nat), i + e = n → e < D → SendS F V n k D i := by
  intro e
  induction e with
  | zero =>
    intro i D hi hD x s a ho hI hb ht
    obtain ⟨D, rfl⟩ : ∃ z, D = z + 1 := ⟨D - 1, by omega⟩
    have hin : i = n := by omega
    subst hin
    rw [Nat.sub_self, Nat.pow_zero, Nat.mul_one]
    exact c_send_leaf F hn hk hB ho hI hb ht
  | succ e ih =>
    intro i D hi hD x s a ho hI hb ht
    obtain ⟨D, rfl⟩ : ∃ z, D = z + 1 := ⟨D - 1, by omega⟩
    have hlt : nI i < s.1 14 7 := by
      rw [hI.1, ltI (by omega) (by omega)]
      omega
    show ∃ s', c_Teams_send_b F (c_Teams_send F D) (nI i) (nI (maskP i x)) (lN (sumP V i x)) s = some s' ∧ _
    unfold c_Teams_send_b
    rw [if_pos hlt]
    obtain ⟨s', y1, y2, y3, y4⟩ := c_send_lp F hF (x := x) hn hk hB (show i < n by omega) (ih (i + 1) D (by omega) (by omega)) ho k 0 F s a (by omega) (by omega) hI hb ht
    refine ⟨s', y1, ?_, y3, y4⟩
    have ep : 7 ^ (n - i) = 7 * 7 ^ (n - (i + 1)) := by
      rw [show n - i = (n - (i + 1)) + 1 by omega, Nat.pow_succ, Nat.mul_comm]
    rw [ep, show x * (7 * 7 ^ (n - (i + 1))) = (7 * x + 0) * 7 ^ (n - (i + 1)) by show x * (7 * 7 ^ (n - (i + 1))) = (7 * x) * 7 ^ (n - (i + 1)); rw [← Nat.mul_assoc, Nat.mul_comm x 7]]
    exact y2
