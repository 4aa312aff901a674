/-! the pure part: order, the reference -/
theorem oSw_le (A : Nat → Nat) (i : Nat) : ∀ j, oSwj A i j ≤ j
  | 0 => Nat.le_refl _
  | j + 1 => by
    unfold oSwj
    split
    · exact Nat.le_refl _
    · exact Nat.le_succ_of_le (oSw_le A i j)
theorem oPv_lt (A : Nat → Nat) : ∀ e i, oPv A e = some i → i < e
  | 0, i, h => by cases h
  | e + 1, i, h => by
    unfold oPv at h
    split at h
    · cases h
      exact Nat.lt_succ_self _
    · exact Nat.lt_succ_of_lt (oPv_lt A e i h)
theorem swp_at {A : Nat → Nat} {s : St} {n i j : Nat} (hA : ∀ t, t < n → s.1 19 t = nI (A t)) : ∀ t, t < n → (sI (sI s 19 i (nI (A j))) 19 j (nI (A i))).1 19 t = nI (oSwp A i j t) := fun t ht => by
  unfold oSwp
  rw [sI1_eq, sI1_eq]
  by_cases e : t = j
  · rw [e, upd_eq, if_pos rfl]
  · rw [upd_ne e, if_neg e]
    by_cases e2 : t = i
    · rw [e2, upd_eq, if_pos rfl]
    · rw [upd_ne e2, if_neg e2]
      exact hA t ht
theorem nI_m1 {j : Nat} : nI (j + 1) + (-1 : Int32) = nI j := by
  rw [m1_add, show (1 : Int32) = nI 1 from rfl, subI (by omega), Nat.add_sub_cancel]
theorem m_rev_lp (F : Nat) {n : Nat} (hn : n ≤ 6) : ∀ (k lo hi f : Nat) (s : St) (A : Nat → Nat), k < f → hi ≤ lo + 2 * k → hi < n → lo < 1000 → (∀ t, t < n → s.1 19 t = nI (A t)) → ∃ s', m_turns_L100 F f (nI lo) (nI hi) s = some (1, s') ∧ (∀ t, t < n → s'.1 19 t = nI (oRv k lo hi A t)) ∧ Only [19] [] s s' := by
  intro k
  induction k with
  | zero =>
    intro lo hi f s A hf hk hhi hlo hA
    obtain ⟨f, rfl⟩ : ∃ z, f = z + 1 := ⟨f - 1, by omega⟩
    refine ⟨s, ?_, hA, Only.refl _ _ _⟩
    show m_turns_L100b F (m_turns_L100 F f) (nI lo) (nI hi) s = _
    unfold m_turns_L100b
    rw [if_pos (nI_le (by omega) (by omega))]
  | succ k ih =>
    intro lo hi f s A hf hk hhi hlo hA
    obtain ⟨f, rfl⟩ : ∃ z, f = z + 1 := ⟨f - 1, by omega⟩
    have hbody : m_turns_L100 F (f + 1) (nI lo) (nI hi) s = m_turns_L100b F (m_turns_L100 F f) (nI lo) (nI hi) s := rfl
    rw [hbody]
    unfold m_turns_L100b oRv
    by_cases e : hi ≤ lo
    · rw [if_pos (nI_le (by omega) (by omega)), if_pos e]
      exact ⟨s, rfl, hA, Only.refl _ _ _⟩
    · have g0 : ¬ nI hi ≤ nI lo := by
        rw [leI (by omega) (by omega)]
        omega
      obtain ⟨h', rfl⟩ : ∃ z, hi = z + 1 := ⟨hi - 1, by omega⟩
      have h1 := swp_at (i := lo) (j := h' + 1) hA
      obtain ⟨s', y1, y2, y3⟩ := ih (lo + 1) h' f _ _ (by omega) (by omega) (by omega) (by omega) h1
      rw [if_neg g0, if_neg e, inb_nI (show lo < 6 by omega) (by decide), inb_nI (show h' + 1 < 6 by omega) (by decide), if_pos rfl, if_pos rfl, if_pos rfl, if_pos rfl, cl_nI (by omega), cl_nI (by omega), hA lo (by omega), hA (h' + 1) hhi, nI_m1, show nI lo + (1 : Int32) = nI (lo + 1) from by rw [show (1 : Int32) = nI 1 from rfl, nI_add], y1, Nat.add_sub_cancel]
      exact ⟨s', rfl, y2, ((Only.sI _ (by decide) _ _).trans (Only.sI _ (by decide) _ _)).trans y3⟩
theorem m_sw_lp (F : Nat) {n i : Nat} {A : Nat → Nat} {s : St} (hn : n ≤ 6) (hA : ∀ t, t < n → s.1 19 t = nI (A t) ∧ A t < 6) (hi : i < n) : ∀ (j f : Nat), i ≤ j → j < n → j < f → m_turns_L41 F f (nI n) (nI i) (nI j) s = m_turns_L100 F F (nI (i + 1)) (nI (n - 1)) (sI (sI s 19 i (nI (A (oSwj A i j)))) 19 (oSwj A i j) (nI (A i))) := by
  have i1 : nI i + (1 : Int32) = nI (i + 1) := by rw [show (1 : Int32) = nI 1 from rfl, nI_add]
  have i2 : nI n - (1 : Int32) = nI (n - 1) := by rw [show (1 : Int32) = nI 1 from rfl, subI (by omega)]
  intro j
  induction j with
  | zero =>
    intro f hij hj hf
    obtain ⟨f, rfl⟩ : ∃ z, f = z + 1 := ⟨f - 1, by omega⟩
    have e0 : i = 0 := by omega
    subst e0
    show m_turns_L41b F (m_turns_L41 F f) (nI n) (nI 0) (nI 0) s = _
    unfold m_turns_L41b
    rw [inb_nI (show 0 < 6 by omega) (by decide), if_pos rfl, if_pos rfl, if_pos (Int32.le_refl _), if_pos rfl, if_pos rfl, if_pos rfl, if_pos rfl, cl_nI (by omega), (hA 0 hj).1, i1, i2]
    rfl
  | succ j ih =>
    intro f hij hj hf
    obtain ⟨f, rfl⟩ : ∃ z, f = z + 1 := ⟨f - 1, by omega⟩
    have a1 := (hA i hi).2
    have a2 := (hA (j + 1) hj).2
    have hbody : m_turns_L41 F (f + 1) (nI n) (nI i) (nI (j + 1)) s = m_turns_L41b F (m_turns_L41 F f) (nI n) (nI i) (nI (j + 1)) s := rfl
    rw [hbody]
    unfold m_turns_L41b
    rw [inb_nI (show j + 1 < 6 by omega) (by decide), inb_nI (show i < 6 by omega) (by decide), if_pos rfl, if_pos rfl, if_pos rfl, if_pos rfl, if_pos rfl, if_pos rfl, cl_nI (by omega), cl_nI (by omega), (hA i hi).1, (hA (j + 1) hj).1, itLe (by omega) (by omega), i1, i2]
    rw [oSwj]
    by_cases e : A i ≤ A (j + 1)
    · rw [if_pos e, if_pos e]
    · rw [if_neg e, if_neg e, nI_m1]
      refine ih f ?_ (by omega) (by omega)
      by_cases e2 : i = j + 1
      · exfalso
        apply e
        rw [e2]
        exact Nat.le_refl _
      · omega
theorem m_pv_lp (F : Nat) {n : Nat} {A : Nat → Nat} {s : St} (hn : n ≤ 6) (hA : ∀ t, t < n → s.1 19 t = nI (A t) ∧ A t < 6) : ∀ (e f : Nat) (z : Int32), e < f → e < n → z = nI e - 1 → m_turns_L4 F f (nI n) z s = match oPv A e with
    | none => some (0, s)
    | some i => m_turns_L41 F F (nI n) (nI i) (nI n - 1) s := by
  intro e
  induction e with
  | zero =>
    intro f z hf he hz
    obtain ⟨f, rfl⟩ : ∃ z, f = z + 1 := ⟨f - 1, by omega⟩
    have hz0 : z < 0 := by rw [hz, neg_one_lt (by omega)]
    show m_turns_L4b F (m_turns_L4 F f) (nI n) z s = _
    unfold m_turns_L4b m_turns_J31
    rw [if_pos hz0, if_neg (Int32.not_le.mpr hz0)]
    rfl
  | succ e ih =>
    intro f z hf he hz
    obtain ⟨f, rfl⟩ : ∃ z, f = z + 1 := ⟨f - 1, by omega⟩
    have hz0 : ¬ z < 0 := by rw [hz, neg_one_lt (by omega)]; omega
    have hz1 : z = nI e := by rw [hz, show (1 : Int32) = nI 1 from rfl, subI (by omega), Nat.add_sub_cancel]
    have a1 := (hA e (by omega)).2
    have a2 := (hA (e + 1) he).2
    have hbody : m_turns_L4 F (f + 1) (nI n) z s = m_turns_L4b F (m_turns_L4 F f) (nI n) z s := rfl
    have hpr : z + (1 : Int32) = nI (e + 1) := by rw [hz1, show (1 : Int32) = nI 1 from rfl, nI_add]
    rw [hbody]
    unfold m_turns_L4b m_turns_J31
    rw [if_neg hz0, hpr, hz1, inb_nI (show e < 6 by omega) (by decide), inb_nI (show e + 1 < 6 by omega) (by decide), if_pos rfl, if_pos rfl, cl_nI (by omega), cl_nI (by omega), (hA e (by omega)).1, (hA (e + 1) he).1, itLe (by omega) (by omega), oPv, if_pos (show (0 : Int32) ≤ nI e from nI_le (a := 0) (Nat.zero_le _) (by omega))]
    by_cases h : A e ≤ A (e + 1)
    · rw [if_pos h, if_pos h]
    · rw [if_neg h, if_neg h]
      exact ih f _ (by omega) (by omega) (by rw [m1_add])
theorem two_m1 : ∀ n, n < 7 → 1 ≤ n → nI n - 2 = nI (n - 1) - 1 := by decide
theorem m_turnsE (F : Nat) (hF : 3000 ≤ F) {n : Nat} {A : Nat → Nat} {s : St} (h1 : 1 ≤ n) (hn : n ≤ 6) (hA : ∀ t, t < n → s.1 19 t = nI (A t) ∧ A t < 6) : ∃ (r : Int32) (s' : St), m_turns F (nI n) s = some (r, s') ∧ Only [19] [] s s' ∧ ((oNx n A = none ∧ r = 0) ∨ ∃ B, oNx n A = some B ∧ r = 1 ∧ ∀ t, t < n → s'.1 19 t = nI (B t)) := by
  unfold m_turns
  rw [m_pv_lp F hn hA (n - 1) F (nI n - 2) (by omega) (by omega) (two_m1 n (by omega) h1)]
  unfold oNx
  cases h : oPv A (n - 1) with
  | none => exact ⟨0, s, rfl, Only.refl _ _ _, Or.inl ⟨rfl, rfl⟩⟩
  | some i =>
    have hi := oPv_lt A (n - 1) i h
    have hq := oSw_le A i (n - 1)
    have e1 := m_sw_lp F hn hA (show i < n by omega) (n - 1) F (by omega) (by omega) (by omega)
    have i2 : nI n - (1 : Int32) = nI (n - 1) := by rw [show (1 : Int32) = nI 1 from rfl, subI (by omega)]
    obtain ⟨s', y1, y2, y3⟩ := m_rev_lp F hn 6 (i + 1) (n - 1) F (sI (sI s 19 i (nI (A (oSwj A i (n - 1))))) 19 (oSwj A i (n - 1)) (nI (A i))) (oSwp A i (oSwj A i (n - 1))) (by omega) (by omega) (by omega) (by omega) (swp_at (fun t ht => (hA t ht).1))
    refine ⟨1, s', ?_, ((Only.sI _ (by decide) _ _).trans (Only.sI _ (by decide) _ _)).trans y3, Or.inr ⟨_, rfl, rfl, y2⟩⟩
    show m_turns_L41 F F (nI n) (nI i) (nI n - 1) s = _
    rw [i2, e1, y1]
section
variable {p K C A M : Nat → Nat} {x6 x7 x8 x9 t n : Nat}
theorem m_eval_lp (F : Nat) (hF : 3000 ≤ F) (k90 : Int32 → Int64 → Int32 → St → Option (Int64 × St)) (x1 : Int32) (x2 : Int64) {s : St} {r : List Nat} (h : WoM p K C A M x6 x7 x8 x9 t n s) (b : WoB p K C A M x6 x7 x8 x9 t n) (hr : r.length = n) (ha : r.all (fun x => decide (x < n)) = true) (hA : ∀ u, u < n → s.1 19 u = nI (r.getD u 0)) : ∀ (d i k : Nat) (a : Nat × Nat), i + d = n → d < k → a.1 + 60 * d ≤ 90000 → m_order_L107 F k90 k x1 x2 (nI a.1) (lN a.2) (nI i) s = m_order_L187 F k90 F x1 x2 (lN ((r.drop i).foldl (jS p K C A M x6 x7 x8 x9) a).2) 0 s := by
  have hn := b.2.2.2.2.2.1
  intro d
  induction d with
  | zero =>
    intro i k a hi hk hb
    obtain ⟨k, rfl⟩ : ∃ z, k = z + 1 := ⟨k - 1, by omega⟩
    show m_order_L107b F k90 (m_order_L107 F k90 k) x1 x2 (nI a.1) (lN a.2) (nI i) s = _
    unfold m_order_L107b
    rw [h.2.2.2.2.2.1, if_pos (nI_le (by omega) (by omega)), List.drop_eq_nil_of_le (by omega), List.foldl_nil]
  | succ d ih =>
    intro i k a hi hk hb
    obtain ⟨k, rfl⟩ : ∃ z, k = z + 1 := ⟨k - 1, by omega⟩
    show m_order_L107b F k90 (m_order_L107 F k90 k) x1 x2 (nI a.1) (lN a.2) (nI i) s = _
    unfold m_order_L107b
    have g0 : ¬ nI n ≤ nI i := by
      rw [leI (by omega) (by omega)]
      omega
    have hj := get_mem (r := r) (t := i) (n := n) (by omega) ha
    rw [drop_get (show i < r.length by omega), List.foldl_cons]
    have eA := hA i (by omega)
    generalize r.getD i 0 = j at *
    obtain ⟨q1, q2, q3⟩ := h.2.2.2.2.2.2 j (by omega)
    obtain ⟨u1, u2, u3⟩ := b.2.2.2.2.2.2 j (by omega)
    have hLV := LV_eq (t := a.1 + M j) b.2.2.1 b.2.2.2.1 (by omega)
    rw [h.2.2.2.2.2.1, if_neg g0, inb_nI (show i < 6 by omega) (by decide), if_pos rfl, cl_nI (by omega), eA, inb_nI (show j < 6 by omega) (by decide), if_pos rfl, if_pos rfl, cl_nI (by omega), q1, q2, m_seenS F hF h.1 b.1 h.2.1 b.2.1 u2 (by omega) (by omega), gB2_mk, if_pos rfl, q3, nI_add, m_liv F h.2.2.1 h.2.2.2.1, gB2_mk, if_pos rfl, q3, hLV.1, i2lN (by have := hLV.2; omega), lN_mul, lN_add, nI_add, show nI i + (1 : Int32) = nI (i + 1) from by rw [show (1 : Int32) = nI 1 from rfl, nI_add]]
    exact ih (i + 1) k (jS p K C A M x6 x7 x8 x9 a j) (by omega) (by omega) (by show a.1 + M j + 60 * d ≤ 90000; omega)
theorem m_keep_lp (F : Nat) (k90 : Int32 → Int64 → Int32 → St → Option (Int64 × St)) (x1 : Int32) {v u : Nat} (hg : ¬ lg_cmp (lN v) (dL u) ≤ 0) (hn : n ≤ 6) : ∀ (d i k : Nat) (s : St), i + d = n → d < k → s.1 0 21 = nI n → ∃ s', m_order_L187 F k90 k x1 (dL u) (lN v) (nI i) s = m_order_J236 F k90 x1 (lN v) s' ∧ (∀ j, j < n → i ≤ j → s'.1 20 j = s.1 19 j) ∧ (∀ j, j < i → s'.1 20 j = s.1 20 j) ∧ Only [20] [] s s' := by
  intro d
  induction d with
  | zero =>
    intro i k s hi hk h
    obtain ⟨k, rfl⟩ : ∃ z, k = z + 1 := ⟨k - 1, by omega⟩
    refine ⟨s, ?_, fun j h1 h2 => by omega, fun _ _ => rfl, Only.refl _ _ _⟩
    show m_order_L187b F k90 (m_order_L187 F k90 k) x1 (dL u) (lN v) (nI i) s = _
    unfold m_order_L187b m_order_J223
    rw [h, if_pos (nI_le (by omega) (by omega)), if_neg hg]
  | succ d ih =>
    intro i k s hi hk h
    obtain ⟨k, rfl⟩ : ∃ z, k = z + 1 := ⟨k - 1, by omega⟩
    obtain ⟨s', y1, y2, y3, y4⟩ := ih (i + 1) k (sI s 20 i (s.1 19 i)) (by omega) (by omega) (by rw [sI1_ne (by decide)]; exact h)
    have g0 : ¬ nI n ≤ nI i := by
      rw [leI (by omega) (by omega)]
      omega
    refine ⟨s', ?_, fun j h1 h2 => ?_, fun j h1 => ?_, (Only.sI _ (by decide) _ _).trans y4⟩
    · show m_order_L187b F k90 (m_order_L187 F k90 k) x1 (dL u) (lN v) (nI i) s = _
      unfold m_order_L187b
      rw [h, if_neg g0, if_neg hg, inb_nI (show i < 6 by omega) (by decide), if_pos rfl, if_pos rfl, cl_nI (by omega), show nI i + (1 : Int32) = nI (i + 1) from by rw [show (1 : Int32) = nI 1 from rfl, nI_add]]
      exact y1
    · by_cases e : j = i
      · rw [e, y3 i (by omega), sI1_eq, upd_eq]
      · rw [y2 j h1 (by omega), sI1_ne (by decide)]
    · rw [y3 j (by omega), sI1_eq, upd_ne (by omega)]
theorem m_weighed (F : Nat) (hF : 3000 ≤ F) (k90 : Int32 → Int64 → Int32 → St → Option (Int64 × St)) (x1 : Int32) {s : St} {r : List Nat} {c : Nat × List Nat} (h1 : 1 ≤ n) (h : WoM p K C A M x6 x7 x8 x9 t n s) (b : WoB p K C A M x6 x7 x8 x9 t n) (hr : r.length = n) (ha : r.all (fun x => decide (x < n)) = true) (hA : ∀ u, u < n → s.1 19 u = nI (r.getD u 0)) (hc : c.1 ≤ 6 * (AL * 1000) + 1) (hB : 0 < c.1 → ∀ u, u < n → s.1 20 u = nI (c.2.getD u 0)) :
    ∃ s', m_order_L107 F k90 F x1 (dL c.1) (s.1 0 13) 0 0 s = m_order_J236 F k90 x1 (dL (oUp (jS p K C A M x6 x7 x8 x9) (t, 0) c r).1) s' ∧ (oUp (jS p K C A M x6 x7 x8 x9) (t, 0) c r).1 ≤ 6 * (AL * 1000) + 1 ∧ (0 < (oUp (jS p K C A M x6 x7 x8 x9) (t, 0) c r).1 → ∀ u, u < n → s'.1 20 u = nI ((oUp (jS p K C A M x6 x7 x8 x9) (t, 0) c r).2.getD u 0)) ∧ Only [20] [] s s' := by
  have hn := b.2.2.2.2.2.1
  have ht9 := b.2.2.2.2.1
  have hAL : AL = 1099511627776 := rfl
  have e1 := m_eval_lp F hF k90 x1 (dL c.1) h b hr ha hA n 0 F (t, 0) (by omega) (by omega) (by show t + _ ≤ _; omega)
  have a6 : r.all (fun x => decide (x < 6)) = true := by
    rw [List.all_eq_true] at ha ⊢
    intro x hx
    have := of_decide_eq_true (ha x hx)
    exact decide_eq_true (by omega)
  obtain ⟨-, v2⟩ := ev_le b r (t, 0) a6 (by show t + _ ≤ _; omega)
  have v3 : r.length * (AL * 1000) ≤ 6 * (AL * 1000) := Nat.mul_le_mul_right _ (by omega)
  rw [show (t, 0).2 = 0 from rfl, Nat.zero_add] at v2
  rw [h.2.2.2.2.1, show m_order_L107 F k90 F x1 (dL c.1) (nI t) 0 0 s = _ from e1, List.drop_zero]
  have v4 := Nat.le_trans v2 v3
  unfold oUp
  generalize (r.foldl (jS p K C A M x6 x7 x8 x9) (t, 0)).2 = v at *
  by_cases g : c.1 ≤ v
  · have hg : ¬ lg_cmp (lN v) (dL c.1) ≤ 0 := by
      rw [cmp_le, le_dL (by omega) (by omega)]
      omega
    rw [if_pos g]
    obtain ⟨s', y1, y2, -, y4⟩ := m_keep_lp F k90 x1 hg hn n 0 F s (by omega) (by omega) h.2.2.2.2.2.1
    refine ⟨s', ?_, Nat.succ_le_succ v4, fun _ u hu => ?_, y4⟩
    · rw [show m_order_L187 F k90 F x1 (dL c.1) (lN v) 0 s = _ from y1, dL_1]
    · rw [y2 u hu (Nat.zero_le _)]
      exact hA u hu
  · have hg : lg_cmp (lN v) (dL c.1) ≤ 0 := by
      rw [cmp_le, le_dL (by omega) (by omega)]
      omega
    rw [if_neg g]
    refine ⟨s, ?_, hc, hB, Only.refl _ _ _⟩
    obtain ⟨f, hf⟩ : ∃ z, F = z + 1 := ⟨F - 1, by omega⟩
    have e2 : m_order_L187 F k90 F x1 (dL c.1) (lN v) 0 s = m_order_L187 F k90 (f + 1) x1 (dL c.1) (lN v) 0 s := by rw [← hf]
    rw [e2]
    show m_order_L187b F k90 (m_order_L187 F k90 f) x1 (dL c.1) (lN v) 0 s = _
    unfold m_order_L187b m_order_J223
    have g0 : ¬ nI n ≤ (0 : Int32) := by
      rw [show (0 : Int32) = nI 0 from rfl, leI (by omega) (by omega)]
      omega
    rw [h.2.2.2.2.2.1, if_neg g0, if_pos hg, if_pos hg]
theorem m_ord_lp (F : Nat) (hF : 3000 ≤ F) (x1 : Int32) (h1 : 1 ≤ n) (b : WoB p K C A M x6 x7 x8 x9 t n) : ∀ (rest : List (List Nat)) (r : List Nat) (k : Nat) (s : St) (c : Nat × List Nat), oChkP n (r :: rest) = true → (r :: rest).all (oOkL n) = true → rest.length < k → WoM p K C A M x6 x7 x8 x9 t n s → (∀ u, u < n → s.1 19 u = nI (r.getD u 0)) → c.1 ≤ 6 * (AL * 1000) + 1 → (0 < c.1 → ∀ u, u < n → s.1 20 u = nI (c.2.getD u 0)) →
    ∃ s', m_order_L90 F (k + 1) x1 (dL c.1) 1 s = m_order_L90b F (fun _ _ _ _ => none) x1 (dL ((r :: rest).foldl (oUp (jS p K C A M x6 x7 x8 x9) (t, 0)) c).1) 0 s' ∧ (0 < ((r :: rest).foldl (oUp (jS p K C A M x6 x7 x8 x9) (t, 0)) c).1 → ∀ u, u < n → s'.1 20 u = nI (((r :: rest).foldl (oUp (jS p K C A M x6 x7 x8 x9) (t, 0)) c).2.getD u 0)) ∧ Only [19, 20] [] s s' := by
  have hn := b.2.2.2.2.2.1
  intro rest
  induction rest with
  | nil =>
    intro r k s c hch hok hk h hA hc hB
    rw [List.all_cons, Bool.and_eq_true] at hok
    have ho := hok.1
    unfold oOkL at ho
    rw [Bool.and_eq_true, beq_iff_eq] at ho
    obtain ⟨s1, y1, y2, y3, y4⟩ := m_weighed F hF (m_order_L90 F k) x1 h1 h b ho.1 ho.2 hA hc hB
    have hbody : m_order_L90 F (k + 1) x1 (dL c.1) 1 s = m_order_L90b F (m_order_L90 F k) x1 (dL c.1) 1 s := rfl
    have hA1 : ∀ u, u < n → s1.1 19 u = nI (oGet r u) ∧ oGet r u < 6 := fun u hu => by
      rw [y4.1 19 (by decide)]
      have := get_mem (r := r) (t := u) (n := n) (by omega) ho.2
      exact ⟨hA u hu, Nat.lt_of_lt_of_le this hn⟩
    obtain ⟨q, s2, z1, z2, z3⟩ := m_turnsE F hF h1 hn hA1
    unfold oChkP oNxL at hch
    have hq : q = 0 := by
      rcases z3 with ⟨-, e⟩ | ⟨B, e, -, -⟩
      · exact e
      · rw [e] at hch
        exact nomatch (show false = true from hch)
    obtain ⟨k, rfl⟩ : ∃ z, k = z + 1 := ⟨k - 1, by rw [List.length_nil] at hk; omega⟩
    refine ⟨s2, ?_, fun hp u hu => ?_, (y4.weak (by decide) (fun _ h => h)).trans (z2.weak (by decide) (fun _ h => h))⟩
    · rw [hbody]
      unfold m_order_L90b
      rw [if_neg (show ¬ (1 : Int32) = 0 by decide), y1, if_pos rfl]
      unfold m_order_J236
      rw [y4.1 0 (by decide), h.2.2.2.2.2.1, z1, gB2_mk, hq]
      show m_order_L90b F (m_order_L90 F k) x1 _ 0 s2 = _
      unfold m_order_L90b
      rw [if_pos rfl]
      rfl
    · rw [z2.1 20 (by decide)]
      exact y3 hp u hu
  | cons r' rest ih =>
    intro r k s c hch hok hk h hA hc hB
    rw [List.all_cons, Bool.and_eq_true] at hok
    have ho := hok.1
    unfold oOkL at ho
    rw [Bool.and_eq_true, beq_iff_eq] at ho
    obtain ⟨s1, y1, y2, y3, y4⟩ := m_weighed F hF (m_order_L90 F k) x1 h1 h b ho.1 ho.2 hA hc hB
    have hbody : m_order_L90 F (k + 1) x1 (dL c.1) 1 s = m_order_L90b F (m_order_L90 F k) x1 (dL c.1) 1 s := rfl
    have hA1 : ∀ u, u < n → s1.1 19 u = nI (oGet r u) ∧ oGet r u < 6 := fun u hu => by
      rw [y4.1 19 (by decide)]
      have := get_mem (r := r) (t := u) (n := n) (by omega) ho.2
      exact ⟨hA u hu, Nat.lt_of_lt_of_le this hn⟩
    obtain ⟨q, s2, z1, z2, z3⟩ := m_turnsE F hF h1 hn hA1
    rw [oChkP, Bool.and_eq_true] at hch
    have hq : q = 1 ∧ ∀ u, u < n → s2.1 19 u = nI (r'.getD u 0) := by
      have hc1 := hch.1
      unfold oNxL at hc1
      rcases z3 with ⟨e, -⟩ | ⟨B, e, e1, e2⟩
      · rw [e] at hc1
        exact nomatch (show false = true from hc1)
      · rw [e] at hc1
        have e3 : (List.range n).map B = r' := by
          have := eq_of_beq hc1
          exact Option.some.inj this
        refine ⟨e1, fun u hu => ?_⟩
        rw [← e3, get_map B hu]
        exact e2 u hu
    obtain ⟨k, rfl⟩ : ∃ z, k = z + 1 := ⟨k - 1, by rw [List.length_cons] at hk; omega⟩
    have o1 : Only [19, 20] [] s s1 := y4.weak (by decide) (fun _ h => h)
    have o2 : Only [19, 20] [] s1 s2 := z2.weak (by decide) (fun _ h => h)
    obtain ⟨s', w1, w2, w3⟩ := ih r' k s2 _ hch.2 hok.2 (by rw [List.length_cons] at hk; omega) ((h.of o1).of o2) hq.2 y2 (fun hp u hu => by rw [z2.1 20 (by decide)]; exact y3 hp u hu)
    refine ⟨s', ?_, w2, (o1.trans o2).trans w3⟩
    rw [hbody]
    unfold m_order_L90b
    rw [if_neg (show ¬ (1 : Int32) = 0 by decide), y1]
    unfold m_order_J236
    rw [y4.1 0 (by decide), h.2.2.2.2.2.1, z1, gB2_mk, hq.1, w1]
    rfl
theorem oUp_mono (S : Nat × Nat → Nat → Nat × Nat) (a0 : Nat × Nat) : ∀ (l : List (List Nat)) (c : Nat × List Nat), c.1 ≤ (l.foldl (oUp S a0) c).1
  | [], _ => Nat.le_refl _
  | r :: l, c => by
    rw [List.foldl_cons]
    refine Nat.le_trans ?_ (oUp_mono S a0 l _)
    unfold oUp
    split
    · exact Nat.le_succ_of_le (by assumption)
    · exact Nat.le_refl _
theorem oUp_pos (S : Nat × Nat → Nat → Nat × Nat) (a0 : Nat × Nat) (r : List Nat) (l : List (List Nat)) : 0 < ((r :: l).foldl (oUp S a0) (0, [])).1 := by
  rw [List.foldl_cons]
  refine Nat.lt_of_lt_of_le ?_ (oUp_mono S a0 l _)
  unfold oUp
  rw [if_pos (Nat.zero_le _)]
  exact Nat.succ_pos _
theorem m_first_lp (F : Nat) (x1 : Int32) (hn : n ≤ 6) : ∀ (d i k : Nat) (s : St), i + d = n → d < k → s.1 0 21 = nI n → (∀ u, u < i → s.1 19 u = nI u) → ∃ s', m_order_L62 F k x1 (nI i) s = m_order_L90 F F x1 (-1) 1 s' ∧ (∀ u, u < n → s'.1 19 u = nI u) ∧ Only [19] [] s s' := by
  intro d
  induction d with
  | zero =>
    intro i k s hi hk h hA
    obtain ⟨k, rfl⟩ : ∃ z, k = z + 1 := ⟨k - 1, by omega⟩
    refine ⟨s, ?_, fun u hu => hA u (by omega), Only.refl _ _ _⟩
    show m_order_L62b F (m_order_L62 F k) x1 (nI i) s = _
    unfold m_order_L62b
    rw [h, if_pos (nI_le (by omega) (by omega))]
  | succ d ih =>
    intro i k s hi hk h hA
    obtain ⟨k, rfl⟩ : ∃ z, k = z + 1 := ⟨k - 1, by omega⟩
    obtain ⟨s', y1, y2, y3⟩ := ih (i + 1) k (sI s 19 i (nI i)) (by omega) (by omega) (by rw [sI1_ne (by decide)]; exact h) (fun u hu => by
      rw [sI1_eq]
      by_cases e : u = i
      · rw [e, upd_eq]
      · rw [upd_ne e]
        exact hA u (by omega))
    have g0 : ¬ nI n ≤ nI i := by
      rw [leI (by omega) (by omega)]
      omega
    refine ⟨s', ?_, y2, (Only.sI _ (by decide) _ _).trans y3⟩
    show m_order_L62b F (m_order_L62 F k) x1 (nI i) s = _
    unfold m_order_L62b
    rw [h, if_neg g0, inb_nI (show i < 6 by omega) (by decide), if_pos rfl, cl_nI (by omega), show nI i + (1 : Int32) = nI (i + 1) from by rw [show (1 : Int32) = nI 1 from rfl, nI_add]]
    exact y1
end
set_option maxRecDepth 100000 in
theorem oLen : ∀ n, n < 6 → (oWalk (n + 1) (n + 1) []).length ≤ 720 := by decide +kernel
theorem get_range {n u : Nat} (h : u < n) : (List.range n).getD u 0 = u := by
  rw [List.getD_eq_getElem?_getD, List.getElem?_range h]
  rfl
theorem p_order {N : Nat} {c m : St} (R : Rel N c m) (F : Nat) (hF : 3000 ≤ F) (a : Int32) : SameR N (c_order F a c) (m_order F a m) := by
  unfold c_order c_order_J64 m_order m_order_J52 c_Jobs_choose
  simp only [gB2_mk, gB_mk, bz_ite, bz_01, gB2_id, c_isCell_eq, c_isKind_eq, c_isSort_eq, c_isPart_eq, c_Sheets_isSheet_eq, c_Sheets_isLane_eq, m_isCell_eq, m_isKind_eq, m_isSort_eq, m_isSheet_eq, m_isLane_eq, c_isIn_eq, m_in_0_0, m_in_0_1, m_in_0_2, m_in_0_3, m_in_0_5, m_in_0_7, m_in_0_8, m_in_0_9, m_in_0_11, m_in_0_15, m_in_0_16, m_in_0_99, m_in_0_143, m_in_0_999, m_in_1_4, m_in_1_8, m_in_1_9, m_in_1_60, m_in_m1_3, m_in_m1_5, c_out]
  by_cases h1 : (-1 : Int32) ≤ a ∧ a ≤ 5
  case neg =>
    simp only [if_neg h1]
    exact ref_s R F ok1 rfl
  simp only [if_pos h1]
  rcases R.minuteV.out with ⟨e1, e2⟩ | ⟨t, ht, e1, e2, e3⟩
  · simp only [if_neg e1, if_neg e2]
    exact ref_s R F ok2 rfl
  simp only [e1, e2, if_pos e3]
  obtain ⟨p, K, C, A, M, x6, x7, x8, x9, n, wc, wm, wb⟩ := R.jobs ht e1 e2
  have ec : c.1 22 5 = nI n := wc.2.2.2.2.2.1
  have em : m.1 0 21 = nI n := wm.2.2.2.2.2.1
  have bn : n ≤ 6 := wb.2.2.2.2.2.1
  rw [ec, em]
  by_cases h0 : n = 0
  · rw [if_pos (show nI n = 0 by rw [h0]; rfl), if_pos (show nI n = 0 by rw [h0]; rfl)]
    exact ref_s R F ok4 rfl
  have hn0 : ¬ nI n = 0 := fun e => h0 ((eqI (b := 0) (by omega) (by omega)).mp e)
  rw [if_neg hn0, if_neg hn0]
  by_cases hlt : a < nI n
  case neg =>
    rw [if_neg hlt, if_neg hlt]
    exact ref_s R F ok4 rfl
  rw [if_pos hlt, if_pos hlt]
  have o0 : Only [26, 27] [22] c (sJ c 22 6 (-1)) := Only.sJ _ (by decide) _ _
  obtain ⟨c2, z1, z2, -, z4⟩ := c_lineS F hF wb n 7 (by omega) [] (sJ c 22 6 (-1)) (0, []) (by rw [List.length_nil, Nat.zero_add]) rfl (wc.of o0) ⟨by show vp_updL (c.2 22) 6 (-1) 6 = dL 0; rw [updL_eq]; decide, Nat.zero_le _, fun h => absurd h (Nat.lt_irrefl 0)⟩ (fun u h => absurd h (Nat.not_lt_zero u))
  obtain ⟨m1, r1, r2, r3⟩ := m_first_lp F a bn n 0 F m (by omega) (by omega) em (fun u h => absurd h (Nat.not_lt_zero u))
  have wm1 := wm.of (r3.weak (by decide) (fun _ h => h))
  obtain ⟨k, hk⟩ : ∃ k, F = k + 1 := ⟨F - 1, by omega⟩
  have hchk := oChk_all (n - 1) (by omega)
  have hlen := oLen (n - 1) (by omega)
  rw [show n - 1 + 1 = n by omega] at hchk hlen
  unfold oChkN at hchk
  rw [Bool.and_eq_true, Bool.and_eq_true] at hchk
  obtain ⟨⟨k1, k2⟩, k3⟩ := hchk
  cases hw : oWalk n n [] with
  | nil =>
    rw [hw] at k3
    exact nomatch (show false = true from k3)
  | cons r rest =>
    rw [hw] at k1 k2 k3 z2 hlen
    have er : r = List.range n := eq_of_beq k3
    rw [List.length_cons] at hlen
    obtain ⟨m2, s1, s2, s3⟩ := m_ord_lp F hF a (by omega) wb rest r k m1 (0, []) k1 k2 (by omega) wm1 (fun u hu => by rw [er, get_range hu]; exact r2 u hu) (Nat.zero_le _) (fun h => absurd h (Nat.lt_irrefl 0))
    have hpos := oUp_pos (jS p K C A M x6 x7 x8 x9) (t, 0) r rest
    have R2 : Rel N c2 m2 := (R.frameM ((r3.weak (I' := IM) (J' := JM) (by decide) (by decide)).trans (s3.weak (by decide) (by decide)))).frameC ((o0.trans z4).weak (by decide) (by decide))
    generalize (r :: rest).foldl (oUp (jS p K C A M x6 x7 x8 x9) (t, 0)) (0, []) = B at *
    obtain ⟨g1, g2, g3⟩ := z2
    have q1 : c_Jobs_line F 7 0 0 ((sJ c 22 6 (-1)).1 9 4) 0 (sJ c 22 6 (-1)) = some c2 := by
      rw [show (sJ c 22 6 (-1)).1 9 4 = nI t from e1]
      exact z1
    have q2 : m_order_L62 F F a 0 m = m_order_L90b F (fun _ _ _ _ => none) a (dL B.1) 0 m2 := by
      have e : m_order_L90 F F a (-1) 1 m1 = m_order_L90 F (k + 1) a (dL 0) 1 m1 := by
        rw [← hk]
        rfl
      rw [show m_order_L62 F F a 0 m = _ from r1, e]
      exact s1
    rw [q1, gB_mk, gB_mk, q2]
    unfold m_order_L90b
    rw [if_pos rfl]
    rcases in_m1 (hi := 5) (by decide) h1 with rfl | ⟨q, hq, rfl⟩
    · rw [if_neg (show ¬ (0 : Int32) ≤ -1 by decide), if_neg (show ¬ (0 : Int32) ≤ -1 by decide), g1]
      exact SameR.ret rfl R2
    · have hqn : q < n := by
        rw [ltI (by omega) (by omega)] at hlt
        exact hlt
      have hge : (0 : Int32) ≤ nI q := nI_le (a := 0) (Nat.zero_le q) (by omega)
      rw [if_pos hge, if_pos hge, inb_nI (show q < 6 by omega) (by decide), if_pos rfl, if_pos rfl, cl_nI (by omega), g3 hpos q hqn, s2 hpos q hqn]
      exact SameR.ret rfl R2
