section
variable {p Hs : Nat → Nat} {h k : Nat}
def NetM (p Hs : Nat → Nat) (h : Nat) (m : St) : Prop := PM p m ∧ ∀ j, j < h → m.1 26 j = nI (Hs j)
theorem far_near {a b : Nat} : (2 ≤ if rowA a b ≤ colA a b then colA a b else rowA a b) ↔ ¬ near 1 b a = true := by
  unfold near
  rw [decide_eq_true_eq, rowA_comm b a, colA_comm b a]
  split <;> omega
theorem m_cov_lp (F : Nat) (hh : h ≤ 10) (hH : ∀ j, j < h → Hs j < 144) {m : St} (w : NetM p Hs h m) (k5 : Int32 → Int32 → Int64 → Int32 → St → Option (Int64 × St)) {x q : Nat} (hx : x < 1024) (hq : q < 144) (x3 : Int64) : ∀ (d i f : Nat), i + d = h → d < f → m_netOf_L19 F k5 f (nI x) (nI h) x3 (nI q) 0 (nI i) m = m_netOf_J69 F k5 (nI x) (nI h) x3 (nI q) (if anyF (fun i => x.testBit i && near 1 (Hs i) q) i d = true then 1 else 0) m := by
  intro d
  induction d with
  | zero =>
    intro i f hi hf
    obtain ⟨f, rfl⟩ : ∃ z, f = z + 1 := ⟨f - 1, by omega⟩
    show m_netOf_L19b F k5 (m_netOf_L19 F k5 f) (nI x) (nI h) x3 (nI q) 0 (nI i) m = _
    unfold m_netOf_L19b
    rw [if_pos (nI_le (by omega) (by omega)), show anyF (fun i => x.testBit i && near 1 (Hs i) q) i 0 = false from rfl, if_neg (show ¬ false = true by decide)]
  | succ d ih =>
    intro i f hi hf
    obtain ⟨f, rfl⟩ : ∃ z, f = z + 1 := ⟨f - 1, by omega⟩
    have g0 : ¬ nI h ≤ nI i := by
      rw [leI (by omega) (by omega)]
      omega
    have i1 : nI i + (1 : Int32) = nI (i + 1) := by rw [show (1 : Int32) = nI 1 from rfl, nI_add]
    have hbody : m_netOf_L19 F k5 (f + 1) (nI x) (nI h) x3 (nI q) 0 (nI i) m = m_netOf_L19b F k5 (m_netOf_L19 F k5 f) (nI x) (nI h) x3 (nI q) 0 (nI i) m := rfl
    rw [hbody]
    unfold m_netOf_L19b m_netOf_J60 m_netOf_J61
    rw [if_neg g0, if_pos rfl, shr10 x hx i (by omega), i1, show anyF (fun i => x.testBit i && near 1 (Hs i) q) i (d + 1) = ((x.testBit i && near 1 (Hs i) q) || anyF (fun i => x.testBit i && near 1 (Hs i) q) (i + 1) d) from rfl]
    by_cases hb : x.testBit i = true
    · have hH' := hH i (by omega)
      have r1 := rowA_le (a := q) (b := Hs i) hq hH'
      have r2 := colA_le (a := q) (b := Hs i)
      have fn := far_near (a := q) (b := Hs i)
      rw [if_pos hb, if_pos (show nI 1 = 1 from rfl), inb_nI (show i < 10 by omega) (by decide), if_pos rfl, cl_nI (by omega), w.2 i (by omega), m_apart_eq F m hq hH', gB2_mk, hb, Bool.true_and, show (2 : Int32) = nI 2 from rfl, itLe (by omega) (by split <;> omega)]
      by_cases hn : near 1 (Hs i) q = true
      · rw [if_neg (fun z => fn.mp z hn), hn, Bool.true_or, if_pos rfl]
        obtain ⟨f, rfl⟩ : ∃ z, f = z + 1 := ⟨f - 1, by omega⟩
        show m_netOf_L19b F k5 (m_netOf_L19 F k5 f) (nI x) (nI h) x3 (nI q) 1 (nI (i + 1)) m = _
        unfold m_netOf_L19b
        rw [if_neg (show ¬ (1 : Int32) = 0 by decide)]
        split <;> rfl
      · rw [if_pos (fn.mpr hn), show near 1 (Hs i) q = false by simpa using hn, Bool.false_or]
        exact ih (i + 1) f (by omega) (by omega)
    · rw [if_neg hb, if_neg (show ¬ nI 0 = 1 by decide), show x.testBit i = false by simpa using hb, Bool.false_and, Bool.false_or]
      exact ih (i + 1) f (by omega) (by omega)
theorem m_netOf_lp (F : Nat) (hF : 3000 ≤ F) (hh : h ≤ 10) (hH : ∀ j, j < h → Hs j < 144) {m : St} (w : NetM p Hs h m) {x : Nat} (hx : x < 1024) : ∀ (d q f acc : Nat), q + d = 144 → d < f → m_netOf_L5 F f (nI x) (nI h) (lN acc) (nI q) m = some (lN (acc + sF (fun q => if covM Hs h x q = true then tg p q else 0) q d), m) := by
  intro d
  induction d with
  | zero =>
    intro q f acc hq hf
    obtain ⟨f, rfl⟩ : ∃ z, f = z + 1 := ⟨f - 1, by omega⟩
    show m_netOf_L5b F (m_netOf_L5 F f) (nI x) (nI h) (lN acc) (nI q) m = _
    unfold m_netOf_L5b
    rw [if_pos (show (144 : Int32) ≤ nI q from nI_le (a := 144) (by omega) (by omega))]
    rfl
  | succ d ih =>
    intro q f acc hq hf
    obtain ⟨f, rfl⟩ : ∃ z, f = z + 1 := ⟨f - 1, by omega⟩
    have g0 : ¬ (144 : Int32) ≤ nI q := by
      rw [show (144 : Int32) = nI 144 from rfl, leI (by omega) (by omega)]
      omega
    have i1 : nI q + (1 : Int32) = nI (q + 1) := by rw [show (1 : Int32) = nI 1 from rfl, nI_add]
    have hbody : m_netOf_L5 F (f + 1) (nI x) (nI h) (lN acc) (nI q) m = m_netOf_L5b F (m_netOf_L5 F f) (nI x) (nI h) (lN acc) (nI q) m := rfl
    have e1 := m_cov_lp F hh hH w (m_netOf_L5 F f) (q := q) hx (by omega) (lN acc) h 0 F (by omega) (by omega)
    rw [hbody]
    unfold m_netOf_L5b
    rw [if_neg g0, show m_netOf_L19 F (m_netOf_L5 F f) F (nI x) (nI h) (lN acc) (nI q) 0 0 m = _ from e1, sF]
    unfold m_netOf_J69 m_netOf_J85
    rw [i1]
    show (if (if covM Hs h x q = true then (1 : Int32) else 0) = 0 then _ else _) = _
    by_cases hc : covM Hs h x q = true
    · rw [if_pos hc, if_neg (show ¬ (1 : Int32) = 0 by decide), m_tog F hF w.1 (by omega), gB2_mk, lN_add, ih (q + 1) f _ (by omega) (by omega), if_pos hc, Nat.add_assoc]
    · rw [if_neg hc, if_pos rfl, show (0 : Int64) = lN 0 from rfl, lN_add, ih (q + 1) f _ (by omega) (by omega), if_neg hc, Nat.add_assoc]
theorem m_netOfE (F : Nat) (hF : 3000 ≤ F) (hh : h ≤ 10) (hH : ∀ j, j < h → Hs j < 144) {m : St} (w : NetM p Hs h m) {x : Nat} (hx : x < 1024) : m_netOf F (nI x) (nI h) m = some (lN (vMk Hs p h x), m) := by
  have e := m_netOf_lp F hF hh hH w hx 144 0 F 0 (by omega) (by omega)
  rw [Nat.zero_add, sF_sum] at e
  exact e
theorem m_pop_lp (F : Nat) (k107 : Int32 → Int32 → Int32 → Int32 → Int64 → Int32 → St → Option (Int64 × St)) (hh : h ≤ 10) {m : St} {x : Nat} (hx : x < 1024) (x1 x2 x4 : Int32) (x5 : Int64) : ∀ (d i f : Nat), i + d = h → d < f → m_net_L121 F k107 f x1 x2 (nI h) x4 x5 (nI x) (nI (bcN x i)) (nI i) m = m_net_L121b F k107 (fun _ _ _ _ _ _ _ _ _ => none) x1 x2 (nI h) x4 x5 (nI x) (nI (bcN x h)) (nI h) m := by
  intro d
  induction d with
  | zero =>
    intro i f hi hf
    obtain ⟨f, rfl⟩ : ∃ z, f = z + 1 := ⟨f - 1, by omega⟩
    rw [show i = h by omega]
    show m_net_L121b F k107 (m_net_L121 F k107 f) x1 x2 (nI h) x4 x5 (nI x) (nI (bcN x h)) (nI h) m = _
    unfold m_net_L121b
    rw [if_pos (Int32.le_refl _), if_pos (Int32.le_refl _)]
  | succ d ih =>
    intro i f hi hf
    obtain ⟨f, rfl⟩ : ∃ z, f = z + 1 := ⟨f - 1, by omega⟩
    have g0 : ¬ nI h ≤ nI i := by
      rw [leI (by omega) (by omega)]
      omega
    rw [← ih (i + 1) f (by omega) (by omega)]
    show m_net_L121b F k107 (m_net_L121 F k107 f) x1 x2 (nI h) x4 x5 (nI x) (nI (bcN x i)) (nI i) m = _
    rw [m_net_L121b, if_neg g0, shr10 x hx i (by omega), nI_add, show nI i + (1 : Int32) = nI (i + 1) from by rw [show (1 : Int32) = nI 1 from rfl, nI_add]]
    rfl
theorem m_mask_lp (F : Nat) (hF : 3000 ≤ F) (hs : sumN p 720 ≤ AL) (hh : h ≤ 10) (hk : k ≤ 4) (hH : ∀ j, j < h → Hs j < 144) {m : St} (w : NetM p Hs h m) (x2 : Int32) : ∀ (d x f : Nat) (a : Nat × Nat), x + d = 2 ^ h → d < f → a.1 ≤ AL + 1 → a.2 < 1024 → m_net_L107 F f (nI k) x2 (nI h) (nI a.2) (dL a.1) (nI x) m = m_net_L234 F F x2 (dL (mFold (vMk Hs p h) h k x d a).1) (nI (mFold (vMk Hs p h) h k x d a).2) 0 m := by
  have hAL : AL = 1099511627776 := rfl
  have hp2 : (2 : Nat) ^ h ≤ 1024 := Nat.pow_le_pow_right (n := 2) (by decide) hh
  intro d
  induction d with
  | zero =>
    intro x f a hx hf ha1 ha2
    obtain ⟨f, rfl⟩ : ∃ z, f = z + 1 := ⟨f - 1, by omega⟩
    show m_net_L107b F (m_net_L107 F f) (nI k) x2 (nI h) (nI a.2) (dL a.1) (nI x) m = _
    unfold m_net_L107b
    rw [shl31 h (by omega), if_pos (nI_le (by omega) (by omega))]
    rfl
  | succ d ih =>
    intro x f a hx hf ha1 ha2
    obtain ⟨f, rfl⟩ : ∃ z, f = z + 1 := ⟨f - 1, by omega⟩
    have g0 : ¬ nI (2 ^ h) ≤ nI x := by
      rw [leI (by omega) (by omega)]
      omega
    have i1 : nI x + (1 : Int32) = nI (x + 1) := by rw [show (1 : Int32) = nI 1 from rfl, nI_add]
    have hbc := bcN_le x h
    have e1 := m_pop_lp F (m_net_L107 F f) hh (m := m) (x := x) (by omega) (nI k) x2 (nI a.2) (dL a.1) h 0 F (by omega) (by omega)
    have hbody : m_net_L107 F (f + 1) (nI k) x2 (nI h) (nI a.2) (dL a.1) (nI x) m = m_net_L107b F (m_net_L107 F f) (nI k) x2 (nI h) (nI a.2) (dL a.1) (nI x) m := rfl
    rw [hbody, m_net_L107b, shl31 h (by omega), if_neg g0, show m_net_L121 F (m_net_L107 F f) F (nI k) x2 (nI h) (nI a.2) (dL a.1) (nI x) 0 0 m = _ from e1, mFold]
    unfold m_net_L121b m_net_J186 m_net_J190 m_net_J191 m_net_J205 m_net_J219 m_net_J221 mUp
    have hv := vMk_le (Hs := Hs) (h := h) (x := x) hs
    rw [if_pos (Int32.le_refl _), itEq (by omega) (by omega), i1, m_netOfE F hF hh hH w (by omega), gB2_mk]
    have c1 : (0 < lg_cmp (lN (vMk Hs p h x)) (dL a.1)) = (a.1 ≤ vMk Hs p h x) := by
      rw [cmp_gt, ← Int64.not_le, le_dL (by omega) (by omega), Nat.not_lt]
    have c2 : (lg_cmp (lN (vMk Hs p h x)) (dL a.1) = 0) = (vMk Hs p h x + 1 = a.1) := by
      rw [cmp_eq, ← dL_1]
      apply propext
      constructor
      · intro e
        have l1 : dL (vMk Hs p h x + 1) ≤ dL a.1 := by rw [e]; exact Int64.le_refl _
        have l2 : dL a.1 ≤ dL (vMk Hs p h x + 1) := by rw [e]; exact Int64.le_refl _
        rw [dL_le (by omega) (by omega)] at l1 l2
        omega
      · intro e
        rw [e]
    generalize vMk Hs p h x = v at *
    have k1 : ¬ (1 : Int32) = 0 := by decide
    have kz : (0 : Int32) = 0 := rfl
    by_cases hb : bcN x h = k
    · rw [if_pos hb, if_pos hb]
      by_cases g1 : a.1 ≤ v
      · rw [if_pos (c1.mpr g1), if_neg k1, if_neg k1, if_pos (Or.inl g1), ← dL_1]
        exact ih (x + 1) f (v + 1, x) (by omega) (by omega) (by show v + 1 ≤ _; omega) (by show x < 1024; omega)
      · rw [if_neg (fun z => g1 (c1.mp z))]
        by_cases g2 : v + 1 = a.1
        · rw [if_pos (c2.mpr g2), m_aheadE F m (by omega) ha2, gB2_mk]
          by_cases g3 : ahd x a.2 = true
          · rw [if_pos g3, if_neg k1, if_neg k1, if_neg k1, if_pos (Or.inr ⟨g2, g3⟩), ← dL_1]
            exact ih (x + 1) f (v + 1, x) (by omega) (by omega) (by show v + 1 ≤ _; omega) (by show x < 1024; omega)
          · rw [if_neg g3, if_pos kz, if_pos kz, if_pos kz, if_neg (fun z => z.elim g1 (fun y => g3 y.2))]
            exact ih (x + 1) f a (by omega) (by omega) ha1 ha2
        · rw [if_neg (fun z => g2 (c2.mp z)), if_pos kz, if_pos kz, if_neg (fun z => z.elim g1 (fun y => g2 y.1))]
          exact ih (x + 1) f a (by omega) (by omega) ha1 ha2
    · rw [if_neg hb, if_neg hb]
      exact ih (x + 1) f a (by omega) (by omega) ha1 ha2
theorem m_bit_lp (F : Nat) (hh : h ≤ 10) {m : St} (w : NetM p Hs h m) (x2 : Int32) (x5 : Int64) {y : Nat} (hy : y < 1024) (hy0 : 0 < y) (hl : lowB 10 y < h) : ∀ (d i f : Nat), i + d = lowB 10 y → d < f → m_net_L258 F f x2 x5 (nI y) (nI i) m = some (if 0 ≤ x2 then (nI (Hs (lowB 10 y))).toInt64 else x5, m) := by
  obtain ⟨l1, l2, l3⟩ := low_ok y hy hy0
  intro d
  induction d with
  | zero =>
    intro i f hi hf
    obtain ⟨f, rfl⟩ : ∃ z, f = z + 1 := ⟨f - 1, by omega⟩
    rw [show i = lowB 10 y by omega]
    show m_net_L258b F (m_net_L258 F f) x2 x5 (nI y) (nI (lowB 10 y)) m = _
    unfold m_net_L258b
    rw [shr10 y hy _ l1, if_pos l2, if_neg (show ¬ nI 1 = 0 by decide), inb_nI l1 (by decide), if_pos rfl, cl_nI (by omega), w.2 _ hl]
    split <;> rfl
  | succ d ih =>
    intro i f hi hf
    obtain ⟨f, rfl⟩ : ∃ z, f = z + 1 := ⟨f - 1, by omega⟩
    show m_net_L258b F (m_net_L258 F f) x2 x5 (nI y) (nI i) m = _
    unfold m_net_L258b
    rw [shr10 y hy i (by omega), l3 i (by omega), if_neg (show ¬ false = true by decide), if_pos (show nI 0 = 0 from rfl), show nI i + (1 : Int32) = nI (i + 1) from by rw [show (1 : Int32) = nI 1 from rfl, nI_add]]
    exact ih (i + 1) f (by omega) (by omega)
theorem m_clr_lp (F : Nat) {m : St} (x5 : Int64) {q : Nat} (hq : q < 100) : ∀ (d i f y : Nat), i + d = q → d < f → y < 1024 → m_net_L234 F f (nI q) x5 (nI y) (nI i) m = m_net_L258 F F (nI q) x5 (nI (clrN d y)) 0 m := by
  intro d
  induction d with
  | zero =>
    intro i f y hi hf hy
    obtain ⟨f, rfl⟩ : ∃ z, f = z + 1 := ⟨f - 1, by omega⟩
    show m_net_L234b F (m_net_L234 F f) (nI q) x5 (nI y) (nI i) m = _
    unfold m_net_L234b
    rw [if_pos (nI_le (by omega) (by omega))]
    rfl
  | succ d ih =>
    intro i f y hi hf hy
    obtain ⟨f, rfl⟩ : ∃ z, f = z + 1 := ⟨f - 1, by omega⟩
    have g0 : ¬ nI q ≤ nI i := by
      rw [leI (by omega) (by omega)]
      omega
    have hc := clr_le y
    show m_net_L234b F (m_net_L234 F f) (nI q) x5 (nI y) (nI i) m = _
    unfold m_net_L234b
    rw [if_neg g0, clr_eq y hy, show nI i + (1 : Int32) = nI (i + 1) from by rw [show (1 : Int32) = nI 1 from rfl, nI_add], ih (i + 1) f (clr y) (by omega) (by omega) (by omega)]
    rfl
end
theorem m_house_lp (F : Nat) (x1 x2 : Int32) {K : Nat → Nat} (hb : ∀ j, j < 144 → K j ≤ 7) : ∀ (d i k : Nat) (s : St) (a : Nat × (Nat → Nat)), i + d = 144 → d < k → a.1 ≤ 10 → (∀ j, j < 144 → s.1 2 j = nI (K j)) → (∀ j, j < a.1 → s.1 26 j = nI (a.2 j)) →
    ∃ s', m_net_L40 F k x1 x2 (nI a.1) (nI i) s = m_net_L40b F (fun _ _ _ _ _ => none) x1 x2 (nI (hR K i d a).1) (nI 144) s' ∧ (∀ j, j < (hR K i d a).1 → s'.1 26 j = nI ((hR K i d a).2 j)) ∧ Only [26] [] s s' := by
  intro d
  induction d with
  | zero =>
    intro i k s a hi hk ha hK e2
    obtain ⟨k, rfl⟩ : ∃ z, k = z + 1 := ⟨k - 1, by omega⟩
    refine ⟨s, ?_, e2, Only.refl _ _ _⟩
    rw [show i = 144 by omega]
    show m_net_L40b F (m_net_L40 F k) x1 x2 (nI a.1) (nI 144) s = _
    unfold m_net_L40b
    rw [if_pos (show (144 : Int32) ≤ nI 144 by decide), if_pos (show (144 : Int32) ≤ nI 144 by decide)]
    rfl
  | succ d ih =>
    intro i k s a hi hk ha hK e2
    obtain ⟨k, rfl⟩ : ∃ z, k = z + 1 := ⟨k - 1, by omega⟩
    have g0 : ¬ (144 : Int32) ≤ nI i := by
      rw [show (144 : Int32) = nI 144 from rfl, leI (by omega) (by omega)]
      omega
    have i1 : nI i + (1 : Int32) = nI (i + 1) := by rw [show (1 : Int32) = nI 1 from rfl, nI_add]
    have hbody : m_net_L40 F (k + 1) x1 x2 (nI a.1) (nI i) s = m_net_L40b F (m_net_L40 F k) x1 x2 (nI a.1) (nI i) s := rfl
    have hk7 := hb i (by omega)
    rw [hbody, m_net_L40b]
    unfold m_net_J77
    rw [if_neg g0, inb_nI (show i < 144 by omega) (by decide), if_pos rfl, cl_nI (by omega), hK i (by omega), show (7 : Int32) = nI 7 from rfl, itEq (by omega) (by omega), show (10 : Int32) = nI 10 from rfl, itLe (by omega) (by omega), i1, hR]
    by_cases h7 : K i = 7
    · rw [if_pos h7]
      by_cases h10 : 10 ≤ a.1
      · rw [if_pos h10, if_neg (show ¬ (K i = 7 ∧ a.1 < 10) from fun z => by omega)]
        exact ih (i + 1) k s a (by omega) (by omega) ha hK e2
      · rw [if_neg h10, if_pos (show K i = 7 ∧ a.1 < 10 from ⟨h7, by omega⟩), inb_nI (show a.1 < 10 by omega) (by decide), if_pos rfl, cl_nI (by omega), show nI a.1 + (1 : Int32) = nI (a.1 + 1) from by rw [show (1 : Int32) = nI 1 from rfl, nI_add]]
        obtain ⟨s', y1, y3, y4⟩ := ih (i + 1) k (sI s 26 a.1 (nI i)) (a.1 + 1, fun j => if j = a.1 then i else a.2 j) (by omega) (by omega) (by show a.1 + 1 ≤ 10; omega) hK (fun j hj => by
          show _ = nI (if j = a.1 then i else a.2 j)
          rw [sI1_eq]
          by_cases e3 : j = a.1
          · rw [e3, upd_eq, if_pos rfl]
          · rw [upd_ne e3, if_neg e3]
            exact e2 j (by have : j < a.1 + 1 := hj; omega))
        exact ⟨s', y1, y3, (Only.sI _ (by decide) _ _).trans y4⟩
    · rw [if_neg h7, if_neg (show ¬ (K i = 7 ∧ a.1 < 10) from fun z => h7 z.1)]
      exact ih (i + 1) k s a (by omega) (by omega) ha hK e2
