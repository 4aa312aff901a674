/-! the pure part: land, the end -/
theorem m_has_bad (F : Nat) (x a w1 : Int32) (Q : Nat → Int32) (m : St) (hn : ¬ w1 = 0) : m_has F x (mst m a w1 Q) = some (0, mst m a w1 Q) := by
  unfold m_has m_has_J19 m_has_J20 m_has_J35
  rw [mst_wrong, if_neg hn, if_pos (show (0 : Int32) = 0 from rfl), if_pos (show (0 : Int32) = 0 ∨ (0 : Int32) = 1 from Or.inl rfl), mst_at, Int32.add_zero, mst_a]
theorem m_has_no (F : Nat) (x a a' w0 r : Int32) (Q : Nat → Int32) (m : St) (h0 : w0 = 0) (hh : m_here F (mst m a w0 Q) = some (r, mst m a' w0 Q)) (hr : ¬ r = x) : m_has F x (mst m a w0 Q) = some (0, mst m a' w0 Q) := by
  unfold m_has m_has_J19 m_has_J20 m_has_J35
  rw [mst_wrong, if_pos h0, hh, gB2_mk, if_neg hr, if_pos (show (0 : Int32) = 0 from rfl), if_pos (show (0 : Int32) = 0 ∨ (0 : Int32) = 1 from Or.inl rfl), mst_at, Int32.add_zero, mst_a]
theorem m_has_yes (F : Nat) (x a a' w0 r : Int32) (Q : Nat → Int32) (m : St) (h0 : w0 = 0) (hh : m_here F (mst m a w0 Q) = some (r, mst m a' w0 Q)) (hr : r = x) : m_has F x (mst m a w0 Q) = some (1, mst m (a' + 1) w0 Q) := by
  unfold m_has m_has_J20 m_has_J35
  rw [mst_wrong, if_pos h0, hh, gB2_mk, if_pos hr, if_neg (show ¬ (1 : Int32) = 0 by decide), if_pos (show (1 : Int32) = 0 ∨ (1 : Int32) = 1 from Or.inr rfl), mst_at, mst_a]
theorem m_70bad (F : Nat) (x1 w1 : Int32) (s : St) (hs : s.1 0 9 = w1) (hn : ¬ w1 = 0) : m_land_J70 F x1 s = m_land_J90 F x1 1 s := by
  unfold m_land_J70 m_land_J85
  rw [hs, if_neg hn]
theorem m_70ok (F : Nat) (x1 a w0 r : Int32) (Q : Nat → Int32) (m : St) (h0 : w0 = 0) (hh : m_here F (mst m a w0 Q) = some (r, mst m a w0 Q)) : m_land_J70 F x1 (mst m a w0 Q) = if r = 0 then m_land_J90 F x1 0 (mst m a w0 Q) else m_land_J90 F x1 1 (mst m a w0 Q) := by
  unfold m_land_J70 m_land_J85
  rw [mst_wrong, if_pos h0, hh, gB2_mk]
theorem m_90bad (F : Nat) (x1 a w y : Int32) (Q : Nat → Int32) (m : St) (h : y = 0 ∨ y = 1) (hn : ¬ y = 0) : m_land_J90 F x1 y (mst m a w Q) = m_tells F (-20 - a) (sI (mst m a y Q) 0 7 0) := by
  unfold m_land_J90
  rw [if_pos h, mst_w, sI1_eq, upd_ne (by decide), mst_wrong, if_neg hn, upd_ne (by decide), mst_at, gB2_id]
theorem m_90ok (F : Nat) (x1 a w y : Int32) (Q : Nat → Int32) (m : St) (h0 : y = 0) : m_land_J90 F x1 y (mst m a w Q) = m_land_L119 F F x1 0 (sI (mst m a y Q) 0 7 0) := by
  unfold m_land_J90
  rw [if_pos (Or.inl h0), mst_w, sI1_eq, upd_ne (by decide), mst_wrong, if_pos h0]
theorem l41_succ (F k : Nat) (x1 x2 : Int32) (s : St) : m_land_L41 F (k + 1) x1 x2 s = m_land_L41b F (m_land_L41 F k) x1 x2 s := rfl
theorem m_rows_lp (F : Nat) (hF : 3000 ≤ F) {B : Nat → Nat} {n : Nat} {m : St} (hB : TapeB B n) (hm : TapeM B n m) : ∀ (d a ρ tot kk : Nat) (q : Nat → Option Nat) (Q : Nat → Int32), a + d = n → ρ ≤ 11 → 12 ≤ ρ + kk → QL q Q →
    ∃ (e : Nat) (w : Int32) (Q' : Nat → Int32), e ≤ n ∧ ((landF B a d ρ 0 0 = some e ∧ ∃ x, (gB2 (m_row F (nI ρ) (mst m (nI a) 0 Q)) fun r s => m_land_L41 F kk (nI tot + r) (nI (ρ + 1)) s) = m_land_J90 F x 1 (mst m (nI e) w Q')) ∨
      (landF B a d ρ 0 0 = none ∧ ∃ cnt q', (gB2 (m_row F (nI ρ) (mst m (nI a) 0 Q)) fun r s => m_land_L41 F kk (nI tot + r) (nI (ρ + 1)) s) = m_land_J90 F (nI cnt) 0 (mst m (nI e) w Q') ∧ QL q' Q' ∧ ∀ kd K D, landD B a d ρ 0 kd tot (apK q K) (apD q D) = (cnt, apK q' K, apD q' D))) := by
  intro d
  induction d using Nat.strongRecOn with
  | ind d ih =>
    intro a ρ tot kk q Q ha hρ hkk hQ
    have h160 := hB.1
    obtain ⟨w', c', Q', e1, e2, e3, e4⟩ := m_row_lp F hF hB hm hρ d a F 0 0 q Q 1 (by decide) ha (by omega) (by omega) hQ (Or.inl ⟨rfl, rfl⟩)
    obtain ⟨kk, rfl⟩ : ∃ z, kk = z + 1 := ⟨kk - 1, by omega⟩
    have erow : m_row F (nI ρ) (mst m (nI a) 0 Q) = m_row_L4 F F (nI ρ) (nI 0) 1 (mst m (nI a) 0 Q) := rfl
    rw [erow]
    have i1 : nI (ρ + 1) + (1 : Int32) = nI (ρ + 1 + 1) := by rw [show (1 : Int32) = nI 1 from rfl, nI_add]
    rcases e4 with ⟨e5, e6⟩ | ⟨e5, e6, -, e8, e9, e10, fits', q', e11, e12, e13, e14⟩
    · -- a fault in the row
      refine ⟨c', 1, Q', e3, Or.inl ⟨e5, nI tot + nI w', ?_⟩⟩
      rw [e6, gB2_mk, l41_succ]
      unfold m_land_L41b
      have e70 := m_70bad F (nI tot + nI w') 1 (mst m (nI c') 1 Q') mst_wrong (by decide)
      rw [m_has_bad F 47 (nI c') 1 Q' m (by decide), gB2_mk, if_pos (show (0 : Int32) = 0 from rfl), e70]
      split <;> rfl
    · have hh := m_hereE F hF hB hm (w := 0) (Q := Q') (i := c') e3
      rw [nb_self e9] at hh
      have hc127 := hbF_lt hB c'
      rw [e5, gB2_mk, l41_succ, nI_add]
      unfold m_land_L41b
      have e70 := m_70ok F (nI (tot + w')) (nI c') 0 _ Q' m rfl hh
      -- nothing may follow
      have over : ¬ (B c' = 47 ∧ ρ < 11 ∧ c' < n) → ∃ (e : Nat) (w : Int32) (Q'' : Nat → Int32), e ≤ n ∧ ((landF B a d ρ 0 0 = some e ∧ ∃ x, m_land_J70 F (nI (tot + w')) (mst m (nI c') 0 Q') = m_land_J90 F x 1 (mst m (nI e) w Q'')) ∨
          (landF B a d ρ 0 0 = none ∧ ∃ cnt q', m_land_J70 F (nI (tot + w')) (mst m (nI c') 0 Q') = m_land_J90 F (nI cnt) 0 (mst m (nI e) w Q'') ∧ QL q' Q'' ∧ ∀ kd K D, landD B a d ρ 0 kd tot (apK q K) (apD q D) = (cnt, apK q' K, apD q' D))) := by
        intro hno
        refine ⟨c', 0, Q', e3, ?_⟩
        rw [e70]
        by_cases hcn : n ≤ c'
        · right
          have ec : n - c' = 0 := by omega
          refine ⟨by rw [e12, ec, landF, if_neg (by omega)], tot + w', q', ?_, e13, fun kd K D => ?_⟩
          · rw [show hbF B n c' = 0 from if_pos hcn, if_pos (show nI 0 = 0 from rfl)]
          · obtain ⟨kd', h⟩ := e14 kd tot K D
            rw [h, ec, landD, Nat.sub_zero]
        · left
          have hBc := hB.2 c' (by omega)
          have hbc : hbF B n c' = B c' := if_neg hcn
          rw [hbc] at e10 e11
          have g0 : ¬ nI (B c') = 0 := by
            rw [show (0 : Int32) = nI 0 from rfl, eqI (by omega) (by omega)]
            omega
          refine ⟨?_, nI (tot + w'), by rw [hbc, if_neg g0]⟩
          rcases e9 with h | h
          · omega
          · rw [e12, show n - c' = (n - c' - 1) + 1 by omega, landF, if_neg h, if_neg (fun z => by rw [e10] at z; exact absurd z.1 (by decide)), if_neg (fun z => by rcases e11 with h2 | h2; exact z.1 h2; exact h2 ⟨z.2.1, z.2.2.1⟩), if_neg (fun z => hno ⟨z.1, z.2.2, by omega⟩)]
      by_cases h12 : 12 ≤ ρ + 1
      · rw [if_pos (show (12 : Int32) ≤ nI (ρ + 1) from nI_le (a := 12) h12 (by omega))]
        exact over (fun z => by omega)
      · have g12 : ¬ (12 : Int32) ≤ nI (ρ + 1) := by
          rw [show (12 : Int32) = nI 12 from rfl, leI (by omega) (by omega)]
          exact h12
        rw [if_neg g12]
        by_cases h47 : hbF B n c' = 47
        · have hcn : c' < n := by
            by_cases h : n ≤ c'
            · rw [show hbF B n c' = 0 from if_pos h] at h47
              omega
            · omega
          have hbc : hbF B n c' = B c' := if_neg (by omega)
          rw [hbc] at h47
          rw [m_has_yes F 47 (nI c') (nI c') 0 _ Q' m rfl hh (by rw [hbc, h47]; rfl), gB2_mk, if_neg (show ¬ (1 : Int32) = 0 by decide), i1, show nI c' + (1 : Int32) = nI (c' + 1) from by rw [show (1 : Int32) = nI 1 from rfl, nI_add]]
          obtain ⟨e, w, Q'', u1, u2⟩ := ih (n - (c' + 1)) (by omega) (c' + 1) (ρ + 1) (tot + w') kk q' Q' (by omega) (by omega) (by omega) e13
          have hlF : landF B a d ρ 0 0 = landF B (c' + 1) (n - (c' + 1)) (ρ + 1) 0 0 := by
            rw [e12, show n - c' = (n - (c' + 1)) + 1 by omega, landF, if_neg (by omega), if_neg (fun z => (kidx_dg (B c') (by omega) z.1).2.1 h47), if_neg (fun z => by omega), if_pos (show B c' = 47 ∧ 0 < w' ∧ ρ < 11 from ⟨h47, by omega, by omega⟩)]
          refine ⟨e, w, Q'', u1, ?_⟩
          rcases u2 with ⟨u3, u4⟩ | ⟨u3, cnt, q'', u4, u5, u6⟩
          · exact Or.inl ⟨hlF.trans u3, u4⟩
          · refine Or.inr ⟨hlF.trans u3, cnt, q'', u4, u5, fun kd K D => ?_⟩
            obtain ⟨kd', h⟩ := e14 kd tot K D
            rw [h, show n - c' = (n - (c' + 1)) + 1 by omega, landD, if_neg (by omega), if_pos h47, Nat.sub_zero]
            exact u6 kd' K D
        · rw [m_has_no F 47 (nI c') (nI c') 0 _ Q' m rfl hh (by rw [show (47 : Int32) = nI 47 from rfl, eqI (by omega) (by omega)]; exact h47), gB2_mk, if_pos (show (0 : Int32) = 0 from rfl)]
          exact over (fun z => h47 (by rw [show hbF B n c' = B c' from if_neg (by omega)]; exact z.1))
theorem m_land_first (F : Nat) {m : St} : ∀ (d i k : Nat) (Q : Nat → Int32), i + d = 144 → d < k → (∀ s, s < i → Q s = -4) → ∃ Q', m_land_L12 F k (nI i) (mst m (nI 0) 0 Q) = (gB2 (m_row F 0 (mst m (nI 0) 0 Q')) fun r5 s5 => m_land_L41 F F r5 1 s5) ∧ ∀ s, s < 144 → Q' s = -4 := by
  intro d
  induction d with
  | zero =>
    intro i k Q hi hk hQ
    obtain ⟨k, rfl⟩ : ∃ z, k = z + 1 := ⟨k - 1, by omega⟩
    refine ⟨Q, ?_, fun s hs => hQ s (by omega)⟩
    show m_land_L12b F (m_land_L12 F k) (nI i) (mst m (nI 0) 0 Q) = _
    unfold m_land_L12b
    rw [if_pos (show (144 : Int32) ≤ nI i from nI_le (a := 144) (by omega) (by omega))]
  | succ d ih =>
    intro i k Q hi hk hQ
    obtain ⟨k, rfl⟩ : ∃ z, k = z + 1 := ⟨k - 1, by omega⟩
    have g0 : ¬ (144 : Int32) ≤ nI i := by
      rw [show (144 : Int32) = nI 144 from rfl, leI (by omega) (by omega)]
      omega
    obtain ⟨Q', y1, y2⟩ := ih (i + 1) k (upd Q i (-4)) (by omega) (by omega) (fun s hs => by
      by_cases e : s = i
      · rw [e, upd_eq]
      · rw [upd_ne e]
        exact hQ s (by omega))
    refine ⟨Q', ?_, y2⟩
    show m_land_L12b F (m_land_L12 F k) (nI i) (mst m (nI 0) 0 Q) = _
    unfold m_land_L12b
    rw [if_neg g0, inb_nI (show i < 144 by omega) (by decide), if_pos (show true = true from rfl), cl_nI (by omega), mst_q, show nI i + (1 : Int32) = nI (i + 1) from by rw [show (1 : Int32) = nI 1 from rfl, nI_add]]
    exact y1
theorem rI_over23 {m : St} {i : Nat} {x y : Int32} {f g : Nat → Int32} : rI (rI (sI (sI m 2 i x) 3 i y) 2 f) 3 g = rI (rI m 2 f) 3 g := Prod.ext (funext fun z => by
  by_cases e3 : z = 3
  · rw [e3, rIat, rIat]
  · rw [rIne e3, rIne e3]
    by_cases e2 : z = 2
    · rw [e2, rIat, rIat]
    · rw [rIne e2, rIne e2, sI1_ne e3, sI1_ne e2]) rfl
theorem m_apply2_lp (F : Nat) {q : Nat → Option Nat} {K D : Nat → Nat} (x1 : Int32) : ∀ (d i k : Nat) (m : St), i + d = 144 → d < k → QL q (m.1 8) → (∀ j, j < 144 → m.1 2 j = nI (if j < i then apK q K j else K j) ∧ m.1 3 j = nI (if j < i then apD q D j else D j)) → ∃ f g, m_land_L119 F k x1 (nI i) m = some (x1, rI (rI m 2 f) 3 g) ∧ ∀ j, j < 144 → f j = nI (apK q K j) ∧ g j = nI (apD q D j) := by
  intro d
  induction d with
  | zero =>
    intro i k m hi hk hQ hS
    obtain ⟨k, rfl⟩ : ∃ z, k = z + 1 := ⟨k - 1, by omega⟩
    refine ⟨m.1 2, m.1 3, ?_, fun j hj => ?_⟩
    · show m_land_L119b F (m_land_L119 F k) x1 (nI i) m = _
      unfold m_land_L119b
      rw [if_pos (show (144 : Int32) ≤ nI i from nI_le (a := 144) (by omega) (by omega)), rI_self, rI_self]
    · obtain ⟨h1, h2⟩ := hS j hj
      rw [h1, h2, if_pos (by omega), if_pos (by omega)]
      exact ⟨rfl, rfl⟩
  | succ d ih =>
    intro i k m hi hk hQ hS
    obtain ⟨k, rfl⟩ : ∃ z, k = z + 1 := ⟨k - 1, by omega⟩
    have g0 : ¬ (144 : Int32) ≤ nI i := by
      rw [show (144 : Int32) = nI 144 from rfl, leI (by omega) (by omega)]
      omega
    obtain ⟨q1, q3⟩ := hQ i (by omega)
    obtain ⟨s1, s2⟩ := hS i (by omega)
    rw [if_neg (Nat.lt_irrefl i)] at s1 s2
    have key : ∀ x y, x = nI (apK q K i) → y = nI (apD q D i) → ∃ f g, m_land_L119 F k x1 (nI (i + 1)) (sI (sI m 2 i x) 3 i y) = some (x1, rI (rI m 2 f) 3 g) ∧ ∀ j, j < 144 → f j = nI (apK q K j) ∧ g j = nI (apD q D j) := by
      intro x y hx hy
      obtain ⟨f, g, y1, y2⟩ := ih (i + 1) k (sI (sI m 2 i x) 3 i y) (by omega) (by omega) (by rw [sI1_ne (by decide), sI1_ne (by decide)]; exact hQ) (fun j hj => by
        obtain ⟨h1, h2⟩ := hS j hj
        rw [sI1_ne (by decide), sI1_eq, sI1_eq, sI1_ne (by decide)]
        by_cases e : j = i
        · rw [e, upd_eq, upd_eq, if_pos (by omega), if_pos (by omega), hx, hy]
          exact ⟨rfl, rfl⟩
        · rw [upd_ne e, upd_ne e, h1, h2]
          by_cases e2 : j < i
          · rw [if_pos e2, if_pos e2, if_pos (by omega), if_pos (by omega)]
            exact ⟨rfl, rfl⟩
          · rw [if_neg e2, if_neg e2, if_neg (by omega), if_neg (by omega)]
            exact ⟨rfl, rfl⟩)
      refine ⟨f, g, ?_, y2⟩
      rw [y1, rI_over23]
    have hbody : m_land_L119 F (k + 1) x1 (nI i) m = m_land_L119b F (m_land_L119 F k) x1 (nI i) m := rfl
    have tt1 : true = true := rfl
    rw [hbody]
    unfold m_land_L119b m_land_J155 m_land_J180
    rw [if_neg g0, inb_nI (show i < 144 by omega) (by decide), if_pos tt1, if_pos tt1, if_pos tt1, if_pos tt1, if_pos tt1, if_pos tt1, cl_nI (by omega), q1, sI1_ne (by decide), q1, s1, show nI i + (1 : Int32) = nI (i + 1) from by rw [show (1 : Int32) = nI 1 from rfl, nI_add]]
    cases hq : q i with
    | none =>
      have hn : ¬ (0 : Int32) ≤ enc (-4) none := by decide
      rw [if_neg hn]
      simp only [sI1_ne (show (8 : Nat) ≠ 2 by decide), sI1_ne (show (3 : Nat) ≠ 2 by decide), q1, hq, if_neg hn, s2, if_true]
      refine key _ _ ?_ ?_
      · unfold apK
        rw [hq]
      · unfold apD
        rw [hq]
    | some v =>
      have hp : (0 : Int32) ≤ enc (-4) (some v) := nI_le (a := 0) (Nat.zero_le _) (by have := q3 v hq; omega)
      rw [if_pos hp]
      simp only [sI1_ne (show (8 : Nat) ≠ 2 by decide), sI1_ne (show (3 : Nat) ≠ 2 by decide), q1, hq, if_pos hp, s2, if_true]
      refine key _ _ ?_ ?_
      · unfold apK
        rw [hq]
        rfl
      · unfold apD
        rw [hq]
        rfl
theorem Rel.row34 {n : Nat} {c m : St} (R : Rel n c m) {f g f' g' : Nat → Int32} (h : EqR f f' 144 7) (h' : EqR g g' 144 9) : Rel n (rI (rI c 3 f) 4 g) (rI (rI m 2 f') 3 g') := by
  obtain ⟨⟨h1, h2, h3, h4, h5, h6, h7, h8, h9, h10, h11, h12, h13, h14, h15, h16, h17, h18, h19, h20, h21, h22, h23, h24⟩, hI, hT1, hT2, hL, hS, hJ, hR, hE⟩ := R
  exact ⟨⟨h, h', h3, h4, h5, h6, h7, h8, h9, h10, h11, h12, h13, h14, h15, h16, h17, h18, h19, h20, h21, h22, h23, h24⟩, hI, hT1, hT2, hL, hS, hJ, hR, hE⟩
theorem only34 {a b : St} (o : Only [3, 4] [] a b) : b = rI (rI a 3 (b.1 3)) 4 (b.1 4) := Prod.ext (funext fun q => by
  by_cases e : q = 4
  · rw [e, rIat]
  · rw [rIne e]
    by_cases e3 : q = 3
    · rw [e3, rIat]
    · rw [rIne e3]
      exact o.1 q (by simp [e, e3])) (funext fun q => o.2 q (by simp))
theorem landD_le (B : Nat → Nat) : ∀ (d i ρ w kd cells : Nat) (K D : Nat → Nat), (landD B i d ρ w kd cells K D).1 ≤ cells + 9 * d
  | 0, _, _, _, _, cells, _, _ => Nat.le_refl _
  | d + 1, i, ρ, w, kd, cells, K, D => by
    unfold landD
    split
    · exact Nat.le_trans (landD_le B d _ _ _ _ _ _ _) (by omega)
    · split
      · exact Nat.le_trans (landD_le B d _ _ _ _ _ _ _) (by omega)
      · split
        · exact Nat.le_trans (landD_le B d _ _ _ _ _ _ _) (by omega)
        · exact Nat.le_trans (landD_le B d _ _ _ _ _ _ _) (by omega)
theorem p_land {n : Nat} {c m : St} (R : Rel n c m) (F : Nat) (hF : 3000 ≤ F) : SameR n (c_land F c) (m_land F m) := by
  obtain ⟨B, N, hB, hc, hm⟩ := R.tape
  obtain ⟨K, hK⟩ := R.1.kinds.fn (by decide)
  obtain ⟨D, hD⟩ := R.1.draws.fn (by decide)
  have h160 := hB.1
  unfold c_land m_land c_Tape_readLand c_Tape_readLand_J21 c_Tape_landFault c_Tape_layOut
  have e0 : sI (sI m 0 8 0) 0 9 0 = mst m (nI 0) 0 (m.1 8) := by
    unfold mst
    rw [rI_self]
    rfl
  obtain ⟨Q0, u1, u2⟩ := m_land_first F (m := m) 144 0 F (m.1 8) (by omega) (by omega) (fun s hs => absurd hs (Nat.not_lt_zero s))
  have hQ0 : QL (fun _ => none) Q0 := fun s hs => ⟨u2 s hs, fun v hv => by cases hv⟩
  obtain ⟨e, w, Q', e1, e2⟩ := m_rows_lp F hF hB hm N 0 0 0 F (fun _ => none) Q0 (by omega) (by omega) (by omega) hQ0
  have hcl : c_Tape_landFault_L9 F F 0 0 0 0 c = some (enc (-1) (landF B 0 N 0 0 0), c) := c_land_lp F hF hB hc N 0 F 0 0 0 (by omega) (by omega) (by omega) (by omega) (by omega)
  have apk0 : apK (fun _ => none) K = K := rfl
  have apd0 : apD (fun _ => none) D = D := rfl
  have hrow : (gB2 (m_row F 0 (mst m (nI 0) 0 Q0)) fun r5 s5 => m_land_L41 F F r5 1 s5) = gB2 (m_row F (nI 0) (mst m (nI 0) 0 Q0)) fun r s => m_land_L41 F F (nI 0 + r) (nI (0 + 1)) s := by
    have : ∀ r : Int32, nI 0 + r = r := fun r => by
      rw [show nI 0 = (0 : Int32) from rfl, Int32.zero_add]
    simp only [this]
    rfl
  rw [hcl, gB2_mk, e0, show m_land_L12 F F 0 (mst m (nI 0) 0 (m.1 8)) = _ from u1, hrow]
  rcases e2 with ⟨e2, x, e3⟩ | ⟨e2, cnt, q', e3, e4, e5⟩
  · rw [e2, show enc (-1) (some e) = nI e from rfl, if_pos (show (0 : Int32) ≤ nI e from nI_le (a := 0) (Nat.zero_le _) (by omega)), gB2_mk, gB2_id, answ_20 (by omega), e3, m_90bad F x (nI e) w 1 Q' m (Or.inr rfl) (by decide)]
    exact ref_t (R.mst (nI e) 1 Q').set_size0 F (ok20 (by omega))
  · have hne : ¬ (0 : Int32) ≤ enc (-1) none := by decide
    obtain ⟨c', y1, y2, y3⟩ := c_out_lp F hF hB N 0 F 0 0 0 0 0 K D c (by omega) (by omega) (by omega) (by omega) hc (fun j hj => ⟨(hK j hj).2.1, (hD j hj).2.1⟩) e2
    have hDD := e5 0 K D
    rw [apk0, apd0] at hDD
    have hle := landD_le B N 0 0 0 0 0 K D
    rw [hDD] at y1 y2 hle
    have hcnt : cnt ≤ 0 + 9 * N := hle
    rw [e2, if_neg hne, show c_Tape_layOut_L13 F F 0 0 0 0 0 c = _ from y1, gB2_mk, gB2_mk, gB2_id, e3, m_90ok F _ _ _ 0 _ _ rfl, show (cnt, apK q' K, apD q' D).1 = cnt from rfl, answ_ok (by omega)]
    obtain ⟨f, g, z1, z2⟩ := m_apply2_lp F (q := q') (K := K) (D := D) (nI cnt) 144 0 F (sI (mst m (nI e) 0 Q') 0 7 0) (by omega) (by omega) (by rw [sI1_ne (by decide), mst_read]; exact e4) (fun j hj => by
      rw [sI1_ne (by decide), sI1_ne (by decide), mst_ne (by decide) (by decide), mst_ne (by decide) (by decide), if_neg (Nat.not_lt_zero j), if_neg (Nat.not_lt_zero j)]
      exact ⟨(hK j hj).2.2, (hD j hj).2.2⟩)
    rw [show m_land_L119 F F (nI cnt) 0 (sI (mst m (nI e) 0 Q') 0 7 0) = _ from z1]
    refine SameR.ret rfl ?_
    rw [only34 y3, ← rI_sI_ne (by decide), ← rI_sI_ne (by decide)]
    refine (R.mst (nI e) 0 Q').set_size0.row34 (fun j hj => ⟨apK q' K j, ?_, (y2 j hj).1, (z2 j hj).1⟩) (fun j hj => ⟨apD q' D j, ?_, (y2 j hj).2, (z2 j hj).2⟩)
    · unfold apK
      cases hq : q' j with
      | none => exact (hK j hj).1
      | some v => exact (e4 j hj).2 v hq
    · unfold apD
      cases hq : q' j with
      | none => exact (hD j hj).1
      | some v => exact Nat.zero_le _
