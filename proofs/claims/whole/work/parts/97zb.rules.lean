/-! the pure part: rules, the end -/
theorem Rel.row8m {n : Nat} {c m : St} (R : Rel n c m) (f : Nat → Int32) : Rel n c (rI m 8 f) := by
  obtain ⟨⟨h1, h2, h3, h4, h5, h6, h7, h8, h9, h10, h11, h12, h13, h14, h15, h16, h17, h18, h19, h20, h21, h22, h23, h24⟩, hI, hT1, hT2, hL, hS, hJ, hR, hE⟩ := R
  exact ⟨⟨h1, h2, h3, h4, h5, h6, h7, h8, h9, h10, h11, h12, h13, h14, h15, h16, h17, h18, h19, h20, h21, h22, h23, h24⟩, hI, hT1, hT2, hL, hS, hJ, hR, hE⟩
theorem Rel.row7 {n : Nat} {c m : St} (R : Rel n c m) {f g : Nat → Int32} (h : EqS f g) : Rel n (rI c 7 f) (rI m 5 g) := by
  obtain ⟨⟨h1, h2, h3, h4, h5, h6, h7, h8, h9, h10, h11, h12, h13, h14, h15, h16, h17, h18, h19, h20, h21, h22, h23, h24⟩, hI, hT1, hT2, hL, hS, hJ, hR, hE⟩ := R
  exact ⟨⟨h1, h2, h3, h, h5, h6, h7, h8, h9, h10, h11, h12, h13, h14, h15, h16, h17, h18, h19, h20, h21, h22, h23, h24⟩, hI, hT1, hT2, hL, hS, hJ, hR, hE⟩
theorem Rel.mst {n : Nat} {c m : St} (R : Rel n c m) (a w : Int32) (Q : Nat → Int32) : Rel n c (mst m a w Q) := ((R.row8m Q).r_at 0 a).r_wrong 0 w
theorem rI_sI_ne {s : St} {c d k : Nat} {f : Nat → Int32} {x : Int32} (h : d ≠ c) : rI (sI s d k x) c f = sI (rI s c f) d k x := Prod.ext (funext fun q => by
  by_cases e : q = c
  · rw [e, rIat, sI1_ne (Ne.symm h), rIat]
  · by_cases e2 : q = d
    · rw [e2, rIne h, sI1_eq, sI1_eq, rIne h]
    · rw [rIne e, sI1_ne e2, sI1_ne e2, rIne e]) rfl
theorem only_rI {k : Nat} {a b : St} (o : Only [k] [] a b) : b = rI a k (b.1 k) := Prod.ext (funext fun q => by
  by_cases e : q = k
  · rw [e, rIat]
  · rw [rIne e]
    exact o.1 q (by simpa using e)) (funext fun q => o.2 q (by simp))
theorem neg20 : ∀ f, f < 161 → ¬ (0 : Int32) ≤ -20 - nI f := by decide +kernel
theorem answ_20 {F f : Nat} {s : St} (h : f < 161) : c_answered F (-20 - nI f) s = c_refuse F (-20 - nI f) s := by
  unfold c_answered
  rw [if_neg (neg20 f h), gB2_id]
theorem ok20 {f : Nat} (h : f ≤ 160) : okR (-20 - nI f) := Or.inr (Or.inr (Or.inr (Or.inr (Or.inr (Or.inr (Or.inr (Or.inr ⟨f, h, rfl⟩)))))))
theorem m_rules_first (F : Nat) {m : St} : ∀ (d i k : Nat) (Q : Nat → Int32), i + d = 6 → d < k → (∀ s, s < i → Q s = -4) → ∃ Q', m_rules_L12 F k (nI i) (mst m (nI 0) 0 Q) = m_rules_L36 F F 0 1 (mst m (nI 0) 0 Q') ∧ ∀ s, s < 6 → Q' s = -4 := by
  intro d
  induction d with
  | zero =>
    intro i k Q hi hk hQ
    obtain ⟨k, rfl⟩ : ∃ z, k = z + 1 := ⟨k - 1, by omega⟩
    refine ⟨Q, ?_, fun s hs => hQ s (by omega)⟩
    show m_rules_L12b F (m_rules_L12 F k) (nI i) (mst m (nI 0) 0 Q) = _
    unfold m_rules_L12b
    rw [if_pos (show (6 : Int32) ≤ nI i from nI_le (a := 6) (by omega) (by omega))]
  | succ d ih =>
    intro i k Q hi hk hQ
    obtain ⟨k, rfl⟩ : ∃ z, k = z + 1 := ⟨k - 1, by omega⟩
    have g0 : ¬ (6 : Int32) ≤ nI i := by
      rw [show (6 : Int32) = nI 6 from rfl, leI (by omega) (by omega)]
      omega
    obtain ⟨Q', y1, y2⟩ := ih (i + 1) k (upd Q i (-4)) (by omega) (by omega) (fun s hs => by
      by_cases e : s = i
      · rw [e, upd_eq]
      · rw [upd_ne e]
        exact hQ s (by omega))
    refine ⟨Q', ?_, y2⟩
    show m_rules_L12b F (m_rules_L12 F k) (nI i) (mst m (nI 0) 0 Q) = _
    unfold m_rules_L12b
    rw [if_neg g0, inb_nI (show i < 144 by omega) (by decide), if_pos rfl, cl_nI (by omega), mst_q, show nI i + (1 : Int32) = nI (i + 1) from by rw [show (1 : Int32) = nI 1 from rfl, nI_add]]
    exact y1
theorem m_apply_lp (F : Nat) {set : Nat} {q : Nat → Option Nat} {S : Nat → Nat} (x1 : Int32) : ∀ (d i k : Nat) (m : St), i + d = 6 → d < k → QOk set q (m.1 8) → (∀ j, j < 10 → m.1 5 j = nI (if j < i then apQ q S j else S j)) → ∃ g, m_rules_L218 F k x1 (nI i) m = some (x1, rI m 5 g) ∧ ∀ j, j < 10 → g j = nI (apQ q S j) := by
  intro d
  induction d with
  | zero =>
    intro i k m hi hk hQ hS
    obtain ⟨k, rfl⟩ : ∃ z, k = z + 1 := ⟨k - 1, by omega⟩
    refine ⟨m.1 5, ?_, fun j hj => ?_⟩
    · show m_rules_L218b F (m_rules_L218 F k) x1 (nI i) m = _
      unfold m_rules_L218b
      rw [if_pos (show (6 : Int32) ≤ nI i from nI_le (a := 6) (by omega) (by omega)), rI_self]
    · rw [hS j hj]
      by_cases e : j < i
      · rw [if_pos e]
      · rw [if_neg e, apQ, if_neg (by omega)]
  | succ d ih =>
    intro i k m hi hk hQ hS
    obtain ⟨k, rfl⟩ : ∃ z, k = z + 1 := ⟨k - 1, by omega⟩
    have g0 : ¬ (6 : Int32) ≤ nI i := by
      rw [show (6 : Int32) = nI 6 from rfl, leI (by omega) (by omega)]
      omega
    obtain ⟨q1, -, q3⟩ := hQ i (by omega)
    have key : ∀ x, x = nI (apQ q S i) → ∃ g, m_rules_L218 F k x1 (nI (i + 1)) (sI m 5 i x) = some (x1, rI m 5 g) ∧ ∀ j, j < 10 → g j = nI (apQ q S j) := by
      intro x hx
      obtain ⟨g, y1, y2⟩ := ih (i + 1) k (sI m 5 i x) (by omega) (by omega) (by rw [sI1_ne (by decide)]; exact hQ) (fun j hj => by
        rw [sI1_eq]
        by_cases e : j = i
        · rw [e, upd_eq, if_pos (by omega), hx]
        · rw [upd_ne e, hS j hj]
          by_cases e2 : j < i
          · rw [if_pos e2, if_pos (by omega)]
          · rw [if_neg e2, if_neg (by omega)])
      refine ⟨g, ?_, y2⟩
      rw [y1, rI_over]
    have hbody : m_rules_L218 F (k + 1) x1 (nI i) m = m_rules_L218b F (m_rules_L218 F k) x1 (nI i) m := rfl
    rw [hbody]
    unfold m_rules_L218b m_rules_J253
    rw [if_neg g0, inb_nI (show i < 144 by omega) (by decide), if_pos rfl, cl_nI (by omega), q1, if_pos rfl, inb_nI (show i < 10 by omega) (by decide), if_pos rfl, if_pos rfl, if_pos rfl, show nI i + (1 : Int32) = nI (i + 1) from by rw [show (1 : Int32) = nI 1 from rfl, nI_add]]
    cases hq : q i with
    | none =>
      rw [if_neg (show ¬ (0 : Int32) ≤ enc (-4) none by decide)]
      refine key _ ?_
      rw [hS i (by omega), if_neg (Nat.lt_irrefl i), apQ, if_pos (by omega), hq]
    | some v =>
      have := q3 v hq
      rw [if_pos (show (0 : Int32) ≤ enc (-4) (some v) from nI_le (a := 0) (Nat.zero_le _) (by omega))]
      refine key _ ?_
      rw [apQ, if_pos (by omega), hq]
      rfl
theorem p_rules {n : Nat} {c m : St} (R : Rel n c m) (F : Nat) (hF : 3000 ≤ F) : SameR n (c_rules F c) (m_rules F m) := by
  obtain ⟨B, N, hB, hc, hm⟩ := R.tape
  obtain ⟨S, hS⟩ := R.1.settings.fn
  have hSc : ∀ j, j < 10 → c.1 7 j = nI (S j) := fun j hj => (hS j hj).2.1
  have hSm : ∀ j, j < 10 → m.1 5 j = nI (S j) := fun j hj => (hS j hj).2.2
  have h160 := hB.1
  unfold c_rules m_rules c_Tape_readLaw c_Tape_readLaw_J21 c_Tape_lawFault c_Tape_layDown
  have e0 : sI (sI m 0 8 0) 0 9 0 = mst m (nI 0) 0 (m.1 8) := by
    unfold mst
    rw [rI_self]
    rfl
  obtain ⟨Q0, u1, u2⟩ := m_rules_first F (m := m) 6 0 F (m.1 8) (by omega) (by omega) (fun s hs => absurd hs (Nat.not_lt_zero s))
  have hQ0 : QOk 0 (fun _ => none) Q0 := fun s hs => ⟨u2 s hs, by rw [Nat.zero_testBit]; exact ⟨(fun z => by cases z), (fun z => absurd rfl z)⟩, (fun v hv => by cases hv)⟩
  obtain ⟨cnt, e, Q', e1, e2⟩ := m_law_lp F hF hB hm S N 0 F 0 0 (fun _ => none) Q0 (by omega) (by omega) hQ0 (Or.inl rfl)
  have hcl : c_Tape_lawFault_L6 F F 0 0 0 c = some (enc (-1) (lawF B 0 N 0 0), c) := by
    rcases c_law_lp F hF hB hc N 0 F 0 0 (by omega) (by omega) (by decide) with h | h
    · exact h
    · omega
  have ap0 : apQ (fun _ => none) S = S := funext fun j => by
    unfold apQ
    split <;> rfl
  rw [hcl, gB2_mk, e0, show m_rules_L12 F F 0 (mst m (nI 0) 0 (m.1 8)) = _ from u1]
  rcases e2 with ⟨e2, x, e3⟩ | ⟨e2, e3, set', q', e4, e5⟩
  · rw [e2, show enc (-1) (some e) = nI e from rfl, if_pos (show (0 : Int32) ≤ nI e from nI_le (a := 0) (Nat.zero_le _) (by omega)), gB2_mk, gB2_id, answ_20 (by omega), show m_rules_L36 F F 0 1 (mst m (nI 0) 0 Q0) = _ from e3]
    unfold lawEnd m_rules_L36b
    rw [if_pos rfl, sI1_eq, upd_ne (by decide), mst_wrong, if_neg (show ¬ (1 : Int32) = 0 by decide), upd_ne (by decide), mst_at, gB2_id]
    exact ref_t (R.mst (nI e) 1 Q').set_size0 F (ok20 (by omega))
  · have hne : ¬ (0 : Int32) ≤ enc (-1) none := by decide
    obtain ⟨c', y1, y2, y3⟩ := c_lay_lp F hF hB N 0 F 0 none S c (by omega) (by omega) (fun s hs => by cases hs) hc hSc
    have hD := e5 none
    rw [ap0] at hD
    rw [hD] at y1 y2
    have hcnt : cnt < 1000 := by
      have key : ∀ (d i : Nat) (cur : Option Nat) (cn : Nat) (S : Nat → Nat), (lawD B i d cur cn S).1 ≤ cn + d := by
        intro d
        induction d with
        | zero => exact fun i cur cn S => Nat.le_refl _
        | succ d ih =>
          intro i cur cn S
          unfold lawD
          split
          · exact Nat.le_trans (ih _ _ _ _) (by omega)
          · split
            · split
              · exact Nat.le_trans (ih _ _ _ _) (by omega)
              · exact Nat.le_trans (ih _ _ _ _) (by omega)
            · exact Nat.le_trans (ih _ _ _ _) (by omega)
      have := key N 0 none 0 S
      rw [hD] at this
      have t1 : cnt ≤ 0 + N := this
      omega
    rw [e2, if_neg hne, show c_Tape_layDown_L7 F F (-1) 0 0 c = _ from y1, gB2_mk, gB2_mk, gB2_id, show m_rules_L36 F F 0 1 (mst m (nI 0) 0 Q0) = _ from e3, show (cnt, apQ q' S).1 = cnt from rfl, answ_ok (by omega)]
    unfold lawEnd m_rules_L36b
    rw [if_pos rfl, sI1_eq, upd_ne (by decide), mst_wrong, if_pos rfl]
    obtain ⟨g, z1, z2⟩ := m_apply_lp F (set := set') (q := q') (S := S) (nI cnt) 6 0 F (sI (mst m (nI e) 0 Q') 0 7 0) (by omega) (by omega) (by rw [sI1_ne (by decide), mst_read]; exact e4) (fun j hj => by
      rw [sI1_ne (by decide), mst_ne (by decide) (by decide), hSm j hj, if_neg (Nat.not_lt_zero j)])
    rw [show m_rules_L218 F F (nI cnt) 0 (sI (mst m (nI e) 0 Q') 0 7 0) = _ from z1]
    refine SameR.ret rfl ?_
    rw [only_rI y3, ← rI_sI_ne (by decide)]
    refine (R.mst (nI e) 0 Q').set_size0.row7 (fun j hj => ⟨apQ q' S j, ?_, y2 j hj, z2 j hj⟩)
    unfold apQ
    have hj9 := (hS j hj).1
    by_cases h6 : j < 6
    · rw [if_pos h6]
      cases hq : q' j with
      | none => exact hj9
      | some v =>
        have := (e4 j h6).2.2 v hq
        unfold sMax
        rw [if_neg (by omega), if_neg (by omega)]
        exact this
    · rw [if_neg h6]
      exact hj9
