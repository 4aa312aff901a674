/-! the pure part: start -/
def zI (f : Nat → Int32) (i n : Nat) : Nat → Int32 := fun j => if i ≤ j ∧ j < n then 0 else f j
theorem zI_end {f : Nat → Int32} {i n : Nat} (h : n ≤ i) : zI f i n = f := funext fun j => if_neg (by omega)
theorem zI_step {f : Nat → Int32} {i n : Nat} (h : i < n) : zI (upd f i 0) (i + 1) n = zI f i n := funext fun j => by
  unfold zI upd
  by_cases e : j = i
  · rw [if_neg (by omega), if_pos e, if_pos (by omega)]
  · rw [if_neg e]
    by_cases h2 : i + 1 ≤ j ∧ j < n
    · rw [if_pos h2, if_pos (by omega)]
    · rw [if_neg h2, if_neg (by omega)]
theorem zI_at {f : Nat → Int32} {i n j : Nat} (h1 : i ≤ j) (h2 : j < n) : zI f i n j = 0 := if_pos ⟨h1, h2⟩
def zJ (f : Nat → Int64) (i n : Nat) : Nat → Int64 := fun j => if i ≤ j ∧ j < n then 0 else f j
theorem zJ_end {f : Nat → Int64} {i n : Nat} (h : n ≤ i) : zJ f i n = f := funext fun j => if_neg (by omega)
theorem zJ_step {f : Nat → Int64} {i n : Nat} (h : i < n) : zJ (vp_updL f i 0) (i + 1) n = zJ f i n := funext fun j => by
  unfold zJ vp_updL
  by_cases e : j = i
  · rw [if_neg (by omega), if_pos e, if_pos (by omega)]
  · rw [if_neg e]
    by_cases h2 : i + 1 ≤ j ∧ j < n
    · rw [if_pos h2, if_pos (by omega)]
    · rw [if_neg h2, if_neg (by omega)]
theorem zJ_at {f : Nat → Int64} {i n j : Nat} (h1 : i ≤ j) (h2 : j < n) : zJ f i n j = 0 := if_pos ⟨h1, h2⟩
theorem rIat {s : St} {c : Nat} {f : Nat → Int32} : (rI s c f).1 c = f := if_pos rfl
theorem rIne {s : St} {c q : Nat} {f : Nat → Int32} (h : q ≠ c) : (rI s c f).1 q = s.1 q := if_neg h
theorem rJat {s : St} {c : Nat} {f : Nat → Int64} : (rJ s c f).2 c = f := if_pos rfl
theorem rJne {s : St} {c q : Nat} {f : Nat → Int64} (h : q ≠ c) : (rJ s c f).2 q = s.2 q := if_neg h
theorem rI_self {s : St} {c : Nat} : rI s c (s.1 c) = s := Prod.ext (funext fun q => by
  by_cases e : q = c
  · rw [e, rIat]
  · rw [rIne e]) rfl
theorem rJ_self {s : St} {c : Nat} : rJ s c (s.2 c) = s := Prod.ext rfl (funext fun q => by
  by_cases e : q = c
  · rw [e, rJat]
  · rw [rJne e])
theorem rI_over {s : St} {c k : Nat} {x : Int32} {f : Nat → Int32} : rI (sI s c k x) c f = rI s c f := Prod.ext (funext fun q => by
  by_cases e : q = c
  · rw [e, rIat, rIat]
  · rw [rIne e, rIne e, sI1_ne e]) rfl
theorem rJ_over {s : St} {c k : Nat} {x : Int64} {f : Nat → Int64} : rJ (sJ s c k x) c f = rJ s c f := Prod.ext rfl (funext fun q => by
  by_cases e : q = c
  · rw [e, rJat, rJat]
  · rw [rJne e, rJne e, sJ2_ne e])
theorem rI_sI {s : St} {c k : Nat} {x : Int32} {f : Nat → Int32} : sI (rI s c f) c k x = rI s c (upd f k x) := Prod.ext (funext fun q => by
  by_cases e : q = c
  · rw [e, sI1_eq, rIat, rIat]
  · rw [sI1_ne e, rIne e, rIne e]) rfl
theorem rJ_sJ {s : St} {c k : Nat} {x : Int64} {f : Nat → Int64} : sJ (rJ s c f) c k x = rJ s c (vp_updL f k x) := Prod.ext rfl (funext fun q => by
  by_cases e : q = c
  · rw [e, sJ2_eq, rJat, rJat]
  · rw [sJ2_ne e, rJne e, rJne e])
theorem c_fillS (F : Nat) : ∀ (d i k : Nat) (s : St), i + d = 144 → d < k → c_Arrays_fill_53178_L5 F k 0 (nI i) (nI 144) s = some (rI s 5 (zI (s.1 5) i 144)) := by
  intro d
  induction d with
  | zero =>
    intro i k s hi hk
    obtain ⟨k, rfl⟩ : ∃ z, k = z + 1 := ⟨k - 1, by omega⟩
    show c_Arrays_fill_53178_L5b F (c_Arrays_fill_53178_L5 F k) 0 (nI i) (nI 144) s = _
    unfold c_Arrays_fill_53178_L5b
    rw [if_pos (nI_le (by omega) (by omega)), zI_end (by omega), rI_self]
  | succ d ih =>
    intro i k s hi hk
    obtain ⟨k, rfl⟩ : ∃ z, k = z + 1 := ⟨k - 1, by omega⟩
    show c_Arrays_fill_53178_L5b F (c_Arrays_fill_53178_L5 F k) 0 (nI i) (nI 144) s = _
    unfold c_Arrays_fill_53178_L5b
    have g0 : ¬ nI 144 ≤ nI i := by
      rw [leI (by omega) (by omega)]
      omega
    rw [if_neg g0, inb_nI (show i < 144 by omega) (by decide), if_pos rfl, cl_nI (by omega), show (1 : Int32) = nI 1 from rfl, nI_add, ih (i + 1) k _ (by omega) (by omega), sI1_eq, zI_step (by omega), rI_over]
theorem c_fillG (F : Nat) : ∀ (d i k : Nat) (s : St), i + d = 576 → d < k → c_Arrays_fill_d0a16_L6 F k 0 (nI i) (nI 576) s = some (rJ s 10 (zJ (s.2 10) i 576)) := by
  intro d
  induction d with
  | zero =>
    intro i k s hi hk
    obtain ⟨k, rfl⟩ : ∃ z, k = z + 1 := ⟨k - 1, by omega⟩
    show c_Arrays_fill_d0a16_L6b F (c_Arrays_fill_d0a16_L6 F k) 0 (nI i) (nI 576) s = _
    unfold c_Arrays_fill_d0a16_L6b
    rw [if_pos (nI_le (by omega) (by omega)), zJ_end (by omega), rJ_self]
  | succ d ih =>
    intro i k s hi hk
    obtain ⟨k, rfl⟩ : ∃ z, k = z + 1 := ⟨k - 1, by omega⟩
    show c_Arrays_fill_d0a16_L6b F (c_Arrays_fill_d0a16_L6 F k) 0 (nI i) (nI 576) s = _
    unfold c_Arrays_fill_d0a16_L6b
    have g0 : ¬ nI 576 ≤ nI i := by
      rw [leI (by omega) (by omega)]
      omega
    rw [if_neg g0, inb_nI (show i < 576 by omega) (by decide), if_pos rfl, cl_nI (by omega), show (1 : Int32) = nI 1 from rfl, nI_add, ih (i + 1) k _ (by omega) (by omega), sJ2_eq, zJ_step (by omega), rJ_over]
theorem c_fillT (F : Nat) : ∀ (d i k : Nat) (s : St), i + d = 144 → d < k → c_Arrays_fill_d0a16_v1_L6 F k 0 (nI i) (nI 144) s = some (rJ s 11 (zJ (s.2 11) i 144)) := by
  intro d
  induction d with
  | zero =>
    intro i k s hi hk
    obtain ⟨k, rfl⟩ : ∃ z, k = z + 1 := ⟨k - 1, by omega⟩
    show c_Arrays_fill_d0a16_v1_L6b F (c_Arrays_fill_d0a16_v1_L6 F k) 0 (nI i) (nI 144) s = _
    unfold c_Arrays_fill_d0a16_v1_L6b
    rw [if_pos (nI_le (by omega) (by omega)), zJ_end (by omega), rJ_self]
  | succ d ih =>
    intro i k s hi hk
    obtain ⟨k, rfl⟩ : ∃ z, k = z + 1 := ⟨k - 1, by omega⟩
    show c_Arrays_fill_d0a16_v1_L6b F (c_Arrays_fill_d0a16_v1_L6 F k) 0 (nI i) (nI 144) s = _
    unfold c_Arrays_fill_d0a16_v1_L6b
    have g0 : ¬ nI 144 ≤ nI i := by
      rw [leI (by omega) (by omega)]
      omega
    rw [if_neg g0, inb_nI (show i < 144 by omega) (by decide), if_pos rfl, cl_nI (by omega), show (1 : Int32) = nI 1 from rfl, nI_add, ih (i + 1) k _ (by omega) (by omega), sJ2_eq, zJ_step (by omega), rJ_over]
theorem c_fillK (F : Nat) : ∀ (d i k : Nat) (s : St), i + d = 576 → d < k → c_Arrays_fill_d0a16_v2_L6 F k 0 (nI i) (nI 576) s = some (rJ s 12 (zJ (s.2 12) i 576)) := by
  intro d
  induction d with
  | zero =>
    intro i k s hi hk
    obtain ⟨k, rfl⟩ : ∃ z, k = z + 1 := ⟨k - 1, by omega⟩
    show c_Arrays_fill_d0a16_v2_L6b F (c_Arrays_fill_d0a16_v2_L6 F k) 0 (nI i) (nI 576) s = _
    unfold c_Arrays_fill_d0a16_v2_L6b
    rw [if_pos (nI_le (by omega) (by omega)), zJ_end (by omega), rJ_self]
  | succ d ih =>
    intro i k s hi hk
    obtain ⟨k, rfl⟩ : ∃ z, k = z + 1 := ⟨k - 1, by omega⟩
    show c_Arrays_fill_d0a16_v2_L6b F (c_Arrays_fill_d0a16_v2_L6 F k) 0 (nI i) (nI 576) s = _
    unfold c_Arrays_fill_d0a16_v2_L6b
    have g0 : ¬ nI 576 ≤ nI i := by
      rw [leI (by omega) (by omega)]
      omega
    rw [if_neg g0, inb_nI (show i < 576 by omega) (by decide), if_pos rfl, cl_nI (by omega), show (1 : Int32) = nI 1 from rfl, nI_add, ih (i + 1) k _ (by omega) (by omega), sJ2_eq, zJ_step (by omega), rJ_over]
def m_start_end (F : Nat) (x1 x2 : Int32) (s0 : St) : Option (Int32 × St) := m_start_L76b F (fun _ _ _ _ => none) x1 x2 (nI 144) s0
theorem m_start2 (F : Nat) (x1 x2 : Int32) : ∀ (d i k : Nat) (s : St), i + d = 144 → d < k → m_start_L76 F k x1 x2 (nI i) s = m_start_end F x1 x2 (rI s 4 (zI (s.1 4) i 144)) := by
  intro d
  induction d with
  | zero =>
    intro i k s hi hk
    obtain ⟨k, rfl⟩ : ∃ z, k = z + 1 := ⟨k - 1, by omega⟩
    show m_start_L76b F (m_start_L76 F k) x1 x2 (nI i) s = _
    unfold m_start_end m_start_L76b
    rw [if_pos (show (144 : Int32) ≤ nI i from nI_le (a := 144) (by omega) (by omega)), zI_end (by omega), rI_self]
    rw [if_pos (show (144 : Int32) ≤ nI 144 by decide)]
  | succ d ih =>
    intro i k s hi hk
    obtain ⟨k, rfl⟩ : ∃ z, k = z + 1 := ⟨k - 1, by omega⟩
    show m_start_L76b F (m_start_L76 F k) x1 x2 (nI i) s = _
    unfold m_start_L76b
    have g0 : ¬ (144 : Int32) ≤ nI i := by
      rw [show (144 : Int32) = nI 144 from rfl, leI (by omega) (by omega)]
      omega
    rw [if_neg g0, inb_nI (show i < 144 by omega) (by decide), if_pos rfl, cl_nI (by omega), show (1 : Int32) = nI 1 from rfl, nI_add, ih (i + 1) k _ (by omega) (by omega), sI1_eq, zI_step (by omega), rI_over]
theorem m_start1 (F : Nat) (x1 x2 : Int32) : ∀ (d i k : Nat) (s : St), i + d = 720 → d < k → m_start_L54 F k x1 x2 (nI i) s = m_start_L76 F F x1 x2 (nI 0) (rJ s 9 (zJ (s.2 9) i 720)) := by
  intro d
  induction d with
  | zero =>
    intro i k s hi hk
    obtain ⟨k, rfl⟩ : ∃ z, k = z + 1 := ⟨k - 1, by omega⟩
    show m_start_L54b F (m_start_L54 F k) x1 x2 (nI i) s = _
    unfold m_start_L54b
    rw [if_pos (show (720 : Int32) ≤ nI i from nI_le (a := 720) (by omega) (by omega)), zJ_end (by omega), rJ_self]
    rfl
  | succ d ih =>
    intro i k s hi hk
    obtain ⟨k, rfl⟩ : ∃ z, k = z + 1 := ⟨k - 1, by omega⟩
    show m_start_L54b F (m_start_L54 F k) x1 x2 (nI i) s = _
    unfold m_start_L54b
    have g0 : ¬ (720 : Int32) ≤ nI i := by
      rw [show (720 : Int32) = nI 720 from rfl, leI (by omega) (by omega)]
      omega
    rw [if_neg g0, inb_nI (show i < 720 by omega) (by decide), if_pos rfl, cl_nI (by omega), show (1 : Int32) = nI 1 from rfl, nI_add, ih (i + 1) k _ (by omega) (by omega), sJ2_eq, zJ_step (by omega), rJ_over]
theorem sumN_0 : ∀ n : Nat, sumN (fun _ => 0) n = 0
  | 0 => rfl
  | n + 1 => sumN_0 n
theorem sumN_only {a v n : Nat} (h : a < n) : sumN (fun k => if k = a then v else 0) n = v := by
  have := sumN_at (f := fun k => if k = a then v else 0) (g := fun _ => 0) (q := a) h (fun k _ e => if_neg e)
  rw [sumN_0] at this
  simp only [if_true] at this
  omega
def oneP (a k : Nat) : Nat := if k = a then AL else 0
theorem Rel.row5 {n : Nat} {c m : St} (R : Rel n c m) {f g : Nat → Int32} (h : EqR f g 144 n) : Rel n (rI c 5 f) (rI m 4 g) := by
  obtain ⟨⟨h1, h2, h3, h4, h5, h6, h7, h8, h9, h10, h11, h12, h13, h14, h15, h16, h17, h18, h19, h20, h21, h22, h23, h24⟩, hI, hT1, hT2, hL, hS, hJ, hR, hE⟩ := R
  exact ⟨⟨h1, h2, h, h4, h5, h6, h7, h8, h9, h10, h11, h12, h13, h14, h15, h16, h17, h18, h19, h20, h21, h22, h23, h24⟩, hI, hT1, hT2, hL, hS, hJ, hR, hE⟩
theorem c_barE (F : Nat) {c : St} {q k : Nat} (hq : q < 144) (hk : k ≤ 7) (e : c.1 3 q = nI k) : c_Land_isBarred F (nI q) c = some (bz (k = 3 ∨ k = 4), c) := by
  unfold c_Land_isBarred c_Land_isBarred_J20
  rw [inb_nI hq (by decide), if_pos rfl, cl_nI (by omega), e, show (3 : Int32) = nI 3 from rfl, show (4 : Int32) = nI 4 from rfl, if_pos rfl, itEq (by omega) (by omega), itEq (by omega) (by omega)]
  by_cases h1 : k = 3
  · rw [if_pos h1, bz_t (Or.inl h1)]
  · by_cases h2 : k = 4
    · rw [if_neg h1, if_pos h2, bz_t (Or.inr h2)]
    · rw [if_neg h1, if_neg h2, bz_f (fun h => h.elim h1 h2)]
theorem p_start {n : Nat} {c m : St} (R : Rel n c m) (F : Nat) (hF : 3000 ≤ F) (a b : Int32) : SameR n (c_start F a b c) (m_start F a b m) := by
  have hAL : AL = 1099511627776 := rfl
  unfold c_start c_start_J16 m_start m_start_J19 m_start_J45 c_Land_forgetSearches c_Night_setOut c_Arrays_fill_53178 c_Arrays_fill_d0a16 c_Arrays_fill_d0a16_v1
  simp only [gB2_mk, gB_mk, bz_ite, bz_01, gB2_id, c_isCell_eq, c_isKind_eq, c_isSort_eq, c_isPart_eq, c_Sheets_isSheet_eq, c_Sheets_isLane_eq, m_isCell_eq, m_isKind_eq, m_isSort_eq, m_isSheet_eq, m_isLane_eq, c_isIn_eq, m_in_0_0, m_in_0_1, m_in_0_2, m_in_0_3, m_in_0_5, m_in_0_7, m_in_0_8, m_in_0_9, m_in_0_11, m_in_0_15, m_in_0_16, m_in_0_99, m_in_0_143, m_in_0_999, m_in_1_4, m_in_1_8, m_in_1_9, m_in_1_60, m_in_m1_3, m_in_m1_5]
  by_cases h1 : (0 : Int32) ≤ a ∧ a ≤ 143
  case neg =>
    simp only [if_neg h1]
    exact ref_t R F ok1
  simp only [if_pos h1]
  obtain ⟨q, q_lo, q_hi, rfl⟩ := in_nat (lo := 0) (hi := 143) (by decide) h1 (by decide)
  by_cases h2 : (0 : Int32) ≤ b ∧ b ≤ 3
  case neg =>
    simp only [if_neg h2]
    exact ref_t R F ok1
  simp only [if_pos h2]
  obtain ⟨s, s_lo, s_hi, rfl⟩ := in_nat (lo := 0) (hi := 3) (by decide) h2 (by decide)
  obtain ⟨k, hk, e1, e2⟩ := R.1.kinds q (by omega)
  have e1' : c.1 3 q = nI k := e1
  have e2' : m.1 2 q = nI k := e2
  rw [c_barE F (by omega) hk e1', gB2_mk, bz_ite, inb_nI (show q < 144 by omega) (by decide), if_pos rfl, cl_nI (by omega), e2', show (3 : Int32) = nI 3 from rfl, show (4 : Int32) = nI 4 from rfl, if_pos rfl, itEq (by omega) (by omega), itEq (by omega) (by omega)]
  by_cases h3 : k = 3
  · rw [if_pos (Or.inl h3), if_pos h3]
    exact ref_t R F ok2
  by_cases h4 : k = 4
  · rw [if_pos (Or.inr h4), if_neg h3, if_pos h4]
    exact ref_t R F ok2
  rw [if_neg (fun h => h.elim h3 h4), if_neg h3, if_neg h4]
  rw [show c_Arrays_fill_53178_L5 F F 0 0 144 c = _ from c_fillS F 144 0 F c (by omega) (by omega), gB_mk, gB_mk]
  rw [show c_Arrays_fill_d0a16_L6 F F 0 0 576 _ = _ from c_fillG F 576 0 F _ (by omega) (by omega), gB_mk]
  rw [show c_Arrays_fill_d0a16_v1_L6 F F 0 0 144 _ = _ from c_fillT F 144 0 F _ (by omega) (by omega), gB_mk]
  rw [mulI, nI_add, inb_nI (show q * 4 + s < 576 by omega) (by decide), if_pos rfl, cl_nI (by omega), gB_mk]
  rw [show m_start_L54 F F (nI q) (nI s) 0 m = _ from m_start1 F (nI q) (nI s) 720 0 F m (by omega) (by omega), m_start2 F (nI q) (nI s) 144 0 F _ (by omega) (by omega)]
  unfold m_start_end m_start_L76b
  rw [if_pos (show (144 : Int32) ≤ nI 144 by decide), show (5 : Int32) = nI 5 from rfl, mulI, nI_add, inb_nI (show 5 * q + s < 720 by omega) (by decide), if_pos rfl, cl_nI (by omega)]
  refine SameR.ret rfl ?_
  have R1 := R.row5 (f := zI (c.1 5) 0 144) (g := zI (m.1 4) 0 144) (fun j hj => ⟨0, Nat.zero_le _, zI_at (Nat.zero_le _) hj, zI_at (Nat.zero_le _) hj⟩)
  refine Rel.set_minute (k := 0) ?_ (by decide)
  refine R1.parts (p := oneP (5 * q + s)) ⟨rfl, fun t ht => ?_⟩ ⟨rfl, fun t ht => ?_⟩ (fun j hj => ⟨fun t ht => ?_, ?_⟩) (fun j hj => ?_) (by rw [show sumN (oneP (5 * q + s)) 720 = AL from sumN_only (by omega)]; exact Nat.le_refl _)
  · rw [sJ2_ne (fun e => ht (by rw [e]; decide)), rJne (fun e => ht (by rw [e]; decide)), rJne (fun e => ht (by rw [e]; decide))]
  · rw [sJ2_ne (fun e => ht (by rw [e]; decide))]
    show (rJ m 9 _).2 t = m.2 t
    rw [rJne (fun e => ht (by rw [e]; decide))]
  · rw [sJ2_eq, rJne (by decide), rJat]
    by_cases e : 4 * j + t = q * 4 + s
    · rw [e, updL_eq, oneP, if_pos (by omega)]
      rfl
    · rw [updL_ne e, oneP, if_neg (by omega)]
      exact zJ_at (Nat.zero_le _) (by omega)
  · rw [sJ2_ne (by decide), rJat, oneP, if_neg (by omega)]
    exact zJ_at (Nat.zero_le _) hj
  · rw [sJ2_eq]
    by_cases e : j = 5 * q + s
    · rw [e, updL_eq, oneP, if_pos rfl]
      rfl
    · rw [updL_ne e, oneP, if_neg e]
      show (rJ m 9 (zJ (m.2 9) 0 720)).2 9 j = _
      rw [rJat]
      exact zJ_at (Nat.zero_le _) hj
