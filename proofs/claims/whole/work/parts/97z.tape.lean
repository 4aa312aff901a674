/-! the pure part: the tape -/
def fiN (T : Nat → Nat) (b : Nat) : Nat → Nat → Option Nat
  | _, 0 => none
  | i, d + 1 => if T i = b then some i else fiN T b (i + 1) d
def KLn (j : Nat) : Nat := ([111, 112, 119, 109, 97, 104, 115, 101] : List Nat).getD j 0
def SLn (j : Nat) : Nat := ([97, 108, 114, 98, 116, 100] : List Nat).getD j 0
theorem KL_eq : ∀ j, j < 8 → gKL j = nI (KLn j) ∧ KLn j < 127 := by decide
theorem SL_eq : ∀ j, j < 6 → gSL j = nI (SLn j) ∧ SLn j < 127 := by decide
def kidx (b : Nat) : Option Nat := fiN KLn b 0 8
def sidx (b : Nat) : Option Nat := fiN SLn b 0 6
theorem fiN_bd (T : Nat → Nat) (b : Nat) : ∀ (d i k : Nat), fiN T b i d = some k → i ≤ k ∧ k < i + d
  | 0, _, _, h => by cases h
  | d + 1, i, k, h => by
    unfold fiN at h
    split at h
    · cases h
      omega
    · have := fiN_bd T b d (i + 1) k h
      omega
theorem to8 : ∀ b, b < 127 → (nI b).toInt8.toInt32 = nI b := by decide
theorem c_kidx_lp (F : Nat) (s : St) {b : Nat} (hb : b < 127) : ∀ (d i k : Nat), i + d = 8 → d < k → c_StringLatin1_indexOfChar_L7 F k (nI 8) (nI b) (nI i) s = some (enc (-1) (fiN KLn b i d), s) := by
  intro d
  induction d with
  | zero =>
    intro i k hi hk
    obtain ⟨k, rfl⟩ : ∃ z, k = z + 1 := ⟨k - 1, by omega⟩
    show c_StringLatin1_indexOfChar_L7b F (c_StringLatin1_indexOfChar_L7 F k) (nI 8) (nI b) (nI i) s = _
    unfold c_StringLatin1_indexOfChar_L7b
    rw [if_pos (nI_le (by omega) (by omega))]
    rfl
  | succ d ih =>
    intro i k hi hk
    obtain ⟨k, rfl⟩ : ∃ z, k = z + 1 := ⟨k - 1, by omega⟩
    obtain ⟨t1, t2⟩ := KL_eq i (by omega)
    show c_StringLatin1_indexOfChar_L7b F (c_StringLatin1_indexOfChar_L7 F k) (nI 8) (nI b) (nI i) s = _
    unfold c_StringLatin1_indexOfChar_L7b fiN
    have g0 : ¬ nI 8 ≤ nI i := by
      rw [leI (by omega) (by omega)]
      omega
    rw [if_neg g0, inb_nI (show i < 8 by omega) (by decide), if_pos rfl, cl_nI (by omega), t1, itEq (by omega) (by omega), show nI i + (1 : Int32) = nI (i + 1) from by rw [show (1 : Int32) = nI 1 from rfl, nI_add]]
    by_cases e : KLn i = b
    · rw [if_pos e, if_pos e]
      rfl
    · rw [if_neg e, if_neg e]
      exact ih (i + 1) k (by omega) (by omega)
theorem c_kidx (F : Nat) (hF : 3000 ≤ F) (s : St) {b : Nat} (hb : b < 127) : c_String_indexOf_0f7a4 F (nI b) s = some (enc (-1) (kidx b), s) := by
  unfold c_String_indexOf_0f7a4 c_String_indexOf_7cf53 c_String_isLatin1 c_String_length c_String_coder c_StringLatin1_indexOf c_StringLatin1_canEncode c_StringLatin1_canEncode_J15 c_StringLatin1_indexOfChar
  have g1 : ¬ nI b < 0 := by
    rw [show (0 : Int32) = nI 0 from rfl, ltI (by omega) (by omega)]
    omega
  have g2 : ¬ (255 : Int32) < nI b := by
    rw [show (255 : Int32) = nI 255 from rfl, ltI (by omega) (by omega)]
    omega
  have n1 : ¬ (1 : Int32) = 0 := by decide
  have z0 : (0 : Int32) = 0 := rfl
  have e6 : gMmin ((8 : Int32) >>> ((0 : Int32) &&& 31)) (8 : Int32) = nI 8 := by decide
  have e0 : gMmax (0 : Int32) (0 : Int32) = nI 0 := by decide
  have e1 := c_kidx_lp F s hb 8 0 F (by omega) (by omega)
  simp only [if_true, if_neg n1, if_pos z0, gB2_mk, if_neg g1, if_neg g2, e6, e0, to8 b hb, if_pos (show nI 0 < nI 8 by decide), e1]
  rfl
theorem c_sidx_lp (F : Nat) (s : St) {b : Nat} (hb : b < 127) : ∀ (d i k : Nat), i + d = 6 → d < k → c_StringLatin1_indexOfChar_v1_L7 F k (nI 6) (nI b) (nI i) s = some (enc (-1) (fiN SLn b i d), s) := by
  intro d
  induction d with
  | zero =>
    intro i k hi hk
    obtain ⟨k, rfl⟩ : ∃ z, k = z + 1 := ⟨k - 1, by omega⟩
    show c_StringLatin1_indexOfChar_v1_L7b F (c_StringLatin1_indexOfChar_v1_L7 F k) (nI 6) (nI b) (nI i) s = _
    unfold c_StringLatin1_indexOfChar_v1_L7b
    rw [if_pos (nI_le (by omega) (by omega))]
    rfl
  | succ d ih =>
    intro i k hi hk
    obtain ⟨k, rfl⟩ : ∃ z, k = z + 1 := ⟨k - 1, by omega⟩
    obtain ⟨t1, t2⟩ := SL_eq i (by omega)
    show c_StringLatin1_indexOfChar_v1_L7b F (c_StringLatin1_indexOfChar_v1_L7 F k) (nI 6) (nI b) (nI i) s = _
    unfold c_StringLatin1_indexOfChar_v1_L7b fiN
    have g0 : ¬ nI 6 ≤ nI i := by
      rw [leI (by omega) (by omega)]
      omega
    rw [if_neg g0, inb_nI (show i < 6 by omega) (by decide), if_pos rfl, cl_nI (by omega), t1, itEq (by omega) (by omega), show nI i + (1 : Int32) = nI (i + 1) from by rw [show (1 : Int32) = nI 1 from rfl, nI_add]]
    by_cases e : SLn i = b
    · rw [if_pos e, if_pos e]
      rfl
    · rw [if_neg e, if_neg e]
      exact ih (i + 1) k (by omega) (by omega)
theorem c_sidx (F : Nat) (hF : 3000 ≤ F) (s : St) {b : Nat} (hb : b < 127) : c_String_indexOf_0f7a4_v1 F (nI b) s = some (enc (-1) (sidx b), s) := by
  unfold c_String_indexOf_0f7a4_v1 c_String_indexOf_7cf53_v1 c_String_isLatin1_v1 c_String_length_v1 c_String_coder_v1 c_StringLatin1_indexOf_v1 c_StringLatin1_canEncode c_StringLatin1_canEncode_J15 c_StringLatin1_indexOfChar_v1
  have g1 : ¬ nI b < 0 := by
    rw [show (0 : Int32) = nI 0 from rfl, ltI (by omega) (by omega)]
    omega
  have g2 : ¬ (255 : Int32) < nI b := by
    rw [show (255 : Int32) = nI 255 from rfl, ltI (by omega) (by omega)]
    omega
  have n1 : ¬ (1 : Int32) = 0 := by decide
  have z0 : (0 : Int32) = 0 := rfl
  have e6 : gMmin ((6 : Int32) >>> ((0 : Int32) &&& 31)) (6 : Int32) = nI 6 := by decide
  have e0 : gMmax (0 : Int32) (0 : Int32) = nI 0 := by decide
  have e1 := c_sidx_lp F s hb 6 0 F (by omega) (by omega)
  simp only [if_true, if_neg n1, if_pos z0, gB2_mk, if_neg g1, if_neg g2, e6, e0, to8 b hb, if_pos (show nI 0 < nI 6 by decide), e1]
  rfl
def kindV : Int32 → Int32 := fun a0 => if a0 = (97 : Int32) then (4 : Int32) else if a0 = (98 : Int32) then (-4 : Int32) else if a0 = (99 : Int32) then (-4 : Int32) else if a0 = (100 : Int32) then (-4 : Int32) else if a0 = (101 : Int32) then (7 : Int32) else if a0 = (102 : Int32) then (-4 : Int32) else if a0 = (103 : Int32) then (-4 : Int32) else if a0 = (104 : Int32) then (5 : Int32) else if a0 = (105 : Int32) then (-4 : Int32) else if a0 = (106 : Int32) then (-4 : Int32) else if a0 = (107 : Int32) then (-4 : Int32) else if a0 = (108 : Int32) then (-4 : Int32) else if a0 = (109 : Int32) then (3 : Int32) else if a0 = (110 : Int32) then (-4 : Int32) else if a0 = (111 : Int32) then (0 : Int32) else if a0 = (112 : Int32) then (1 : Int32) else if a0 = (113 : Int32) then (-4 : Int32) else if a0 = (114 : Int32) then (-4 : Int32) else if a0 = (115 : Int32) then (6 : Int32) else if a0 = (116 : Int32) then (-4 : Int32) else if a0 = (117 : Int32) then (-4 : Int32) else if a0 = (118 : Int32) then (-4 : Int32) else if a0 = (119 : Int32) then (2 : Int32) else (-4 : Int32)
theorem kindV_eq : ∀ b, b < 127 → kindV (nI b) = enc (-4) (kidx b) := by decide +kernel
theorem m_kindOf_E (F : Nat) (s : St) {b : Nat} (hb : b < 127) : m_kindOf F (nI b) s = some (enc (-4) (kidx b), s) := by
  rw [← kindV_eq b hb]
  unfold m_kindOf kindV
  simp only [if_some]
def setgV : Int32 → Int32 := fun a0 => if a0 = (97 : Int32) then (0 : Int32) else if a0 = (98 : Int32) then (3 : Int32) else if a0 = (99 : Int32) then (-4 : Int32) else if a0 = (100 : Int32) then (5 : Int32) else if a0 = (101 : Int32) then (-4 : Int32) else if a0 = (102 : Int32) then (-4 : Int32) else if a0 = (103 : Int32) then (-4 : Int32) else if a0 = (104 : Int32) then (-4 : Int32) else if a0 = (105 : Int32) then (-4 : Int32) else if a0 = (106 : Int32) then (-4 : Int32) else if a0 = (107 : Int32) then (-4 : Int32) else if a0 = (108 : Int32) then (1 : Int32) else if a0 = (109 : Int32) then (-4 : Int32) else if a0 = (110 : Int32) then (-4 : Int32) else if a0 = (111 : Int32) then (-4 : Int32) else if a0 = (112 : Int32) then (-4 : Int32) else if a0 = (113 : Int32) then (-4 : Int32) else if a0 = (114 : Int32) then (2 : Int32) else if a0 = (115 : Int32) then (-4 : Int32) else if a0 = (116 : Int32) then (4 : Int32) else (-4 : Int32)
theorem setgV_eq : ∀ b, b < 127 → setgV (nI b) = enc (-4) (sidx b) := by decide +kernel
theorem m_settingOf_E (F : Nat) (s : St) {b : Nat} (hb : b < 127) : m_settingOf F (nI b) s = some (enc (-4) (sidx b), s) := by
  rw [← setgV_eq b hb]
  unfold m_settingOf setgV
  simp only [if_some]
def dgV (b : Nat) : Option Nat := if 48 ≤ b ∧ b ≤ 57 then some (b - 48) else none
theorem c_digitE (F : Nat) {s : St} {i b : Nat} (hi : i < 160) (hb : b < 127) (e : s.1 75 i = nI b) : c_Tape_digitAt F (nI i) s = some (enc (-1) (dgV b), s) := by
  unfold c_Tape_digitAt c_Tape_digitAt_J34 dgV
  rw [inb_nI hi (by decide), cl_nI (by omega), e, if_pos rfl, show (48 : Int32) = nI 48 from rfl, show (57 : Int32) = nI 57 from rfl, itLt (by omega) (by omega), if_pos rfl, itLt (by omega) (by omega), if_pos rfl]
  by_cases h1 : b < 48
  · rw [if_pos h1, if_neg (by omega)]
    rfl
  · by_cases h2 : 57 < b
    · rw [if_neg h1, if_pos h2, if_neg (by omega)]
      rfl
    · rw [if_neg h1, if_neg h2, if_pos (by omega), subI (by omega)]
      rfl
/-- what stands on the tape -/
def TapeB (B : Nat → Nat) (n : Nat) : Prop := n ≤ 160 ∧ ∀ j, j < n → 32 ≤ B j ∧ B j ≤ 126
def TapeC (B : Nat → Nat) (n : Nat) (c : St) : Prop := c.1 74 1 = nI n ∧ ∀ j, j < n → c.1 75 j = nI (B j)
def TapeM (B : Nat → Nat) (n : Nat) (m : St) : Prop := m.1 0 7 = nI n ∧ ∀ j, j < n → m.1 7 j = nI (B j)
theorem Rel.tape {N : Nat} {c m : St} (R : Rel N c m) : ∃ B n, TapeB B n ∧ TapeC B n c ∧ TapeM B n m := by
  obtain ⟨n, h1, h2, h3, h4⟩ := R.2.2.1
  obtain ⟨B, hB⟩ := R.2.2.2.1.fn (by decide)
  refine ⟨B, n, ⟨h1, fun j hj => ?_⟩, ⟨h2, fun j hj => (hB j (by omega)).2.1⟩, ⟨h3, fun j hj => (hB j (by omega)).2.2⟩⟩
  obtain ⟨b, b1, b2, b3⟩ := h4 j hj
  obtain ⟨q1, q2, q3⟩ := hB j (by omega)
  have : B j = b := by
    rw [q2] at b3
    exact (eqI (by omega) (by omega)).mp b3
  omega
/-- the reference while it reads -/
def mst (m : St) (a w : Int32) (Q : Nat → Int32) : St := sI (sI (rI m 8 Q) 0 8 a) 0 9 w
theorem mst_at {m : St} {a w : Int32} {Q : Nat → Int32} : (mst m a w Q).1 0 8 = a := by
  unfold mst
  rw [sI1_eq, upd_ne (by decide), sI1_eq, upd_eq]
theorem mst_wrong {m : St} {a w : Int32} {Q : Nat → Int32} : (mst m a w Q).1 0 9 = w := by
  unfold mst
  rw [sI1_eq, upd_eq]
theorem mst_0 {m : St} {a w : Int32} {Q : Nat → Int32} {k : Nat} (h8 : k ≠ 8) (h9 : k ≠ 9) : (mst m a w Q).1 0 k = m.1 0 k := by
  unfold mst
  rw [sI1_eq, upd_ne h9, sI1_eq, upd_ne h8, rIne (by decide)]
theorem mst_read {m : St} {a w : Int32} {Q : Nat → Int32} : (mst m a w Q).1 8 = Q := by
  unfold mst
  rw [sI1_ne (by decide), sI1_ne (by decide), rIat]
theorem mst_ne {m : St} {a w : Int32} {Q : Nat → Int32} {q : Nat} (h0 : q ≠ 0) (h8 : q ≠ 8) : (mst m a w Q).1 q = m.1 q := by
  unfold mst
  rw [sI1_ne h0, sI1_ne h0, rIne h8]
theorem sI_sI {s : St} {c k : Nat} {x y : Int32} : sI (sI s c k x) c k y = sI s c k y := Prod.ext (funext fun q => by
  by_cases e : q = c
  · rw [e, sI1_eq, sI1_eq, sI1_eq]
    funext j
    by_cases ej : j = k
    · rw [ej, upd_eq, upd_eq]
    · rw [upd_ne ej, upd_ne ej, upd_ne ej]
  · rw [sI1_ne e, sI1_ne e, sI1_ne e]) rfl
theorem sI_comm2 {s : St} {c j k : Nat} {x y : Int32} (h : j ≠ k) : sI (sI s c j x) c k y = sI (sI s c k y) c j x := Prod.ext (funext fun q => by
  by_cases e : q = c
  · rw [e, sI1_eq, sI1_eq, sI1_eq, sI1_eq]
    funext i
    by_cases e1 : i = k
    · rw [e1, upd_eq, upd_ne (Ne.symm h), upd_eq]
    · by_cases e2 : i = j
      · rw [e2, upd_ne h, upd_eq, upd_eq]
      · rw [upd_ne e1, upd_ne e2, upd_ne e2, upd_ne e1]
  · rw [sI1_ne e, sI1_ne e, sI1_ne e, sI1_ne e]) rfl
theorem mst_w {m : St} {a w w' : Int32} {Q : Nat → Int32} : sI (mst m a w Q) 0 9 w' = mst m a w' Q := sI_sI
theorem mst_a {m : St} {a w a' : Int32} {Q : Nat → Int32} : sI (mst m a w Q) 0 8 a' = mst m a' w Q := by
  unfold mst
  rw [sI_comm2 (by decide), sI_sI]
theorem mst_q {m : St} {a w x : Int32} {Q : Nat → Int32} {j : Nat} : sI (mst m a w Q) 8 j x = mst m a w (upd Q j x) := by
  unfold mst
  rw [sI_comm (show 0 ≠ 8 by decide), sI_comm (show 0 ≠ 8 by decide), rI_sI]
/-- where the next byte is that is no blank -/
def nbF (B : Nat → Nat) : Nat → Nat → Nat
  | i, 0 => i
  | i, d + 1 => if B i = 32 then nbF B (i + 1) d else i
theorem nbF_ok (B : Nat → Nat) : ∀ (d i : Nat), i ≤ nbF B i d ∧ nbF B i d ≤ i + d ∧ (nbF B i d = i + d ∨ B (nbF B i d) ≠ 32)
  | 0, i => ⟨Nat.le_refl _, Nat.le_refl _, Or.inl rfl⟩
  | d + 1, i => by
    unfold nbF
    by_cases e : B i = 32
    · rw [if_pos e]
      obtain ⟨h1, h2, h3⟩ := nbF_ok B d (i + 1)
      refine ⟨by omega, by omega, ?_⟩
      rcases h3 with h3 | h3
      · left
        omega
      · exact Or.inr h3
    · rw [if_neg e]
      exact ⟨Nat.le_refl _, by omega, Or.inr e⟩
def hbF (B : Nat → Nat) (n b : Nat) : Nat := if n ≤ b then 0 else B b
theorem m_here_lp (F : Nat) {B : Nat → Nat} {n : Nat} {m : St} (hB : TapeB B n) (hm : TapeM B n m) {w : Int32} {Q : Nat → Int32} : ∀ (d i k : Nat), i + d = n → d < k → m_here_L0 F k (mst m (nI i) w Q) = some (nI (hbF B n (nbF B i d)), mst m (nI (nbF B i d)) w Q) := by
  intro d
  induction d with
  | zero =>
    intro i k hi hk
    obtain ⟨k, rfl⟩ : ∃ z, k = z + 1 := ⟨k - 1, by omega⟩
    show m_here_L0b F (m_here_L0 F k) (mst m (nI i) w Q) = _
    unfold m_here_L0b m_here_J38 nbF hbF
    rw [mst_at, mst_0 (by decide) (by decide), hm.1, if_pos (nI_le (by omega) (by have := hB.1; omega)), if_pos (nI_le (by omega) (by have := hB.1; omega)), if_pos (by omega)]
    rfl
  | succ d ih =>
    intro i k hi hk
    obtain ⟨k, rfl⟩ : ∃ z, k = z + 1 := ⟨k - 1, by omega⟩
    have h160 := hB.1
    have hb := hB.2 i (by omega)
    have g0 : ¬ nI n ≤ nI i := by
      rw [leI (by omega) (by omega)]
      omega
    show m_here_L0b F (m_here_L0 F k) (mst m (nI i) w Q) = _
    unfold m_here_L0b m_here_J38 nbF
    rw [mst_at, mst_0 (by decide) (by decide), hm.1, if_neg g0, inb_nI (show i < 160 by omega) (by decide), if_pos rfl, cl_nI (by omega), mst_ne (by decide) (by decide), hm.2 i (by omega), show (32 : Int32) = nI 32 from rfl, itEq (by omega) (by omega), if_neg g0, if_pos rfl, mst_a, show nI i + (1 : Int32) = nI (i + 1) from by rw [show (1 : Int32) = nI 1 from rfl, nI_add]]
    by_cases e : B i = 32
    · rw [if_pos e, if_pos e]
      exact ih (i + 1) k (by omega) (by omega)
    · rw [if_neg e, if_neg e]
      unfold hbF
      rw [if_neg (by omega)]
theorem m_hereE (F : Nat) (hF : 3000 ≤ F) {B : Nat → Nat} {n : Nat} {m : St} (hB : TapeB B n) (hm : TapeM B n m) {w : Int32} {Q : Nat → Int32} {i : Nat} (hi : i ≤ n) : m_here F (mst m (nI i) w Q) = some (nI (hbF B n (nbF B i (n - i))), mst m (nI (nbF B i (n - i))) w Q) := m_here_lp F hB hm (n - i) i F (by omega) (by have := hB.1; omega)
theorem hbF_lt {B : Nat → Nat} {n : Nat} (hB : TapeB B n) (b : Nat) : hbF B n b < 127 := by
  unfold hbF
  split
  · decide
  · have := (hB.2 b (by omega)).2
    omega
theorem m_in_dg (F : Nat) (m : St) {b : Nat} (hb : b < 127) (lo : Nat) (hl : lo < 100) : m_in F (nI b).toInt64 (lN lo) (lN 57) m = some (bz (lo ≤ b ∧ b ≤ 57), m) := by
  rw [m_in_eq, i2lN (by omega), bz_iff (p := lN lo ≤ lN b ∧ lN b ≤ lN 57) (q := lo ≤ b ∧ b ≤ 57)]
  rw [leL (by omega) (by omega), leL (by omega) (by omega)]
