/-! the pure part: type -/
theorem itLe {O : Type} {a b : Nat} {x y : O} [Decidable (nI a ≤ nI b)] (ha : a < 2 ^ 31) (hb : b < 2 ^ 31) : (if nI a ≤ nI b then x else y) = if a ≤ b then x else y := by
  by_cases h : a ≤ b
  · rw [if_pos h, if_pos ((nI_leI ha hb).mpr h)]
  · rw [if_neg h, if_neg (fun e => h ((nI_leI ha hb).mp e))]
theorem itLt {O : Type} {a b : Nat} {x y : O} [Decidable (nI a < nI b)] (ha : a < 2 ^ 31) (hb : b < 2 ^ 31) : (if nI a < nI b then x else y) = if a < b then x else y := by
  by_cases h : a < b
  · rw [if_pos h, if_pos ((nI_ltI ha hb).mpr h)]
  · rw [if_neg h, if_neg (fun e => h ((nI_ltI ha hb).mp e))]
theorem itEq {O : Type} {a b : Nat} {x y : O} [Decidable (nI a = nI b)] (ha : a < 2 ^ 31) (hb : b < 2 ^ 31) : (if nI a = nI b then x else y) = if a = b then x else y := by
  by_cases h : a = b
  · rw [if_pos h, if_pos ((nI_eq ha hb).mpr h)]
  · rw [if_neg h, if_neg (fun e => h ((nI_eq ha hb).mp e))]
theorem itL0 {O : Type} {a b : Nat} {x y : O} [Decidable (lN a = lN b)] (ha : a < 2 ^ 63) (hb : b < 2 ^ 63) : (if lN a = lN b then x else y) = if a = b then x else y := by
  by_cases h : a = b
  · rw [if_pos h, if_pos ((pk_lEQ ha hb).mpr h)]
  · rw [if_neg h, if_neg (fun e => h ((pk_lEQ ha hb).mp e))]
theorem lgLe {O : Type} {a b : Nat} {x y : O} [Decidable (lg_cmp (lN a) (lN b) ≤ 0)] (ha : a < 2 ^ 63) (hb : b < 2 ^ 63) : (if lg_cmp (lN a) (lN b) ≤ 0 then x else y) = if a ≤ b then x else y := by
  have e : (lg_cmp (lN a) (lN b) ≤ 0) = (a ≤ b) := by rw [cmp_le, leL ha hb]
  by_cases h : a ≤ b
  · rw [if_pos h, if_pos (e.mpr h)]
  · rw [if_neg h, if_neg (fun z => h (e.mp z))]
theorem lgGt {O : Type} {a b : Nat} {x y : O} [Decidable (0 < lg_cmp (lN a) (lN b))] (ha : a < 2 ^ 63) (hb : b < 2 ^ 63) : (if 0 < lg_cmp (lN a) (lN b) then x else y) = if b < a then x else y := by
  have e : (0 < lg_cmp (lN a) (lN b)) = (b < a) := by rw [cmp_gt, ltL hb ha]
  by_cases h : b < a
  · rw [if_pos h, if_pos (e.mpr h)]
  · rw [if_neg h, if_neg (fun z => h (e.mp z))]
theorem itBit {O : Type} {m j : Nat} {x y : O} [Decidable (nI m &&& nI (2 ^ j) = 0)] (hj : j < 31) : (if nI m &&& nI (2 ^ j) = 0 then x else y) = if m.testBit j = true then y else x := by
  have e := and31 (m := m) hj
  by_cases h : m.testBit j = true
  · rw [if_pos h, if_neg (fun z => by have := e.mp z; rw [h] at this; cases this)]
  · rw [if_neg h, if_pos (e.mpr (by simpa using h))]
theorem and255 (n : Nat) : n &&& 255 = n % 256 := Nat.and_two_pow_sub_one_eq_mod n 8
theorem byte_bc (x : BitVec 64) (k : Nat) : ((x >>> k).setWidth 32 &&& 255#32) = BitVec.ofNat 32 ((x.toNat >>> k) % 256) := by
  apply BitVec.eq_of_toNat_eq
  rw [BitVec.toNat_and, BitVec.toNat_setWidth, BitVec.toNat_ushiftRight, BitVec.toNat_ofNat, BitVec.toNat_ofNat, show 255 % 2 ^ 32 = 255 from rfl, and255]
  omega
theorem byte_bm (x : BitVec 64) (k : Nat) (hk : k ≤ 56) : (x.sshiftRight k &&& 255#64) = BitVec.ofNat 64 ((x.toNat >>> k) % 256) := by
  have e : x.sshiftRight k &&& 255#64 = (x >>> k) &&& 255#64 := by
    apply BitVec.eq_of_getLsbD_eq
    intro i hi
    rw [BitVec.getLsbD_and, BitVec.getLsbD_and, BitVec.getLsbD_sshiftRight, BitVec.getLsbD_ushiftRight]
    by_cases h : i < 8
    · rw [if_pos (by omega), show decide (64 ≤ i) = false from decide_eq_false (by omega)]
      rfl
    · have : (255#64).getLsbD i = false := by
        rw [BitVec.getLsbD_ofNat, show (255 : Nat) = 2 ^ 8 - 1 from rfl, Nat.testBit_two_pow_sub_one]
        rw [decide_eq_false h, Bool.and_false]
      rw [this, Bool.and_false, Bool.and_false]
  rw [e]
  apply BitVec.eq_of_toNat_eq
  rw [BitVec.toNat_and, BitVec.toNat_ushiftRight, BitVec.toNat_ofNat, BitVec.toNat_ofNat, show 255 % 2 ^ 64 = 255 from rfl, and255]
  omega
def by8 (w : Int64) (i : Nat) : Nat := (w.toBitVec.toNat >>> (8 * i)) % 256
theorem byte_c (w : Int64) (i : Nat) (hi : i < 8) : ((((w).toUInt64 >>> (((8 : Int32) * nI i).toInt64.toUInt64 &&& Int64.toUInt64 63)).toInt64).toInt32) &&& (255 : Int32) = nI (by8 w i) := by
  apply Int32.toBitVec_inj.mp
  have key := byte_bc w.toBitVec (8 * i)
  rw [Int32.toBitVec_and]
  refine Eq.trans (congrArg (fun z => z &&& (255 : Int32).toBitVec) ?_) key
  rcases (show i = 0 ∨ i = 1 ∨ i = 2 ∨ i = 3 ∨ i = 4 ∨ i = 5 ∨ i = 6 ∨ i = 7 by omega) with rfl | rfl | rfl | rfl | rfl | rfl | rfl | rfl <;> (rw [Int64.toBitVec_toInt32, UInt64.toBitVec_toInt64, UInt64.toBitVec_shiftRight, Int64.toBitVec_toUInt64, BitVec.signExtend_eq_setWidth_of_le _ (by decide)]; rfl)
theorem byte_m (w : Int64) (i : Nat) (hi : i < 8) : (((w) >>> (((8 : Int32) * nI i).toInt64 &&& 63)) &&& (255 : Int64)) = lN (by8 w i) := by
  apply Int64.toBitVec_inj.mp
  have key := byte_bm w.toBitVec (8 * i) (by omega)
  rcases (show i = 0 ∨ i = 1 ∨ i = 2 ∨ i = 3 ∨ i = 4 ∨ i = 5 ∨ i = 6 ∨ i = 7 by omega) with rfl | rfl | rfl | rfl | rfl | rfl | rfl | rfl <;> exact key
def okB (w : Int64) (j : Nat) : Bool := decide (32 ≤ by8 w j ∧ by8 w j ≤ 126)
def allF (Q : Nat → Bool) : Nat → Nat → Bool
  | _, 0 => true
  | i, d + 1 => Q i && allF Q (i + 1) d
theorem allF_at {Q : Nat → Bool} : ∀ (d i : Nat), allF Q i d = true → ∀ j, i ≤ j → j < i + d → Q j = true
  | 0, i, _, j, h1, h2 => by omega
  | d + 1, i, h, j, h1, h2 => by
    unfold allF at h
    rw [Bool.and_eq_true] at h
    by_cases e : j = i
    · rw [e]; exact h.1
    · exact allF_at d (i + 1) h.2 j (by omega) (by omega)
theorem by8_lt (w : Int64) (j : Nat) : by8 w j < 256 := Nat.mod_lt _ (by decide)
theorem c_can_lp (F : Nat) (w : Int64) {n : Nat} (hn : n ≤ 8) (s : St) : ∀ (d i k : Nat), i + d = n → d < k → c_Tape_canHold_L2 F k w (nI n) (nI i) s = some (bz (allF (okB w) i d = true), s) := by
  intro d
  induction d with
  | zero =>
    intro i k hi hk
    obtain ⟨k, rfl⟩ : ∃ z, k = z + 1 := ⟨k - 1, by omega⟩
    show c_Tape_canHold_L2b F (c_Tape_canHold_L2 F k) w (nI n) (nI i) s = _
    unfold c_Tape_canHold_L2b
    rw [if_pos (nI_le (by omega) (by omega))]
    rfl
  | succ d ih =>
    intro i k hi hk
    obtain ⟨k, rfl⟩ : ∃ z, k = z + 1 := ⟨k - 1, by omega⟩
    show c_Tape_canHold_L2b F (c_Tape_canHold_L2 F k) w (nI n) (nI i) s = _
    unfold c_Tape_canHold_L2b c_Tape_byteOf
    have g0 : ¬ nI n ≤ nI i := by
      rw [leI (by omega) (by omega)]
      omega
    have hb := by8_lt w i
    rw [if_neg g0, gB2_mk, byte_c w i (by omega), c_isIn_eq, gB2_mk, bz_ite]
    have e1 : ((32 : Int32) ≤ nI (by8 w i) ∧ nI (by8 w i) ≤ 126) = (okB w i = true) := by
      unfold okB
      rw [decide_eq_true_eq, show (32 : Int32) = nI 32 from rfl, show (126 : Int32) = nI 126 from rfl, leI (by omega) (by omega), leI (by omega) (by omega)]
    unfold allF
    by_cases h : okB w i = true
    · rw [if_pos (e1.mpr h), show (1 : Int32) = nI 1 from rfl, nI_add, ih (i + 1) k (by omega) (by omega), h, Bool.true_and]
    · rw [if_neg (fun e => h (e1.mp e)), bz_f]
      rw [Bool.and_eq_true]
      exact fun e => h e.1
theorem m_can_lp (F : Nat) (w : Int64) {n : Nat} (hn : n ≤ 8) {m : St} {x : Int32} (hx : m.1 0 7 = x) : ∀ (d i k : Nat), i + d = n → d < k → m_type_L21 F k w (nI n) (nI i) m = if allF (okB w) i d = true then (if x + nI n ≤ 160 then m_type_L86 F F w (nI n - 1) m else gB2 (m_tells F (-3) m) fun r s => some (r, s)) else gB2 (m_tells F (-1) m) fun r s => some (r, s) := by
  intro d
  induction d with
  | zero =>
    intro i k hi hk
    obtain ⟨k, rfl⟩ : ∃ z, k = z + 1 := ⟨k - 1, by omega⟩
    show m_type_L21b F (m_type_L21 F k) w (nI n) (nI i) m = _
    unfold m_type_L21b
    rw [if_pos (nI_le (by omega) (by omega)), hx, if_pos (show allF (okB w) i 0 = true from rfl)]
  | succ d ih =>
    intro i k hi hk
    obtain ⟨k, rfl⟩ : ∃ z, k = z + 1 := ⟨k - 1, by omega⟩
    show m_type_L21b F (m_type_L21 F k) w (nI n) (nI i) m = _
    unfold m_type_L21b
    have g0 : ¬ nI n ≤ nI i := by
      rw [leI (by omega) (by omega)]
      omega
    have hb := by8_lt w i
    rw [if_neg g0, byte_m w i (by omega), m_in_eq, gB2_mk, bz_ite]
    have e1 : ((32 : Int64) ≤ lN (by8 w i) ∧ lN (by8 w i) ≤ 126) = (okB w i = true) := by
      unfold okB
      rw [decide_eq_true_eq, show (32 : Int64) = lN 32 from rfl, show (126 : Int64) = lN 126 from rfl, leL (by omega) (by omega), leL (by omega) (by omega)]
    unfold allF
    by_cases h : okB w i = true
    · rw [if_pos (e1.mpr h), show (1 : Int32) = nI 1 from rfl, nI_add, ih (i + 1) k (by omega) (by omega), h, Bool.true_and]
      rfl
    · rw [if_neg (fun e => h (e1.mp e)), if_neg]
      rw [Bool.and_eq_true]
      exact fun e => h e.1
theorem nar_ch : ∀ b, b < 127 → vp_nar .char (((nI b).toUInt32 % 65536).toInt32) = nI b := by decide
theorem sI_comm {s : St} {a j b k : Nat} {x y : Int32} (h : a ≠ b) : sI (sI s a j x) b k y = sI (sI s b k y) a j x := Prod.ext (funext fun q => by
  by_cases e1 : q = a
  · subst e1
    rw [sI1_ne h, sI1_eq, sI1_eq, sI1_ne h]
  · by_cases e2 : q = b
    · subst e2
      rw [sI1_eq, sI1_ne e1, sI1_ne e1, sI1_eq]
    · rw [sI1_ne e2, sI1_ne e1, sI1_ne e1, sI1_ne e2]) rfl
theorem Rel.tsize {n : Nat} {c m : St} (R : Rel n c m) : ∃ k, k ≤ 160 ∧ c.1 74 1 = nI k ∧ m.1 0 7 = nI k := by
  obtain ⟨k, h1, h2, h3, -⟩ := R.2.2.1
  exact ⟨k, h1, h2, h3⟩
theorem type_lp (F : Nat) (w : Int64) {n q : Nat} (hw : ∀ j, j < q → 32 ≤ by8 w j ∧ by8 w j ≤ 126) (hq : q ≤ 8) : ∀ (e t f g : Nat) (z : Int32) (c m : St), e ≤ q → e < f → e < g → z = nI e - 1 → t + e ≤ 160 → Rel n c m → c.1 74 1 = nI t → m.1 0 7 = nI t → ∃ c' m', c_Tape_append_L5 F f w z c = some (nI (t + e), c') ∧ m_type_L86 F g w z m = some (nI (t + e), m') ∧ Rel n c' m' := by
  intro e
  induction e with
  | zero =>
    intro t f g z c m he hf hg hz ht R s1 s2
    obtain ⟨f, rfl⟩ : ∃ z, f = z + 1 := ⟨f - 1, by omega⟩
    obtain ⟨g, rfl⟩ : ∃ z, g = z + 1 := ⟨g - 1, by omega⟩
    have hz0 : z < 0 := by rw [hz, neg_one_lt (by omega)]
    refine ⟨c, m, ?_, ?_, R⟩
    · show c_Tape_append_L5b F (c_Tape_append_L5 F f) w z c = _
      unfold c_Tape_append_L5b c_Tape_append_J49
      rw [if_pos hz0, s1]
      rfl
    · show m_type_L86b F (m_type_L86 F g) w z m = _
      unfold m_type_L86b
      rw [if_pos hz0, s2]
      rfl
  | succ e ih =>
    intro t f g z c m he hf hg hz ht R s1 s2
    obtain ⟨f, rfl⟩ : ∃ z, f = z + 1 := ⟨f - 1, by omega⟩
    obtain ⟨g, rfl⟩ : ∃ z, g = z + 1 := ⟨g - 1, by omega⟩
    have hz0 : ¬ z < 0 := by rw [hz, neg_one_lt (by omega)]; omega
    have hz1 : z = nI e := by rw [hz, show (1 : Int32) = nI 1 from rfl, subI (by omega), Nat.add_sub_cancel]
    obtain ⟨hb0, hb⟩ := hw e (by omega)
    have R2 := R.push (t := t) (by omega) s1 hb0 hb
    rw [← sI_comm (s := m) (by decide)] at R2
    obtain ⟨c', m', y1, y2, y3⟩ := ih (t + 1) f g (z + (-1)) _ _ (by omega) (by omega) (by omega) (by rw [hz1, m1_add]) (by omega) R2 (by rw [sI1_ne (by decide), sI1_eq, upd_eq]) (by rw [sI1_eq, upd_eq])
    rw [show t + 1 + e = t + (e + 1) by omega] at y1 y2
    refine ⟨c', m', ?_, ?_, y3⟩
    · show c_Tape_append_L5b F (c_Tape_append_L5 F f) w z c = _
      unfold c_Tape_append_L5b c_Tape_byteOf
      have g1 : ¬ (160 : Int32) ≤ nI t := by
        rw [show (160 : Int32) = nI 160 from rfl, leI (by omega) (by omega)]
        omega
      rw [if_neg hz0, s1, if_neg g1, gB2_mk, inb_nI (show t < 160 by omega) (by decide), if_pos rfl, cl_nI (by omega), show (1 : Int32) = nI 1 from rfl, nI_add]
      rw [hz1, byte_c w e (by omega), nar_ch _ (by omega), ← hz1]
      exact y1
    · show m_type_L86b F (m_type_L86 F g) w z m = _
      unfold m_type_L86b
      rw [if_neg hz0, s2, inb_nI (show t < 160 by omega) (by decide), if_pos rfl, cl_nI (by omega), sI1_ne (by decide), s2, show (1 : Int32) = nI 1 from rfl, nI_add]
      rw [hz1, byte_m w e (by omega), l2iN, ← hz1]
      exact y2
theorem p_type {n : Nat} {c m : St} (R : Rel n c m) (F : Nat) (hF : 3000 ≤ F) (w : Int64) (a : Int32) : SameR n (c_type F w a c) (m_type F w a m) := by
  unfold c_type c_type_J18 m_type c_Tape_canHold c_Tape_room c_Tape_append
  simp only [gB2_mk, gB_mk, bz_ite, bz_01, gB2_id, c_isCell_eq, c_isKind_eq, c_isSort_eq, c_isPart_eq, c_Sheets_isSheet_eq, c_Sheets_isLane_eq, m_isCell_eq, m_isKind_eq, m_isSort_eq, m_isSheet_eq, m_isLane_eq, c_isIn_eq, m_in_0_0, m_in_0_1, m_in_0_2, m_in_0_3, m_in_0_5, m_in_0_7, m_in_0_8, m_in_0_9, m_in_0_11, m_in_0_15, m_in_0_16, m_in_0_99, m_in_0_143, m_in_0_999, m_in_1_4, m_in_1_8, m_in_1_9, m_in_1_60, m_in_m1_3, m_in_m1_5]
  by_cases h1 : (1 : Int32) ≤ a ∧ a ≤ 8
  case neg =>
    simp only [if_neg h1]
    exact ref_t R F ok1
  simp only [if_pos h1]
  obtain ⟨q, q_lo, q_hi, rfl⟩ := in_nat (lo := 1) (hi := 8) (by decide) h1 (by decide)
  obtain ⟨t, t_hi, s1, s2⟩ := R.tsize
  rw [show c_Tape_canHold_L2 F F w (nI q) 0 c = some (bz (allF (okB w) 0 q = true), c) from c_can_lp F w q_hi c q 0 F (by omega) (by omega), gB2_mk, bz_ite]
  have e2 := m_can_lp F w q_hi s2 q 0 F (by omega) (by omega)
  rw [show (0 : Int32) = nI 0 from rfl, e2]
  by_cases h2 : allF (okB w) 0 q = true
  case neg =>
    rw [if_neg h2, if_neg h2, gB2_id]
    exact ref_t R F ok1
  rw [if_pos h2, if_pos h2, s1, show (160 : Int32) = nI 160 from rfl, subI (by omega), nI_add, itLe (by omega) (by omega), itLe (by omega) (by omega)]
  by_cases h3 : t + q ≤ 160
  · rw [if_pos (show q ≤ 160 - t by omega), if_pos h3]
    obtain ⟨c', m', y1, y2, y3⟩ := type_lp F w (n := n) (q := q) (fun j hj => by
      have := allF_at q 0 h2 j (by omega) (by omega)
      unfold okB at this
      exact of_decide_eq_true this) q_hi q t F F (nI q - 1) c m (by omega) (by omega) (by omega) rfl h3 R s1 s2
    rw [y1, y2]
    exact SameR.ret rfl y3
  · rw [if_neg (show ¬ q ≤ 160 - t by omega), if_neg h3, gB2_id]
    exact ref_t R F ok3
