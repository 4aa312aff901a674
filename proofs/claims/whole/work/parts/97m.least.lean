/-! the pure part: leaves, least -/
def bcN (x : Nat) : Nat → Nat
  | 0 => 0
  | d + 1 => bcN x d + (if x.testBit d = true then 1 else 0)
def bitC (x : Int32) : Int32 := match c_Integer_bitCount 0 x (fun _ _ => 0, fun _ _ => 0) with
  | some (r, _) => r
  | none => 0
set_option maxRecDepth 20000 in
theorem bc8 : ∀ x, x < 256 → bitC (nI x) = nI (bcN x 8) := by decide
theorem bcE (F : Nat) (s : St) {x : Nat} (h : x < 256) : c_Integer_bitCount F (nI x) s = some (nI (bcN x 8), s) := by
  rw [← bc8 x h]; rfl
set_option maxRecDepth 20000 in
theorem shr8 : ∀ m, m < 256 → ∀ j, j < 8 → ((nI m >>> (nI j &&& 31)) &&& 1) = nI (if m.testBit j = true then 1 else 0) := by decide
theorem shl31 : ∀ j, j < 31 → (1 : Int32) <<< (nI j &&& 31) = nI (2 ^ j) := by decide
theorem sh16 : ∀ k, k < 9 → (1 : Int64) <<< (((4 : Int32) * nI k).toInt64 &&& 63) = lN (16 ^ k) := by decide
def pL (K : Nat → Nat) (x : Nat) : Nat → Nat
  | 0 => 1
  | d + 1 => pL K x d * (if x.testBit d = true then 16 - K d else 1)
def pM (K : Nat → Nat) (x : Nat) : Nat → Nat
  | 0 => 1
  | d + 1 => pM K x d * (if x.testBit d = true then 16 - K d else 16)
def sU (U : Nat → Nat) (x : Nat) : Nat → Nat
  | 0 => 0
  | d + 1 => sU U x d + (if x.testBit d = true then U d else 0)
theorem bcN_le (x : Nat) : ∀ d, bcN x d ≤ d
  | 0 => Nat.le_refl _
  | d + 1 => by
    have := bcN_le x d
    unfold bcN
    split <;> omega
theorem pLM (K : Nat → Nat) (x : Nat) : ∀ d, pM K x d = pL K x d * 16 ^ (d - bcN x d)
  | 0 => rfl
  | d + 1 => by
    have h := pLM K x d
    have hb := bcN_le x d
    unfold pM pL bcN
    by_cases e : x.testBit d = true
    · rw [if_pos e, if_pos e, if_pos e, h, show d + 1 - (bcN x d + 1) = d - bcN x d by omega]
      rw [Nat.mul_assoc, Nat.mul_assoc, Nat.mul_comm (16 - K d)]
    · rw [if_neg e, if_neg e, if_neg e, h, show d + 1 - (bcN x d + 0) = d - bcN x d + 1 by omega, Nat.pow_succ, Nat.mul_one, Nat.mul_assoc]
theorem pM_le (K : Nat → Nat) (x : Nat) : ∀ d, pM K x d ≤ 16 ^ d
  | 0 => Nat.le_refl _
  | d + 1 => by
    have h := pM_le K x d
    unfold pM
    rw [Nat.pow_succ]
    exact Nat.mul_le_mul h (by split <;> omega)
theorem pL_le (K : Nat → Nat) (x d : Nat) : pL K x d ≤ 16 ^ bcN x d := by
  have h := pM_le K x d
  rw [pLM] at h
  have hb := bcN_le x d
  have e : (16 : Nat) ^ d = 16 ^ bcN x d * 16 ^ (d - bcN x d) := by
    rw [← Nat.pow_add]
    congr 1
    omega
  rw [e] at h
  exact Nat.le_of_mul_le_mul_right h (Nat.pow_pos (by decide))
theorem pow16 {d : Nat} (h : d ≤ 8) : 16 ^ d ≤ 4294967296 := Nat.pow_le_pow_right (n := 16) (by decide) h
theorem sU_le {U : Nat → Nat} (x : Nat) : ∀ d, d ≤ 8 → (∀ j, j < 8 → U j ≤ 15) → sU U x d ≤ 15 * d
  | 0, _, _ => Nat.le_refl _
  | d + 1, h, hU => by
    have := sU_le x d (by omega) hU
    have := hU d (by omega)
    unfold sU
    split <;> omega
theorem bcN_8 (x : Nat) {n : Nat} (hn : n ≤ 8) (hx : x < 2 ^ n) : ∀ d, n ≤ d → bcN x d = bcN x n := by
  intro d h
  induction d with
  | zero => rw [show n = 0 by omega]
  | succ d ih =>
    by_cases e : n = d + 1
    · rw [e]
    · rw [show bcN x (d + 1) = bcN x d + (if x.testBit d = true then 1 else 0) from rfl, ih (by omega), if_neg, Nat.add_zero]
      have hlt : x < 2 ^ d := Nat.lt_of_lt_of_le hx (Nat.pow_le_pow_right (by decide) (by omega))
      rw [Nat.testBit_lt_two_pow hlt]
      decide
def DoorC (K U : Nat → Nat) (n : Nat) (c : St) : Prop := c.1 32 2 = nI n ∧ ∀ j, j < 8 → K j ≤ 15 ∧ U j ≤ 15 ∧ c.1 33 j = nI (K j) ∧ c.1 34 j = nI (U j)
def DoorM (K U : Nat → Nat) (n : Nat) (m : St) : Prop := m.1 0 31 = nI n ∧ ∀ j, j < 8 → m.1 24 j = nI (K j) ∧ m.1 25 j = nI (U j)
theorem Rel.doors {N : Nat} {c m : St} (R : Rel N c m) : ∃ K U n, n ≤ 8 ∧ DoorC K U n c ∧ DoorM K U n m := by
  obtain ⟨n, hn, e1, e2⟩ := R.1.dc
  obtain ⟨K, hK⟩ := R.1.keeps.fn (by decide)
  obtain ⟨U, hU⟩ := R.1.shuts.fn (by decide)
  exact ⟨K, U, n, hn, ⟨e1, fun j hj => ⟨(hK j hj).1, (hU j hj).1, (hK j hj).2.1, (hU j hj).2.1⟩⟩, ⟨e2, fun j hj => ⟨(hK j hj).2.2, (hU j hj).2.2⟩⟩⟩
theorem c_left_lp (F : Nat) {K U : Nat → Nat} {n x : Nat} {c : St} (hn : n ≤ 8) (hx : x < 256) (D : DoorC K U n c) : ∀ (d i k : Nat), i + d = n → d < k → c_Door_left_L5 F k (nI x) (lN (pL K x i)) (nI i) c = some (lN (pL K x n), c) := by
  intro d
  induction d with
  | zero =>
    intro i k hi hk
    obtain ⟨k, rfl⟩ : ∃ z, k = z + 1 := ⟨k - 1, by omega⟩
    show c_Door_left_L5b F (c_Door_left_L5 F k) (nI x) (lN (pL K x i)) (nI i) c = _
    unfold c_Door_left_L5b
    rw [D.1, if_pos (nI_le (by omega) (by omega)), show i = n by omega]
  | succ d ih =>
    intro i k hi hk
    obtain ⟨k, rfl⟩ : ∃ z, k = z + 1 := ⟨k - 1, by omega⟩
    obtain ⟨k1, -, k3, -⟩ := D.2 i (by omega)
    show c_Door_left_L5b F (c_Door_left_L5 F k) (nI x) (lN (pL K x i)) (nI i) c = _
    unfold c_Door_left_L5b c_Door_left_J37
    have g0 : ¬ nI n ≤ nI i := by
      rw [leI (by omega) (by omega)]
      omega
    have key := ih (i + 1) k (by omega) (by omega)
    rw [pL] at key
    rw [D.1, if_neg g0, shl31 i (by omega), itBit (by omega), inb_nI (show i < 8 by omega) (by decide), cl_nI (by omega), k3, show (1 : Int32) = nI 1 from rfl, nI_add, show (16 : Int32) = nI 16 from rfl, subI (by omega), i2lN (by omega), lN_mul]
    by_cases e : x.testBit i = true
    · rw [if_pos e, if_pos rfl]
      rw [if_pos e] at key
      exact key
    · rw [if_neg e]
      rw [if_neg e, Nat.mul_one] at key
      exact key
theorem c_left (F : Nat) (hF : 3000 ≤ F) {K U : Nat → Nat} {n x : Nat} {c : St} (hn : n ≤ 8) (hx : x < 256) (D : DoorC K U n c) : c_Door_left F (nI x) c = some (lN (pL K x n), c) := c_left_lp F hn hx D n 0 F (by omega) (by omega)
theorem c_whole (F : Nat) {n x : Nat} {c : St} (hn : n ≤ 8) (hx : x < 2 ^ n) : c_Door_whole F (nI x) c = some (lN (16 ^ bcN x n), c) := by
  have h8 : (2 : Nat) ^ n ≤ 2 ^ 8 := Nat.pow_le_pow_right (by decide) hn
  unfold c_Door_whole
  have hb := bcN_le x 8
  rw [bcE F c (by omega), gB2_mk, sh16 _ (by omega), bcN_8 x hn hx 8 hn]
theorem m_left_lp (F : Nat) {K U : Nat → Nat} {n x : Nat} {m : St} (hn : n ≤ 8) (hx : x < 256) (hK : ∀ j, j < 8 → K j ≤ 15) (D : DoorM K U n m) : ∀ (d i k : Nat), i + d = n → d < k → m_leavesOf_L5 F k (nI x) (lN (pM K x i)) (nI i) m = some (lN (pM K x n), m) := by
  intro d
  induction d with
  | zero =>
    intro i k hi hk
    obtain ⟨k, rfl⟩ : ∃ z, k = z + 1 := ⟨k - 1, by omega⟩
    show m_leavesOf_L5b F (m_leavesOf_L5 F k) (nI x) (lN (pM K x i)) (nI i) m = _
    unfold m_leavesOf_L5b
    rw [D.1, if_pos (nI_le (by omega) (by omega)), show i = n by omega]
  | succ d ih =>
    intro i k hi hk
    obtain ⟨k, rfl⟩ : ∃ z, k = z + 1 := ⟨k - 1, by omega⟩
    obtain ⟨k3, -⟩ := D.2 i (by omega)
    have k1 := hK i (by omega)
    show m_leavesOf_L5b F (m_leavesOf_L5 F k) (nI x) (lN (pM K x i)) (nI i) m = _
    unfold m_leavesOf_L5b m_leavesOf_J42
    have g0 : ¬ nI n ≤ nI i := by
      rw [leI (by omega) (by omega)]
      omega
    have key := ih (i + 1) k (by omega) (by omega)
    rw [pM] at key
    rw [D.1, if_neg g0, shr8 x hx i (by omega), inb_nI (show i < 8 by omega) (by decide), cl_nI (by omega), k3, show (1 : Int32) = nI 1 from rfl, nI_add, show (16 : Int32) = nI 16 from rfl, subI (by omega), i2lN (by omega), lN_mul, show (16 : Int64) = lN 16 from rfl, lN_mul]
    by_cases e : x.testBit i = true
    · rw [if_pos e, if_pos rfl, if_pos rfl]
      rw [if_pos e] at key
      exact key
    · rw [if_neg e, if_neg (by decide)]
      rw [if_neg e] at key
      exact key
theorem m_left (F : Nat) (hF : 3000 ≤ F) {K U : Nat → Nat} {n x : Nat} {m : St} (hn : n ≤ 8) (hx : x < 256) (hK : ∀ j, j < 8 → K j ≤ 15) (D : DoorM K U n m) : m_leavesOf F (nI x) m = some (lN (pM K x n), m) := m_left_lp F hn hx hK D n 0 F (by omega) (by omega)
theorem scaled {x y s w : Nat} (hs : 0 < s) : (if w = 0 then x * s else y * s) / Nat.gcd (x * s) (y * s) = (if w = 0 then x else y) / Nat.gcd x y := by
  rw [Nat.gcd_mul_right]
  split <;> exact Nat.mul_div_mul_right _ _ hs
theorem pow16_split {n b : Nat} (h : b ≤ n) : 16 ^ n = 16 ^ b * 16 ^ (n - b) := by
  rw [← Nat.pow_add]
  congr 1
  omega
theorem p_leaves {N : Nat} {c m : St} (R : Rel N c m) (F : Nat) (hF : 3000 ≤ F) (a b : Int32) : SameR N (c_leaves F a b c) (m_leaves F a b m) := by
  unfold c_leaves c_leaves_J21 m_leaves m_leaves_J28 c_Door_isSet c_Door_isSet_J18
  obtain ⟨K, U, n, hn, DC, DM⟩ := R.doors
  have h8 : (2 : Nat) ^ n ≤ 2 ^ 8 := Nat.pow_le_pow_right (by decide) hn
  have h1' : 1 ≤ (2 : Nat) ^ n := Nat.one_le_two_pow
  rw [DM.1, DC.1, shl31 n (by omega), show (1 : Int32) = nI 1 from rfl, subI h1', show m_in F a.toInt64 (0 : Int64) (nI (2 ^ n - 1)).toInt64 m = some (bz ((0 : Int32) ≤ a ∧ a ≤ nI (2 ^ n - 1)), m) from m_in32 F a 0 _ m, gB2_mk, bz_ite]
  by_cases h1 : (0 : Int32) ≤ a ∧ a ≤ nI (2 ^ n - 1)
  case neg =>
    rw [if_neg h1]
    by_cases h2 : a < 0
    · rw [if_pos h2, gB2_mk, if_pos rfl, gB2_id]
      exact ref_s R F ok1 rfl
    · rw [if_neg h2, if_pos, gB2_mk, if_pos rfl, gB2_id]
      exact ref_s R F ok1 rfl
      apply Int32.not_lt.mp
      intro h3
      refine h1 ⟨Int32.not_lt.mp h2, ?_⟩
      rw [Int32.le_iff_toInt_le, tI (by omega)]
      rw [Int32.lt_iff_toInt_lt, tI (by omega)] at h3
      omega
  rw [if_pos h1]
  obtain ⟨x, -, x_hi, rfl⟩ := in_nat (lo := 0) (hi := 2 ^ n - 1) (by omega) h1 (by omega)
  have hx : x < 2 ^ n := by omega
  have g1 : ¬ nI x < 0 := by
    rw [show (0 : Int32) = nI 0 from rfl, ltI (by omega) (by omega)]
    omega
  have g2 : ¬ nI (2 ^ n) ≤ nI x := by
    rw [leI (by omega) (by omega)]
    omega
  rw [if_neg g1, if_neg g2, gB2_mk, if_neg (show ¬ nI 1 = 0 by decide)]
  simp only [gB2_mk, gB_mk, bz_ite, bz_01, gB2_id, c_isCell_eq, c_isKind_eq, c_isSort_eq, c_isPart_eq, c_Sheets_isSheet_eq, c_Sheets_isLane_eq, m_isCell_eq, m_isKind_eq, m_isSort_eq, m_isSheet_eq, m_isLane_eq, c_isIn_eq, m_in_0_0, m_in_0_1, m_in_0_2, m_in_0_3, m_in_0_5, m_in_0_7, m_in_0_8, m_in_0_9, m_in_0_11, m_in_0_15, m_in_0_16, m_in_0_99, m_in_0_143, m_in_0_999, m_in_1_4, m_in_1_8, m_in_1_9, m_in_1_60, m_in_m1_3, m_in_m1_5]
  by_cases h3 : (0 : Int32) ≤ b ∧ b ≤ 1
  case neg =>
    simp only [if_neg h3]
    exact ref_s R F ok1 rfl
  simp only [if_pos h3]
  obtain ⟨w, w_lo, w_hi, rfl⟩ := in_nat (lo := 0) (hi := 1) (by decide) h3 (by decide)
  rw [c_left F hF hn (by omega) DC, m_left F hF hn (by omega) (fun j hj => (DC.2 j hj).1) DM, gB2_mk, gB2_mk, c_whole F hn hx, gB2_mk, DM.1, sh16 n (by omega)]
  have q1 := pL_le K x n
  have q2 := bcN_le x n
  have q3 := pow16 (d := bcN x n) (by omega)
  have q4 := pow16 hn
  have q5 := pM_le K x n
  have q6 : 0 < 16 ^ bcN x n := Nat.pow_pos (by decide)
  have q7 : 0 < 16 ^ n := Nat.pow_pos (by decide)
  rw [c_low hF (by omega) (by omega) q6 w_hi, m_low hF (by omega) (by omega) q7 w_hi]
  refine SameR.ret ?_ R
  rw [pLM, pow16_split q2, scaled (Nat.pow_pos (by decide))]
/-- the least: a fold over the sets -/
def gfD (P : Nat → Bool) (S : Nat → Nat) : Nat → Nat → Option Nat → Option Nat
  | _, 0, a => a
  | i, d + 1, a => gfD P S (i + 1) d (if P i = true ∧ ∀ b, a = some b → S i < S b then some i else a)
theorem c_shut_lp (F : Nat) {K U : Nat → Nat} {n x : Nat} {c : St} (hn : n ≤ 8) (hx : x < 256) (D : DoorC K U n c) : ∀ (d i k : Nat), i + d = n → d < k → c_Door_shutIn_L4 F k (nI x) (nI (sU U x i)) (nI i) c = some (nI (sU U x n), c) := by
  intro d
  induction d with
  | zero =>
    intro i k hi hk
    obtain ⟨k, rfl⟩ : ∃ z, k = z + 1 := ⟨k - 1, by omega⟩
    show c_Door_shutIn_L4b F (c_Door_shutIn_L4 F k) (nI x) (nI (sU U x i)) (nI i) c = _
    unfold c_Door_shutIn_L4b
    rw [D.1, if_pos (nI_le (by omega) (by omega)), show i = n by omega]
  | succ d ih =>
    intro i k hi hk
    obtain ⟨k, rfl⟩ : ∃ z, k = z + 1 := ⟨k - 1, by omega⟩
    obtain ⟨-, k1, -, k3⟩ := D.2 i (by omega)
    show c_Door_shutIn_L4b F (c_Door_shutIn_L4 F k) (nI x) (nI (sU U x i)) (nI i) c = _
    unfold c_Door_shutIn_L4b c_Door_shutIn_J29
    have g0 : ¬ nI n ≤ nI i := by
      rw [leI (by omega) (by omega)]
      omega
    have key := ih (i + 1) k (by omega) (by omega)
    rw [sU] at key
    rw [D.1, if_neg g0, shl31 i (by omega), itBit (by omega), inb_nI (show i < 8 by omega) (by decide), cl_nI (by omega), k3, show (1 : Int32) = nI 1 from rfl, nI_add, nI_add]
    by_cases e : x.testBit i = true
    · rw [if_pos e, if_pos rfl]
      rw [if_pos e] at key
      exact key
    · rw [if_neg e]
      rw [if_neg e, Nat.add_zero] at key
      exact key
theorem c_shut (F : Nat) (hF : 3000 ≤ F) {K U : Nat → Nat} {n x : Nat} {c : St} (hn : n ≤ 8) (hx : x < 256) (D : DoorC K U n c) : c_Door_shutIn F (nI x) c = some (nI (sU U x n), c) := c_shut_lp F hn hx D n 0 F (by omega) (by omega)
def okD (K : Nat → Nat) (n a x : Nat) : Bool := decide (pL K x n * 16 ≤ 16 ^ bcN x n * a)
theorem c_mild_lp (F : Nat) (hF : 3000 ≤ F) {z : Int32} (hz : z < 0) {K U : Nat → Nat} {n a : Nat} {c : St} (hn : n ≤ 8) (ha : a ≤ 16) (D : DoorC K U n c) : ∀ (d i k : Nat) (b : Option Nat), i + d = 2 ^ n → d < k → (∀ q, b = some q → q < 2 ^ n) → c_Door_mildest_L4 F k (nI a) (enc z b) (nI i) c = some (enc z (gfD (okD K n a) (fun x => sU U x n) i d b), c) := by
  have h8 : (2 : Nat) ^ n ≤ 2 ^ 8 := Nat.pow_le_pow_right (by decide) hn
  intro d
  induction d with
  | zero =>
    intro i k b hi hk hb
    obtain ⟨k, rfl⟩ : ∃ z, k = z + 1 := ⟨k - 1, by omega⟩
    show c_Door_mildest_L4b F (c_Door_mildest_L4 F k) (nI a) (enc z b) (nI i) c = _
    unfold c_Door_mildest_L4b
    rw [D.1, shl31 n (by omega), if_pos (nI_le (by omega) (by omega))]
    rfl
  | succ d ih =>
    intro i k b hi hk hb
    obtain ⟨k, rfl⟩ : ∃ z, k = z + 1 := ⟨k - 1, by omega⟩
    show c_Door_mildest_L4b F (c_Door_mildest_L4 F k) (nI a) (enc z b) (nI i) c = _
    unfold c_Door_mildest_L4b c_Door_mildest_J55 c_Door_mildest_J57 gfD
    have g0 : ¬ nI (2 ^ n) ≤ nI i := by
      rw [leI (by omega) (by omega)]
      omega
    have q1 := pL_le K i n
    have q3 := pow16 (d := bcN i n) (Nat.le_trans (bcN_le i n) hn)
    have q4 : 16 ^ bcN i n * a ≤ 4294967296 * 16 := Nat.mul_le_mul q3 ha
    rw [D.1, shl31 n (by omega), if_neg g0, c_left F hF hn (by omega) D, gB2_mk, c_whole F hn (by omega), gB2_mk, show (16 : Int64) = lN 16 from rfl, lN_mul, i2lN (by omega), lN_mul, lgLe (by omega) (by omega), show (1 : Int32) = nI 1 from rfl, nI_add]
    by_cases h1 : pL K i n * 16 ≤ 16 ^ bcN i n * a
    · have h1' : okD K n a i = true := decide_eq_true h1
      rw [if_pos h1]
      cases b with
      | none =>
        rw [if_pos (show enc z none < 0 from hz), if_pos ⟨h1', fun _ h => nomatch h⟩]
        exact ih (i + 1) k (some i) (by omega) (by omega) (fun q hq => by cases hq; omega)
      | some q =>
        have hq := hb q rfl
        have gq : ¬ enc z (some q) < 0 := by
          show ¬ nI q < 0
          rw [show (0 : Int32) = nI 0 from rfl, ltI (by omega) (by omega)]
          omega
        have hs1 := sU_le i n hn (fun j hj => (D.2 j hj).2.1)
        have hs2 := sU_le q n hn (fun j hj => (D.2 j hj).2.1)
        rw [if_neg gq, c_shut F hF hn (by omega) D, gB2_mk, show enc z (some q) = nI q from rfl, c_shut F hF hn (by omega) D, gB2_mk, itLe (by omega) (by omega)]
        by_cases h2 : sU U q n ≤ sU U i n
        · rw [if_pos h2, if_neg (fun h => by have := h.2 q rfl; omega)]
          exact ih (i + 1) k (some q) (by omega) (by omega) hb
        · rw [if_neg h2, if_pos ⟨h1', fun u hu => by cases hu; omega⟩]
          exact ih (i + 1) k (some i) (by omega) (by omega) (fun q hq => by cases hq; omega)
    · have h1' : ¬ okD K n a i = true := fun h => h1 (of_decide_eq_true h)
      rw [if_neg h1, if_neg (fun h => h1' h.1)]
      exact ih (i + 1) k b (by omega) (by omega) hb
theorem okD_M {K : Nat → Nat} {n a x : Nat} : (a * 16 ^ n < pM K x n * 16) = ¬ okD K n a x = true := by
  unfold okD
  rw [decide_eq_true_eq, pLM, pow16_split (bcN_le x n)]
  generalize 16 ^ bcN x n = B
  have hp : 0 < 16 ^ (n - bcN x n) := Nat.pow_pos (by decide)
  generalize 16 ^ (n - bcN x n) = T at *
  rw [Nat.not_le, show a * (B * T) = B * a * T by rw [Nat.mul_comm B a, Nat.mul_assoc], show pL K x n * T * 16 = pL K x n * 16 * T by rw [Nat.mul_assoc, Nat.mul_comm T 16, Nat.mul_assoc]]
  exact propext ⟨fun h => Nat.lt_of_mul_lt_mul_right h, fun h => Nat.mul_lt_mul_of_pos_right h hp⟩
theorem m_shut_lp (F : Nat) (k37 : Int32 → Int32 → Int32 → Int32 → Int32 → St → Option (Int32 × St)) {K U : Nat → Nat} {n x : Nat} {m : St} (hn : n ≤ 8) (hx : x < 256) (D : DoorM K U n m) (x1 x2 x3 x4 : Int32) : ∀ (d i k : Nat), i + d = n → d < k → m_least_L54 F k37 k x1 x2 x3 x4 (nI x) (nI (sU U x i)) (nI i) m = m_least_L54b F k37 (fun _ _ _ _ _ _ _ _ => none) x1 x2 x3 x4 (nI x) (nI (sU U x n)) (nI n) m := by
  intro d
  induction d with
  | zero =>
    intro i k hi hk
    obtain ⟨k, rfl⟩ : ∃ z, k = z + 1 := ⟨k - 1, by omega⟩
    rw [show i = n by omega]
    show m_least_L54b F k37 (m_least_L54 F k37 k) x1 x2 x3 x4 (nI x) (nI (sU U x n)) (nI n) m = _
    unfold m_least_L54b
    rw [D.1, if_pos (Int32.le_refl _), if_pos (Int32.le_refl _)]
  | succ d ih =>
    intro i k hi hk
    obtain ⟨k, rfl⟩ : ∃ z, k = z + 1 := ⟨k - 1, by omega⟩
    obtain ⟨-, k3⟩ := D.2 i (by omega)
    have key := ih (i + 1) k (by omega) (by omega)
    rw [← key]
    show m_least_L54b F k37 (m_least_L54 F k37 k) x1 x2 x3 x4 (nI x) (nI (sU U x i)) (nI i) m = _
    rw [m_least_L54b]
    have g0 : ¬ nI n ≤ nI i := by
      rw [leI (by omega) (by omega)]
      omega
    rw [D.1, if_neg g0, shr8 x hx i (by omega), inb_nI (show i < 8 by omega) (by decide), if_pos rfl, cl_nI (by omega), k3, show (1 : Int32) = nI 1 from rfl, nI_add, mulI, nI_add]
    have e : sU U x (i + 1) = sU U x i + (if x.testBit i = true then 1 else 0) * U i := by
      rw [sU]
      split
      · rw [Nat.one_mul]
      · rw [Nat.zero_mul]
    rw [e]
theorem m_least_lp (F : Nat) (hF : 3000 ≤ F) {K U : Nat → Nat} {n a : Nat} {x2 : Int32} {m : St} (hn : n ≤ 8) (ha : a ≤ 16) (hK : ∀ j, j < 8 → K j ≤ 15 ∧ U j ≤ 15) (D : DoorM K U n m) : ∀ (d i k : Nat) (b : Option Nat) (y : Nat), i + d = 2 ^ n → d < k → (∀ q, b = some q → q < 2 ^ n ∧ y = sU U q n) → m_least_L37 F k (nI a) x2 (enc (-4) b) (nI y) (nI i) m = match gfD (okD K n a) (fun x => sU U x n) i d b with
    | none => gB2 (m_tells F (-4) m) fun r s => some (r, s)
    | some q => some (if x2 = 0 then nI q else nI (sU U q n), m) := by
  have h8 : (2 : Nat) ^ n ≤ 2 ^ 8 := Nat.pow_le_pow_right (by decide) hn
  intro d
  induction d with
  | zero =>
    intro i k b y hi hk hb
    obtain ⟨k, rfl⟩ : ∃ z, k = z + 1 := ⟨k - 1, by omega⟩
    show m_least_L37b F (m_least_L37 F k) (nI a) x2 (enc (-4) b) (nI y) (nI i) m = _
    unfold m_least_L37b gfD
    rw [D.1, shl31 n (by omega), if_pos (nI_le (by omega) (by omega))]
    cases b with
    | none => rw [if_neg (show ¬ (0 : Int32) ≤ enc (-4) none by decide)]
    | some q =>
      obtain ⟨hq, hy⟩ := hb q rfl
      rw [if_pos (show (0 : Int32) ≤ enc (-4) (some q) from nI_le (a := 0) (Nat.zero_le _) (by omega)), hy]
      show (if x2 = 0 then some (nI q, m) else some (nI (sU U q n), m)) = some (if x2 = 0 then nI q else nI (sU U q n), m)
      split <;> rfl
  | succ d ih =>
    intro i k b y hi hk hb
    obtain ⟨k, rfl⟩ : ∃ z, k = z + 1 := ⟨k - 1, by omega⟩
    show m_least_L37b F (m_least_L37 F k) (nI a) x2 (enc (-4) b) (nI y) (nI i) m = _
    rw [m_least_L37b, gfD]
    have g0 : ¬ nI (2 ^ n) ≤ nI i := by
      rw [leI (by omega) (by omega)]
      omega
    have q1 := pM_le K i n
    have q3 := pow16 hn
    have q4 : a * 16 ^ n ≤ 16 * 4294967296 := Nat.mul_le_mul ha q3
    have hs1 := sU_le i n hn (fun j hj => (hK j hj).2)
    rw [D.1, shl31 n (by omega), if_neg g0]
    have e1 := m_shut_lp F (m_least_L37 F k) (n := n) (x := i) hn (by omega) D (nI a) x2 (enc (-4) b) (nI y) n 0 F (by omega) (by omega)
    rw [show m_least_L54 F (m_least_L37 F k) F (nI a) x2 (enc (-4) b) (nI y) (nI i) 0 0 m = _ from e1]
    unfold m_least_L54b m_least_J129 m_least_J125 m_least_J130 m_least_J143 m_least_J156
    rw [D.1, if_pos (Int32.le_refl _), m_left F hF hn (by omega) (fun j hj => (hK j hj).1) D, gB2_mk, D.1, sh16 n (by omega), show (16 : Int64) = lN 16 from rfl, lN_mul, i2lN (by omega), lN_mul, lgGt (by omega) (by omega), show (1 : Int32) = nI 1 from rfl, nI_add]
    have k0 : (0 : Int32) = 0 := rfl
    have k1 : ¬ nI 1 = 0 := by decide
    by_cases h1 : okD K n a i = true
    · rw [if_neg (fun h => (okD_M.mp h) h1)]
      cases b with
      | none =>
        rw [if_pos (show enc (-4) none < 0 by decide), if_neg k1, if_neg k1, if_pos ⟨h1, fun _ h => nomatch h⟩]
        exact ih (i + 1) k (some i) _ (by omega) (by omega) (fun q hq => by cases hq; exact ⟨by omega, rfl⟩)
      | some q =>
        obtain ⟨hq, hy⟩ := hb q rfl
        have gq : ¬ enc (-4) (some q) < 0 := by
          show ¬ nI q < 0
          rw [show (0 : Int32) = nI 0 from rfl, ltI (by omega) (by omega)]
          omega
        have hs2 := sU_le q n hn (fun j hj => (hK j hj).2)
        rw [if_neg gq, hy, itLe (by omega) (by omega)]
        by_cases h2 : sU U q n ≤ sU U i n
        · rw [if_pos h2, if_pos k0, if_pos k0, if_neg (fun h => by have := h.2 q rfl; omega), ← hy]
          exact ih (i + 1) k (some q) y (by omega) (by omega) hb
        · rw [if_neg h2, if_neg k1, if_neg k1, if_pos ⟨h1, fun z hz => by cases hz; omega⟩]
          exact ih (i + 1) k (some i) _ (by omega) (by omega) (fun q hq => by cases hq; exact ⟨by omega, rfl⟩)
    · rw [if_pos (okD_M.mpr h1), if_pos k0, if_pos k0, if_neg (fun h => h1 h.1)]
      exact ih (i + 1) k b y (by omega) (by omega) hb
theorem gfD_bd {P : Nat → Bool} {S : Nat → Nat} : ∀ (d i : Nat) (a : Option Nat) (q : Nat), gfD P S i d a = some q → a = some q ∨ q < i + d
  | 0, _, _, _, h => Or.inl h
  | d + 1, i, a, q, h => by
    rw [gfD] at h
    rcases gfD_bd d (i + 1) _ q h with h | h
    · split at h
      · cases h
        exact Or.inr (by omega)
      · exact Or.inl h
    · exact Or.inr (by omega)
theorem p_least {N : Nat} {c m : St} (R : Rel N c m) (F : Nat) (hF : 3000 ≤ F) (a b : Int32) : SameR N (c_least F a b c) (m_least F a b m) := by
  unfold c_least c_least_J19 m_least m_least_J22 c_Door_mildest
  simp only [gB2_mk, gB_mk, bz_ite, bz_01, gB2_id, c_isCell_eq, c_isKind_eq, c_isSort_eq, c_isPart_eq, c_Sheets_isSheet_eq, c_Sheets_isLane_eq, m_isCell_eq, m_isKind_eq, m_isSort_eq, m_isSheet_eq, m_isLane_eq, c_isIn_eq, m_in_0_0, m_in_0_1, m_in_0_2, m_in_0_3, m_in_0_5, m_in_0_7, m_in_0_8, m_in_0_9, m_in_0_11, m_in_0_15, m_in_0_16, m_in_0_99, m_in_0_143, m_in_0_999, m_in_1_4, m_in_1_8, m_in_1_9, m_in_1_60, m_in_m1_3, m_in_m1_5]
  by_cases h1 : (0 : Int32) ≤ a ∧ a ≤ 16
  case neg =>
    simp only [if_neg h1]
    exact ref_t R F ok1
  simp only [if_pos h1]
  obtain ⟨x, x_lo, x_hi, rfl⟩ := in_nat (lo := 0) (hi := 16) (by decide) h1 (by decide)
  by_cases h2 : (0 : Int32) ≤ b ∧ b ≤ 1
  case neg =>
    simp only [if_neg h2]
    exact ref_t R F ok1
  simp only [if_pos h2]
  obtain ⟨w, w_lo, w_hi, rfl⟩ := in_nat (lo := 0) (hi := 1) (by decide) h2 (by decide)
  obtain ⟨K, U, n, hn, DC, DM⟩ := R.doors
  have h8 : (2 : Nat) ^ n ≤ 2 ^ 8 := Nat.pow_le_pow_right (by decide) hn
  have e1 := c_mild_lp F hF (z := -1) (by decide) hn x_hi DC (2 ^ n) 0 F none (by omega) (by omega) (fun _ h => nomatch h)
  have e2 := m_least_lp F hF (x2 := nI w) hn x_hi (fun j hj => ⟨(DC.2 j hj).1, (DC.2 j hj).2.1⟩) DM (2 ^ n) 0 F none 0 (by omega) (by omega) (fun _ h => nomatch h)
  rw [show c_Door_mildest_L4 F F (nI x) (-1) 0 c = _ from e1, gB2_mk, show m_least_L37 F F (nI x) (nI w) (-4) 0 0 m = _ from e2]
  cases hb : gfD (okD K n x) (fun x => sU U x n) 0 (2 ^ n) none with
  | none =>
    rw [if_neg (show ¬ (0 : Int32) ≤ enc (-1) none by decide)]
    show SameR N _ (gB2 (m_tells F (-4) m) fun r s => some (r, s))
    rw [gB2_id]
    exact ref_t R F ok4
  | some q =>
    have hq : q < 2 ^ n := by
      rcases gfD_bd _ _ _ _ hb with h | h
      · exact nomatch h
      · omega
    rw [if_pos (show (0 : Int32) ≤ enc (-1) (some q) from nI_le (a := 0) (Nat.zero_le _) (by omega)), show enc (-1) (some q) = nI q from rfl, c_shut F hF hn (by omega) DC]
    show SameR N (if nI w = 0 then some (nI q, c) else some (nI (sU U q n), c)) (some (if nI w = 0 then nI q else nI (sU U q n), m))
    by_cases h0 : nI w = 0
    · rw [if_pos h0, if_pos h0]
      exact SameR.ret rfl R
    · rw [if_neg h0, if_neg h0]
      exact SameR.ret rfl R
