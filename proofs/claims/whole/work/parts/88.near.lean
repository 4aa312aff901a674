/-! the pure part: near, again, call, truly -/
def dN (a b : Nat) : Nat := if a ≤ b then b - a else a - b
theorem dN_comm (a b : Nat) : dN a b = dN b a := by
  unfold dN
  split <;> split <;> omega
theorem dN_le {a b k : Nat} (ha : a ≤ k) (hb : b ≤ k) : dN a b ≤ k := by
  unfold dN
  split <;> omega
theorem tI {a : Nat} (h : a < 2 ^ 31) : (nI a).toInt = (a : Int) := nI_toInt h
theorem subT {a b : Nat} (ha : a < 2 ^ 30) (hb : b < 2 ^ 30) : (nI a - nI b).toInt = (a : Int) - b := by
  rw [fb_subI (by rw [tI (by omega), tI (by omega)]; omega) (by rw [tI (by omega), tI (by omega)]; omega), tI (by omega), tI (by omega)]
theorem abs_sub {a b : Nat} (ha : a < 2 ^ 30) (hb : b < 2 ^ 30) : gMabs (nI a - nI b) = nI (dN a b) := by
  have e := subT ha hb
  unfold gMabs dN
  by_cases h : a ≤ b
  · rw [if_pos h]
    by_cases h2 : a = b
    · subst h2
      rw [if_pos (by rw [Int32.le_iff_toInt_le, e, show (0 : Int32).toInt = 0 by decide]; omega), subI h]
    · rw [if_neg (by rw [Int32.le_iff_toInt_le, e, show (0 : Int32).toInt = 0 by decide]; omega)]
      apply Int32.toInt_inj.mp
      rw [fb_subI (by rw [e, show (0 : Int32).toInt = 0 by decide]; omega) (by rw [e, show (0 : Int32).toInt = 0 by decide]; omega), e, show (0 : Int32).toInt = 0 by decide, tI (by omega)]
      omega
  · rw [if_neg h, if_pos (by rw [Int32.le_iff_toInt_le, e, show (0 : Int32).toInt = 0 by decide]; omega), subI (by omega)]
theorem size_sub (F : Nat) (s : St) {a b : Nat} (ha : a < 2 ^ 30) (hb : b < 2 ^ 30) : m_size F (nI a - nI b) s = some (nI (dN a b), s) := by
  have e := subT ha hb
  unfold m_size dN
  by_cases h : a ≤ b
  · rw [if_pos h]
    by_cases h2 : a = b
    · subst h2
      rw [if_pos (by rw [Int32.le_iff_toInt_le, e, show (0 : Int32).toInt = 0 by decide]; omega), subI h]
    · rw [if_neg (by rw [Int32.le_iff_toInt_le, e, show (0 : Int32).toInt = 0 by decide]; omega)]
      congr 2
      apply Int32.toInt_inj.mp
      rw [fb_negI (by rw [e]; omega), e, tI (by omega)]
      omega
  · rw [if_neg h, if_pos (by rw [Int32.le_iff_toInt_le, e, show (0 : Int32).toInt = 0 by decide]; omega), subI (by omega)]
theorem div12 {a : Nat} (h : a < 2 ^ 31) : nI a / nI 12 = nI (a / 12) := divI h (by decide) (by decide)
theorem rem12 {a : Nat} (h : a < 2 ^ 31) : nI a - nI (a / 12) * nI 12 = nI (a % 12) := remI h (by decide) (by decide)
theorem rem12' {a : Nat} (h : a < 2 ^ 31) : nI a - nI (a / 12 * 12) = nI (a % 12) := by rw [← mulI]; exact rem12 h
def rowA (a b : Nat) : Nat := dN (a / 12) (b / 12)
def colA (a b : Nat) : Nat := dN (a % 12) (b % 12)
theorem rowA_comm (a b : Nat) : rowA a b = rowA b a := dN_comm _ _
theorem colA_comm (a b : Nat) : colA a b = colA b a := dN_comm _ _
theorem rowA_le {a b : Nat} (ha : a < 144) (hb : b < 144) : rowA a b ≤ 11 := dN_le (by omega) (by omega)
theorem colA_le {a b : Nat} : colA a b ≤ 11 := dN_le (by omega) (by omega)
theorem c_rows (F : Nat) (s : St) {a b : Nat} (ha : a < 144) (hb : b < 144) : c_Land_rowsApart F (nI a) (nI b) s = some (nI (rowA a b), s) := by
  unfold c_Land_rowsApart
  rw [show (12 : Int32) = nI 12 from rfl, div12 (by omega), div12 (by omega), abs_sub (by omega) (by omega)]
  rfl
theorem c_cols (F : Nat) (s : St) {a b : Nat} (ha : a < 144) (hb : b < 144) : c_Land_columnsApart F (nI a) (nI b) s = some (nI (colA a b), s) := by
  unfold c_Land_columnsApart
  rw [show (12 : Int32) = nI 12 from rfl, div12 (by omega), div12 (by omega), rem12 (by omega), rem12 (by omega), abs_sub (by omega) (by omega)]
  rfl
def near (d a b : Nat) : Bool := decide (rowA a b ≤ d ∧ colA a b ≤ d)
theorem c_near (F : Nat) (s : St) {a b d : Nat} (ha : a < 144) (hb : b < 144) (hd : d ≤ 9) : c_Land_isNear F (nI a) (nI b) (nI d) s = some (bz (near d a b = true), s) := by
  unfold c_Land_isNear c_Land_isNear_J22
  have h1 := rowA_le ha hb
  have h2 := colA_le (a := a) (b := b)
  rw [c_rows F s ha hb, gB2_mk, c_cols F s ha hb, gB2_mk]
  simp (disch := omega) only [fa_lit, fa_litL, leI, ltI, eqI, leL, ltL, eqL, cq_lt, cq_le, cq_gt, cq_ge, cq_eq, mulI, nI_add, lN_add, lN_mul, inb_iff, cl_nI, i2lN, l2iN]
  unfold near
  by_cases g1 : d < rowA a b
  · rw [if_pos g1, bz_f (by rw [decide_eq_true_eq]; omega)]
    rfl
  · rw [if_neg g1]
    by_cases g2 : d < colA a b
    · rw [if_pos g2, bz_f (by rw [decide_eq_true_eq]; omega)]
      rfl
    · rw [if_neg g2, bz_t (by rw [decide_eq_true_eq]; omega)]
      rfl
theorem m_apart_eq (F : Nat) (s : St) {a b : Nat} (ha : a < 144) (hb : b < 144) : m_apart F (nI a) (nI b) s = some (nI (if rowA a b ≤ colA a b then colA a b else rowA a b), s) := by
  unfold m_apart
  have h1 := rowA_le ha hb
  have h2 := colA_le (a := a) (b := b)
  rw [show (12 : Int32) = nI 12 from rfl, div12 (by omega), div12 (by omega), size_sub F s (by omega) (by omega), gB2_mk, rem12 (by omega), rem12 (by omega), size_sub F s (by omega) (by omega), gB2_mk]
  show (if nI (rowA a b) ≤ nI (colA a b) then some (nI (colA a b), s) else some (nI (rowA a b), s)) = _
  simp (disch := omega) only [fa_lit, fa_litL, leI, ltI, eqI, leL, ltL, eqL, cq_lt, cq_le, cq_gt, cq_ge, cq_eq, mulI, nI_add, lN_add, lN_mul, inb_iff, cl_nI, i2lN, l2iN]
  split <;> rfl
theorem apart_near {a b d : Nat} (ha : a < 144) (hb : b < 144) (hd : d ≤ 9) : (nI (if rowA a b ≤ colA a b then colA a b else rowA a b) ≤ nI d) = (near d b a = true) := by
  have h1 := rowA_le ha hb
  have h2 := colA_le (a := a) (b := b)
  have e : (if rowA a b ≤ colA a b then colA a b else rowA a b) ≤ 11 := by split <;> omega
  rw [leI (by omega) (by omega), near, decide_eq_true_eq, rowA_comm b a, colA_comm b a]
  apply propext
  split <;> omega
/-- one less than a natural number -/
def dL (v : Nat) : Int64 := lN v - lN 1
theorem dL_1 (v : Nat) : dL (v + 1) = lN v := by
  unfold dL
  rw [subL (by omega)]
  rfl
theorem lNt {a : Nat} (h : a < 2 ^ 63) : (lN a).toInt = (a : Int) := lg_ofNat_toInt (by omega)
theorem dL_t {v : Nat} (h : v < 2 ^ 62) : (dL v).toInt = (v : Int) - 1 := by
  unfold dL
  rw [fb_subL (by rw [lNt (by omega), lNt (by omega)]; omega) (by rw [lNt (by omega), lNt (by omega)]; omega), lNt (by omega), lNt (by omega)]
  rfl
theorem le_dL {r v : Nat} (hr : r < 2 ^ 62) (hv : v < 2 ^ 62) : (lN r ≤ dL v) = (r < v) := by
  rw [Int64.le_iff_toInt_le, dL_t hv, lNt (by omega)]
  apply propext
  omega
theorem dL_le {r v : Nat} (hr : r < 2 ^ 62) (hv : v < 2 ^ 62) : (dL r ≤ dL v) = (r ≤ v) := by
  rw [Int64.le_iff_toInt_le, dL_t hv, dL_t hr]
  apply propext
  omega
