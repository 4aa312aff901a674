/-! the pure part: what a team would see; bound -/
/-- two states that differ only in these cells -/
def Only (I J : List Nat) (s s' : St) : Prop := (∀ q, q ∉ I → s'.1 q = s.1 q) ∧ (∀ q, q ∉ J → s'.2 q = s.2 q)
theorem Only.refl (I J : List Nat) (s : St) : Only I J s s := ⟨fun _ _ => rfl, fun _ _ => rfl⟩
theorem Only.trans {I J : List Nat} {a b c : St} (h : Only I J a b) (h2 : Only I J b c) : Only I J a c := ⟨fun q hq => (h2.1 q hq).trans (h.1 q hq), fun q hq => (h2.2 q hq).trans (h.2 q hq)⟩
theorem Only.sI {I J : List Nat} (s : St) {k : Nat} (hk : k ∈ I) (j : Nat) (x : Int32) : Only I J s (sI s k j x) := ⟨fun i hi => if_neg (fun e : i = k => hi (e ▸ hk)), fun _ _ => rfl⟩
theorem Only.sJ {I J : List Nat} (s : St) {k : Nat} (hk : k ∈ J) (j : Nat) (x : Int64) : Only I J s (sJ s k j x) := ⟨fun _ _ => rfl, fun i hi => if_neg (fun e : i = k => hi (e ▸ hk))⟩
def IC : List Nat := [13, 20, 21, 26, 27, 69, 70, 72, 73]
def JC : List Nat := [12, 14, 19, 22, 69]
def IM : List Nat := [8, 19, 20, 26]
def JM : List Nat := [10, 15, 32]
theorem Rel.frameC {n : Nat} {c m c' : St} (R : Rel n c m) (h : Only IC JC c c') : Rel n c' m := by
  have hv : vC c' = vC c := by
    unfold vC
    simp only [h.1 3 (by decide), h.1 4 (by decide), h.1 5 (by decide), h.1 7 (by decide), h.1 8 (by decide), h.1 15 (by decide), h.1 16 (by decide), h.1 17 (by decide), h.1 18 (by decide), h.1 23 (by decide), h.1 24 (by decide), h.1 25 (by decide), h.1 29 (by decide), h.1 30 (by decide), h.1 31 (by decide), h.1 33 (by decide), h.1 34 (by decide), h.1 9 (by decide), h.1 14 (by decide), h.1 22 (by decide), h.1 28 (by decide), h.1 32 (by decide), h.2 11 (by decide), h.2 10 (by decide)]
  have hk : vK c' = vK c := by
    unfold vK
    simp only [h.1 37 (by decide), h.1 38 (by decide), h.1 39 (by decide), h.1 41 (by decide), h.1 42 (by decide), h.1 49 (by decide), h.1 50 (by decide), h.1 51 (by decide), h.1 52 (by decide), h.1 57 (by decide), h.1 58 (by decide), h.1 59 (by decide), h.1 63 (by decide), h.1 64 (by decide), h.1 65 (by decide), h.1 67 (by decide), h.1 68 (by decide), h.1 43 (by decide), h.1 48 (by decide), h.1 56 (by decide), h.1 62 (by decide), h.1 66 (by decide), h.2 45 (by decide), h.2 44 (by decide)]
  unfold Rel at R ⊢
  rw [hv, hk, h.1 0 (by decide), h.1 74 (by decide), h.1 75 (by decide), h.1 78 (by decide), h.1 79 (by decide), h.1 80 (by decide), h.1 71 (by decide), h.2 77 (by decide)]
  exact R
theorem Rel.frameM {n : Nat} {c m m' : St} (R : Rel n c m) (h : Only IM JM m m') : Rel n c m' := by
  have hv : vM m' = vM m := by
    unfold vM
    simp only [h.1 2 (by decide), h.1 3 (by decide), h.1 4 (by decide), h.1 5 (by decide), h.1 6 (by decide), h.1 11 (by decide), h.1 12 (by decide), h.1 13 (by decide), h.1 14 (by decide), h.1 16 (by decide), h.1 17 (by decide), h.1 18 (by decide), h.1 21 (by decide), h.1 22 (by decide), h.1 23 (by decide), h.1 24 (by decide), h.1 25 (by decide), h.1 0 (by decide), h.2 9 (by decide)]
  have hk : vI m' = vI m := by
    unfold vI
    simp only [h.1 27 (by decide), h.2 28 (by decide)]
  unfold Rel at R ⊢
  rw [hv, hk, h.1 0 (by decide), h.1 7 (by decide), h.1 29 (by decide), h.1 30 (by decide), h.1 1 (by decide), h.2 31 (by decide)]
  exact R
/-- of what value a PLACE is to a TEAM -/
def lv (x6 x7 t : Nat) : Int32 := gMmax (0 : Int32) (if ((240 : Int32) + 60 * nI x6) - 20 * nI x7 < nI t then (1000 : Int32) - (2 + nI x7) * (nI t - (((240 : Int32) + 60 * nI x6) - 20 * nI x7)) else 1000)
theorem lv_nat {x6 x7 t : Nat} (h6 : x6 ≤ 3) (h7 : x7 ≤ 9) (ht : t ≤ 100000) : ∃ v, v ≤ 1000 ∧ lv x6 x7 t = nI v := by
  unfold lv
  have eL : ((240 : Int32) + 60 * nI x6) - 20 * nI x7 = nI (240 + 60 * x6 - 20 * x7) := by
    rw [show (240 : Int32) = nI 240 from rfl, show (60 : Int32) = nI 60 from rfl, show (20 : Int32) = nI 20 from rfl, mulI, mulI, nI_add, subI (by omega)]
  rw [eL]
  generalize hL : 240 + 60 * x6 - 20 * x7 = L
  have hL2 : L ≤ 420 := by omega
  by_cases h : L < t
  · rw [if_pos (by rw [ltI (by omega) (by omega)]; exact h)]
    rw [show (2 : Int32) = nI 2 from rfl, nI_add, subI (by omega), mulI, max0]
    have hb : (2 + x7) * (t - L) ≤ 11 * 100000 := Nat.mul_le_mul (by omega) (by omega)
    by_cases g : (2 + x7) * (t - L) ≤ 1000
    · rw [show (1000 : Int32) = nI 1000 from rfl, subI g, if_pos (show (0 : Int32) ≤ _ from nI_le (a := 0) (Nat.zero_le _) (by omega))]
      exact ⟨_, by omega, rfl⟩
    · have e := subT (a := 1000) (b := (2 + x7) * (t - L)) (by omega) (by omega)
      rw [show (1000 : Int32) = nI 1000 from rfl, if_neg (by rw [Int32.le_iff_toInt_le, e, show (0 : Int32).toInt = 0 by decide]; omega)]
      exact ⟨0, by omega, rfl⟩
  · rw [if_neg (by rw [ltI (by omega) (by omega)]; exact h)]
    exact ⟨1000, by omega, by decide⟩
theorem c_liv (F : Nat) {x6 x7 t : Nat} {c : St} (e6 : c.1 7 6 = nI x6) (e7 : c.1 7 7 = nI x7) : c_Law_livingAt F (nI t) c = some (lv x6 x7 t, c) := by
  unfold c_Law_livingAt lv
  have i6 : inb (6 : Int32) 10 = true := by decide
  have i7 : inb (7 : Int32) 10 = true := by decide
  have k6 : (6 : Int32).toNatClampNeg = 6 := by decide
  have k7 : (7 : Int32).toNatClampNeg = 7 := by decide
  simp only [i6, i7, if_true, k6, k7, e6, e7]
  by_cases h : ((240 : Int32) + 60 * nI x6) - 20 * nI x7 < nI t
  · rw [if_pos h, if_pos h]
  · rw [if_neg h, if_neg h]
    rfl
theorem m_liv (F : Nat) {x6 x7 t : Nat} {c : St} (e6 : c.1 5 6 = nI x6) (e7 : c.1 5 7 = nI x7) : m_aliveAt F (nI t) c = some (lv x6 x7 t, c) := by
  unfold m_aliveAt m_aliveAt_J54 lv
  have i6 : inb (6 : Int32) 10 = true := by decide
  have i7 : inb (7 : Int32) 10 = true := by decide
  have k6 : (6 : Int32).toNatClampNeg = 6 := by decide
  have k7 : (7 : Int32).toNatClampNeg = 7 := by decide
  simp only [i6, i7, if_true, k6, k7, e6, e7, max0]
  by_cases h : ((240 : Int32) + 60 * nI x6) - 20 * nI x7 < nI t
  · rw [if_pos h, if_pos h]
    split <;> rfl
  · rw [if_neg h, if_neg h]
    rfl
