/-! the pure part: image, restore: the end -/
def m_image_end (F : Nat) (r17 : Int32) (s17 : St) : Option (Int32 × St) :=
  if inb r17 760 = true then
  if inb (r17 + (1 : Int32)) 760 = true then
  if inb (r17 + (2 : Int32)) 760 = true then
  if inb (r17 + (3 : Int32)) 760 = true then
  if inb (r17 + (4 : Int32)) 760 = true then
  if inb (r17 + (5 : Int32)) 760 = true then
  m_image_L242 F F (0 : Int32) (sI (sI (sI (sI (sI (sI s17 27 (r17).toNatClampNeg (s17.1 0 13)) 27 (r17 + (1 : Int32)).toNatClampNeg ((sI s17 27 (r17).toNatClampNeg (s17.1 0 13)).1 0 14)) 27 (r17 + (2 : Int32)).toNatClampNeg ((sI (sI s17 27 (r17).toNatClampNeg (s17.1 0 13)) 27 (r17 + (1 : Int32)).toNatClampNeg ((sI s17 27 (r17).toNatClampNeg (s17.1 0 13)).1 0 14)).1 0 18)) 27 (r17 + (3 : Int32)).toNatClampNeg ((sI (sI (sI s17 27 (r17).toNatClampNeg (s17.1 0 13)) 27 (r17 + (1 : Int32)).toNatClampNeg ((sI s17 27 (r17).toNatClampNeg (s17.1 0 13)).1 0 14)) 27 (r17 + (2 : Int32)).toNatClampNeg ((sI (sI s17 27 (r17).toNatClampNeg (s17.1 0 13)) 27 (r17 + (1 : Int32)).toNatClampNeg ((sI s17 27 (r17).toNatClampNeg (s17.1 0 13)).1 0 14)).1 0 18)).1 0 21)) 27 (r17 + (4 : Int32)).toNatClampNeg ((sI (sI (sI (sI s17 27 (r17).toNatClampNeg (s17.1 0 13)) 27 (r17 + (1 : Int32)).toNatClampNeg ((sI s17 27 (r17).toNatClampNeg (s17.1 0 13)).1 0 14)) 27 (r17 + (2 : Int32)).toNatClampNeg ((sI (sI s17 27 (r17).toNatClampNeg (s17.1 0 13)) 27 (r17 + (1 : Int32)).toNatClampNeg ((sI s17 27 (r17).toNatClampNeg (s17.1 0 13)).1 0 14)).1 0 18)) 27 (r17 + (3 : Int32)).toNatClampNeg ((sI (sI (sI s17 27 (r17).toNatClampNeg (s17.1 0 13)) 27 (r17 + (1 : Int32)).toNatClampNeg ((sI s17 27 (r17).toNatClampNeg (s17.1 0 13)).1 0 14)) 27 (r17 + (2 : Int32)).toNatClampNeg ((sI (sI s17 27 (r17).toNatClampNeg (s17.1 0 13)) 27 (r17 + (1 : Int32)).toNatClampNeg ((sI s17 27 (r17).toNatClampNeg (s17.1 0 13)).1 0 14)).1 0 18)).1 0 21)).1 0 27)) 27 (r17 + (5 : Int32)).toNatClampNeg ((sI (sI (sI (sI (sI s17 27 (r17).toNatClampNeg (s17.1 0 13)) 27 (r17 + (1 : Int32)).toNatClampNeg ((sI s17 27 (r17).toNatClampNeg (s17.1 0 13)).1 0 14)) 27 (r17 + (2 : Int32)).toNatClampNeg ((sI (sI s17 27 (r17).toNatClampNeg (s17.1 0 13)) 27 (r17 + (1 : Int32)).toNatClampNeg ((sI s17 27 (r17).toNatClampNeg (s17.1 0 13)).1 0 14)).1 0 18)) 27 (r17 + (3 : Int32)).toNatClampNeg ((sI (sI (sI s17 27 (r17).toNatClampNeg (s17.1 0 13)) 27 (r17 + (1 : Int32)).toNatClampNeg ((sI s17 27 (r17).toNatClampNeg (s17.1 0 13)).1 0 14)) 27 (r17 + (2 : Int32)).toNatClampNeg ((sI (sI s17 27 (r17).toNatClampNeg (s17.1 0 13)) 27 (r17 + (1 : Int32)).toNatClampNeg ((sI s17 27 (r17).toNatClampNeg (s17.1 0 13)).1 0 14)).1 0 18)).1 0 21)) 27 (r17 + (4 : Int32)).toNatClampNeg ((sI (sI (sI (sI s17 27 (r17).toNatClampNeg (s17.1 0 13)) 27 (r17 + (1 : Int32)).toNatClampNeg ((sI s17 27 (r17).toNatClampNeg (s17.1 0 13)).1 0 14)) 27 (r17 + (2 : Int32)).toNatClampNeg ((sI (sI s17 27 (r17).toNatClampNeg (s17.1 0 13)) 27 (r17 + (1 : Int32)).toNatClampNeg ((sI s17 27 (r17).toNatClampNeg (s17.1 0 13)).1 0 14)).1 0 18)) 27 (r17 + (3 : Int32)).toNatClampNeg ((sI (sI (sI s17 27 (r17).toNatClampNeg (s17.1 0 13)) 27 (r17 + (1 : Int32)).toNatClampNeg ((sI s17 27 (r17).toNatClampNeg (s17.1 0 13)).1 0 14)) 27 (r17 + (2 : Int32)).toNatClampNeg ((sI (sI s17 27 (r17).toNatClampNeg (s17.1 0 13)) 27 (r17 + (1 : Int32)).toNatClampNeg ((sI s17 27 (r17).toNatClampNeg (s17.1 0 13)).1 0 14)).1 0 18)).1 0 21)).1 0 27)).1 0 31))
  else none
  else none
  else none
  else none
  else none
  else none
def m_restore_end (F : Nat) (r17 : Int32) (s17 : St) : Option (Int32 × St) :=
    if inb r17 760 = true then
    if inb (r17 + (1 : Int32)) 760 = true then
    if inb (r17 + (2 : Int32)) 760 = true then
    if inb (r17 + (3 : Int32)) 760 = true then
    if inb (r17 + (4 : Int32)) 760 = true then
    if inb (r17 + (5 : Int32)) 760 = true then
    m_restore_L256 F F (0 : Int32) (sI (sI (sI (sI (sI (sI s17 0 13 (s17.1 27 (r17).toNatClampNeg)) 0 14 ((sI s17 0 13 (s17.1 27 (r17).toNatClampNeg)).1 27 (r17 + (1 : Int32)).toNatClampNeg)) 0 18 ((sI (sI s17 0 13 (s17.1 27 (r17).toNatClampNeg)) 0 14 ((sI s17 0 13 (s17.1 27 (r17).toNatClampNeg)).1 27 (r17 + (1 : Int32)).toNatClampNeg)).1 27 (r17 + (2 : Int32)).toNatClampNeg)) 0 21 ((sI (sI (sI s17 0 13 (s17.1 27 (r17).toNatClampNeg)) 0 14 ((sI s17 0 13 (s17.1 27 (r17).toNatClampNeg)).1 27 (r17 + (1 : Int32)).toNatClampNeg)) 0 18 ((sI (sI s17 0 13 (s17.1 27 (r17).toNatClampNeg)) 0 14 ((sI s17 0 13 (s17.1 27 (r17).toNatClampNeg)).1 27 (r17 + (1 : Int32)).toNatClampNeg)).1 27 (r17 + (2 : Int32)).toNatClampNeg)).1 27 (r17 + (3 : Int32)).toNatClampNeg)) 0 27 ((sI (sI (sI (sI s17 0 13 (s17.1 27 (r17).toNatClampNeg)) 0 14 ((sI s17 0 13 (s17.1 27 (r17).toNatClampNeg)).1 27 (r17 + (1 : Int32)).toNatClampNeg)) 0 18 ((sI (sI s17 0 13 (s17.1 27 (r17).toNatClampNeg)) 0 14 ((sI s17 0 13 (s17.1 27 (r17).toNatClampNeg)).1 27 (r17 + (1 : Int32)).toNatClampNeg)).1 27 (r17 + (2 : Int32)).toNatClampNeg)) 0 21 ((sI (sI (sI s17 0 13 (s17.1 27 (r17).toNatClampNeg)) 0 14 ((sI s17 0 13 (s17.1 27 (r17).toNatClampNeg)).1 27 (r17 + (1 : Int32)).toNatClampNeg)) 0 18 ((sI (sI s17 0 13 (s17.1 27 (r17).toNatClampNeg)) 0 14 ((sI s17 0 13 (s17.1 27 (r17).toNatClampNeg)).1 27 (r17 + (1 : Int32)).toNatClampNeg)).1 27 (r17 + (2 : Int32)).toNatClampNeg)).1 27 (r17 + (3 : Int32)).toNatClampNeg)).1 27 (r17 + (4 : Int32)).toNatClampNeg)) 0 31 ((sI (sI (sI (sI (sI s17 0 13 (s17.1 27 (r17).toNatClampNeg)) 0 14 ((sI s17 0 13 (s17.1 27 (r17).toNatClampNeg)).1 27 (r17 + (1 : Int32)).toNatClampNeg)) 0 18 ((sI (sI s17 0 13 (s17.1 27 (r17).toNatClampNeg)) 0 14 ((sI s17 0 13 (s17.1 27 (r17).toNatClampNeg)).1 27 (r17 + (1 : Int32)).toNatClampNeg)).1 27 (r17 + (2 : Int32)).toNatClampNeg)) 0 21 ((sI (sI (sI s17 0 13 (s17.1 27 (r17).toNatClampNeg)) 0 14 ((sI s17 0 13 (s17.1 27 (r17).toNatClampNeg)).1 27 (r17 + (1 : Int32)).toNatClampNeg)) 0 18 ((sI (sI s17 0 13 (s17.1 27 (r17).toNatClampNeg)) 0 14 ((sI s17 0 13 (s17.1 27 (r17).toNatClampNeg)).1 27 (r17 + (1 : Int32)).toNatClampNeg)).1 27 (r17 + (2 : Int32)).toNatClampNeg)).1 27 (r17 + (3 : Int32)).toNatClampNeg)) 0 27 ((sI (sI (sI (sI s17 0 13 (s17.1 27 (r17).toNatClampNeg)) 0 14 ((sI s17 0 13 (s17.1 27 (r17).toNatClampNeg)).1 27 (r17 + (1 : Int32)).toNatClampNeg)) 0 18 ((sI (sI s17 0 13 (s17.1 27 (r17).toNatClampNeg)) 0 14 ((sI s17 0 13 (s17.1 27 (r17).toNatClampNeg)).1 27 (r17 + (1 : Int32)).toNatClampNeg)).1 27 (r17 + (2 : Int32)).toNatClampNeg)) 0 21 ((sI (sI (sI s17 0 13 (s17.1 27 (r17).toNatClampNeg)) 0 14 ((sI s17 0 13 (s17.1 27 (r17).toNatClampNeg)).1 27 (r17 + (1 : Int32)).toNatClampNeg)) 0 18 ((sI (sI s17 0 13 (s17.1 27 (r17).toNatClampNeg)) 0 14 ((sI s17 0 13 (s17.1 27 (r17).toNatClampNeg)).1 27 (r17 + (1 : Int32)).toNatClampNeg)).1 27 (r17 + (2 : Int32)).toNatClampNeg)).1 27 (r17 + (3 : Int32)).toNatClampNeg)).1 27 (r17 + (4 : Int32)).toNatClampNeg)).1 27 (r17 + (5 : Int32)).toNatClampNeg))
    else none
    else none
    else none
    else none
    else none
    else none
theorem img_lp (F : Nat) : ∀ (d i k : Nat) (s : St), i + d = 720 → d < k → ∃ s', m_image_L242 F k (nI i) s = some (1, sI s' 0 37 1) ∧ (∀ j, j < 720 → i ≤ j → s'.2 28 j = s.2 9 j) ∧ (∀ j, j < i → s'.2 28 j = s.2 28 j) ∧ Only [] [28] s s' := by
  intro d
  induction d with
  | zero =>
    intro i k s hi hk
    obtain ⟨k, rfl⟩ : ∃ z, k = z + 1 := ⟨k - 1, by omega⟩
    refine ⟨s, ?_, fun j h1 h2 => by omega, fun _ _ => rfl, Only.refl _ _ _⟩
    show m_image_L242b F (m_image_L242 F k) (nI i) s = _
    unfold m_image_L242b
    rw [if_pos (show (720 : Int32) ≤ nI i from nI_le (a := 720) (by omega) (by omega))]
  | succ d ih =>
    intro i k s hi hk
    obtain ⟨k, rfl⟩ : ∃ z, k = z + 1 := ⟨k - 1, by omega⟩
    obtain ⟨s', y1, y2, y3, y4⟩ := ih (i + 1) k (sJ s 28 i (s.2 9 i)) (by omega) (by omega)
    refine ⟨s', ?_, fun j h1 h2 => ?_, fun j h1 => ?_, (Only.sJ _ (by decide) _ _).trans y4⟩
    · show m_image_L242b F (m_image_L242 F k) (nI i) s = _
      rw [m_image_L242b]
      have g0 : ¬ (720 : Int32) ≤ nI i := by
        rw [show (720 : Int32) = nI 720 from rfl, leI (by omega) (by omega)]
        omega
      rw [if_neg g0, inb_nI (show i < 720 by omega) (by decide), if_pos rfl, if_pos rfl, cl_nI (by omega), show nI i + (1 : Int32) = nI (i + 1) from by rw [show (1 : Int32) = nI 1 from rfl, nI_add]]
      exact y1
    · by_cases e : j = i
      · rw [e, y3 i (by omega), sJ2_eq, updL_eq]
      · rw [y2 j h1 (by omega), sJ2_ne (by decide)]
    · rw [y3 j (by omega), sJ2_eq, updL_ne (by omega)]
theorem rst_lp (F : Nat) : ∀ (d i k : Nat) (s : St), i + d = 720 → d < k → ∃ s', m_restore_L256 F k (nI i) s = some (1, s') ∧ (∀ j, j < 720 → i ≤ j → s'.2 9 j = s.2 28 j) ∧ (∀ j, j < i → s'.2 9 j = s.2 9 j) ∧ Only [] [9] s s' := by
  intro d
  induction d with
  | zero =>
    intro i k s hi hk
    obtain ⟨k, rfl⟩ : ∃ z, k = z + 1 := ⟨k - 1, by omega⟩
    refine ⟨s, ?_, fun j h1 h2 => by omega, fun _ _ => rfl, Only.refl _ _ _⟩
    show m_restore_L256b F (m_restore_L256 F k) (nI i) s = _
    unfold m_restore_L256b
    rw [if_pos (show (720 : Int32) ≤ nI i from nI_le (a := 720) (by omega) (by omega))]
  | succ d ih =>
    intro i k s hi hk
    obtain ⟨k, rfl⟩ : ∃ z, k = z + 1 := ⟨k - 1, by omega⟩
    obtain ⟨s', y1, y2, y3, y4⟩ := ih (i + 1) k (sJ s 9 i (s.2 28 i)) (by omega) (by omega)
    refine ⟨s', ?_, fun j h1 h2 => ?_, fun j h1 => ?_, (Only.sJ _ (by decide) _ _).trans y4⟩
    · show m_restore_L256b F (m_restore_L256 F k) (nI i) s = _
      rw [m_restore_L256b]
      have g0 : ¬ (720 : Int32) ≤ nI i := by
        rw [show (720 : Int32) = nI 720 from rfl, leI (by omega) (by omega)]
        omega
      rw [if_neg g0, inb_nI (show i < 720 by omega) (by decide), if_pos rfl, if_pos rfl, cl_nI (by omega), show nI i + (1 : Int32) = nI (i + 1) from by rw [show (1 : Int32) = nI 1 from rfl, nI_add]]
      exact y1
    · by_cases e : j = i
      · rw [e, y3 i (by omega), sJ2_eq, updL_eq]
      · rw [y2 j h1 (by omega), sJ2_ne (by decide)]
    · rw [y3 j (by omega), sJ2_eq, updL_ne (by omega)]
theorem image_end (F : Nat) (hF : 3000 ≤ F) (s : St) : ∃ s', m_image_end F (nI 682) s = some (1, s') ∧ (s'.1 27 682 = s.1 0 13 ∧ s'.1 27 683 = s.1 0 14 ∧ s'.1 27 684 = s.1 0 18 ∧ s'.1 27 685 = s.1 0 21 ∧ s'.1 27 686 = s.1 0 27 ∧ s'.1 27 687 = s.1 0 31) ∧ (∀ j, j < 682 → s'.1 27 j = s.1 27 j) ∧ (∀ j, j < 720 → s'.2 28 j = s.2 9 j) ∧ s'.1 0 37 = 1 ∧ (∀ k, k ≠ 37 → s'.1 0 k = s.1 0 k) ∧ Only [0, 27] [28] s s' := by
  unfold m_image_end
  simp only [show inb (nI 682 + (1 : Int32)) 760 = true by decide, show inb (nI 682 + (2 : Int32)) 760 = true by decide, show inb (nI 682 + (3 : Int32)) 760 = true by decide, show inb (nI 682 + (4 : Int32)) 760 = true by decide, show inb (nI 682 + (5 : Int32)) 760 = true by decide, show inb (nI 682) 760 = true by decide, show (nI 682 + (1 : Int32)).toNatClampNeg = 683 by decide, show (nI 682 + (2 : Int32)).toNatClampNeg = 684 by decide, show (nI 682 + (3 : Int32)).toNatClampNeg = 685 by decide, show (nI 682 + (4 : Int32)).toNatClampNeg = 686 by decide, show (nI 682 + (5 : Int32)).toNatClampNeg = 687 by decide, show (nI 682).toNatClampNeg = 682 by decide, if_true]
  simp (disch := omega) only [sI1_ne]
  obtain ⟨s', y1, y2, -, y4⟩ := img_lp F 720 0 F (sI (sI (sI (sI (sI (sI s 27 682 (s.1 0 13)) 27 683 (s.1 0 14)) 27 684 (s.1 0 18)) 27 685 (s.1 0 21)) 27 686 (s.1 0 27)) 27 687 (s.1 0 31)) (by omega) (by omega)
  refine ⟨sI s' 0 37 1, y1, ?_, fun j hj => ?_, fun j hj => y2 j hj (Nat.zero_le _), ?_, fun k hk => ?_, ?_⟩
  · rw [sI1_ne (by decide), y4.1 27 (by simp)]
    simp (disch := omega) only [sI1_ne, sI1_eq, sI2, upd_eq, upd_ne, and_self]
  · rw [sI1_ne (by decide), y4.1 27 (by simp)]
    simp (disch := omega) only [sI1_ne, sI1_eq, sI2, upd_eq, upd_ne]
  · rw [sI1_eq, upd_eq]
  · rw [sI1_eq, upd_ne hk, y4.1 0 (by simp)]
    simp (disch := omega) only [sI1_ne, sI1_eq, sI2, upd_eq, upd_ne]
  · refine Only.trans ?_ ((y4.weak (I' := [0, 27]) (fun q hq => by cases hq) (fun _ h => h)).trans (Only.sI _ (by decide) _ _))
    refine Only.trans (Only.trans (Only.trans (Only.trans (Only.trans (Only.sI _ (by decide) _ _) (Only.sI _ (by decide) _ _)) (Only.sI _ (by decide) _ _)) (Only.sI _ (by decide) _ _)) (Only.sI _ (by decide) _ _)) (Only.sI _ (by decide) _ _)
theorem restore_end (F : Nat) (hF : 3000 ≤ F) (s : St) : ∃ s', m_restore_end F (nI 682) s = some (1, s') ∧ (s'.1 0 13 = s.1 27 682 ∧ s'.1 0 14 = s.1 27 683 ∧ s'.1 0 18 = s.1 27 684 ∧ s'.1 0 21 = s.1 27 685 ∧ s'.1 0 27 = s.1 27 686 ∧ s'.1 0 31 = s.1 27 687) ∧ (∀ j, j < 720 → s'.2 9 j = s.2 28 j) ∧ (∀ k, k ≠ 13 → k ≠ 14 → k ≠ 18 → k ≠ 21 → k ≠ 27 → k ≠ 31 → s'.1 0 k = s.1 0 k) ∧ Only [0] [9] s s' := by
  unfold m_restore_end
  simp only [show inb (nI 682 + (1 : Int32)) 760 = true by decide, show inb (nI 682 + (2 : Int32)) 760 = true by decide, show inb (nI 682 + (3 : Int32)) 760 = true by decide, show inb (nI 682 + (4 : Int32)) 760 = true by decide, show inb (nI 682 + (5 : Int32)) 760 = true by decide, show inb (nI 682) 760 = true by decide, show (nI 682 + (1 : Int32)).toNatClampNeg = 683 by decide, show (nI 682 + (2 : Int32)).toNatClampNeg = 684 by decide, show (nI 682 + (3 : Int32)).toNatClampNeg = 685 by decide, show (nI 682 + (4 : Int32)).toNatClampNeg = 686 by decide, show (nI 682 + (5 : Int32)).toNatClampNeg = 687 by decide, show (nI 682).toNatClampNeg = 682 by decide, if_true]
  simp (disch := omega) only [sI1_ne]
  obtain ⟨s', y1, y2, -, y4⟩ := rst_lp F 720 0 F (sI (sI (sI (sI (sI (sI s 0 13 (s.1 27 682)) 0 14 (s.1 27 683)) 0 18 (s.1 27 684)) 0 21 (s.1 27 685)) 0 27 (s.1 27 686)) 0 31 (s.1 27 687)) (by omega) (by omega)
  refine ⟨s', y1, ?_, fun j hj => y2 j hj (Nat.zero_le _), fun k h13 h14 h18 h21 h27 h31 => ?_, ?_⟩
  · rw [y4.1 0 (by simp)]
    simp (disch := omega) only [sI1_ne, sI1_eq, sI2, upd_eq, upd_ne, and_self]
  · rw [y4.1 0 (by simp)]
    simp (disch := omega) only [sI1_ne, sI1_eq, sI2, upd_eq, upd_ne]
  · refine Only.trans ?_ (y4.weak (I' := [0]) (fun q hq => by cases hq) (fun _ h => h))
    refine Only.trans (Only.trans (Only.trans (Only.trans (Only.trans (Only.sI _ (by decide) _ _) (Only.sI _ (by decide) _ _)) (Only.sI _ (by decide) _ _)) (Only.sI _ (by decide) _ _)) (Only.sI _ (by decide) _ _)) (Only.sI _ (by decide) _ _)
abbrev KI0 : List Nat := [37, 38, 39, 41, 42, 43, 49, 50, 51, 52, 48, 57, 58, 59, 56, 63, 64, 65, 62, 67, 68, 66]
abbrev KJ0 : List Nat := [44, 45]
theorem bec0 (F : Nat) (c0 : St) : ∃ c7, c_State_become F c0 = some c7 ∧ (∀ j, j < 144 → c7.1 37 j = c0.1 3 j) ∧ (∀ j, j < 144 → c7.1 38 j = c0.1 4 j) ∧ (∀ j, j < 144 → c7.1 39 j = c0.1 5 j) ∧ (∀ j, j < 10 → c7.1 41 j = c0.1 7 j) ∧ (∀ j, j < 8 → c7.1 42 j = c0.1 8 j) ∧ (∀ j, j < 4 → c7.1 49 j = c0.1 15 j) ∧ (∀ j, j < 4 → c7.1 50 j = c0.1 16 j) ∧ (∀ j, j < 4 → c7.1 51 j = c0.1 17 j) ∧ (∀ j, j < 6 → c7.1 52 j = c0.1 18 j) ∧ (∀ j, j < 6 → c7.1 57 j = c0.1 23 j) ∧ (∀ j, j < 6 → c7.1 58 j = c0.1 24 j) ∧ (∀ j, j < 6 → c7.1 59 j = c0.1 25 j) ∧ (∀ j, j < 60 → c7.1 63 j = c0.1 29 j) ∧ (∀ j, j < 60 → c7.1 64 j = c0.1 30 j) ∧ (∀ j, j < 60 → c7.1 65 j = c0.1 31 j) ∧ (∀ j, j < 8 → c7.1 67 j = c0.1 33 j) ∧ (∀ j, j < 8 → c7.1 68 j = c0.1 34 j) ∧ (c7.1 43 4 = c0.1 9 4) ∧ (c7.1 48 7 = c0.1 14 7) ∧ (c7.1 48 8 = c0.1 14 8) ∧ (c7.1 56 5 = c0.1 22 5) ∧ (c7.1 62 3 = c0.1 28 3) ∧ (c7.1 66 2 = c0.1 32 2) ∧ (∀ j, j < 576 → c7.2 44 j = c0.2 10 j) ∧ (∀ j, j < 144 → c7.2 45 j = c0.2 11 j) ∧ Only KI0 KJ0 c0 c7 := by
  obtain ⟨c1, a1, fc0, fc1, fc2, d1⟩ := bec0_Land F c0
  obtain ⟨c2, a2, fc3, fc4, d2⟩ := bec0_Law F c1
  obtain ⟨c3, a3, fj0, fj1, fs0, d3⟩ := bec0_Night F c2
  obtain ⟨c4, a4, fc5, fc6, fc7, fc8, fs1, fs2, d4⟩ := bec0_Teams F c3
  obtain ⟨c5, a5, fc9, fc10, fc11, fs3, d5⟩ := bec0_Jobs F c4
  obtain ⟨c6, a6, fc12, fc13, fc14, fs4, d6⟩ := bec0_Book F c5
  obtain ⟨c7, a7, fc15, fc16, fs5, d7⟩ := bec0_Door F c6
  refine ⟨c7, ?_, ?_, ?_, ?_, ?_, ?_, ?_, ?_, ?_, ?_, ?_, ?_, ?_, ?_, ?_, ?_, ?_, ?_, ?_, ?_, ?_, ?_, ?_, ?_, ?_, ?_, ((((((d1.weak (I' := KI0) (J' := KJ0) (by decide) (by decide)).trans (d2.weak (by decide) (by decide))).trans (d3.weak (by decide) (by decide))).trans (d4.weak (by decide) (by decide))).trans (d5.weak (by decide) (by decide))).trans (d6.weak (by decide) (by decide))).trans (d7.weak (by decide) (by decide))⟩
  · unfold c_State_become
    rw [a1, gB_mk, a2, gB_mk, a3, gB_mk, a4, gB_mk, a5, gB_mk, a6, gB_mk, a7, gB_mk]
  · exact fun j hj => by rw [d7.1 37 (by decide), d6.1 37 (by decide), d5.1 37 (by decide), d4.1 37 (by decide), d3.1 37 (by decide), d2.1 37 (by decide), fc0 j hj]
  · exact fun j hj => by rw [d7.1 38 (by decide), d6.1 38 (by decide), d5.1 38 (by decide), d4.1 38 (by decide), d3.1 38 (by decide), d2.1 38 (by decide), fc1 j hj]
  · exact fun j hj => by rw [d7.1 39 (by decide), d6.1 39 (by decide), d5.1 39 (by decide), d4.1 39 (by decide), d3.1 39 (by decide), d2.1 39 (by decide), fc2 j hj]
  · exact fun j hj => by rw [d7.1 41 (by decide), d6.1 41 (by decide), d5.1 41 (by decide), d4.1 41 (by decide), d3.1 41 (by decide), fc3 j hj, d1.1 7 (by decide)]
  · exact fun j hj => by rw [d7.1 42 (by decide), d6.1 42 (by decide), d5.1 42 (by decide), d4.1 42 (by decide), d3.1 42 (by decide), fc4 j hj, d1.1 8 (by decide)]
  · exact fun j hj => by rw [d7.1 49 (by decide), d6.1 49 (by decide), d5.1 49 (by decide), fc5 j hj, d3.1 15 (by decide), d2.1 15 (by decide), d1.1 15 (by decide)]
  · exact fun j hj => by rw [d7.1 50 (by decide), d6.1 50 (by decide), d5.1 50 (by decide), fc6 j hj, d3.1 16 (by decide), d2.1 16 (by decide), d1.1 16 (by decide)]
  · exact fun j hj => by rw [d7.1 51 (by decide), d6.1 51 (by decide), d5.1 51 (by decide), fc7 j hj, d3.1 17 (by decide), d2.1 17 (by decide), d1.1 17 (by decide)]
  · exact fun j hj => by rw [d7.1 52 (by decide), d6.1 52 (by decide), d5.1 52 (by decide), fc8 j hj, d3.1 18 (by decide), d2.1 18 (by decide), d1.1 18 (by decide)]
  · exact fun j hj => by rw [d7.1 57 (by decide), d6.1 57 (by decide), fc9 j hj, d4.1 23 (by decide), d3.1 23 (by decide), d2.1 23 (by decide), d1.1 23 (by decide)]
  · exact fun j hj => by rw [d7.1 58 (by decide), d6.1 58 (by decide), fc10 j hj, d4.1 24 (by decide), d3.1 24 (by decide), d2.1 24 (by decide), d1.1 24 (by decide)]
  · exact fun j hj => by rw [d7.1 59 (by decide), d6.1 59 (by decide), fc11 j hj, d4.1 25 (by decide), d3.1 25 (by decide), d2.1 25 (by decide), d1.1 25 (by decide)]
  · exact fun j hj => by rw [d7.1 63 (by decide), fc12 j hj, d5.1 29 (by decide), d4.1 29 (by decide), d3.1 29 (by decide), d2.1 29 (by decide), d1.1 29 (by decide)]
  · exact fun j hj => by rw [d7.1 64 (by decide), fc13 j hj, d5.1 30 (by decide), d4.1 30 (by decide), d3.1 30 (by decide), d2.1 30 (by decide), d1.1 30 (by decide)]
  · exact fun j hj => by rw [d7.1 65 (by decide), fc14 j hj, d5.1 31 (by decide), d4.1 31 (by decide), d3.1 31 (by decide), d2.1 31 (by decide), d1.1 31 (by decide)]
  · exact fun j hj => by rw [fc15 j hj, d6.1 33 (by decide), d5.1 33 (by decide), d4.1 33 (by decide), d3.1 33 (by decide), d2.1 33 (by decide), d1.1 33 (by decide)]
  · exact fun j hj => by rw [fc16 j hj, d6.1 34 (by decide), d5.1 34 (by decide), d4.1 34 (by decide), d3.1 34 (by decide), d2.1 34 (by decide), d1.1 34 (by decide)]
  · exact by rw [d7.1 43 (by decide), d6.1 43 (by decide), d5.1 43 (by decide), d4.1 43 (by decide), fs0, d2.1 9 (by decide), d1.1 9 (by decide)]
  · exact by rw [d7.1 48 (by decide), d6.1 48 (by decide), d5.1 48 (by decide), fs1, d3.1 14 (by decide), d2.1 14 (by decide), d1.1 14 (by decide)]
  · exact by rw [d7.1 48 (by decide), d6.1 48 (by decide), d5.1 48 (by decide), fs2, d3.1 14 (by decide), d2.1 14 (by decide), d1.1 14 (by decide)]
  · exact by rw [d7.1 56 (by decide), d6.1 56 (by decide), fs3, d4.1 22 (by decide), d3.1 22 (by decide), d2.1 22 (by decide), d1.1 22 (by decide)]
  · exact by rw [d7.1 62 (by decide), fs4, d5.1 28 (by decide), d4.1 28 (by decide), d3.1 28 (by decide), d2.1 28 (by decide), d1.1 28 (by decide)]
  · exact by rw [fs5, d6.1 32 (by decide), d5.1 32 (by decide), d4.1 32 (by decide), d3.1 32 (by decide), d2.1 32 (by decide), d1.1 32 (by decide)]
  · exact fun j hj => by rw [d7.2 44 (by decide), d6.2 44 (by decide), d5.2 44 (by decide), d4.2 44 (by decide), fj0 j hj, d2.2 10 (by decide), d1.2 10 (by decide)]
  · exact fun j hj => by rw [d7.2 45 (by decide), d6.2 45 (by decide), d5.2 45 (by decide), d4.2 45 (by decide), fj1 j hj, d2.2 11 (by decide), d1.2 11 (by decide)]
abbrev KI1 : List Nat := [3, 4, 5, 7, 8, 9, 15, 16, 17, 18, 14, 23, 24, 25, 22, 29, 30, 31, 28, 33, 34, 32]
abbrev KJ1 : List Nat := [10, 11]
theorem bec1 (F : Nat) (c0 : St) : ∃ c7, c_State_become_v1 F c0 = some c7 ∧ (∀ j, j < 144 → c7.1 3 j = c0.1 37 j) ∧ (∀ j, j < 144 → c7.1 4 j = c0.1 38 j) ∧ (∀ j, j < 144 → c7.1 5 j = c0.1 39 j) ∧ (∀ j, j < 10 → c7.1 7 j = c0.1 41 j) ∧ (∀ j, j < 8 → c7.1 8 j = c0.1 42 j) ∧ (∀ j, j < 4 → c7.1 15 j = c0.1 49 j) ∧ (∀ j, j < 4 → c7.1 16 j = c0.1 50 j) ∧ (∀ j, j < 4 → c7.1 17 j = c0.1 51 j) ∧ (∀ j, j < 6 → c7.1 18 j = c0.1 52 j) ∧ (∀ j, j < 6 → c7.1 23 j = c0.1 57 j) ∧ (∀ j, j < 6 → c7.1 24 j = c0.1 58 j) ∧ (∀ j, j < 6 → c7.1 25 j = c0.1 59 j) ∧ (∀ j, j < 60 → c7.1 29 j = c0.1 63 j) ∧ (∀ j, j < 60 → c7.1 30 j = c0.1 64 j) ∧ (∀ j, j < 60 → c7.1 31 j = c0.1 65 j) ∧ (∀ j, j < 8 → c7.1 33 j = c0.1 67 j) ∧ (∀ j, j < 8 → c7.1 34 j = c0.1 68 j) ∧ (c7.1 9 4 = c0.1 43 4) ∧ (c7.1 14 7 = c0.1 48 7) ∧ (c7.1 14 8 = c0.1 48 8) ∧ (c7.1 22 5 = c0.1 56 5) ∧ (c7.1 28 3 = c0.1 62 3) ∧ (c7.1 32 2 = c0.1 66 2) ∧ (∀ j, j < 576 → c7.2 10 j = c0.2 44 j) ∧ (∀ j, j < 144 → c7.2 11 j = c0.2 45 j) ∧ Only KI1 KJ1 c0 c7 := by
  obtain ⟨c1, a1, fc0, fc1, fc2, d1⟩ := bec1_Land F c0
  obtain ⟨c2, a2, fc3, fc4, d2⟩ := bec1_Law F c1
  obtain ⟨c3, a3, fj0, fj1, fs0, d3⟩ := bec1_Night F c2
  obtain ⟨c4, a4, fc5, fc6, fc7, fc8, fs1, fs2, d4⟩ := bec1_Teams F c3
  obtain ⟨c5, a5, fc9, fc10, fc11, fs3, d5⟩ := bec1_Jobs F c4
  obtain ⟨c6, a6, fc12, fc13, fc14, fs4, d6⟩ := bec1_Book F c5
  obtain ⟨c7, a7, fc15, fc16, fs5, d7⟩ := bec1_Door F c6
  refine ⟨c7, ?_, ?_, ?_, ?_, ?_, ?_, ?_, ?_, ?_, ?_, ?_, ?_, ?_, ?_, ?_, ?_, ?_, ?_, ?_, ?_, ?_, ?_, ?_, ?_, ?_, ?_, ((((((d1.weak (I' := KI1) (J' := KJ1) (by decide) (by decide)).trans (d2.weak (by decide) (by decide))).trans (d3.weak (by decide) (by decide))).trans (d4.weak (by decide) (by decide))).trans (d5.weak (by decide) (by decide))).trans (d6.weak (by decide) (by decide))).trans (d7.weak (by decide) (by decide))⟩
  · unfold c_State_become_v1
    rw [a1, gB_mk, a2, gB_mk, a3, gB_mk, a4, gB_mk, a5, gB_mk, a6, gB_mk, a7, gB_mk]
  · exact fun j hj => by rw [d7.1 3 (by decide), d6.1 3 (by decide), d5.1 3 (by decide), d4.1 3 (by decide), d3.1 3 (by decide), d2.1 3 (by decide), fc0 j hj]
  · exact fun j hj => by rw [d7.1 4 (by decide), d6.1 4 (by decide), d5.1 4 (by decide), d4.1 4 (by decide), d3.1 4 (by decide), d2.1 4 (by decide), fc1 j hj]
  · exact fun j hj => by rw [d7.1 5 (by decide), d6.1 5 (by decide), d5.1 5 (by decide), d4.1 5 (by decide), d3.1 5 (by decide), d2.1 5 (by decide), fc2 j hj]
  · exact fun j hj => by rw [d7.1 7 (by decide), d6.1 7 (by decide), d5.1 7 (by decide), d4.1 7 (by decide), d3.1 7 (by decide), fc3 j hj, d1.1 41 (by decide)]
  · exact fun j hj => by rw [d7.1 8 (by decide), d6.1 8 (by decide), d5.1 8 (by decide), d4.1 8 (by decide), d3.1 8 (by decide), fc4 j hj, d1.1 42 (by decide)]
  · exact fun j hj => by rw [d7.1 15 (by decide), d6.1 15 (by decide), d5.1 15 (by decide), fc5 j hj, d3.1 49 (by decide), d2.1 49 (by decide), d1.1 49 (by decide)]
  · exact fun j hj => by rw [d7.1 16 (by decide), d6.1 16 (by decide), d5.1 16 (by decide), fc6 j hj, d3.1 50 (by decide), d2.1 50 (by decide), d1.1 50 (by decide)]
  · exact fun j hj => by rw [d7.1 17 (by decide), d6.1 17 (by decide), d5.1 17 (by decide), fc7 j hj, d3.1 51 (by decide), d2.1 51 (by decide), d1.1 51 (by decide)]
  · exact fun j hj => by rw [d7.1 18 (by decide), d6.1 18 (by decide), d5.1 18 (by decide), fc8 j hj, d3.1 52 (by decide), d2.1 52 (by decide), d1.1 52 (by decide)]
  · exact fun j hj => by rw [d7.1 23 (by decide), d6.1 23 (by decide), fc9 j hj, d4.1 57 (by decide), d3.1 57 (by decide), d2.1 57 (by decide), d1.1 57 (by decide)]
  · exact fun j hj => by rw [d7.1 24 (by decide), d6.1 24 (by decide), fc10 j hj, d4.1 58 (by decide), d3.1 58 (by decide), d2.1 58 (by decide), d1.1 58 (by decide)]
  · exact fun j hj => by rw [d7.1 25 (by decide), d6.1 25 (by decide), fc11 j hj, d4.1 59 (by decide), d3.1 59 (by decide), d2.1 59 (by decide), d1.1 59 (by decide)]
  · exact fun j hj => by rw [d7.1 29 (by decide), fc12 j hj, d5.1 63 (by decide), d4.1 63 (by decide), d3.1 63 (by decide), d2.1 63 (by decide), d1.1 63 (by decide)]
  · exact fun j hj => by rw [d7.1 30 (by decide), fc13 j hj, d5.1 64 (by decide), d4.1 64 (by decide), d3.1 64 (by decide), d2.1 64 (by decide), d1.1 64 (by decide)]
  · exact fun j hj => by rw [d7.1 31 (by decide), fc14 j hj, d5.1 65 (by decide), d4.1 65 (by decide), d3.1 65 (by decide), d2.1 65 (by decide), d1.1 65 (by decide)]
  · exact fun j hj => by rw [fc15 j hj, d6.1 67 (by decide), d5.1 67 (by decide), d4.1 67 (by decide), d3.1 67 (by decide), d2.1 67 (by decide), d1.1 67 (by decide)]
  · exact fun j hj => by rw [fc16 j hj, d6.1 68 (by decide), d5.1 68 (by decide), d4.1 68 (by decide), d3.1 68 (by decide), d2.1 68 (by decide), d1.1 68 (by decide)]
  · exact by rw [d7.1 9 (by decide), d6.1 9 (by decide), d5.1 9 (by decide), d4.1 9 (by decide), fs0, d2.1 43 (by decide), d1.1 43 (by decide)]
  · exact by rw [d7.1 14 (by decide), d6.1 14 (by decide), d5.1 14 (by decide), fs1, d3.1 48 (by decide), d2.1 48 (by decide), d1.1 48 (by decide)]
  · exact by rw [d7.1 14 (by decide), d6.1 14 (by decide), d5.1 14 (by decide), fs2, d3.1 48 (by decide), d2.1 48 (by decide), d1.1 48 (by decide)]
  · exact by rw [d7.1 22 (by decide), d6.1 22 (by decide), fs3, d4.1 56 (by decide), d3.1 56 (by decide), d2.1 56 (by decide), d1.1 56 (by decide)]
  · exact by rw [d7.1 28 (by decide), fs4, d5.1 62 (by decide), d4.1 62 (by decide), d3.1 62 (by decide), d2.1 62 (by decide), d1.1 62 (by decide)]
  · exact by rw [fs5, d6.1 66 (by decide), d5.1 66 (by decide), d4.1 66 (by decide), d3.1 66 (by decide), d2.1 66 (by decide), d1.1 66 (by decide)]
  · exact fun j hj => by rw [d7.2 10 (by decide), d6.2 10 (by decide), d5.2 10 (by decide), d4.2 10 (by decide), fj0 j hj, d2.2 44 (by decide), d1.2 44 (by decide)]
  · exact fun j hj => by rw [d7.2 11 (by decide), d6.2 11 (by decide), d5.2 11 (by decide), d4.2 11 (by decide), fj1 j hj, d2.2 45 (by decide), d1.2 45 (by decide)]
theorem lays (F : Nat) (hF : 3000 ≤ F) (m0 : St) : ∃ m17, m_image F m0 = m_image_end F (nI 682) m17 ∧ (∀ j, j < 144 → m17.1 27 (0 + j) = m0.1 2 j) ∧ (∀ j, j < 144 → m17.1 27 (144 + j) = m0.1 3 j) ∧ (∀ j, j < 144 → m17.1 27 (288 + j) = m0.1 4 j) ∧ (∀ j, j < 10 → m17.1 27 (432 + j) = m0.1 5 j) ∧ (∀ j, j < 8 → m17.1 27 (442 + j) = m0.1 6 j) ∧ (∀ j, j < 4 → m17.1 27 (450 + j) = m0.1 11 j) ∧ (∀ j, j < 4 → m17.1 27 (454 + j) = m0.1 12 j) ∧ (∀ j, j < 4 → m17.1 27 (458 + j) = m0.1 13 j) ∧ (∀ j, j < 6 → m17.1 27 (462 + j) = m0.1 14 j) ∧ (∀ j, j < 6 → m17.1 27 (468 + j) = m0.1 16 j) ∧ (∀ j, j < 6 → m17.1 27 (474 + j) = m0.1 17 j) ∧ (∀ j, j < 6 → m17.1 27 (480 + j) = m0.1 18 j) ∧ (∀ j, j < 60 → m17.1 27 (486 + j) = m0.1 21 j) ∧ (∀ j, j < 60 → m17.1 27 (546 + j) = m0.1 22 j) ∧ (∀ j, j < 60 → m17.1 27 (606 + j) = m0.1 23 j) ∧ (∀ j, j < 8 → m17.1 27 (666 + j) = m0.1 24 j) ∧ (∀ j, j < 8 → m17.1 27 (674 + j) = m0.1 25 j) ∧ Only [27] [] m0 m17 := by
  obtain ⟨m1, a0, f0, l0, d0⟩ := lay_0 F hF m0
  obtain ⟨m2, a1, f1, l1, d1⟩ := lay_1 F hF m1
  obtain ⟨m3, a2, f2, l2, d2⟩ := lay_2 F hF m2
  obtain ⟨m4, a3, f3, l3, d3⟩ := lay_3 F hF m3
  obtain ⟨m5, a4, f4, l4, d4⟩ := lay_4 F hF m4
  obtain ⟨m6, a5, f5, l5, d5⟩ := lay_5 F hF m5
  obtain ⟨m7, a6, f6, l6, d6⟩ := lay_6 F hF m6
  obtain ⟨m8, a7, f7, l7, d7⟩ := lay_7 F hF m7
  obtain ⟨m9, a8, f8, l8, d8⟩ := lay_8 F hF m8
  obtain ⟨m10, a9, f9, l9, d9⟩ := lay_9 F hF m9
  obtain ⟨m11, a10, f10, l10, d10⟩ := lay_10 F hF m10
  obtain ⟨m12, a11, f11, l11, d11⟩ := lay_11 F hF m11
  obtain ⟨m13, a12, f12, l12, d12⟩ := lay_12 F hF m12
  obtain ⟨m14, a13, f13, l13, d13⟩ := lay_13 F hF m13
  obtain ⟨m15, a14, f14, l14, d14⟩ := lay_14 F hF m14
  obtain ⟨m16, a15, f15, l15, d15⟩ := lay_15 F hF m15
  obtain ⟨m17, a16, f16, l16, d16⟩ := lay_16 F hF m16
  refine ⟨m17, ?_, ?_, ?_, ?_, ?_, ?_, ?_, ?_, ?_, ?_, ?_, ?_, ?_, ?_, ?_, ?_, ?_, ?_, ((((((((((((((((d0).trans d1).trans d2).trans d3).trans d4).trans d5).trans d6).trans d7).trans d8).trans d9).trans d10).trans d11).trans d12).trans d13).trans d14).trans d15).trans d16⟩
  · unfold m_image
    rw [show m_lay F (0 : Int32) m0 = some (nI 144, m1) from a0, gB2_mk, a1, gB2_mk, a2, gB2_mk, a3, gB2_mk, a4, gB2_mk, a5, gB2_mk, a6, gB2_mk, a7, gB2_mk, a8, gB2_mk, a9, gB2_mk, a10, gB2_mk, a11, gB2_mk, a12, gB2_mk, a13, gB2_mk, a14, gB2_mk, a15, gB2_mk, a16, gB2_mk]
    rfl
  · exact fun j hj => by rw [l16 _ (by omega), l15 _ (by omega), l14 _ (by omega), l13 _ (by omega), l12 _ (by omega), l11 _ (by omega), l10 _ (by omega), l9 _ (by omega), l8 _ (by omega), l7 _ (by omega), l6 _ (by omega), l5 _ (by omega), l4 _ (by omega), l3 _ (by omega), l2 _ (by omega), l1 _ (by omega), f0 j hj]
  · exact fun j hj => by rw [l16 _ (by omega), l15 _ (by omega), l14 _ (by omega), l13 _ (by omega), l12 _ (by omega), l11 _ (by omega), l10 _ (by omega), l9 _ (by omega), l8 _ (by omega), l7 _ (by omega), l6 _ (by omega), l5 _ (by omega), l4 _ (by omega), l3 _ (by omega), l2 _ (by omega), f1 j hj, d0.1 3 (by decide)]
  · exact fun j hj => by rw [l16 _ (by omega), l15 _ (by omega), l14 _ (by omega), l13 _ (by omega), l12 _ (by omega), l11 _ (by omega), l10 _ (by omega), l9 _ (by omega), l8 _ (by omega), l7 _ (by omega), l6 _ (by omega), l5 _ (by omega), l4 _ (by omega), l3 _ (by omega), f2 j hj, d1.1 4 (by decide), d0.1 4 (by decide)]
  · exact fun j hj => by rw [l16 _ (by omega), l15 _ (by omega), l14 _ (by omega), l13 _ (by omega), l12 _ (by omega), l11 _ (by omega), l10 _ (by omega), l9 _ (by omega), l8 _ (by omega), l7 _ (by omega), l6 _ (by omega), l5 _ (by omega), l4 _ (by omega), f3 j hj, d2.1 5 (by decide), d1.1 5 (by decide), d0.1 5 (by decide)]
  · exact fun j hj => by rw [l16 _ (by omega), l15 _ (by omega), l14 _ (by omega), l13 _ (by omega), l12 _ (by omega), l11 _ (by omega), l10 _ (by omega), l9 _ (by omega), l8 _ (by omega), l7 _ (by omega), l6 _ (by omega), l5 _ (by omega), f4 j hj, d3.1 6 (by decide), d2.1 6 (by decide), d1.1 6 (by decide), d0.1 6 (by decide)]
  · exact fun j hj => by rw [l16 _ (by omega), l15 _ (by omega), l14 _ (by omega), l13 _ (by omega), l12 _ (by omega), l11 _ (by omega), l10 _ (by omega), l9 _ (by omega), l8 _ (by omega), l7 _ (by omega), l6 _ (by omega), f5 j hj, d4.1 11 (by decide), d3.1 11 (by decide), d2.1 11 (by decide), d1.1 11 (by decide), d0.1 11 (by decide)]
  · exact fun j hj => by rw [l16 _ (by omega), l15 _ (by omega), l14 _ (by omega), l13 _ (by omega), l12 _ (by omega), l11 _ (by omega), l10 _ (by omega), l9 _ (by omega), l8 _ (by omega), l7 _ (by omega), f6 j hj, d5.1 12 (by decide), d4.1 12 (by decide), d3.1 12 (by decide), d2.1 12 (by decide), d1.1 12 (by decide), d0.1 12 (by decide)]
  · exact fun j hj => by rw [l16 _ (by omega), l15 _ (by omega), l14 _ (by omega), l13 _ (by omega), l12 _ (by omega), l11 _ (by omega), l10 _ (by omega), l9 _ (by omega), l8 _ (by omega), f7 j hj, d6.1 13 (by decide), d5.1 13 (by decide), d4.1 13 (by decide), d3.1 13 (by decide), d2.1 13 (by decide), d1.1 13 (by decide), d0.1 13 (by decide)]
  · exact fun j hj => by rw [l16 _ (by omega), l15 _ (by omega), l14 _ (by omega), l13 _ (by omega), l12 _ (by omega), l11 _ (by omega), l10 _ (by omega), l9 _ (by omega), f8 j hj, d7.1 14 (by decide), d6.1 14 (by decide), d5.1 14 (by decide), d4.1 14 (by decide), d3.1 14 (by decide), d2.1 14 (by decide), d1.1 14 (by decide), d0.1 14 (by decide)]
  · exact fun j hj => by rw [l16 _ (by omega), l15 _ (by omega), l14 _ (by omega), l13 _ (by omega), l12 _ (by omega), l11 _ (by omega), l10 _ (by omega), f9 j hj, d8.1 16 (by decide), d7.1 16 (by decide), d6.1 16 (by decide), d5.1 16 (by decide), d4.1 16 (by decide), d3.1 16 (by decide), d2.1 16 (by decide), d1.1 16 (by decide), d0.1 16 (by decide)]
  · exact fun j hj => by rw [l16 _ (by omega), l15 _ (by omega), l14 _ (by omega), l13 _ (by omega), l12 _ (by omega), l11 _ (by omega), f10 j hj, d9.1 17 (by decide), d8.1 17 (by decide), d7.1 17 (by decide), d6.1 17 (by decide), d5.1 17 (by decide), d4.1 17 (by decide), d3.1 17 (by decide), d2.1 17 (by decide), d1.1 17 (by decide), d0.1 17 (by decide)]
  · exact fun j hj => by rw [l16 _ (by omega), l15 _ (by omega), l14 _ (by omega), l13 _ (by omega), l12 _ (by omega), f11 j hj, d10.1 18 (by decide), d9.1 18 (by decide), d8.1 18 (by decide), d7.1 18 (by decide), d6.1 18 (by decide), d5.1 18 (by decide), d4.1 18 (by decide), d3.1 18 (by decide), d2.1 18 (by decide), d1.1 18 (by decide), d0.1 18 (by decide)]
  · exact fun j hj => by rw [l16 _ (by omega), l15 _ (by omega), l14 _ (by omega), l13 _ (by omega), f12 j hj, d11.1 21 (by decide), d10.1 21 (by decide), d9.1 21 (by decide), d8.1 21 (by decide), d7.1 21 (by decide), d6.1 21 (by decide), d5.1 21 (by decide), d4.1 21 (by decide), d3.1 21 (by decide), d2.1 21 (by decide), d1.1 21 (by decide), d0.1 21 (by decide)]
  · exact fun j hj => by rw [l16 _ (by omega), l15 _ (by omega), l14 _ (by omega), f13 j hj, d12.1 22 (by decide), d11.1 22 (by decide), d10.1 22 (by decide), d9.1 22 (by decide), d8.1 22 (by decide), d7.1 22 (by decide), d6.1 22 (by decide), d5.1 22 (by decide), d4.1 22 (by decide), d3.1 22 (by decide), d2.1 22 (by decide), d1.1 22 (by decide), d0.1 22 (by decide)]
  · exact fun j hj => by rw [l16 _ (by omega), l15 _ (by omega), f14 j hj, d13.1 23 (by decide), d12.1 23 (by decide), d11.1 23 (by decide), d10.1 23 (by decide), d9.1 23 (by decide), d8.1 23 (by decide), d7.1 23 (by decide), d6.1 23 (by decide), d5.1 23 (by decide), d4.1 23 (by decide), d3.1 23 (by decide), d2.1 23 (by decide), d1.1 23 (by decide), d0.1 23 (by decide)]
  · exact fun j hj => by rw [l16 _ (by omega), f15 j hj, d14.1 24 (by decide), d13.1 24 (by decide), d12.1 24 (by decide), d11.1 24 (by decide), d10.1 24 (by decide), d9.1 24 (by decide), d8.1 24 (by decide), d7.1 24 (by decide), d6.1 24 (by decide), d5.1 24 (by decide), d4.1 24 (by decide), d3.1 24 (by decide), d2.1 24 (by decide), d1.1 24 (by decide), d0.1 24 (by decide)]
  · exact fun j hj => by rw [f16 j hj, d15.1 25 (by decide), d14.1 25 (by decide), d13.1 25 (by decide), d12.1 25 (by decide), d11.1 25 (by decide), d10.1 25 (by decide), d9.1 25 (by decide), d8.1 25 (by decide), d7.1 25 (by decide), d6.1 25 (by decide), d5.1 25 (by decide), d4.1 25 (by decide), d3.1 25 (by decide), d2.1 25 (by decide), d1.1 25 (by decide), d0.1 25 (by decide)]
abbrev RI : List Nat := [2, 3, 4, 5, 6, 11, 12, 13, 14, 16, 17, 18, 21, 22, 23, 24, 25]
theorem gives (F : Nat) (hF : 3000 ≤ F) (m0 : St) (h0 : ¬ m0.1 0 37 = 0) : ∃ m17, m_restore F m0 = m_restore_end F (nI 682) m17 ∧ (∀ j, j < 144 → m17.1 2 j = m0.1 27 (0 + j)) ∧ (∀ j, j < 144 → m17.1 3 j = m0.1 27 (144 + j)) ∧ (∀ j, j < 144 → m17.1 4 j = m0.1 27 (288 + j)) ∧ (∀ j, j < 10 → m17.1 5 j = m0.1 27 (432 + j)) ∧ (∀ j, j < 8 → m17.1 6 j = m0.1 27 (442 + j)) ∧ (∀ j, j < 4 → m17.1 11 j = m0.1 27 (450 + j)) ∧ (∀ j, j < 4 → m17.1 12 j = m0.1 27 (454 + j)) ∧ (∀ j, j < 4 → m17.1 13 j = m0.1 27 (458 + j)) ∧ (∀ j, j < 6 → m17.1 14 j = m0.1 27 (462 + j)) ∧ (∀ j, j < 6 → m17.1 16 j = m0.1 27 (468 + j)) ∧ (∀ j, j < 6 → m17.1 17 j = m0.1 27 (474 + j)) ∧ (∀ j, j < 6 → m17.1 18 j = m0.1 27 (480 + j)) ∧ (∀ j, j < 60 → m17.1 21 j = m0.1 27 (486 + j)) ∧ (∀ j, j < 60 → m17.1 22 j = m0.1 27 (546 + j)) ∧ (∀ j, j < 60 → m17.1 23 j = m0.1 27 (606 + j)) ∧ (∀ j, j < 8 → m17.1 24 j = m0.1 27 (666 + j)) ∧ (∀ j, j < 8 → m17.1 25 j = m0.1 27 (674 + j)) ∧ Only RI [] m0 m17 := by
  obtain ⟨m1, a0, f0, d0⟩ := giv_0 F hF m0
  obtain ⟨m2, a1, f1, d1⟩ := giv_1 F hF m1
  obtain ⟨m3, a2, f2, d2⟩ := giv_2 F hF m2
  obtain ⟨m4, a3, f3, d3⟩ := giv_3 F hF m3
  obtain ⟨m5, a4, f4, d4⟩ := giv_4 F hF m4
  obtain ⟨m6, a5, f5, d5⟩ := giv_5 F hF m5
  obtain ⟨m7, a6, f6, d6⟩ := giv_6 F hF m6
  obtain ⟨m8, a7, f7, d7⟩ := giv_7 F hF m7
  obtain ⟨m9, a8, f8, d8⟩ := giv_8 F hF m8
  obtain ⟨m10, a9, f9, d9⟩ := giv_9 F hF m9
  obtain ⟨m11, a10, f10, d10⟩ := giv_10 F hF m10
  obtain ⟨m12, a11, f11, d11⟩ := giv_11 F hF m11
  obtain ⟨m13, a12, f12, d12⟩ := giv_12 F hF m12
  obtain ⟨m14, a13, f13, d13⟩ := giv_13 F hF m13
  obtain ⟨m15, a14, f14, d14⟩ := giv_14 F hF m14
  obtain ⟨m16, a15, f15, d15⟩ := giv_15 F hF m15
  obtain ⟨m17, a16, f16, d16⟩ := giv_16 F hF m16
  refine ⟨m17, ?_, ?_, ?_, ?_, ?_, ?_, ?_, ?_, ?_, ?_, ?_, ?_, ?_, ?_, ?_, ?_, ?_, ?_, ((((((((((((((((d0.weak (I' := RI) (J' := []) (by decide) (by decide)).trans (d1.weak (by decide) (by decide))).trans (d2.weak (by decide) (by decide))).trans (d3.weak (by decide) (by decide))).trans (d4.weak (by decide) (by decide))).trans (d5.weak (by decide) (by decide))).trans (d6.weak (by decide) (by decide))).trans (d7.weak (by decide) (by decide))).trans (d8.weak (by decide) (by decide))).trans (d9.weak (by decide) (by decide))).trans (d10.weak (by decide) (by decide))).trans (d11.weak (by decide) (by decide))).trans (d12.weak (by decide) (by decide))).trans (d13.weak (by decide) (by decide))).trans (d14.weak (by decide) (by decide))).trans (d15.weak (by decide) (by decide))).trans (d16.weak (by decide) (by decide))⟩
  · unfold m_restore
    rw [if_neg h0, show m_gives F (0 : Int32) m0 = some (nI 144, m1) from a0, gB2_mk, a1, gB2_mk, a2, gB2_mk, a3, gB2_mk, a4, gB2_mk, a5, gB2_mk, a6, gB2_mk, a7, gB2_mk, a8, gB2_mk, a9, gB2_mk, a10, gB2_mk, a11, gB2_mk, a12, gB2_mk, a13, gB2_mk, a14, gB2_mk, a15, gB2_mk, a16, gB2_mk]
    rfl
  · exact fun j hj => by rw [d16.1 2 (by decide), d15.1 2 (by decide), d14.1 2 (by decide), d13.1 2 (by decide), d12.1 2 (by decide), d11.1 2 (by decide), d10.1 2 (by decide), d9.1 2 (by decide), d8.1 2 (by decide), d7.1 2 (by decide), d6.1 2 (by decide), d5.1 2 (by decide), d4.1 2 (by decide), d3.1 2 (by decide), d2.1 2 (by decide), d1.1 2 (by decide), f0 j hj]
  · exact fun j hj => by rw [d16.1 3 (by decide), d15.1 3 (by decide), d14.1 3 (by decide), d13.1 3 (by decide), d12.1 3 (by decide), d11.1 3 (by decide), d10.1 3 (by decide), d9.1 3 (by decide), d8.1 3 (by decide), d7.1 3 (by decide), d6.1 3 (by decide), d5.1 3 (by decide), d4.1 3 (by decide), d3.1 3 (by decide), d2.1 3 (by decide), f1 j hj, d0.1 27 (by decide)]
  · exact fun j hj => by rw [d16.1 4 (by decide), d15.1 4 (by decide), d14.1 4 (by decide), d13.1 4 (by decide), d12.1 4 (by decide), d11.1 4 (by decide), d10.1 4 (by decide), d9.1 4 (by decide), d8.1 4 (by decide), d7.1 4 (by decide), d6.1 4 (by decide), d5.1 4 (by decide), d4.1 4 (by decide), d3.1 4 (by decide), f2 j hj, d1.1 27 (by decide), d0.1 27 (by decide)]
  · exact fun j hj => by rw [d16.1 5 (by decide), d15.1 5 (by decide), d14.1 5 (by decide), d13.1 5 (by decide), d12.1 5 (by decide), d11.1 5 (by decide), d10.1 5 (by decide), d9.1 5 (by decide), d8.1 5 (by decide), d7.1 5 (by decide), d6.1 5 (by decide), d5.1 5 (by decide), d4.1 5 (by decide), f3 j hj, d2.1 27 (by decide), d1.1 27 (by decide), d0.1 27 (by decide)]
  · exact fun j hj => by rw [d16.1 6 (by decide), d15.1 6 (by decide), d14.1 6 (by decide), d13.1 6 (by decide), d12.1 6 (by decide), d11.1 6 (by decide), d10.1 6 (by decide), d9.1 6 (by decide), d8.1 6 (by decide), d7.1 6 (by decide), d6.1 6 (by decide), d5.1 6 (by decide), f4 j hj, d3.1 27 (by decide), d2.1 27 (by decide), d1.1 27 (by decide), d0.1 27 (by decide)]
  · exact fun j hj => by rw [d16.1 11 (by decide), d15.1 11 (by decide), d14.1 11 (by decide), d13.1 11 (by decide), d12.1 11 (by decide), d11.1 11 (by decide), d10.1 11 (by decide), d9.1 11 (by decide), d8.1 11 (by decide), d7.1 11 (by decide), d6.1 11 (by decide), f5 j hj, d4.1 27 (by decide), d3.1 27 (by decide), d2.1 27 (by decide), d1.1 27 (by decide), d0.1 27 (by decide)]
  · exact fun j hj => by rw [d16.1 12 (by decide), d15.1 12 (by decide), d14.1 12 (by decide), d13.1 12 (by decide), d12.1 12 (by decide), d11.1 12 (by decide), d10.1 12 (by decide), d9.1 12 (by decide), d8.1 12 (by decide), d7.1 12 (by decide), f6 j hj, d5.1 27 (by decide), d4.1 27 (by decide), d3.1 27 (by decide), d2.1 27 (by decide), d1.1 27 (by decide), d0.1 27 (by decide)]
  · exact fun j hj => by rw [d16.1 13 (by decide), d15.1 13 (by decide), d14.1 13 (by decide), d13.1 13 (by decide), d12.1 13 (by decide), d11.1 13 (by decide), d10.1 13 (by decide), d9.1 13 (by decide), d8.1 13 (by decide), f7 j hj, d6.1 27 (by decide), d5.1 27 (by decide), d4.1 27 (by decide), d3.1 27 (by decide), d2.1 27 (by decide), d1.1 27 (by decide), d0.1 27 (by decide)]
  · exact fun j hj => by rw [d16.1 14 (by decide), d15.1 14 (by decide), d14.1 14 (by decide), d13.1 14 (by decide), d12.1 14 (by decide), d11.1 14 (by decide), d10.1 14 (by decide), d9.1 14 (by decide), f8 j hj, d7.1 27 (by decide), d6.1 27 (by decide), d5.1 27 (by decide), d4.1 27 (by decide), d3.1 27 (by decide), d2.1 27 (by decide), d1.1 27 (by decide), d0.1 27 (by decide)]
  · exact fun j hj => by rw [d16.1 16 (by decide), d15.1 16 (by decide), d14.1 16 (by decide), d13.1 16 (by decide), d12.1 16 (by decide), d11.1 16 (by decide), d10.1 16 (by decide), f9 j hj, d8.1 27 (by decide), d7.1 27 (by decide), d6.1 27 (by decide), d5.1 27 (by decide), d4.1 27 (by decide), d3.1 27 (by decide), d2.1 27 (by decide), d1.1 27 (by decide), d0.1 27 (by decide)]
  · exact fun j hj => by rw [d16.1 17 (by decide), d15.1 17 (by decide), d14.1 17 (by decide), d13.1 17 (by decide), d12.1 17 (by decide), d11.1 17 (by decide), f10 j hj, d9.1 27 (by decide), d8.1 27 (by decide), d7.1 27 (by decide), d6.1 27 (by decide), d5.1 27 (by decide), d4.1 27 (by decide), d3.1 27 (by decide), d2.1 27 (by decide), d1.1 27 (by decide), d0.1 27 (by decide)]
  · exact fun j hj => by rw [d16.1 18 (by decide), d15.1 18 (by decide), d14.1 18 (by decide), d13.1 18 (by decide), d12.1 18 (by decide), f11 j hj, d10.1 27 (by decide), d9.1 27 (by decide), d8.1 27 (by decide), d7.1 27 (by decide), d6.1 27 (by decide), d5.1 27 (by decide), d4.1 27 (by decide), d3.1 27 (by decide), d2.1 27 (by decide), d1.1 27 (by decide), d0.1 27 (by decide)]
  · exact fun j hj => by rw [d16.1 21 (by decide), d15.1 21 (by decide), d14.1 21 (by decide), d13.1 21 (by decide), f12 j hj, d11.1 27 (by decide), d10.1 27 (by decide), d9.1 27 (by decide), d8.1 27 (by decide), d7.1 27 (by decide), d6.1 27 (by decide), d5.1 27 (by decide), d4.1 27 (by decide), d3.1 27 (by decide), d2.1 27 (by decide), d1.1 27 (by decide), d0.1 27 (by decide)]
  · exact fun j hj => by rw [d16.1 22 (by decide), d15.1 22 (by decide), d14.1 22 (by decide), f13 j hj, d12.1 27 (by decide), d11.1 27 (by decide), d10.1 27 (by decide), d9.1 27 (by decide), d8.1 27 (by decide), d7.1 27 (by decide), d6.1 27 (by decide), d5.1 27 (by decide), d4.1 27 (by decide), d3.1 27 (by decide), d2.1 27 (by decide), d1.1 27 (by decide), d0.1 27 (by decide)]
  · exact fun j hj => by rw [d16.1 23 (by decide), d15.1 23 (by decide), f14 j hj, d13.1 27 (by decide), d12.1 27 (by decide), d11.1 27 (by decide), d10.1 27 (by decide), d9.1 27 (by decide), d8.1 27 (by decide), d7.1 27 (by decide), d6.1 27 (by decide), d5.1 27 (by decide), d4.1 27 (by decide), d3.1 27 (by decide), d2.1 27 (by decide), d1.1 27 (by decide), d0.1 27 (by decide)]
  · exact fun j hj => by rw [d16.1 24 (by decide), f15 j hj, d14.1 27 (by decide), d13.1 27 (by decide), d12.1 27 (by decide), d11.1 27 (by decide), d10.1 27 (by decide), d9.1 27 (by decide), d8.1 27 (by decide), d7.1 27 (by decide), d6.1 27 (by decide), d5.1 27 (by decide), d4.1 27 (by decide), d3.1 27 (by decide), d2.1 27 (by decide), d1.1 27 (by decide), d0.1 27 (by decide)]
  · exact fun j hj => by rw [f16 j hj, d15.1 27 (by decide), d14.1 27 (by decide), d13.1 27 (by decide), d12.1 27 (by decide), d11.1 27 (by decide), d10.1 27 (by decide), d9.1 27 (by decide), d8.1 27 (by decide), d7.1 27 (by decide), d6.1 27 (by decide), d5.1 27 (by decide), d4.1 27 (by decide), d3.1 27 (by decide), d2.1 27 (by decide), d1.1 27 (by decide), d0.1 27 (by decide)]
