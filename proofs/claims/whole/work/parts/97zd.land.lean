/-! the pure part: land, the reference -/
def layQ (Q : Nat → Int32) (b n k : Nat) : Nat → Int32 := fun j => if b ≤ j ∧ j < b + n then nI k else Q j
def layq (q : Nat → Option Nat) (b n k : Nat) : Nat → Option Nat := fun j => if b ≤ j ∧ j < b + n then some k else q j
def QL (q : Nat → Option Nat) (Q : Nat → Int32) : Prop := ∀ j, j < 144 → Q j = enc (-4) (q j) ∧ ∀ v, q j = some v → v ≤ 7
theorem QL.lay {q : Nat → Option Nat} {Q : Nat → Int32} (h : QL q Q) {b n k : Nat} (hk : k ≤ 7) : QL (layq q b n k) (layQ Q b n k) := fun j hj => by
  unfold layq layQ
  by_cases e : b ≤ j ∧ j < b + n
  · rw [if_pos e, if_pos e]
    exact ⟨rfl, fun v hv => by cases hv; exact hk⟩
  · rw [if_neg e, if_neg e]
    exact h j hj
def apK (q : Nat → Option Nat) (K : Nat → Nat) (j : Nat) : Nat := match q j with
  | some v => v
  | none => K j
def apD (q : Nat → Option Nat) (D : Nat → Nat) (j : Nat) : Nat := match q j with
  | some _ => 0
  | none => D j
theorem apK_lay {q : Nat → Option Nat} {K : Nat → Nat} {b n k : Nat} : apK (layq q b n k) K = layK (apK q K) b n k := funext fun j => by
  unfold apK layq layK
  by_cases e : b ≤ j ∧ j < b + n
  · rw [if_pos e, if_pos e]
  · rw [if_neg e, if_neg e]
theorem apD_lay {q : Nat → Option Nat} {D : Nat → Nat} {b n k : Nat} : apD (layq q b n k) D = layK (apD q D) b n 0 := funext fun j => by
  unfold apD layq layK
  by_cases e : b ≤ j ∧ j < b + n
  · rw [if_pos e, if_pos e]
  · rw [if_neg e, if_neg e]
theorem layQ_0 (Q : Nat → Int32) (b k : Nat) : layQ Q b 0 k = Q := funext fun j => if_neg (by omega)
theorem layQ_1 (Q : Nat → Int32) (b n k : Nat) : layQ (upd Q b (nI k)) (b + 1) n k = layQ Q b (n + 1) k := funext fun j => by
  unfold layQ upd
  by_cases h : b ≤ j ∧ j < b + (n + 1)
  · rw [if_pos h]
    by_cases h2 : b + 1 ≤ j ∧ j < b + 1 + n
    · rw [if_pos h2]
    · rw [if_neg h2, if_pos (by omega)]
  · rw [if_neg h, if_neg (by omega), if_neg (by omega)]
theorem m_168bad (F : Nat) (k4 : Int32 → Int32 → Int32 → St → Option (Int32 × St)) (x1 x2 w1 : Int32) (s : St) (hs : s.1 0 9 = w1) (hn : ¬ w1 = 0) : m_row_J168 F k4 x1 x2 s = k4 x1 x2 0 s := by
  unfold m_row_J168
  rw [hs, if_neg hn]
  rfl
theorem m_168ok (F : Nat) (k4 : Int32 → Int32 → Int32 → St → Option (Int32 × St)) (x1 x2 a a' w0 r e : Int32) (Q : Nat → Int32) (m : St) (h0 : w0 = 0) (hh : m_here F (mst m a w0 Q) = some (r, mst m a' w0 Q)) (hk : m_kindOf F r (mst m a' w0 Q) = some (e, mst m a' w0 Q)) : m_row_J168 F k4 x1 x2 (mst m a w0 Q) = if e < 0 then k4 x1 x2 0 (mst m a' w0 Q) else k4 x1 x2 1 (mst m a' w0 Q) := by
  unfold m_row_J168
  rw [mst_wrong, if_pos h0, hh, gB2_mk, hk, gB2_mk]
  rfl
theorem m_132_lp (F : Nat) (k4 : Int32 → Int32 → Int32 → St → Option (Int32 × St)) {m : St} {a w0 : Int32} (h0 : w0 = 0) {ρ kd N : Nat} (hN : N ≤ 12) (hρ : ρ ≤ 11) : ∀ (d x k w : Nat) (Q : Nat → Int32), x + d = N → d < k → w + d ≤ 12 → m_row_L132 F k4 k (nI ρ) (nI w) (nI kd) (nI N) (nI x) (mst m a w0 Q) = m_row_J168 F k4 (nI ρ) (nI (w + d)) (mst m a w0 (layQ Q (12 * ρ + w) d kd)) := by
  intro d
  induction d with
  | zero =>
    intro x k w Q hx hk hw
    obtain ⟨k, rfl⟩ : ∃ z, k = z + 1 := ⟨k - 1, by omega⟩
    show m_row_L132b F k4 (m_row_L132 F k4 k) (nI ρ) (nI w) (nI kd) (nI N) (nI x) (mst m a w0 Q) = _
    unfold m_row_L132b
    rw [if_pos (nI_le (by omega) (by omega)), layQ_0]
    rfl
  | succ d ih =>
    intro x k w Q hx hk hw
    obtain ⟨k, rfl⟩ : ∃ z, k = z + 1 := ⟨k - 1, by omega⟩
    have g0 : ¬ nI N ≤ nI x := by
      rw [leI (by omega) (by omega)]
      omega
    show m_row_L132b F k4 (m_row_L132 F k4 k) (nI ρ) (nI w) (nI kd) (nI N) (nI x) (mst m a w0 Q) = _
    unfold m_row_L132b
    rw [if_neg g0, mst_wrong, if_pos h0, show (12 : Int32) = nI 12 from rfl, mulI, nI_add, inb_nI (show 12 * ρ + w < 144 by omega) (by decide), if_pos (show true = true from rfl), cl_nI (by omega), mst_q, show nI w + (1 : Int32) = nI (w + 1) from by rw [show (1 : Int32) = nI 1 from rfl, nI_add], show nI x + (1 : Int32) = nI (x + 1) from by rw [show (1 : Int32) = nI 1 from rfl, nI_add], ih (x + 1) k (w + 1) _ (by omega) (by omega) (by omega), show 12 * ρ + (w + 1) = 12 * ρ + w + 1 by omega, layQ_1, show w + 1 + d = w + (d + 1) by omega]
theorem m_132bad (F : Nat) (hF : 3000 ≤ F) (k4 : Int32 → Int32 → Int32 → St → Option (Int32 × St)) {m : St} {a w1 : Int32} {Q : Nat → Int32} (hn : ¬ w1 = 0) (x1 x2 x4 : Int32) {N : Nat} (h1 : 1 ≤ N) (hN : N ≤ 9) : m_row_J129 F k4 x1 x2 x4 (nI N) (mst m a w1 Q) = k4 x1 x2 0 (mst m a w1 Q) := by
  obtain ⟨f, hf⟩ : ∃ z, F = z + 1 := ⟨F - 1, by omega⟩
  have e : ∀ x6 s, m_row_L132 F k4 F x1 x2 x4 (nI N) x6 s = m_row_L132b F k4 (m_row_L132 F k4 f) x1 x2 x4 (nI N) x6 s := fun x6 s => by
    have : m_row_L132 F k4 F x1 x2 x4 (nI N) x6 s = m_row_L132 F k4 (f + 1) x1 x2 x4 (nI N) x6 s := by rw [← hf]
    rw [this]
    rfl
  have g0 : ¬ nI N ≤ 0 := by
    rw [show (0 : Int32) = nI 0 from rfl, leI (by omega) (by omega)]
    omega
  unfold m_row_J129
  rw [e]
  unfold m_row_L132b
  rw [if_neg g0, mst_wrong, if_neg hn]
  exact m_168bad F k4 x1 x2 w1 _ mst_wrong hn
theorem m_41bad (F : Nat) (k4 : Int32 → Int32 → Int32 → St → Option (Int32 × St)) (x1 x2 x4 a w w1 : Int32) (Q : Nat → Int32) (m : St) (h : w1 = 0 ∨ w1 = 1) (hn : ¬ w1 = 0) : m_row_J41 F k4 x1 x2 x4 w1 (mst m a w Q) = k4 x1 x2 0 (mst m a w1 Q) := by
  unfold m_row_J41
  rw [if_pos h, mst_w, mst_wrong, if_neg hn]
  exact m_168bad F k4 x1 x2 w1 _ mst_wrong hn
theorem m_36bad (F : Nat) (k4 : Int32 → Int32 → Int32 → St → Option (Int32 × St)) (x1 x2 x4 a w : Int32) (Q : Nat → Int32) (m : St) : m_row_J36 F k4 x1 x2 x4 (mst m a w Q) = k4 x1 x2 0 (mst m a 1 Q) := by
  unfold m_row_J36
  exact m_41bad F k4 x1 x2 x4 a w 1 Q m (Or.inr rfl) (by decide)
theorem m_105ok (F : Nat) (k4 : Int32 → Int32 → Int32 → St → Option (Int32 × St)) (x1 x2 x4 x5 a w w0 : Int32) (Q : Nat → Int32) (m : St) (h0 : w0 = 0) : m_row_J105 F k4 x1 x2 x4 x5 w0 (mst m a w Q) = m_row_J129 F k4 x1 x2 x4 x5 (mst m (a + 1) w0 Q) := by
  unfold m_row_J105 m_row_J125
  rw [if_pos (Or.inl h0), mst_w, mst_wrong, if_pos h0, mst_at, mst_a]
theorem m_105bad (F : Nat) (k4 : Int32 → Int32 → Int32 → St → Option (Int32 × St)) (x1 x2 x4 x5 a w w1 : Int32) (Q : Nat → Int32) (m : St) (h : w1 = 0 ∨ w1 = 1) (hn : ¬ w1 = 0) : m_row_J105 F k4 x1 x2 x4 x5 w1 (mst m a w Q) = m_row_J129 F k4 x1 x2 x4 x5 (mst m a w1 Q) := by
  unfold m_row_J105 m_row_J125
  rw [if_pos h, mst_w, mst_wrong, if_neg hn, mst_at, mst_a, Int32.add_zero]
theorem m_41ok (F : Nat) (k4 : Int32 → Int32 → Int32 → St → Option (Int32 × St)) (x1 x2 x4 a a' w w0 : Int32) {b : Nat} (hb : b < 127) (Q : Nat → Int32) (m : St) (h0 : w0 = 0) (hh : m_here F (mst m (a + 1) w0 Q) = some (nI b, mst m a' w0 Q)) (hh2 : m_here F (mst m a' w0 Q) = some (nI b, mst m a' w0 Q)) : m_row_J41 F k4 x1 x2 x4 w0 (mst m a w Q) = if 49 ≤ b ∧ b ≤ 57 then (if x2 + (nI b - 48) ≤ 12 then m_row_J105 F k4 x1 x2 x4 (nI b - 48) 0 (mst m a' w0 Q) else m_row_J105 F k4 x1 x2 x4 (nI b - 48) 1 (mst m a' w0 Q)) else m_row_J129 F k4 x1 x2 x4 1 (mst m a' w0 Q) := by
  unfold m_row_J41
  rw [if_pos (Or.inl h0), mst_w, mst_wrong, if_pos h0, mst_at, mst_a, hh, gB2_mk, show (49 : Int64) = lN 49 from rfl, show (57 : Int64) = lN 57 from rfl, m_in_dg F _ hb 49 (by decide), gB2_mk, bz_ite]
  by_cases e : 49 ≤ b ∧ b ≤ 57
  · rw [if_pos e, if_pos e, hh2, gB2_mk]
  · rw [if_neg e, if_neg e]
theorem row_succ (F k : Nat) (x1 x2 x3 : Int32) (s : St) : m_row_L4 F (k + 1) x1 x2 x3 s = m_row_L4b F (m_row_L4 F k) x1 x2 x3 s := rfl
theorem row_end (F k : Nat) (x1 x2 x3 : Int32) (s : St) (h : x3 = 0) : m_row_L4 F (k + 1) x1 x2 x3 s = some (x2, s) := by
  rw [row_succ, m_row_L4b, if_pos h]
theorem nb_self {B : Nat → Nat} {n c : Nat} (h : c = n ∨ B c ≠ 32) : nbF B c (n - c) = c := by
  by_cases hcn : n ≤ c
  · rw [show n - c = 0 by omega]
    rfl
  · rw [show n - c = (n - c - 1) + 1 by omega, nbF, if_neg]
    rcases h with h | h
    · omega
    · exact h
theorem m_row_lp (F : Nat) (hF : 3000 ≤ F) {B : Nat → Nat} {n : Nat} {m : St} (hB : TapeB B n) (hm : TapeM B n m) {ρ : Nat} (hρ : ρ ≤ 11) : ∀ (d a k w fits : Nat) (q : Nat → Option Nat) (Q : Nat → Int32) (x3 : Int32), ¬ x3 = 0 → a + d = n → d + 2 < k → w ≤ 12 → QL q Q → ((w = 0 ∧ fits = 0) ∨ (a < n ∧ (kidx (B a)).isSome = true)) →
    ∃ (w' c' : Nat) (Q' : Nat → Int32), w' ≤ 12 ∧ a ≤ c' ∧ c' ≤ n ∧
      ((landF B a d ρ w fits = some c' ∧ m_row_L4 F k (nI ρ) (nI w) x3 (mst m (nI a) 0 Q) = some (nI w', mst m (nI c') 1 Q')) ∨
      (m_row_L4 F k (nI ρ) (nI w) x3 (mst m (nI a) 0 Q) = some (nI w', mst m (nI c') 0 Q') ∧ 1 ≤ w' ∧ w ≤ w' ∧ a < c' ∧ (c' = n ∨ B c' ≠ 32) ∧ kidx (hbF B n c') = none ∧ ∃ fits' q', (fits' = 0 ∨ ¬ (49 ≤ hbF B n c' ∧ hbF B n c' ≤ 57)) ∧ landF B a d ρ w fits = landF B c' (n - c') ρ w' fits' ∧ QL q' Q' ∧ ∀ kd cells K D, ∃ kd', landD B a d ρ w kd cells (apK q K) (apD q D) = landD B c' (n - c') ρ w' kd' (cells + (w' - w)) (apK q' K) (apD q' D))) := by
  intro d
  induction d using Nat.strongRecOn with
  | ind d ih =>
    intro a k w fits q Q x3 hx3 ha hk hw hQ hpre
    obtain ⟨k, rfl⟩ : ∃ z, k = z + 1 := ⟨k - 1, by omega⟩
    have h160 := hB.1
    obtain ⟨b1, b2, b3⟩ := nbF_ok B d a
    have hhere := m_hereE F hF hB hm (w := 0) (Q := Q) (i := a) (by omega)
    rw [show n - a = d by omega] at hhere
    have hF0 := landF_nb B ρ w fits d a
    have hD0 := fun kd cells K D => landD_nb B ρ w kd cells (apK q K) (apD q D) d a
    have hpre2 : (w = 0 ∧ fits = 0) ∨ nbF B a d = a := by
      rcases hpre with h | ⟨h1, h2⟩
      · exact Or.inl h
      · right
        have h32 := (kidx_dg (B a) (by have := hB.2 a h1; omega) h2).2.2
        obtain ⟨d', rfl⟩ : ∃ z, d = z + 1 := ⟨d - 1, by omega⟩
        rw [nbF, if_neg h32]
    generalize hbb : nbF B a d = b at *
    rw [show a + d - b = n - b by omega] at hF0 hD0
    obtain ⟨k, rfl⟩ : ∃ z, k = z + 1 := ⟨k - 1, by omega⟩
    have h127 := hbF_lt hB b
    rw [row_succ, m_row_L4b, if_neg hx3, hhere, gB2_mk, m_kindOf_E F _ h127, gB2_mk, mst_wrong, if_pos (show (0 : Int32) = 0 from rfl)]
    cases hk1 : kidx (hbF B n b) with
    | none =>
      -- no kind
      have hw0 : w = 0 ∧ fits = 0 := by
        rcases hpre with h | ⟨h1, h2⟩
        · exact h
        · rcases hpre2 with h | h
          · exact h
          · rw [h, show hbF B n a = B a from if_neg (by omega)] at hk1
            rw [hk1] at h2
            cases h2
      obtain ⟨rfl, rfl⟩ := hw0
      refine ⟨0, b, Q, by omega, b1, by omega, Or.inl ⟨?_, ?_⟩⟩
      · rw [hF0]
        by_cases hbn : n ≤ b
        · rw [show n - b = 0 by omega, landF, if_pos rfl]
        · rw [show hbF B n b = B b from if_neg hbn] at hk1
          rw [show n - b = (n - b - 1) + 1 by omega]
          rcases b3 with h | h
          · omega
          · rw [landF, if_neg h, if_neg (fun z => by rw [hk1] at z; exact absurd z.1 (by decide)), if_neg (fun z => z.1 rfl), if_neg (fun z => by omega)]
      · rw [if_pos (show enc (-4) none < 0 by decide), m_36bad, row_end F k _ _ 0 _ rfl]
    | some g =>
      have g8 := kidx_lt hk1
      have hbn : b < n := by
        by_cases hbn : n ≤ b
        · rw [show hbF B n b = 0 from if_pos hbn, show kidx 0 = none by decide] at hk1
          cases hk1
        · omega
      have hbB : hbF B n b = B b := if_neg (by omega)
      rw [hbB] at hk1 h127
      obtain ⟨nd, n47, n32⟩ := kidx_dg (B b) h127 (by rw [hk1]; rfl)
      have gg : ¬ enc (-4) (some g) < 0 := by
        rw [enc_neg (by decide) _ (fun k hk => by cases hk; omega)]
        exact fun z => by cases z
      obtain ⟨d1, hd1⟩ : ∃ z, n - b = z + 1 := ⟨n - b - 1, by omega⟩
      rw [hd1] at hF0 hD0
      rw [if_neg gg, show enc (-4) (some g) = nI g from rfl, show (12 : Int32) = nI 12 from rfl, itEq (by omega) (by omega)]
      by_cases h12 : w = 12
      · -- no room
        refine ⟨w, b, Q, hw, b1, by omega, Or.inl ⟨?_, ?_⟩⟩
        · rw [hF0, landF, if_neg n32, if_neg (fun z => by omega), if_neg (fun z => by omega), if_neg (fun z => n47 z.1)]
        · rw [if_pos h12, m_36bad, row_end F k _ _ 0 _ rfl]
      · have hF1 : landF B a d ρ w fits = landF B (b + 1) d1 ρ (w + 1) 1 := by
          rw [hF0, landF, if_neg n32, if_pos ⟨by rw [hk1]; rfl, by omega⟩]
        have hD1 : ∀ kd cells K D, landD B a d ρ w kd cells (apK q K) (apD q D) = landD B (b + 1) d1 ρ (w + 1) g (cells + 1) (layK (apK q K) (12 * ρ + w) 1 g) (layK (apD q D) (12 * ρ + w) 1 0) := fun kd cells K D => by
          rw [hD0, landD, if_neg n32, if_neg n47, if_neg nd, hk1]
          rfl
        have hh2 := m_hereE F hF hB hm (w := 0) (Q := Q) (i := b + 1) (by omega)
        rw [show n - (b + 1) = d1 by omega] at hh2
        obtain ⟨c1, c2, c3⟩ := nbF_ok B d1 (b + 1)
        have hF2 := landF_nb B ρ (w + 1) 1 d1 (b + 1)
        have hD2 := fun cells K D => landD_nb B ρ (w + 1) g cells K D d1 (b + 1)
        generalize hcc : nbF B (b + 1) d1 = c at *
        have hcn : c ≤ n := by omega
        have c3' : c = n ∨ B c ≠ 32 := by
          rcases c3 with h | h
          · left
            omega
          · exact Or.inr h
        rw [show b + 1 + d1 - c = n - c by omega] at hF2 hD2
        have hc127 := hbF_lt hB c
        have hh3 := m_hereE F hF hB hm (w := 0) (Q := Q) (i := c) hcn
        rw [nb_self c3'] at hh3
        rw [if_neg h12, m_41ok F (m_row_L4 F (k + 1)) (nI ρ) (nI w) (nI g) (nI b) (nI c) 0 0 hc127 Q m rfl (by rw [show nI b + (1 : Int32) = nI (b + 1) from by rw [show (1 : Int32) = nI 1 from rfl, nI_add]]; exact hh2) hh3]
        -- what comes behind what was laid
        have tail : ∀ (e : Nat) (w2 fits2 : Nat) (q2 : Nat → Option Nat) (Q2 : Nat → Int32), e ≤ n → b < e → 1 ≤ w2 → w ≤ w2 → w2 ≤ 12 → QL q2 Q2 → landF B a d ρ w fits = landF B e (n - e) ρ w2 fits2 → (fits2 = 0 ∨ e = n ∨ ¬ (49 ≤ hbF B n (nbF B e (n - e)) ∧ hbF B n (nbF B e (n - e)) ≤ 57)) → (∀ kd cells K D, ∃ kd', landD B a d ρ w kd cells (apK q K) (apD q D) = landD B e (n - e) ρ w2 kd' (cells + (w2 - w)) (apK q2 K) (apD q2 D)) →
            ∃ (w' c' : Nat) (Q' : Nat → Int32), w' ≤ 12 ∧ a ≤ c' ∧ c' ≤ n ∧
              ((landF B a d ρ w fits = some c' ∧ m_row_J168 F (m_row_L4 F (k + 1)) (nI ρ) (nI w2) (mst m (nI e) 0 Q2) = some (nI w', mst m (nI c') 1 Q')) ∨
              (m_row_J168 F (m_row_L4 F (k + 1)) (nI ρ) (nI w2) (mst m (nI e) 0 Q2) = some (nI w', mst m (nI c') 0 Q') ∧ 1 ≤ w' ∧ w ≤ w' ∧ a < c' ∧ (c' = n ∨ B c' ≠ 32) ∧ kidx (hbF B n c') = none ∧ ∃ fits' q', (fits' = 0 ∨ ¬ (49 ≤ hbF B n c' ∧ hbF B n c' ≤ 57)) ∧ landF B a d ρ w fits = landF B c' (n - c') ρ w' fits' ∧ QL q' Q' ∧ ∀ kd cells K D, ∃ kd', landD B a d ρ w kd cells (apK q K) (apD q D) = landD B c' (n - c') ρ w' kd' (cells + (w' - w)) (apK q' K) (apD q' D))) := by
          intro e w2 fits2 q2 Q2 he hbe h1 hww hw2 hQ2 hFe hfit hDe
          have hh4 := m_hereE F hF hB hm (w := 0) (Q := Q2) (i := e) he
          obtain ⟨t1, t2, t3⟩ := nbF_ok B (n - e) e
          have hF5 := landF_nb B ρ w2 fits2 (n - e) e
          have hD5 := fun kd cells K D => landD_nb B ρ w2 kd cells (apK q2 K) (apD q2 D) (n - e) e
          generalize htt : nbF B e (n - e) = t at *
          have htn : t ≤ n := by omega
          have t3' : t = n ∨ B t ≠ 32 := by
            rcases t3 with h | h
            · left
              omega
            · exact Or.inr h
          rw [show e + (n - e) - t = n - t by omega] at hF5 hD5
          have ht127 := hbF_lt hB t
          rw [m_168ok F _ _ _ _ _ 0 _ _ Q2 m rfl hh4 (m_kindOf_E F _ ht127)]
          cases hkt : kidx (hbF B n t) with
          | none =>
            rw [if_pos (show enc (-4) none < 0 by decide), row_end F k _ _ 0 _ rfl]
            refine ⟨w2, t, Q2, hw2, by omega, htn, Or.inr ⟨rfl, h1, hww, by omega, t3', hkt, fits2, q2, ?_, by rw [hFe, hF5], hQ2, fun kd cells K D => ?_⟩⟩
            · rcases hfit with h | h | h
              · exact Or.inl h
              · right
                have : t = n := by omega
                rw [show hbF B n t = 0 from if_pos (by omega)]
                omega
              · exact Or.inr h
            · obtain ⟨kd', h⟩ := hDe kd cells K D
              exact ⟨kd', by rw [h, hD5]⟩
          | some gt =>
            have gt8 := kidx_lt hkt
            have gg2 : ¬ enc (-4) (some gt) < 0 := by
              rw [enc_neg (by decide) _ (fun k hk => by cases hk; omega)]
              exact fun z => by cases z
            have htn2 : t < n := by
              by_cases h : n ≤ t
              · rw [show hbF B n t = 0 from if_pos h, show kidx 0 = none by decide] at hkt
                cases hkt
              · omega
            rw [show hbF B n t = B t from if_neg (by omega)] at hkt
            rw [if_neg gg2]
            obtain ⟨w', c', Q', e1, e2, e3, e4⟩ := ih (n - t) (by omega) t (k + 1) w2 fits2 q2 Q2 1 (by decide) (by omega) (by omega) hw2 hQ2 (Or.inr ⟨htn2, by rw [hkt]; rfl⟩)
            refine ⟨w', c', Q', e1, by omega, e3, ?_⟩
            rcases e4 with ⟨e5, e6⟩ | ⟨e5, e6, e7, e8, e9, e10, fits', q', e11, e12, e13, e14⟩
            · exact Or.inl ⟨by rw [hFe, hF5]; exact e5, e6⟩
            · refine Or.inr ⟨e5, e6, by omega, by omega, e9, e10, fits', q', e11, by rw [hFe, hF5]; exact e12, e13, fun kd cells K D => ?_⟩
              obtain ⟨kd1, h⟩ := hDe kd cells K D
              obtain ⟨kd2, h2⟩ := e14 kd1 (cells + (w2 - w)) K D
              refine ⟨kd2, ?_⟩
              rw [h, hD5, h2, show cells + (w2 - w) + (w' - w2) = cells + (w' - w) by omega]
        by_cases hdg : 49 ≤ hbF B n c ∧ hbF B n c ≤ 57
        · -- a digit
          have hcn2 : c < n := by
            by_cases h : n ≤ c
            · rw [show hbF B n c = 0 from if_pos h] at hdg
              omega
            · omega
          have hbc : hbF B n c = B c := if_neg (by omega)
          rw [hbc] at hdg
          obtain ⟨d2, hd2⟩ : ∃ z, n - c = z + 1 := ⟨n - c - 1, by omega⟩
          have c32 : B c ≠ 32 := by omega
          have ck : kidx (B c) = none := by
            cases h : kidx (B c) with
            | none => rfl
            | some z => exact absurd ⟨by omega, hdg.2⟩ (kidx_dg (B c) (by omega) (by rw [h]; rfl)).1
          rw [hbc, if_pos hdg, show (48 : Int32) = nI 48 from rfl, subI (by omega), nI_add, show (12 : Int32) = nI 12 from rfl, itLe (by omega) (by omega)]
          rw [hd2] at hF2 hD2
          rw [landF, if_neg c32, if_neg (fun z => by rw [ck] at z; exact absurd z.1 (by decide))] at hF2
          by_cases hfit : w + (B c - 48) ≤ 12
          · rw [if_pos (show (1 : Nat) ≠ 0 ∧ 49 ≤ B c ∧ B c ≤ 57 ∧ w + 1 + (B c - 48) ≤ 13 from ⟨by decide, hdg.1, hdg.2, by omega⟩)] at hF2
            rw [if_pos hfit, m_105ok F _ _ _ _ _ _ _ 0 Q m rfl]
            unfold m_row_J129
            have e132 := m_132_lp F (m_row_L4 F (k + 1)) (m := m) (a := nI (c + 1)) (w0 := 0) rfl (ρ := ρ) (kd := g) (N := B c - 48) (by omega) hρ (B c - 48) 0 F w Q (by omega) (by omega) (by omega)
            rw [show nI c + (1 : Int32) = nI (c + 1) from by rw [show (1 : Int32) = nI 1 from rfl, nI_add], show m_row_L132 F (m_row_L4 F (k + 1)) F (nI ρ) (nI w) (nI g) (nI (B c - 48)) 0 (mst m (nI (c + 1)) 0 Q) = _ from e132]
            refine tail (c + 1) (w + (B c - 48)) 0 (layq q (12 * ρ + w) (B c - 48) g) _ (by omega) (by omega) (by omega) (by omega) (by omega) (hQ.lay (by omega)) ?_ (Or.inl rfl) (fun kd cells K D => ⟨g, ?_⟩)
            · rw [hF1, hF2, show n - (c + 1) = d2 by omega, show w + 1 + (B c - 49) = w + (B c - 48) by omega]
            · rw [hD1, hD2, landD, if_neg c32, if_neg (show ¬ B c = 47 by omega), if_pos (show 48 ≤ B c ∧ B c ≤ 57 by omega), apK_lay, apD_lay, show 12 * ρ + (w + 1) = 12 * ρ + w + 1 by omega, layK_1, layK_1, show B c - 49 + 1 = B c - 48 by omega, show w + 1 + (B c - 49) = w + (B c - 48) by omega, show cells + 1 + (B c - 49) = cells + (w + (B c - 48) - w) by omega, show n - (c + 1) = d2 by omega]
          · rw [if_neg (show ¬ ((1 : Nat) ≠ 0 ∧ 49 ≤ B c ∧ B c ≤ 57 ∧ w + 1 + (B c - 48) ≤ 13) by omega), if_neg (show ¬ (B c = 47 ∧ 0 < w + 1 ∧ ρ < 11) by omega)] at hF2
            rw [if_neg hfit, m_105bad F _ _ _ _ _ _ _ 1 Q m (Or.inr rfl) (by decide), m_132bad F hF _ (by decide) _ _ _ (by omega) (by omega), row_end F k _ _ 0 _ rfl]
            exact ⟨w, c, Q, hw, by omega, hcn, Or.inl ⟨by rw [hF1, hF2], rfl⟩⟩
        · -- no digit
          rw [if_neg hdg]
          unfold m_row_J129
          have e132 := m_132_lp F (m_row_L4 F (k + 1)) (m := m) (a := nI c) (w0 := 0) rfl (ρ := ρ) (kd := g) (N := 1) (by omega) hρ 1 0 F w Q (by omega) (by omega) (by omega)
          rw [show m_row_L132 F (m_row_L4 F (k + 1)) F (nI ρ) (nI w) (nI g) 1 0 (mst m (nI c) 0 Q) = _ from e132]
          refine tail c (w + 1) 1 (layq q (12 * ρ + w) 1 g) _ hcn (by omega) (by omega) (by omega) (by omega) (hQ.lay (by omega)) ?_ (Or.inr (Or.inr ?_)) (fun kd cells K D => ⟨g, ?_⟩)
          · rw [hF1, hF2]
          · rw [nb_self c3']
            exact hdg
          · rw [hD1, hD2, apK_lay, apD_lay, show w + 1 - w = 1 by omega]
