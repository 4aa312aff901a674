/-! the pure part: land, the class -/
def landF (B : Nat → Nat) : Nat → Nat → Nat → Nat → Nat → Option Nat
  | i, 0, _, w, _ => if w = 0 then some i else none
  | i, d + 1, ρ, w, fits => if B i = 32 then landF B (i + 1) d ρ w fits else
      if (kidx (B i)).isSome = true ∧ w < 12 then landF B (i + 1) d ρ (w + 1) 1
      else if fits ≠ 0 ∧ 49 ≤ B i ∧ B i ≤ 57 ∧ w + (B i - 48) ≤ 13 then landF B (i + 1) d ρ (w + (B i - 49)) 0
      else if B i = 47 ∧ 0 < w ∧ ρ < 11 then landF B (i + 1) d (ρ + 1) 0 0
      else some i
def layK (K : Nat → Nat) (b n k : Nat) : Nat → Nat := fun j => if b ≤ j ∧ j < b + n then k else K j
def landD (B : Nat → Nat) : Nat → Nat → Nat → Nat → Nat → Nat → (Nat → Nat) → (Nat → Nat) → Nat × (Nat → Nat) × (Nat → Nat)
  | _, 0, _, _, _, cells, K, D => (cells, K, D)
  | i, d + 1, ρ, w, kd, cells, K, D => if B i = 32 then landD B (i + 1) d ρ w kd cells K D else
      if B i = 47 then landD B (i + 1) d (ρ + 1) 0 kd cells K D else
      if 48 ≤ B i ∧ B i ≤ 57 then landD B (i + 1) d ρ (w + (B i - 49)) kd (cells + (B i - 49)) (layK K (12 * ρ + w) (B i - 49) kd) (layK D (12 * ρ + w) (B i - 49) 0)
      else landD B (i + 1) d ρ (w + 1) ((kidx (B i)).getD 0) (cells + 1) (layK K (12 * ρ + w) 1 ((kidx (B i)).getD 0)) (layK D (12 * ρ + w) 1 0)
theorem kidx_lt {b s : Nat} (h : kidx b = some s) : s < 8 := (fiN_bd _ _ _ _ _ h).2
theorem kidx_dg : ∀ b, b < 127 → (kidx b).isSome = true → ¬ (48 ≤ b ∧ b ≤ 57) ∧ b ≠ 47 ∧ b ≠ 32 := by decide +kernel
theorem landF_nb (B : Nat → Nat) (ρ w fits : Nat) : ∀ (d i : Nat), landF B i d ρ w fits = landF B (nbF B i d) (i + d - nbF B i d) ρ w fits
  | 0, i => by
    rw [show nbF B i 0 = i from rfl, show i + 0 - i = 0 by omega]
  | d + 1, i => by
    by_cases e : B i = 32
    · rw [show nbF B i (d + 1) = nbF B (i + 1) d by rw [nbF, if_pos e], landF, if_pos e, landF_nb B ρ w fits d (i + 1), show i + 1 + d = i + (d + 1) by omega]
    · rw [show nbF B i (d + 1) = i by rw [nbF, if_neg e], show i + (d + 1) - i = d + 1 by omega]
theorem landD_nb (B : Nat → Nat) (ρ w kd cells : Nat) (K D : Nat → Nat) : ∀ (d i : Nat), landD B i d ρ w kd cells K D = landD B (nbF B i d) (i + d - nbF B i d) ρ w kd cells K D
  | 0, i => by
    rw [show nbF B i 0 = i from rfl, show i + 0 - i = 0 by omega]
  | d + 1, i => by
    by_cases e : B i = 32
    · rw [show nbF B i (d + 1) = nbF B (i + 1) d by rw [nbF, if_pos e], landD, if_pos e, landD_nb B ρ w kd cells K D d (i + 1), show i + 1 + d = i + (d + 1) by omega]
    · rw [show nbF B i (d + 1) = i by rw [nbF, if_neg e], show i + (d + 1) - i = d + 1 by omega]
theorem c_land103 (F : Nat) (k9 : Int32 → Int32 → Int32 → Int32 → St → Option (Int32 × St)) {c : St} {i b ρ w : Nat} (hi : i < 160) (hb : b < 127) (e : c.1 75 i = nI b) (hρ : ρ ≤ 11) (hw : w ≤ 12) : c_Tape_landFault_J103 F k9 (nI ρ) (nI w) (nI i) c = if b = 47 ∧ 0 < w ∧ ρ < 11 then k9 (nI (ρ + 1)) 0 0 (nI (i + 1)) c else some (nI i, c) := by
  unfold c_Tape_landFault_J103 c_Tape_landFault_J138
  rw [inb_nI hi (by decide), if_pos (show true = true from rfl), cl_nI (by omega), e, show (47 : Int32) = nI 47 from rfl, itEq (by omega) (by omega), show (0 : Int32) = nI 0 from rfl, itLe (by omega) (by omega), show (11 : Int32) = nI 11 from rfl, itLe (by omega) (by omega), show nI i + (1 : Int32) = nI (i + 1) from by rw [show (1 : Int32) = nI 1 from rfl, nI_add], show nI ρ + (1 : Int32) = nI (ρ + 1) from by rw [show (1 : Int32) = nI 1 from rfl, nI_add]]
  by_cases h1 : b = 47
  · by_cases h2 : w ≤ 0
    · rw [if_pos h1, if_pos h2, if_neg (show ¬ (b = 47 ∧ 0 < w ∧ ρ < 11) by omega)]
    · by_cases h3 : 11 ≤ ρ
      · rw [if_pos h1, if_neg h2, if_pos h3, if_neg (show ¬ (b = 47 ∧ 0 < w ∧ ρ < 11) by omega)]
      · rw [if_pos h1, if_neg h2, if_neg h3, if_pos (show b = 47 ∧ 0 < w ∧ ρ < 11 by omega)]
  · rw [if_neg h1, if_neg (show ¬ (b = 47 ∧ 0 < w ∧ ρ < 11) from fun z => h1 z.1)]
theorem c_land_lp (F : Nat) (hF : 3000 ≤ F) {B : Nat → Nat} {n : Nat} {c : St} (hB : TapeB B n) (hc : TapeC B n c) : ∀ (d i k ρ w fits : Nat), i + d = n → d < k → ρ ≤ 11 → w ≤ 12 → fits ≤ 1 → c_Tape_landFault_L9 F k (nI ρ) (nI w) (nI fits) (nI i) c = some (enc (-1) (landF B i d ρ w fits), c) := by
  intro d
  induction d with
  | zero =>
    intro i k ρ w fits hi hk hρ hw hf
    obtain ⟨k, rfl⟩ : ∃ z, k = z + 1 := ⟨k - 1, by omega⟩
    have h160 := hB.1
    show c_Tape_landFault_L9b F (c_Tape_landFault_L9 F k) (nI ρ) (nI w) (nI fits) (nI i) c = _
    unfold c_Tape_landFault_L9b landF
    rw [hc.1, if_pos (nI_le (by omega) (by omega)), show (0 : Int32) = nI 0 from rfl, itLe (by omega) (by omega), show i = n by omega]
    by_cases e1 : w = 0
    · rw [if_pos (show w ≤ 0 by omega), if_pos e1]
      rfl
    · rw [if_neg (show ¬ w ≤ 0 by omega), if_neg e1]
      rfl
  | succ d ih =>
    intro i k ρ w fits hi hk hρ hw hf
    obtain ⟨k, rfl⟩ : ∃ z, k = z + 1 := ⟨k - 1, by omega⟩
    have h160 := hB.1
    have hb := hB.2 i (by omega)
    have g0 : ¬ nI n ≤ nI i := by
      rw [leI (by omega) (by omega)]
      omega
    have i1 : nI i + (1 : Int32) = nI (i + 1) := by rw [show (1 : Int32) = nI 1 from rfl, nI_add]
    have hbody : c_Tape_landFault_L9 F (k + 1) (nI ρ) (nI w) (nI fits) (nI i) c = c_Tape_landFault_L9b F (c_Tape_landFault_L9 F k) (nI ρ) (nI w) (nI fits) (nI i) c := rfl
    have eB := hc.2 i (by omega)
    -- the digit or the end of a row
    have key : ∀ o, dgV (B i) = o → ¬ ((kidx (B i)).isSome = true ∧ w < 12) → B i ≠ 32 → c_Tape_landFault_J70 F (c_Tape_landFault_L9 F k) (nI ρ) (nI w) (nI fits) (nI i) (enc (-1) o) c = some (enc (-1) (landF B i (d + 1) ρ w fits), c) := by
      intro o ho hno h32
      have h103 := c_land103 F (c_Tape_landFault_L9 F k) (show i < 160 by omega) (show B i < 127 by omega) eB hρ hw
      have hend : ¬ (fits ≠ 0 ∧ 49 ≤ B i ∧ B i ≤ 57 ∧ w + (B i - 48) ≤ 13) → c_Tape_landFault_J103 F (c_Tape_landFault_L9 F k) (nI ρ) (nI w) (nI i) c = some (enc (-1) (landF B i (d + 1) ρ w fits), c) := by
        intro hnd
        rw [h103, landF, if_neg h32, if_neg hno, if_neg hnd]
        by_cases e : B i = 47 ∧ 0 < w ∧ ρ < 11
        · rw [if_pos e, if_pos e]
          exact ih (i + 1) k (ρ + 1) 0 0 (by omega) (by omega) (by omega) (by omega) (by omega)
        · rw [if_neg e, if_neg e]
          rfl
      unfold c_Tape_landFault_J70 c_Tape_landFault_J138
      rw [show (0 : Int32) = nI 0 from rfl, itEq (by omega) (by omega)]
      by_cases hf0 : fits = 0
      · rw [if_pos hf0]
        exact hend (fun z => z.1 hf0)
      · rw [if_neg hf0]
        cases o with
        | none =>
          have hnd : ¬ (48 ≤ B i ∧ B i ≤ 57) := fun z => by
            unfold dgV at ho
            rw [if_pos z] at ho
            cases ho
          rw [if_pos (show enc (-1) none < 1 by decide)]
          exact hend (fun z => hnd ⟨by omega, by omega⟩)
        | some v =>
          obtain ⟨v9, vB⟩ := dgV_le ho
          rw [show enc (-1) (some v) = nI v from rfl, show (1 : Int32) = nI 1 from rfl, itLt (by omega) (by omega)]
          by_cases h1 : v < 1
          · rw [if_pos h1]
            exact hend (fun z => by omega)
          · have e1 : nI w + nI v - nI 1 = nI (w + v - 1) := by rw [nI_add, subI (by omega)]
            rw [if_neg h1, e1, show (12 : Int32) = nI 12 from rfl, itLt (by omega) (by omega)]
            by_cases h2 : 12 < w + v - 1
            · rw [if_pos h2]
              exact hend (fun z => by omega)
            · rw [if_neg h2, subI (by omega), nI_add, nI_add, landF, if_neg h32, if_neg hno, if_pos (show fits ≠ 0 ∧ 49 ≤ B i ∧ B i ≤ 57 ∧ w + (B i - 48) ≤ 13 from ⟨hf0, by omega, by omega, by omega⟩), show w + (v - 1) = w + (B i - 49) by omega]
              exact ih (i + 1) k ρ (w + (B i - 49)) 0 (by omega) (by omega) hρ (by omega) (by omega)
    rw [hbody]
    unfold c_Tape_landFault_L9b
    rw [hc.1, if_neg g0, inb_nI (show i < 160 by omega) (by decide), if_pos (show true = true from rfl), cl_nI (by omega), eB, show (32 : Int32) = nI 32 from rfl, itEq (by omega) (by omega)]
    by_cases e : B i = 32
    · rw [if_pos e, landF, if_pos e]
      unfold c_Tape_landFault_J138
      rw [i1]
      exact ih (i + 1) k ρ w fits (by omega) (by omega) hρ hw hf
    · rw [if_neg e, c_digitE F (show i < 160 by omega) (show B i < 127 by omega) eB, gB2_mk, if_pos (show true = true from rfl), eB, c_kidx F hF c (by omega), gB2_mk]
      cases hk1 : kidx (B i) with
      | none =>
        rw [if_pos (show enc (-1) none < 0 by decide)]
        exact key _ rfl (fun z => by rw [hk1] at z; exact absurd z.1 (by decide)) e
      | some q =>
        have q8 := kidx_lt hk1
        have gq : ¬ enc (-1) (some q) < 0 := by
          rw [enc_neg (by decide) _ (fun k hk => by cases hk; omega)]
          exact fun z => by cases z
        rw [if_neg gq, show (12 : Int32) = nI 12 from rfl, itLe (by omega) (by omega)]
        by_cases h12 : 12 ≤ w
        · rw [if_pos h12]
          exact key _ rfl (fun z => by omega) e
        · rw [if_neg h12, landF, if_neg e, if_pos (show (kidx (B i)).isSome = true ∧ w < 12 from ⟨by rw [hk1]; rfl, by omega⟩)]
          unfold c_Tape_landFault_J138
          rw [i1, show nI w + (1 : Int32) = nI (w + 1) from by rw [show (1 : Int32) = nI 1 from rfl, nI_add]]
          exact ih (i + 1) k ρ (w + 1) 1 (by omega) (by omega) hρ (by omega) (by omega)
/-- what is laid -/
def LaidC (K D : Nat → Nat) (c : St) : Prop := ∀ j, j < 144 → c.1 3 j = nI (K j) ∧ c.1 4 j = nI (D j)
theorem c_layE (F : Nat) {K D : Nat → Nat} {c : St} {q k : Nat} (h : LaidC K D c) (hq : q < 144) : ∃ c', c_Land_lay F (nI q) (nI k) c = some c' ∧ LaidC (layK K q 1 k) (layK D q 1 0) c' ∧ Only [3, 4] [] c c' := by
  refine ⟨sI (sI c 3 q (nI k)) 4 q 0, ?_, fun j hj => ?_, (Only.sI _ (by decide) _ _).trans (Only.sI _ (by decide) _ _)⟩
  · unfold c_Land_lay
    have g1 : ¬ nI q < 0 := by
      rw [show (0 : Int32) = nI 0 from rfl, ltI (by omega) (by omega)]
      omega
    have g2 : nI q < (144 : Int32) := by
      rw [show (144 : Int32) = nI 144 from rfl, ltI (by omega) (by omega)]
      exact hq
    rw [if_neg g1, if_pos g2, inb_nI hq (by decide), if_pos (show true = true from rfl), if_pos (show true = true from rfl), cl_nI (by omega)]
  · obtain ⟨h1, h2⟩ := h j hj
    unfold layK
    rw [sI1_ne (by decide), sI1_eq, sI1_eq, sI1_ne (by decide)]
    by_cases e : j = q
    · rw [e, upd_eq, upd_eq, if_pos (by omega), if_pos (by omega)]
      exact ⟨rfl, rfl⟩
    · rw [upd_ne e, upd_ne e, if_neg (by omega), if_neg (by omega)]
      exact ⟨h1, h2⟩
theorem layK_0 (K : Nat → Nat) (b k : Nat) : layK K b 0 k = K := funext fun j => if_neg (by omega)
theorem layK_1 (K : Nat → Nat) (b n k : Nat) : layK (layK K b 1 k) (b + 1) n k = layK K b (n + 1) k := funext fun j => by
  unfold layK
  by_cases h : b ≤ j ∧ j < b + (n + 1)
  · rw [if_pos h]
    by_cases h2 : b + 1 ≤ j ∧ j < b + 1 + n
    · rw [if_pos h2]
    · rw [if_neg h2, if_pos (by omega)]
  · rw [if_neg h, if_neg (by omega), if_neg (by omega)]
theorem c_lay_in (F : Nat) (k13 : Int32 → Int32 → Int32 → Int32 → Int32 → St → Option (Int32 × St)) {ρ kd cells i N : Nat} (hN : N ≤ 12) (hρ : ρ ≤ 11) : ∀ (d x k w : Nat) (K D : Nat → Nat) (c : St), x + d = N → d < k → w + d ≤ 12 → LaidC K D c → ∃ c', c_Tape_layOut_L102 F k13 k (nI ρ) (nI w) (nI kd) (nI cells) (nI i) (nI N) (nI x) c = k13 (nI ρ) (nI (w + d)) (nI kd) (nI (cells + N)) (nI (i + 1)) c' ∧ LaidC (layK K (12 * ρ + w) d kd) (layK D (12 * ρ + w) d 0) c' ∧ Only [3, 4] [] c c' := by
  intro d
  induction d with
  | zero =>
    intro x k w K D c hx hk hw h
    obtain ⟨k, rfl⟩ : ∃ z, k = z + 1 := ⟨k - 1, by omega⟩
    refine ⟨c, ?_, by rw [layK_0, layK_0]; exact h, Only.refl _ _ _⟩
    show c_Tape_layOut_L102b F k13 (c_Tape_layOut_L102 F k13 k) (nI ρ) (nI w) (nI kd) (nI cells) (nI i) (nI N) (nI x) c = _
    unfold c_Tape_layOut_L102b c_Tape_layOut_J137
    rw [if_pos (nI_le (by omega) (by omega)), nI_add, show nI i + (1 : Int32) = nI (i + 1) from by rw [show (1 : Int32) = nI 1 from rfl, nI_add]]
    rfl
  | succ d ih =>
    intro x k w K D c hx hk hw h
    obtain ⟨k, rfl⟩ : ∃ z, k = z + 1 := ⟨k - 1, by omega⟩
    have g0 : ¬ nI N ≤ nI x := by
      rw [leI (by omega) (by omega)]
      omega
    obtain ⟨c1, y1, y2, y3⟩ := c_layE F (q := 12 * ρ + w) (k := kd) h (by omega)
    obtain ⟨c2, z1, z2, z3⟩ := ih (x + 1) k (w + 1) _ _ c1 (by omega) (by omega) (by omega) y2
    rw [show 12 * ρ + (w + 1) = 12 * ρ + w + 1 by omega, layK_1, layK_1] at z2
    refine ⟨c2, ?_, z2, y3.trans z3⟩
    show c_Tape_layOut_L102b F k13 (c_Tape_layOut_L102 F k13 k) (nI ρ) (nI w) (nI kd) (nI cells) (nI i) (nI N) (nI x) c = _
    unfold c_Tape_layOut_L102b
    rw [if_neg g0, show (12 : Int32) = nI 12 from rfl, mulI, nI_add, show ρ * 12 + w = 12 * ρ + w by omega, y1, gB_mk, show nI w + (1 : Int32) = nI (w + 1) from by rw [show (1 : Int32) = nI 1 from rfl, nI_add], show nI x + (1 : Int32) = nI (x + 1) from by rw [show (1 : Int32) = nI 1 from rfl, nI_add], z1, show w + 1 + d = w + (d + 1) by omega]
theorem c_out_lp (F : Nat) (hF : 3000 ≤ F) {B : Nat → Nat} {n : Nat} (hB : TapeB B n) : ∀ (d i k ρ w fits kd cells : Nat) (K D : Nat → Nat) (c : St), i + d = n → d < k → ρ ≤ 11 → w ≤ 12 → TapeC B n c → LaidC K D c → landF B i d ρ w fits = none → ∃ c', c_Tape_layOut_L13 F k (nI ρ) (nI w) (nI kd) (nI cells) (nI i) c = some (nI (landD B i d ρ w kd cells K D).1, c') ∧ LaidC (landD B i d ρ w kd cells K D).2.1 (landD B i d ρ w kd cells K D).2.2 c' ∧ Only [3, 4] [] c c' := by
  intro d
  induction d with
  | zero =>
    intro i k ρ w fits kd cells K D c hi hk hρ hw hc hL hno
    obtain ⟨k, rfl⟩ : ∃ z, k = z + 1 := ⟨k - 1, by omega⟩
    have h160 := hB.1
    refine ⟨c, ?_, hL, Only.refl _ _ _⟩
    show c_Tape_layOut_L13b F (c_Tape_layOut_L13 F k) (nI ρ) (nI w) (nI kd) (nI cells) (nI i) c = _
    unfold c_Tape_layOut_L13b
    rw [hc.1, if_pos (nI_le (by omega) (by omega))]
    rfl
  | succ d ih =>
    intro i k ρ w fits kd cells K D c hi hk hρ hw hc hL hno
    obtain ⟨k, rfl⟩ : ∃ z, k = z + 1 := ⟨k - 1, by omega⟩
    have h160 := hB.1
    have hb := hB.2 i (by omega)
    have g0 : ¬ nI n ≤ nI i := by
      rw [leI (by omega) (by omega)]
      omega
    have i1 : nI i + (1 : Int32) = nI (i + 1) := by rw [show (1 : Int32) = nI 1 from rfl, nI_add]
    have eB := hc.2 i (by omega)
    have hbody : c_Tape_layOut_L13 F (k + 1) (nI ρ) (nI w) (nI kd) (nI cells) (nI i) c = c_Tape_layOut_L13b F (c_Tape_layOut_L13 F k) (nI ρ) (nI w) (nI kd) (nI cells) (nI i) c := rfl
    rw [hbody]
    unfold c_Tape_layOut_L13b
    rw [landF] at hno
    rw [hc.1, if_neg g0, inb_nI (show i < 160 by omega) (by decide), if_pos (show true = true from rfl), cl_nI (by omega), eB, show (32 : Int32) = nI 32 from rfl, itEq (by omega) (by omega), if_pos (show true = true from rfl), show (47 : Int32) = nI 47 from rfl, itEq (by omega) (by omega), landD]
    by_cases e : B i = 32
    · rw [if_pos e] at hno
      rw [if_pos e, if_pos e]
      unfold c_Tape_layOut_J137
      rw [i1]
      exact ih (i + 1) k ρ w fits kd cells K D c (by omega) (by omega) hρ hw hc hL hno
    · rw [if_neg e] at hno
      rw [if_neg e, if_neg e]
      by_cases e47 : B i = 47
      · have n1 : ¬ ((kidx (B i)).isSome = true ∧ w < 12) := fun z => (kidx_dg (B i) (by omega) z.1).2.1 e47
        rw [if_neg n1, if_neg (show ¬ (fits ≠ 0 ∧ 49 ≤ B i ∧ B i ≤ 57 ∧ w + (B i - 48) ≤ 13) by omega)] at hno
        rw [if_pos e47, if_pos e47]
        by_cases e3 : B i = 47 ∧ 0 < w ∧ ρ < 11
        · rw [if_pos e3] at hno
          unfold c_Tape_layOut_J137
          rw [i1, show nI ρ + (1 : Int32) = nI (ρ + 1) from by rw [show (1 : Int32) = nI 1 from rfl, nI_add]]
          exact ih (i + 1) k (ρ + 1) 0 0 kd cells K D c (by omega) (by omega) (by omega) (by omega) hc hL hno
        · rw [if_neg e3] at hno
          cases hno
      · rw [if_neg e47, if_neg e47, c_digitE F (show i < 160 by omega) (show B i < 127 by omega) eB, gB2_mk]
        by_cases hd : 48 ≤ B i ∧ B i ≤ 57
        · have n1 : ¬ ((kidx (B i)).isSome = true ∧ w < 12) := fun z => (kidx_dg (B i) (by omega) z.1).1 hd
          rw [if_neg n1] at hno
          by_cases e4 : fits ≠ 0 ∧ 49 ≤ B i ∧ B i ≤ 57 ∧ w + (B i - 48) ≤ 13
          case neg =>
            rw [if_neg e4, if_neg (fun z => e47 z.1)] at hno
            cases hno
          rw [if_pos e4] at hno
          obtain ⟨c1, y1, y2, y3⟩ := c_lay_in F (c_Tape_layOut_L13 F k) (ρ := ρ) (kd := kd) (cells := cells) (i := i) (N := B i - 49) (by omega) hρ (B i - 49) 0 F w K D c (by omega) (by omega) (by omega) hL
          rw [show dgV (B i) = some (B i - 48) from if_pos hd, show enc (-1) (some (B i - 48)) = nI (B i - 48) from rfl, if_pos (show (0 : Int32) ≤ nI (B i - 48) from nI_le (a := 0) (Nat.zero_le _) (by omega)), show nI (B i - 48) - (1 : Int32) = nI (B i - 49) from by rw [show (1 : Int32) = nI 1 from rfl, subI (by omega), show B i - 48 - 1 = B i - 49 by omega], if_pos hd]
          unfold c_Tape_layOut_J78 c_Tape_layOut_J99
          rw [if_pos (show (0 : Int32) ≤ nI (B i - 48) from nI_le (a := 0) (Nat.zero_le _) (by omega)), show c_Tape_layOut_L102 F (c_Tape_layOut_L13 F k) F (nI ρ) (nI w) (nI kd) (nI cells) (nI i) (nI (B i - 49)) 0 c = _ from y1]
          obtain ⟨c2, z1, z2, z3⟩ := ih (i + 1) k ρ (w + (B i - 49)) 0 kd (cells + (B i - 49)) _ _ c1 (by omega) (by omega) hρ (by omega) ⟨by rw [y3.1 74 (by decide)]; exact hc.1, fun j hj => by rw [y3.1 75 (by decide)]; exact hc.2 j hj⟩ y2 hno
          exact ⟨c2, z1, z2, y3.trans z3⟩
        · by_cases hk1 : (kidx (B i)).isSome = true ∧ w < 12
          case neg =>
            rw [if_neg hk1, if_neg (show ¬ (fits ≠ 0 ∧ 49 ≤ B i ∧ B i ≤ 57 ∧ w + (B i - 48) ≤ 13) by omega), if_neg (fun z => e47 z.1)] at hno
            cases hno
          rw [if_pos hk1] at hno
          obtain ⟨q, hq⟩ := Option.isSome_iff_exists.mp hk1.1
          have q8 := kidx_lt hq
          obtain ⟨c1, y1, y2, y3⟩ := c_lay_in F (c_Tape_layOut_L13 F k) (ρ := ρ) (kd := q) (cells := cells) (i := i) (N := 1) (by omega) hρ 1 0 F w K D c (by omega) (by omega) (by omega) hL
          rw [show dgV (B i) = none from if_neg hd, if_neg (show ¬ (0 : Int32) ≤ enc (-1) none by decide), if_neg hd]
          unfold c_Tape_layOut_J78 c_Tape_layOut_J99
          rw [if_neg (show ¬ (0 : Int32) ≤ enc (-1) none by decide), inb_nI (show i < 160 by omega) (by decide), if_pos (show true = true from rfl), cl_nI (by omega), eB, c_kidx F hF c (by omega), gB2_mk, hq, show enc (-1) (some q) = nI q from rfl, show c_Tape_layOut_L102 F (c_Tape_layOut_L13 F k) F (nI ρ) (nI w) (nI q) (nI cells) (nI i) 1 0 c = _ from y1, show (some q).getD 0 = q from rfl]
          obtain ⟨c2, z1, z2, z3⟩ := ih (i + 1) k ρ (w + 1) 1 q (cells + 1) _ _ c1 (by omega) (by omega) hρ (by omega) ⟨by rw [y3.1 74 (by decide)]; exact hc.1, fun j hj => by rw [y3.1 75 (by decide)]; exact hc.2 j hj⟩ y2 hno
          exact ⟨c2, z1, z2, y3.trans z3⟩
