/-! the pure part: rules -/
def lawF (B : Nat → Nat) : Nat → Nat → Nat → Nat → Option Nat
  | i, 0, set, due => if set = 0 ∨ due ≠ 0 then some i else none
  | i, d + 1, set, due => if B i = 32 then lawF B (i + 1) d set due else
      if due = 0 then (match sidx (B i) with
        | none => some i
        | some s => if set.testBit s = true then some i else lawF B (i + 1) d (set ||| 2 ^ s) 1)
      else (match dgV (B i) with
        | none => some i
        | some _ => lawF B (i + 1) d set 0)
def lawD (B : Nat → Nat) : Nat → Nat → Option Nat → Nat → (Nat → Nat) → Nat × (Nat → Nat)
  | _, 0, _, cnt, S => (cnt, S)
  | i, d + 1, cur, cnt, S => if B i = 32 then lawD B (i + 1) d cur cnt S else
      (match dgV (B i) with
      | some v => (match cur with
        | none => lawD B (i + 1) d cur cnt S
        | some s => lawD B (i + 1) d cur (cnt + 1) (fun j => if j = s then v else S j))
      | none => lawD B (i + 1) d (sidx (B i)) cnt S)
theorem lawF_nb (B : Nat → Nat) (set due : Nat) : ∀ (d i : Nat), lawF B i d set due = lawF B (nbF B i d) (i + d - nbF B i d) set due
  | 0, i => by
    rw [show nbF B i 0 = i from rfl, show i + 0 - i = 0 by omega]
  | d + 1, i => by
    by_cases e : B i = 32
    · rw [show nbF B i (d + 1) = nbF B (i + 1) d by rw [nbF, if_pos e], lawF, if_pos e, lawF_nb B set due d (i + 1), show i + 1 + d = i + (d + 1) by omega]
    · rw [show nbF B i (d + 1) = i by rw [nbF, if_neg e], show i + (d + 1) - i = d + 1 by omega]
theorem lawD_nb (B : Nat → Nat) (cur : Option Nat) (cnt : Nat) (S : Nat → Nat) : ∀ (d i : Nat), lawD B i d cur cnt S = lawD B (nbF B i d) (i + d - nbF B i d) cur cnt S
  | 0, i => by
    rw [show nbF B i 0 = i from rfl, show i + 0 - i = 0 by omega]
  | d + 1, i => by
    by_cases e : B i = 32
    · rw [show nbF B i (d + 1) = nbF B (i + 1) d by rw [nbF, if_pos e], lawD, if_pos e, lawD_nb B cur cnt S d (i + 1), show i + 1 + d = i + (d + 1) by omega]
    · rw [show nbF B i (d + 1) = i by rw [nbF, if_neg e], show i + (d + 1) - i = d + 1 by omega]
theorem sidx_lt {b s : Nat} (h : sidx b = some s) : s < 6 := (fiN_bd _ _ _ _ _ h).2
theorem sidx_dg {b s : Nat} (h : sidx b = some s) (hb : b < 127) : dgV b = none := by
  have key : ∀ b, b < 127 → (sidx b).isSome = true → dgV b = none := by decide +kernel
  exact key b hb (by rw [h]; rfl)
theorem dgV_le {b v : Nat} (h : dgV b = some v) : v ≤ 9 ∧ b = v + 48 := by
  unfold dgV at h
  split at h
  · cases h
    omega
  · cases h
theorem enc_neg {z : Int32} (hz : z < 0) (o : Option Nat) (h : ∀ k, o = some k → k < 1000) : (enc z o < 0) = (o = none) := by
  cases o with
  | none => exact propext ⟨fun _ => rfl, fun _ => hz⟩
  | some k =>
    have := h k rfl
    apply propext
    constructor
    · intro e
      have : nI k < nI 0 := e
      rw [ltI (by omega) (by omega)] at this
      omega
    · intro e
      cases e
theorem c_law_lp (F : Nat) (hF : 3000 ≤ F) {B : Nat → Nat} {n : Nat} {c : St} (hB : TapeB B n) (hc : TapeC B n c) : ∀ (d i k set due : Nat), i + d = n → d < k → due ≤ 1 → c_Tape_lawFault_L6 F k (nI set) (nI due) (nI i) c = some (enc (-1) (lawF B i d set due), c) ∨ 1073741824 ≤ set := by
  intro d
  induction d with
  | zero =>
    intro i k set due hi hk hd
    obtain ⟨k, rfl⟩ : ∃ z, k = z + 1 := ⟨k - 1, by omega⟩
    by_cases hset : 1073741824 ≤ set
    · exact Or.inr hset
    left
    have h160 := hB.1
    show c_Tape_lawFault_L6b F (c_Tape_lawFault_L6 F k) (nI set) (nI due) (nI i) c = _
    unfold c_Tape_lawFault_L6b c_Tape_lawFault_J106 lawF
    rw [hc.1, if_pos (nI_le (by omega) (by omega)), show (0 : Int32) = nI 0 from rfl, itEq (by omega) (by omega), itEq (by omega) (by omega), show i = n by omega]
    by_cases e1 : set = 0
    · rw [if_pos e1, if_pos (Or.inl e1)]
      rfl
    · rw [if_neg e1]
      by_cases e2 : due = 0
      · rw [if_pos e2, if_neg (fun z => z.elim e1 (fun y => y e2))]
        rfl
      · rw [if_neg e2, if_pos (Or.inr e2)]
        rfl
  | succ d ih =>
    intro i k set due hi hk hd
    obtain ⟨k, rfl⟩ : ∃ z, k = z + 1 := ⟨k - 1, by omega⟩
    by_cases hset : 1073741824 ≤ set
    · exact Or.inr hset
    have h160 := hB.1
    have hb := hB.2 i (by omega)
    have g0 : ¬ nI n ≤ nI i := by
      rw [leI (by omega) (by omega)]
      omega
    have hbody : c_Tape_lawFault_L6 F (k + 1) (nI set) (nI due) (nI i) c = c_Tape_lawFault_L6b F (c_Tape_lawFault_L6 F k) (nI set) (nI due) (nI i) c := rfl
    rw [hbody]
    unfold c_Tape_lawFault_L6b c_Tape_lawFault_J78 c_Tape_lawFault_J87 c_Tape_lawFault_J88 lawF
    have i1 : nI i + (1 : Int32) = nI (i + 1) := by rw [show (1 : Int32) = nI 1 from rfl, nI_add]
    rw [hc.1, if_neg g0, inb_nI (show i < 160 by omega) (by decide), if_pos rfl, cl_nI (by omega), hc.2 i (by omega), show (32 : Int32) = nI 32 from rfl, itEq (by omega) (by omega), i1]
    by_cases e : B i = 32
    · rw [if_pos e, if_pos e]
      exact ih (i + 1) k set due (by omega) (by omega) hd
    · rw [if_neg e, if_neg e]
      by_cases ed : due = 0
      · subst ed
        rw [if_pos (show nI 0 = 0 from rfl), if_pos rfl, if_pos rfl, c_sidx F hF c (by omega), gB2_mk]
        cases hs : sidx (B i) with
        | none =>
          left
          rw [if_pos (show enc (-1) none < 0 by decide)]
          rfl
        | some s =>
          have s6 := sidx_lt hs
          have gs : ¬ enc (-1) (some s) < 0 := by
            rw [enc_neg (by decide) _ (fun k hk => by cases hk; omega)]
            exact fun z => by cases z
          rw [if_neg gs, show enc (-1) (some s) = nI s from rfl, shl31 s (by omega), itBit (by omega), if_pos (show nI 0 = 0 from rfl), fa_or]
          show (if set.testBit s = true then some (nI i, c) else c_Tape_lawFault_L6 F k (nI (set ||| 2 ^ s)) 1 (nI (i + 1)) c) = some (enc (-1) (if set.testBit s = true then some i else lawF B (i + 1) d (set ||| 2 ^ s) 1), c) ∨ _
          by_cases et : set.testBit s = true
          · left
            rw [if_pos et, if_pos et]
            rfl
          · rw [if_neg et, if_neg et]
            have hlt : set ||| 2 ^ s < 2 ^ 30 := Nat.or_lt_two_pow (by omega) (Nat.pow_lt_pow_right (by decide) (by omega))
            rcases ih (i + 1) k (set ||| 2 ^ s) 1 (by omega) (by omega) (by decide) with h | h
            · exact Or.inl h
            · omega
      · have e1 : due = 1 := by omega
        subst e1
        rw [if_neg (show ¬ nI 1 = 0 by decide), if_neg (show ¬ (1 : Nat) = 0 by decide), c_digitE F (show i < 160 by omega) (show B i < 127 by omega) (hc.2 i (by omega)), gB2_mk]
        cases hv : dgV (B i) with
        | none =>
          left
          rw [if_neg (show ¬ (0 : Int32) ≤ enc (-1) none by decide)]
          rfl
        | some v =>
          have v9 := (dgV_le hv).1
          rw [if_pos (show (0 : Int32) ≤ enc (-1) (some v) from nI_le (a := 0) (Nat.zero_le _) (by omega)), if_neg (show ¬ nI 1 = 0 by decide)]
          exact ih (i + 1) k set 0 (by omega) (by omega) (by decide)
theorem c_lay_lp (F : Nat) (hF : 3000 ≤ F) {B : Nat → Nat} {n : Nat} (hB : TapeB B n) : ∀ (d i k cnt : Nat) (cur : Option Nat) (S : Nat → Nat) (c : St), i + d = n → d < k → (∀ s, cur = some s → s < 6) → TapeC B n c → (∀ j, j < 10 → c.1 7 j = nI (S j)) → ∃ c', c_Tape_layDown_L7 F k (enc (-1) cur) (nI cnt) (nI i) c = some (nI (lawD B i d cur cnt S).1, c') ∧ (∀ j, j < 10 → c'.1 7 j = nI ((lawD B i d cur cnt S).2 j)) ∧ Only [7] [] c c' := by
  intro d
  induction d with
  | zero =>
    intro i k cnt cur S c hi hk hcur hc hS
    obtain ⟨k, rfl⟩ : ∃ z, k = z + 1 := ⟨k - 1, by omega⟩
    have h160 := hB.1
    refine ⟨c, ?_, hS, Only.refl _ _ _⟩
    show c_Tape_layDown_L7b F (c_Tape_layDown_L7 F k) (enc (-1) cur) (nI cnt) (nI i) c = _
    unfold c_Tape_layDown_L7b
    rw [hc.1, if_pos (nI_le (by omega) (by omega))]
    rfl
  | succ d ih =>
    intro i k cnt cur S c hi hk hcur hc hS
    obtain ⟨k, rfl⟩ : ∃ z, k = z + 1 := ⟨k - 1, by omega⟩
    have h160 := hB.1
    have hb := hB.2 i (by omega)
    have g0 : ¬ nI n ≤ nI i := by
      rw [leI (by omega) (by omega)]
      omega
    have i1 : nI i + (1 : Int32) = nI (i + 1) := by rw [show (1 : Int32) = nI 1 from rfl, nI_add]
    have hbody : c_Tape_layDown_L7 F (k + 1) (enc (-1) cur) (nI cnt) (nI i) c = c_Tape_layDown_L7b F (c_Tape_layDown_L7 F k) (enc (-1) cur) (nI cnt) (nI i) c := rfl
    rw [hbody]
    unfold c_Tape_layDown_L7b c_Tape_layDown_J75 lawD
    rw [hc.1, if_neg g0, inb_nI (show i < 160 by omega) (by decide), if_pos rfl, cl_nI (by omega), hc.2 i (by omega), show (32 : Int32) = nI 32 from rfl, itEq (by omega) (by omega), i1]
    by_cases e : B i = 32
    · rw [if_pos e, if_pos e]
      exact ih (i + 1) k cnt cur S c (by omega) (by omega) hcur hc hS
    · rw [if_neg e, if_neg e, c_digitE F (show i < 160 by omega) (show B i < 127 by omega) (hc.2 i (by omega)), gB2_mk]
      cases hv : dgV (B i) with
      | none =>
        rw [if_neg (show ¬ (0 : Int32) ≤ enc (-1) none by decide), if_pos rfl, hc.2 i (by omega), c_sidx F hF c (by omega), gB2_mk]
        exact ih (i + 1) k cnt (sidx (B i)) S c (by omega) (by omega) (fun s hs => sidx_lt hs) hc hS
      | some v =>
        have v9 := (dgV_le hv).1
        rw [if_pos (show (0 : Int32) ≤ enc (-1) (some v) from nI_le (a := 0) (Nat.zero_le _) (by omega))]
        cases hcu : cur with
        | none =>
          rw [if_pos (show enc (-1) none < 0 by decide)]
          exact ih (i + 1) k cnt none S c (by omega) (by omega) (fun s hs => by cases hs) hc hS
        | some s =>
          have s6 := hcur s hcu
          have gs : ¬ enc (-1) (some s) < 0 := by
            rw [enc_neg (by decide) _ (fun k hk => by cases hk; omega)]
            exact fun z => by cases z
          rw [if_neg gs, show enc (-1) (some s) = nI s from rfl, inb_nI (show s < 10 by omega) (by decide), if_pos rfl, cl_nI (by omega), show nI cnt + (1 : Int32) = nI (cnt + 1) from by rw [show (1 : Int32) = nI 1 from rfl, nI_add]]
          obtain ⟨c', y1, y2, y3⟩ := ih (i + 1) k (cnt + 1) (some s) (fun j => if j = s then v else S j) (sI c 7 s (nI v)) (by omega) (by omega) (fun z hz => by cases hz; exact s6) ⟨hc.1, hc.2⟩ (fun j hj => by
            show _ = nI (if j = s then v else S j)
            rw [sI1_eq]
            by_cases ej : j = s
            · rw [ej, upd_eq, if_pos rfl]
            · rw [upd_ne ej, if_neg ej]
              exact hS j hj)
          exact ⟨c', y1, y2, (Only.sI _ (by decide) _ _).trans y3⟩
def apQ (q : Nat → Option Nat) (S : Nat → Nat) (j : Nat) : Nat := if j < 6 then (match q j with
  | some v => v
  | none => S j) else S j
def setQ (q : Nat → Option Nat) (s v : Nat) : Nat → Option Nat := fun j => if j = s then some v else q j
theorem apQ_set {q : Nat → Option Nat} {S : Nat → Nat} {s v : Nat} (hs : s < 6) : apQ (setQ q s v) S = fun j => if j = s then v else apQ q S j := funext fun j => by
  unfold apQ setQ
  by_cases e : j = s
  · rw [if_pos e, if_pos e, if_pos (by omega)]
  · rw [if_neg e, if_neg e]
def QOk (set : Nat) (q : Nat → Option Nat) (Q : Nat → Int32) : Prop := ∀ s, s < 6 → Q s = enc (-4) (q s) ∧ (set.testBit s = true ↔ q s ≠ none) ∧ ∀ v, q s = some v → v ≤ 9
theorem QOk.put {set : Nat} {q : Nat → Option Nat} {Q : Nat → Int32} (h : QOk set q Q) {s v : Nat} (hs : s < 6) (hv : v ≤ 9) : QOk (set ||| 2 ^ s) (setQ q s v) (upd Q s (nI v)) := fun j hj => by
  obtain ⟨h1, h2, h3⟩ := h j hj
  unfold setQ
  rw [tb_or]
  by_cases e : j = s
  · rw [e, upd_eq, if_pos rfl, show decide (s = s) = true from decide_eq_true rfl, Bool.or_true]
    exact ⟨rfl, ⟨fun _ => (fun z => nomatch z), fun _ => rfl⟩, fun w hw => by cases hw; exact hv⟩
  · rw [upd_ne e, if_neg e, show decide (j = s) = false from decide_eq_false e, Bool.or_false]
    exact ⟨h1, h2, h3⟩
theorem L36_succ (F k : Nat) (x1 x2 : Int32) (s : St) : m_rules_L36 F (k + 1) x1 x2 s = m_rules_L36b F (m_rules_L36 F k) x1 x2 s := rfl
/-- how the reference ends -/
def lawEnd (F : Nat) (cnt w a : Int32) (Q : Nat → Int32) (m : St) : Option (Int32 × St) := m_rules_L36b F (fun _ _ _ => none) cnt 0 (mst m a w Q)
theorem L36_end (F k : Nat) (cnt w a : Int32) (Q : Nat → Int32) (m : St) : m_rules_L36 F (k + 1) cnt 0 (mst m a w Q) = lawEnd F cnt w a Q m := by
  rw [L36_succ]
  unfold lawEnd m_rules_L36b
  rw [if_pos (show (0 : Int32) = 0 from rfl), if_pos (show (0 : Int32) = 0 from rfl)]
theorem m_169bad (F : Nat) (k36 : Int32 → Int32 → St → Option (Int32 × St)) (cnt w1 : Int32) (s : St) (hs : s.1 0 9 = w1) (hn : ¬ w1 = 0) : m_rules_J169 F k36 cnt s = k36 cnt 0 s := by
  unfold m_rules_J169
  rw [hs, if_neg hn]
  rfl
theorem m_169ok (F : Nat) (k36 : Int32 → Int32 → St → Option (Int32 × St)) (cnt a a' w0 r : Int32) (Q : Nat → Int32) (m : St) (h0 : w0 = 0) (hh : m_here F (mst m a w0 Q) = some (r, mst m a' w0 Q)) : m_rules_J169 F k36 cnt (mst m a w0 Q) = if r = 0 then k36 cnt 0 (mst m a' w0 Q) else k36 cnt 1 (mst m a' w0 Q) := by
  unfold m_rules_J169
  rw [mst_wrong, if_pos h0, hh, gB2_mk]
  rfl
theorem m_129bad (F : Nat) (k36 : Int32 → Int32 → St → Option (Int32 × St)) (cnt a w w1 r : Int32) (Q : Nat → Int32) (m : St) {s : Nat} (hs : s < 6) (h : w1 = 0 ∨ w1 = 1) (hn : ¬ w1 = 0) (hh : m_here F (mst m a w1 Q) = some (r, mst m a w1 Q)) : m_rules_J129 F k36 cnt (nI s) w1 (mst m a w Q) = k36 (cnt + 1) 0 (mst m a w1 (upd Q s (r - 48))) := by
  unfold m_rules_J129
  rw [if_pos h, mst_w, hh, gB2_mk, inb_nI (show s < 144 by omega) (by decide), if_pos (show true = true from rfl), cl_nI (by omega), mst_q, mst_wrong, if_neg hn]
  unfold m_rules_J162
  rw [mst_at, mst_a, Int32.add_zero]
  exact m_169bad F k36 _ w1 _ mst_wrong hn
theorem m_129ok (F : Nat) (k36 : Int32 → Int32 → St → Option (Int32 × St)) (cnt a w w0 r : Int32) (Q : Nat → Int32) (m : St) {s : Nat} (hs : s < 6) (h0 : w0 = 0) (hh : m_here F (mst m a w0 Q) = some (r, mst m a w0 Q)) : m_rules_J129 F k36 cnt (nI s) w0 (mst m a w Q) = m_rules_J169 F k36 (cnt + 1) (mst m (a + 1) w0 (upd Q s (r - 48))) := by
  unfold m_rules_J129
  rw [if_pos (Or.inl h0), mst_w, hh, gB2_mk, inb_nI (show s < 144 by omega) (by decide), if_pos (show true = true from rfl), cl_nI (by omega), mst_q, mst_wrong, if_pos h0]
  unfold m_rules_J162
  rw [mst_at, mst_a]
theorem m_bad75 (F k : Nat) (cnt a x3 : Int32) (Q : Nat → Int32) (w w1 : Int32) (m : St) (h : w1 = 0 ∨ w1 = 1) (hn : ¬ w1 = 0) : m_rules_J75 F (m_rules_L36 F (k + 1)) cnt x3 w1 (mst m a w Q) = lawEnd F cnt w1 a Q m := by
  have e1 : ∀ s : St, s.1 0 9 = w1 → m_rules_J169 F (m_rules_L36 F (k + 1)) cnt s = m_rules_L36 F (k + 1) cnt 0 s := fun s hs => by
    unfold m_rules_J169
    rw [hs, if_neg hn]
    rfl
  have e2 : ∀ s : St, s.1 0 9 = w1 → (∀ y1 y2, sI s 0 8 (y1 + y2) = sI s 0 8 (y1 + y2)) → m_rules_J95 F (m_rules_L36 F (k + 1)) cnt x3 (s.1 0 8) 0 s = m_rules_L36 F (k + 1) cnt 0 (sI s 0 8 (s.1 0 8 + 0)) := fun s hs _ => by
    have e3 : (sI s 0 8 (s.1 0 8 + 0)).1 0 9 = w1 := by
      rw [sI1_eq, upd_ne (by decide)]
      exact hs
    unfold m_rules_J95
    rw [e3, if_neg hn]
    exact e1 _ e3
  unfold m_rules_J75
  rw [if_pos h, mst_w, mst_wrong, if_neg hn, e2 _ mst_wrong (fun _ _ => rfl), mst_at, mst_a, Int32.add_zero]
  exact L36_end F k cnt w1 a Q m
theorem m_bad (F k : Nat) (cnt a x3 : Int32) (Q : Nat → Int32) (w : Int32) (m : St) : m_rules_J70 F (m_rules_L36 F (k + 1)) cnt x3 (mst m a w Q) = lawEnd F cnt 1 a Q m := by
  unfold m_rules_J70
  exact m_bad75 F k cnt a x3 Q w 1 m (Or.inr rfl) (by decide)
theorem m_law_lp (F : Nat) (hF : 3000 ≤ F) {B : Nat → Nat} {n : Nat} {m : St} (hB : TapeB B n) (hm : TapeM B n m) (S : Nat → Nat) : ∀ (d a k cnt set : Nat) (q : Nat → Option Nat) (Q : Nat → Int32), a + d = n → d + 1 < k → QOk set q Q → (set = 0 ∨ (a < n ∧ B a ≠ 32)) →
    ∃ (cnt' e : Nat) (Q' : Nat → Int32), e ≤ n ∧ ((lawF B a d set 0 = some e ∧ ∃ x, m_rules_L36 F k (nI cnt) 1 (mst m (nI a) 0 Q) = lawEnd F x 1 (nI e) Q' m) ∨ (lawF B a d set 0 = none ∧ m_rules_L36 F k (nI cnt) 1 (mst m (nI a) 0 Q) = lawEnd F (nI cnt') 0 (nI e) Q' m ∧ ∃ set' q', QOk set' q' Q' ∧ ∀ cur, lawD B a d cur cnt (apQ q S) = (cnt', apQ q' S))) := by
  intro d
  induction d using Nat.strongRecOn with
  | ind d ih =>
    intro a k cnt set q Q ha hk hQ hpre
    obtain ⟨k, rfl⟩ : ∃ z, k = z + 1 := ⟨k - 1, by omega⟩
    have h160 := hB.1
    have n10 : ¬ (1 : Int32) = 0 := by decide
    obtain ⟨b1, b2, b3⟩ := nbF_ok B d a
    have hhere := m_hereE F hF hB hm (w := 0) (Q := Q) (i := a) (by omega)
    rw [show n - a = d by omega] at hhere
    have hF0 := lawF_nb B set 0 d a
    have hD0 := fun cur => lawD_nb B cur cnt (apQ q S) d a
    rw [L36_succ]
    unfold m_rules_L36b
    rw [if_neg n10, hhere, gB2_mk, m_settingOf_E F _ (hbF_lt hB _), gB2_mk]
    generalize hbb : nbF B a d = b at *
    rw [show a + d - b = n - b by omega] at hF0 hD0
    obtain ⟨k, rfl⟩ : ∃ z, k = z + 1 := ⟨k - 1, by omega⟩
    by_cases hbn : n ≤ b
    · -- the end
      have e0 : b = n := by omega
      have hs0 : set = 0 := by
        rcases hpre with h | ⟨h1, h2⟩
        · exact h
        · exfalso
          obtain ⟨d', rfl⟩ : ∃ z, d = z + 1 := ⟨d - 1, by omega⟩
          rw [nbF, if_neg h2] at hbb
          omega
      refine ⟨0, n, Q, Nat.le_refl _, Or.inl ⟨?_, nI cnt, ?_⟩⟩
      · rw [hF0, e0, Nat.sub_self, lawF, if_pos (Or.inl hs0)]
      · rw [show hbF B n b = 0 from if_pos hbn, show sidx 0 = none by decide, if_pos (show enc (-4) none < 0 by decide), e0]
        exact m_bad F k (nI cnt) (nI n) _ Q 0 m
    · have hBb := hB.2 b (by omega)
      have b32 : B b ≠ 32 := by
        rcases b3 with h | h
        · omega
        · exact h
      obtain ⟨d1, hd1⟩ : ∃ z, n - b = z + 1 := ⟨n - b - 1, by omega⟩
      rw [hd1] at hF0 hD0
      rw [show hbF B n b = B b from if_neg hbn]
      rw [lawF, if_neg b32, if_pos rfl] at hF0
      cases hs : sidx (B b) with
      | none =>
        rw [hs] at hF0
        refine ⟨0, b, Q, by omega, Or.inl ⟨hF0, nI cnt, ?_⟩⟩
        rw [if_pos (show enc (-4) none < 0 by decide)]
        exact m_bad F k (nI cnt) (nI b) _ Q 0 m
      | some s =>
        have s6 := sidx_lt hs
        have gs : ¬ enc (-4) (some s) < 0 := by
          rw [enc_neg (by decide) _ (fun k hk => by cases hk; omega)]
          exact fun z => by cases z
        rw [hs] at hF0
        obtain ⟨q1, q2, q3⟩ := hQ s s6
        rw [if_neg gs, show enc (-4) (some s) = nI s from rfl, if_pos (show (0 : Int32) ≤ nI s from nI_le (a := 0) (Nat.zero_le _) (by omega))]
        unfold m_rules_J66
        rw [inb_nI (show s < 144 by omega) (by decide), if_pos rfl, mst_read, cl_nI (by omega), q1]
        by_cases ht : set.testBit s = true
        · have hF1 : lawF B a d set 0 = some b := by
            rw [hF0]
            exact if_pos ht
          have gq : ¬ enc (-4) (q s) < 0 := by
            rw [enc_neg (by decide) _ (fun k hk => by have := q3 k hk; omega)]
            exact q2.mp ht
          refine ⟨0, b, Q, by omega, Or.inl ⟨hF1, nI cnt, ?_⟩⟩
          rw [if_neg gq]
          exact m_bad F k (nI cnt) (nI b) _ Q 0 m
        · have hF1 : lawF B a d set 0 = lawF B (b + 1) d1 (set ||| 2 ^ s) 1 := by
            rw [hF0]
            exact if_neg ht
          have hqn : q s = none := by
            cases hq : q s with
            | none => rfl
            | some v => exact absurd (q2.mpr (by rw [hq]; exact fun z => by cases z)) ht
          have hD1 : ∀ cur, lawD B a d cur cnt (apQ q S) = lawD B (b + 1) d1 (some s) cnt (apQ q S) := fun cur => by
            rw [hD0 cur, lawD, if_neg b32, sidx_dg hs (by omega), hs]
          rw [hqn, if_pos (show enc (-4) none < 0 by decide)]
          unfold m_rules_J75 m_rules_J95
          rw [if_pos (Or.inl rfl), mst_w, mst_wrong, if_pos rfl, mst_at, mst_a, show nI b + (1 : Int32) = nI (b + 1) from by rw [show (1 : Int32) = nI 1 from rfl, nI_add], mst_wrong, if_pos rfl]
          have hh2 := m_hereE F hF hB hm (w := 0) (Q := Q) (i := b + 1) (by omega)
          rw [show n - (b + 1) = d1 by omega] at hh2
          obtain ⟨c1, c2, c3⟩ := nbF_ok B d1 (b + 1)
          have hF2 := lawF_nb B (set ||| 2 ^ s) 1 d1 (b + 1)
          have hD2 := lawD_nb B (some s) cnt (apQ q S) d1 (b + 1)
          generalize hcc : nbF B (b + 1) d1 = c at *
          rw [show b + 1 + d1 - c = n - c by omega] at hF2 hD2
          have h127 := hbF_lt hB c
          rw [hh2, gB2_mk, show (48 : Int64) = lN 48 from rfl, show (57 : Int64) = lN 57 from rfl, m_in_dg F _ h127 48 (by decide), gB2_mk, bz_ite]
          have hh3 : ∀ w, m_here F (mst m (nI c) w Q) = some (nI (hbF B n c), mst m (nI c) w Q) := fun w => by
            have := m_hereE F hF hB hm (w := w) (Q := Q) (i := c) (by omega)
            have e : nbF B c (n - c) = c := by
              by_cases hcn : n ≤ c
              · rw [show n - c = 0 by omega]
                rfl
              · rw [show n - c = (n - c - 1) + 1 by omega, nbF, if_neg]
                rcases c3 with h | h
                · omega
                · exact h
            rw [e] at this
            exact this
          by_cases hdg : 48 ≤ hbF B n c ∧ hbF B n c ≤ 57
          · -- a digit
            have hcn : c < n := by
              by_cases hcn : n ≤ c
              · rw [show hbF B n c = 0 from if_pos hcn] at hdg
                omega
              · omega
            have hbc : hbF B n c = B c := if_neg (by omega)
            rw [hbc] at hdg
            have c32 : B c ≠ 32 := by omega
            obtain ⟨d2, hd2⟩ : ∃ z, n - c = z + 1 := ⟨n - c - 1, by omega⟩
            have hv : dgV (B c) = some (B c - 48) := if_pos hdg
            rw [hd2] at hF2 hD2
            rw [lawF, if_neg c32, if_neg (show ¬ (1 : Nat) = 0 by decide), hv] at hF2
            rw [lawD, if_neg c32, hv] at hD2
            have hQ' := hQ.put (s := s) (v := B c - 48) s6 (by omega)
            rw [hbc, if_pos hdg, m_129ok F _ (nI cnt) (nI c) 0 0 _ Q m s6 rfl (hh3 0), hbc, show (48 : Int32) = nI 48 from rfl, subI (by omega), show nI c + (1 : Int32) = nI (c + 1) from by rw [show (1 : Int32) = nI 1 from rfl, nI_add], show nI cnt + (1 : Int32) = nI (cnt + 1) from by rw [show (1 : Int32) = nI 1 from rfl, nI_add]]
            have hh4 := m_hereE F hF hB hm (w := 0) (Q := upd Q s (nI (B c - 48))) (i := c + 1) (by omega)
            rw [show n - (c + 1) = d2 by omega] at hh4
            obtain ⟨t1, t2, t3⟩ := nbF_ok B d2 (c + 1)
            have hF3 := lawF_nb B (set ||| 2 ^ s) 0 d2 (c + 1)
            have hD3 := lawD_nb B (some s) (cnt + 1) (apQ (setQ q s (B c - 48)) S) d2 (c + 1)
            generalize htt : nbF B (c + 1) d2 = t at *
            rw [show c + 1 + d2 - t = n - t by omega] at hF3 hD3
            rw [m_169ok F _ _ _ _ 0 _ _ m rfl hh4]
            have hne : set ||| 2 ^ s ≠ 0 := fun z => by
              have := tb_or set s s
              rw [z, Nat.zero_testBit, show decide (s = s) = true from decide_eq_true rfl, Bool.or_true] at this
              cases this
            have hD4 : ∀ cur, lawD B a d cur cnt (apQ q S) = lawD B t (n - t) (some s) (cnt + 1) (apQ (setQ q s (B c - 48)) S) := fun cur => by
              rw [hD1 cur, hD2, ← hD3, apQ_set s6]
            by_cases htn : n ≤ t
            · have e0 : t = n := by omega
              rw [show hbF B n t = 0 from if_pos htn, if_pos (show nI 0 = 0 from rfl), L36_end, e0]
              refine ⟨cnt + 1, n, upd Q s (nI (B c - 48)), Nat.le_refl _, Or.inr ⟨?_, rfl, set ||| 2 ^ s, setQ q s (B c - 48), hQ', fun cur => ?_⟩⟩
              · rw [hF1, hF2, hF3, e0, Nat.sub_self, lawF, if_neg (fun z => z.elim hne (fun y => y rfl))]
              · rw [hD4 cur, e0, Nat.sub_self, lawD]
            · have hBt := hB.2 t (by omega)
              have t32 : B t ≠ 32 := by
                rcases t3 with h | h
                · omega
                · exact h
              have g0 : ¬ nI (hbF B n t) = 0 := by
                rw [show hbF B n t = B t from if_neg htn, show (0 : Int32) = nI 0 from rfl, eqI (by omega) (by omega)]
                omega
              rw [if_neg g0]
              obtain ⟨cnt', e, Q', e1, e2⟩ := ih (n - t) (by omega) t (k + 1) (cnt + 1) (set ||| 2 ^ s) (setQ q s (B c - 48)) (upd Q s (nI (B c - 48))) (by omega) (by omega) hQ' (Or.inr ⟨by omega, t32⟩)
              refine ⟨cnt', e, Q', e1, ?_⟩
              rw [hF1, hF2, hF3]
              rcases e2 with e2 | ⟨e2, e3, set', q', e4, e5⟩
              · exact Or.inl e2
              · exact Or.inr ⟨e2, e3, set', q', e4, fun cur => by rw [hD4 cur, e5]⟩
          · -- no digit
            have hF4 : lawF B a d set 0 = some c := by
              rw [hF1, hF2]
              by_cases hcn : n ≤ c
              · rw [show n - c = 0 by omega, lawF, if_pos (Or.inr (by decide))]
              · rw [show n - c = (n - c - 1) + 1 by omega]
                rw [show hbF B n c = B c from if_neg hcn] at hdg
                rcases c3 with h | h
                · omega
                · rw [lawF, if_neg h, if_neg (show ¬ (1 : Nat) = 0 by decide), show dgV (B c) = none from if_neg hdg]
            rw [if_neg hdg]
            rw [m_129bad F _ (nI cnt) (nI c) 0 1 _ Q m s6 (Or.inr rfl) n10 (hh3 1), L36_end]
            exact ⟨0, c, _, by omega, Or.inl ⟨hF4, _, rfl⟩⟩
