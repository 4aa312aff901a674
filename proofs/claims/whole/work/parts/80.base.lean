/-! the pure part: how the class's state and the reference's belong together -/
def EqR (f g : Nat → Int32) (len hi : Nat) : Prop := ∀ j, j < len → ∃ k, k ≤ hi ∧ f j = nI k ∧ g j = nI k
def EqV (x y : Int32) (hi : Nat) : Prop := ∃ k, k ≤ hi ∧ x = nI k ∧ y = nI k
def sMax (j : Nat) : Nat := if j = 6 then 3 else if 8 ≤ j then 999 else 9
def EqS (f g : Nat → Int32) : Prop := ∀ j, j < 10 → ∃ k, k ≤ sMax j ∧ f j = nI k ∧ g j = nI k
def EqM (x y : Int32) : Prop := (x = -1 ∧ y = -4) ∨ ∃ k, k ≤ 999 ∧ x = nI k ∧ y = nI k
def sumN (f : Nat → Nat) : Nat → Nat
  | 0 => 0
  | n + 1 => sumN f n + f n
def EqP (f g : Nat → Int64) : Prop := ∃ p : Nat → Nat, (∀ k, k < 720 → f k = lN (p k) ∧ g k = lN (p k)) ∧ sumN p 720 ≤ 1099511627776
abbrev Vw : Type := (Nat → Nat → Int32) × (Nat → Int64)
theorem EqR.mono {f g : Nat → Int32} {len a b : Nat} (h : EqR f g len a) (hab : a ≤ b) : EqR f g len b := fun j hj => by
  obtain ⟨k, h1, h2, h3⟩ := h j hj
  exact ⟨k, Nat.le_trans h1 hab, h2, h3⟩
def RelV (n : Nat) (v w : Vw) : Prop :=
  EqR (v.1 0) (w.1 0) 144 7 ∧
  EqR (v.1 1) (w.1 1) 144 9 ∧
  EqR (v.1 2) (w.1 2) 144 n ∧
  EqS (v.1 3) (w.1 3) ∧
  EqR (v.1 4) (w.1 4) 8 9 ∧
  EqR (v.1 5) (w.1 5) 4 3 ∧
  EqR (v.1 6) (w.1 6) 4 143 ∧
  EqR (v.1 7) (w.1 7) 4 9 ∧
  EqR (v.1 8) (w.1 8) 6 143 ∧
  EqR (v.1 9) (w.1 9) 6 143 ∧
  EqR (v.1 10) (w.1 10) 6 3 ∧
  EqR (v.1 11) (w.1 11) 6 60 ∧
  EqR (v.1 12) (w.1 12) 60 3 ∧
  EqR (v.1 13) (w.1 13) 60 99 ∧
  EqR (v.1 14) (w.1 14) 60 7 ∧
  EqR (v.1 15) (w.1 15) 8 15 ∧
  EqR (v.1 16) (w.1 16) 8 15 ∧
  EqV (v.1 17 1) (w.1 17 1) 4 ∧
  EqV (v.1 17 2) (w.1 17 2) 6 ∧
  EqV (v.1 17 3) (w.1 17 3) 6 ∧
  EqV (v.1 17 4) (w.1 17 4) 60 ∧
  EqV (v.1 17 5) (w.1 17 5) 8 ∧
  EqM (v.1 17 0) (w.1 17 0) ∧
  EqP v.2 w.2
theorem RelV.kinds {n : Nat} {v w : Vw} (h : RelV n v w) : EqR (v.1 0) (w.1 0) 144 7 := h.1
theorem RelV.draws {n : Nat} {v w : Vw} (h : RelV n v w) : EqR (v.1 1) (w.1 1) 144 9 := h.2.1
theorem RelV.searched {n : Nat} {v w : Vw} (h : RelV n v w) : EqR (v.1 2) (w.1 2) 144 n := h.2.2.1
theorem RelV.settings {n : Nat} {v w : Vw} (h : RelV n v w) : EqS (v.1 3) (w.1 3) := h.2.2.2.1
theorem RelV.sits {n : Nat} {v w : Vw} (h : RelV n v w) : EqR (v.1 4) (w.1 4) 8 9 := h.2.2.2.2.1
theorem RelV.tsort {n : Nat} {v w : Vw} (h : RelV n v w) : EqR (v.1 5) (w.1 5) 4 3 := h.2.2.2.2.2.1
theorem RelV.tcell {n : Nat} {v w : Vw} (h : RelV n v w) : EqR (v.1 6) (w.1 6) 4 143 := h.2.2.2.2.2.2.1
theorem RelV.tpace {n : Nat} {v w : Vw} (h : RelV n v w) : EqR (v.1 7) (w.1 7) 4 9 := h.2.2.2.2.2.2.2.1
theorem RelV.places {n : Nat} {v w : Vw} (h : RelV n v w) : EqR (v.1 8) (w.1 8) 6 143 := h.2.2.2.2.2.2.2.2.1
theorem RelV.jcell {n : Nat} {v w : Vw} (h : RelV n v w) : EqR (v.1 9) (w.1 9) 6 143 := h.2.2.2.2.2.2.2.2.2.1
theorem RelV.jsort {n : Nat} {v w : Vw} (h : RelV n v w) : EqR (v.1 10) (w.1 10) 6 3 := h.2.2.2.2.2.2.2.2.2.2.1
theorem RelV.jmin {n : Nat} {v w : Vw} (h : RelV n v w) : EqR (v.1 11) (w.1 11) 6 60 := h.2.2.2.2.2.2.2.2.2.2.2.1
theorem RelV.ages {n : Nat} {v w : Vw} (h : RelV n v w) : EqR (v.1 12) (w.1 12) 60 3 := h.2.2.2.2.2.2.2.2.2.2.2.2.1
theorem RelV.fars {n : Nat} {v w : Vw} (h : RelV n v w) : EqR (v.1 13) (w.1 13) 60 99 := h.2.2.2.2.2.2.2.2.2.2.2.2.2.1
theorem RelV.bkinds {n : Nat} {v w : Vw} (h : RelV n v w) : EqR (v.1 14) (w.1 14) 60 7 := h.2.2.2.2.2.2.2.2.2.2.2.2.2.2.1
theorem RelV.keeps {n : Nat} {v w : Vw} (h : RelV n v w) : EqR (v.1 15) (w.1 15) 8 15 := h.2.2.2.2.2.2.2.2.2.2.2.2.2.2.2.1
theorem RelV.shuts {n : Nat} {v w : Vw} (h : RelV n v w) : EqR (v.1 16) (w.1 16) 8 15 := h.2.2.2.2.2.2.2.2.2.2.2.2.2.2.2.2.1
theorem RelV.tc {n : Nat} {v w : Vw} (h : RelV n v w) : EqV (v.1 17 1) (w.1 17 1) 4 := h.2.2.2.2.2.2.2.2.2.2.2.2.2.2.2.2.2.1
theorem RelV.pc {n : Nat} {v w : Vw} (h : RelV n v w) : EqV (v.1 17 2) (w.1 17 2) 6 := h.2.2.2.2.2.2.2.2.2.2.2.2.2.2.2.2.2.2.1
theorem RelV.jc {n : Nat} {v w : Vw} (h : RelV n v w) : EqV (v.1 17 3) (w.1 17 3) 6 := h.2.2.2.2.2.2.2.2.2.2.2.2.2.2.2.2.2.2.2.1
theorem RelV.bc {n : Nat} {v w : Vw} (h : RelV n v w) : EqV (v.1 17 4) (w.1 17 4) 60 := h.2.2.2.2.2.2.2.2.2.2.2.2.2.2.2.2.2.2.2.2.1
theorem RelV.dc {n : Nat} {v w : Vw} (h : RelV n v w) : EqV (v.1 17 5) (w.1 17 5) 8 := h.2.2.2.2.2.2.2.2.2.2.2.2.2.2.2.2.2.2.2.2.2.1
theorem RelV.minute {n : Nat} {v w : Vw} (h : RelV n v w) : EqM (v.1 17 0) (w.1 17 0) := h.2.2.2.2.2.2.2.2.2.2.2.2.2.2.2.2.2.2.2.2.2.2.1
theorem RelV.parts {n : Nat} {v w : Vw} (h : RelV n v w) : EqP v.2 w.2 := h.2.2.2.2.2.2.2.2.2.2.2.2.2.2.2.2.2.2.2.2.2.2.2
theorem RelV.mono {n : Nat} {v w : Vw} (h : RelV n v w) : RelV (n + 1) v w := by
  obtain ⟨h1, h2, h3, h4, h5, h6, h7, h8, h9, h10, h11, h12, h13, h14, h15, h16, h17, h18, h19, h20, h21, h22, h23, h24⟩ := h
  exact ⟨h1, h2, h3.mono (Nat.le_succ n), h4, h5, h6, h7, h8, h9, h10, h11, h12, h13, h14, h15, h16, h17, h18, h19, h20, h21, h22, h23, h24⟩
def vC (c : St) : Vw := (fun t => match t with
  | 0 => c.1 3
  | 1 => c.1 4
  | 2 => c.1 5
  | 3 => c.1 7
  | 4 => c.1 8
  | 5 => c.1 15
  | 6 => c.1 16
  | 7 => c.1 17
  | 8 => c.1 18
  | 9 => c.1 23
  | 10 => c.1 24
  | 11 => c.1 25
  | 12 => c.1 29
  | 13 => c.1 30
  | 14 => c.1 31
  | 15 => c.1 33
  | 16 => c.1 34
  | _ => fun k => match k with
    | 0 => c.1 9 4
    | 1 => c.1 14 7
    | 2 => c.1 14 8
    | 3 => c.1 22 5
    | 4 => c.1 28 3
    | _ => c.1 32 2, fun k => if k % 5 = 4 then c.2 11 (k / 5) else c.2 10 (4 * (k / 5) + k % 5))
def vK (c : St) : Vw := (fun t => match t with
  | 0 => c.1 37
  | 1 => c.1 38
  | 2 => c.1 39
  | 3 => c.1 41
  | 4 => c.1 42
  | 5 => c.1 49
  | 6 => c.1 50
  | 7 => c.1 51
  | 8 => c.1 52
  | 9 => c.1 57
  | 10 => c.1 58
  | 11 => c.1 59
  | 12 => c.1 63
  | 13 => c.1 64
  | 14 => c.1 65
  | 15 => c.1 67
  | 16 => c.1 68
  | _ => fun k => match k with
    | 0 => c.1 43 4
    | 1 => c.1 48 7
    | 2 => c.1 48 8
    | 3 => c.1 56 5
    | 4 => c.1 62 3
    | _ => c.1 66 2, fun k => if k % 5 = 4 then c.2 45 (k / 5) else c.2 44 (4 * (k / 5) + k % 5))
def vM (m : St) : Vw := (fun t => match t with
  | 0 => m.1 2
  | 1 => m.1 3
  | 2 => m.1 4
  | 3 => m.1 5
  | 4 => m.1 6
  | 5 => m.1 11
  | 6 => m.1 12
  | 7 => m.1 13
  | 8 => m.1 14
  | 9 => m.1 16
  | 10 => m.1 17
  | 11 => m.1 18
  | 12 => m.1 21
  | 13 => m.1 22
  | 14 => m.1 23
  | 15 => m.1 24
  | 16 => m.1 25
  | _ => fun k => match k with
    | 0 => m.1 0 13
    | 1 => m.1 0 14
    | 2 => m.1 0 18
    | 3 => m.1 0 21
    | 4 => m.1 0 27
    | _ => m.1 0 31, m.2 9)
def vI (m : St) : Vw := (fun t => match t with
  | 0 => m.1 27
  | 1 => fun j => m.1 27 (144 + j)
  | 2 => fun j => m.1 27 (288 + j)
  | 3 => fun j => m.1 27 (432 + j)
  | 4 => fun j => m.1 27 (442 + j)
  | 5 => fun j => m.1 27 (450 + j)
  | 6 => fun j => m.1 27 (454 + j)
  | 7 => fun j => m.1 27 (458 + j)
  | 8 => fun j => m.1 27 (462 + j)
  | 9 => fun j => m.1 27 (468 + j)
  | 10 => fun j => m.1 27 (474 + j)
  | 11 => fun j => m.1 27 (480 + j)
  | 12 => fun j => m.1 27 (486 + j)
  | 13 => fun j => m.1 27 (546 + j)
  | 14 => fun j => m.1 27 (606 + j)
  | 15 => fun j => m.1 27 (666 + j)
  | 16 => fun j => m.1 27 (674 + j)
  | _ => fun k => m.1 27 (682 + k), m.2 28)
/-- the tape: how long it is; what stands on it is a blank or more -/
def EqT (x y : Int32) (f : Nat → Int32) : Prop := ∃ k, k ≤ 160 ∧ x = nI k ∧ y = nI k ∧ ∀ j, j < k → ∃ b, 32 ≤ b ∧ b ≤ 126 ∧ f j = nI b
def LaneV (x : Int32) : Prop := x = -1 ∨ ∃ k, k ≤ 3 ∧ x = nI k
def EqL (f g : Nat → Int32) : Prop := ∀ j, j < 4 → LaneV (f j) ∧ g j = f j
def Rel (n : Nat) (c m : St) : Prop :=
  RelV n (vC c) (vM m) ∧
  ((c.1 0 6 = 0 ∧ m.1 0 37 = 0) ∨ (c.1 0 6 = 1 ∧ m.1 0 37 = 1 ∧ RelV n (vK c) (vI m))) ∧
  EqT (c.1 74 1) (m.1 0 7) (c.1 75) ∧
  EqR (c.1 75) (m.1 7) 160 126 ∧
  EqL (c.1 78) (m.1 29) ∧
  EqR (c.1 79) (m.1 30) 4 24 ∧
  (∀ j, j < 96 → c.2 77 j = m.2 31 j) ∧
  (∀ j, j < 9 → c.1 80 j = m.1 1 j) ∧
  (∀ j, j < 144 → c.1 71 j = 0)
theorem EqR.put {f g : Nat → Int32} {len hi : Nat} (h : EqR f g len hi) {i k : Nat} (hk : k ≤ hi) : EqR (upd f i (nI k)) (upd g i (nI k)) len hi := fun j hj => by
  by_cases e : j = i
  · exact ⟨k, hk, if_pos e, if_pos e⟩
  · obtain ⟨q, h1, h2, h3⟩ := h j hj
    exact ⟨q, h1, (if_neg e).trans h2, (if_neg e).trans h3⟩
theorem EqS.put {f g : Nat → Int32} (h : EqS f g) {i k : Nat} (hk : k ≤ sMax i) : EqS (upd f i (nI k)) (upd g i (nI k)) := fun j hj => by
  by_cases e : j = i
  · exact ⟨k, by rw [e]; exact hk, if_pos e, if_pos e⟩
  · obtain ⟨q, h1, h2, h3⟩ := h j hj
    exact ⟨q, h1, (if_neg e).trans h2, (if_neg e).trans h3⟩
theorem eqAll_upd {f g : Nat → Int32} {len : Nat} (h : ∀ j, j < len → f j = g j) {i : Nat} {x : Int32} : ∀ j, j < len → upd f i x j = upd g i x j := fun j hj => by
  by_cases e : j = i
  · exact (if_pos e).trans (if_pos e).symm
  · exact (if_neg e).trans ((h j hj).trans (if_neg e).symm)
theorem eqAll_same {f g : Nat → Int32} {len : Nat} (h : ∀ j, j < len → f j = g j) {i : Nat} {x : Int32} (hx : x = g i) : ∀ j, j < len → f j = upd g i x j := fun j hj => by
  by_cases e : j = i
  · subst e; exact (h j hj).trans (hx.symm.trans (if_pos rfl).symm)
  · exact (h j hj).trans (if_neg e).symm
theorem eqAllJ_upd {f g : Nat → Int64} {len : Nat} (h : ∀ j, j < len → f j = g j) {i : Nat} {x : Int64} : ∀ j, j < len → vp_updL f i x j = vp_updL g i x j := fun j hj => by
  by_cases e : j = i
  · exact (if_pos e).trans (if_pos e).symm
  · exact (if_neg e).trans ((h j hj).trans (if_neg e).symm)
theorem eqL_upd {f g : Nat → Int32} (h : EqL f g) {i : Nat} {x : Int32} (hx : LaneV x) : EqL (upd f i x) (upd g i x) := fun j hj => by
  by_cases e : j = i
  · exact ⟨by rw [show upd f i x j = x from if_pos e]; exact hx, (if_pos e).trans (if_pos e).symm⟩
  · exact ⟨by rw [show upd f i x j = f j from if_neg e]; exact (h j hj).1, (if_neg e).trans ((h j hj).2.trans (if_neg e).symm)⟩
theorem Rel.mono {n : Nat} {c m : St} (R : Rel n c m) : Rel (n + 1) c m := by
  obtain ⟨h1, h2, h3⟩ := R
  refine ⟨h1.mono, ?_, h3⟩
  rcases h2 with h | ⟨a, b, h⟩
  · exact Or.inl h
  · exact Or.inr ⟨a, b, h.mono⟩
theorem Rel.set_kinds {n : Nat} {c m : St} (R : Rel n c m) {j k : Nat} (hj : j < 144) (hk : k ≤ 7) : Rel n (sI c 3 j (nI k)) (sI m 2 j (nI k)) := by
  obtain ⟨⟨h1, h2, h3, h4, h5, h6, h7, h8, h9, h10, h11, h12, h13, h14, h15, h16, h17, h18, h19, h20, h21, h22, h23, h24⟩, hI, hT1, hT2, hL, hS, hJ, hR, hE⟩ := R
  exact ⟨⟨h1.put hk, h2, h3, h4, h5, h6, h7, h8, h9, h10, h11, h12, h13, h14, h15, h16, h17, h18, h19, h20, h21, h22, h23, h24⟩, hI, hT1, hT2, hL, hS, hJ, hR, hE⟩
theorem Rel.set_draws {n : Nat} {c m : St} (R : Rel n c m) {j k : Nat} (hj : j < 144) (hk : k ≤ 9) : Rel n (sI c 4 j (nI k)) (sI m 3 j (nI k)) := by
  obtain ⟨⟨h1, h2, h3, h4, h5, h6, h7, h8, h9, h10, h11, h12, h13, h14, h15, h16, h17, h18, h19, h20, h21, h22, h23, h24⟩, hI, hT1, hT2, hL, hS, hJ, hR, hE⟩ := R
  exact ⟨⟨h1, h2.put hk, h3, h4, h5, h6, h7, h8, h9, h10, h11, h12, h13, h14, h15, h16, h17, h18, h19, h20, h21, h22, h23, h24⟩, hI, hT1, hT2, hL, hS, hJ, hR, hE⟩
theorem Rel.set_searched {n : Nat} {c m : St} (R : Rel n c m) {j k : Nat} (hj : j < 144) (hk : k ≤ n) : Rel n (sI c 5 j (nI k)) (sI m 4 j (nI k)) := by
  obtain ⟨⟨h1, h2, h3, h4, h5, h6, h7, h8, h9, h10, h11, h12, h13, h14, h15, h16, h17, h18, h19, h20, h21, h22, h23, h24⟩, hI, hT1, hT2, hL, hS, hJ, hR, hE⟩ := R
  exact ⟨⟨h1, h2, h3.put hk, h4, h5, h6, h7, h8, h9, h10, h11, h12, h13, h14, h15, h16, h17, h18, h19, h20, h21, h22, h23, h24⟩, hI, hT1, hT2, hL, hS, hJ, hR, hE⟩
theorem Rel.set_sits {n : Nat} {c m : St} (R : Rel n c m) {j k : Nat} (hj : j < 8) (hk : k ≤ 9) : Rel n (sI c 8 j (nI k)) (sI m 6 j (nI k)) := by
  obtain ⟨⟨h1, h2, h3, h4, h5, h6, h7, h8, h9, h10, h11, h12, h13, h14, h15, h16, h17, h18, h19, h20, h21, h22, h23, h24⟩, hI, hT1, hT2, hL, hS, hJ, hR, hE⟩ := R
  exact ⟨⟨h1, h2, h3, h4, h5.put hk, h6, h7, h8, h9, h10, h11, h12, h13, h14, h15, h16, h17, h18, h19, h20, h21, h22, h23, h24⟩, hI, hT1, hT2, hL, hS, hJ, hR, hE⟩
theorem Rel.set_tsort {n : Nat} {c m : St} (R : Rel n c m) {j k : Nat} (hj : j < 4) (hk : k ≤ 3) : Rel n (sI c 15 j (nI k)) (sI m 11 j (nI k)) := by
  obtain ⟨⟨h1, h2, h3, h4, h5, h6, h7, h8, h9, h10, h11, h12, h13, h14, h15, h16, h17, h18, h19, h20, h21, h22, h23, h24⟩, hI, hT1, hT2, hL, hS, hJ, hR, hE⟩ := R
  exact ⟨⟨h1, h2, h3, h4, h5, h6.put hk, h7, h8, h9, h10, h11, h12, h13, h14, h15, h16, h17, h18, h19, h20, h21, h22, h23, h24⟩, hI, hT1, hT2, hL, hS, hJ, hR, hE⟩
theorem Rel.set_tcell {n : Nat} {c m : St} (R : Rel n c m) {j k : Nat} (hj : j < 4) (hk : k ≤ 143) : Rel n (sI c 16 j (nI k)) (sI m 12 j (nI k)) := by
  obtain ⟨⟨h1, h2, h3, h4, h5, h6, h7, h8, h9, h10, h11, h12, h13, h14, h15, h16, h17, h18, h19, h20, h21, h22, h23, h24⟩, hI, hT1, hT2, hL, hS, hJ, hR, hE⟩ := R
  exact ⟨⟨h1, h2, h3, h4, h5, h6, h7.put hk, h8, h9, h10, h11, h12, h13, h14, h15, h16, h17, h18, h19, h20, h21, h22, h23, h24⟩, hI, hT1, hT2, hL, hS, hJ, hR, hE⟩
theorem Rel.set_tpace {n : Nat} {c m : St} (R : Rel n c m) {j k : Nat} (hj : j < 4) (hk : k ≤ 9) : Rel n (sI c 17 j (nI k)) (sI m 13 j (nI k)) := by
  obtain ⟨⟨h1, h2, h3, h4, h5, h6, h7, h8, h9, h10, h11, h12, h13, h14, h15, h16, h17, h18, h19, h20, h21, h22, h23, h24⟩, hI, hT1, hT2, hL, hS, hJ, hR, hE⟩ := R
  exact ⟨⟨h1, h2, h3, h4, h5, h6, h7, h8.put hk, h9, h10, h11, h12, h13, h14, h15, h16, h17, h18, h19, h20, h21, h22, h23, h24⟩, hI, hT1, hT2, hL, hS, hJ, hR, hE⟩
theorem Rel.set_places {n : Nat} {c m : St} (R : Rel n c m) {j k : Nat} (hj : j < 6) (hk : k ≤ 143) : Rel n (sI c 18 j (nI k)) (sI m 14 j (nI k)) := by
  obtain ⟨⟨h1, h2, h3, h4, h5, h6, h7, h8, h9, h10, h11, h12, h13, h14, h15, h16, h17, h18, h19, h20, h21, h22, h23, h24⟩, hI, hT1, hT2, hL, hS, hJ, hR, hE⟩ := R
  exact ⟨⟨h1, h2, h3, h4, h5, h6, h7, h8, h9.put hk, h10, h11, h12, h13, h14, h15, h16, h17, h18, h19, h20, h21, h22, h23, h24⟩, hI, hT1, hT2, hL, hS, hJ, hR, hE⟩
theorem Rel.set_jcell {n : Nat} {c m : St} (R : Rel n c m) {j k : Nat} (hj : j < 6) (hk : k ≤ 143) : Rel n (sI c 23 j (nI k)) (sI m 16 j (nI k)) := by
  obtain ⟨⟨h1, h2, h3, h4, h5, h6, h7, h8, h9, h10, h11, h12, h13, h14, h15, h16, h17, h18, h19, h20, h21, h22, h23, h24⟩, hI, hT1, hT2, hL, hS, hJ, hR, hE⟩ := R
  exact ⟨⟨h1, h2, h3, h4, h5, h6, h7, h8, h9, h10.put hk, h11, h12, h13, h14, h15, h16, h17, h18, h19, h20, h21, h22, h23, h24⟩, hI, hT1, hT2, hL, hS, hJ, hR, hE⟩
theorem Rel.set_jsort {n : Nat} {c m : St} (R : Rel n c m) {j k : Nat} (hj : j < 6) (hk : k ≤ 3) : Rel n (sI c 24 j (nI k)) (sI m 17 j (nI k)) := by
  obtain ⟨⟨h1, h2, h3, h4, h5, h6, h7, h8, h9, h10, h11, h12, h13, h14, h15, h16, h17, h18, h19, h20, h21, h22, h23, h24⟩, hI, hT1, hT2, hL, hS, hJ, hR, hE⟩ := R
  exact ⟨⟨h1, h2, h3, h4, h5, h6, h7, h8, h9, h10, h11.put hk, h12, h13, h14, h15, h16, h17, h18, h19, h20, h21, h22, h23, h24⟩, hI, hT1, hT2, hL, hS, hJ, hR, hE⟩
theorem Rel.set_jmin {n : Nat} {c m : St} (R : Rel n c m) {j k : Nat} (hj : j < 6) (hk : k ≤ 60) : Rel n (sI c 25 j (nI k)) (sI m 18 j (nI k)) := by
  obtain ⟨⟨h1, h2, h3, h4, h5, h6, h7, h8, h9, h10, h11, h12, h13, h14, h15, h16, h17, h18, h19, h20, h21, h22, h23, h24⟩, hI, hT1, hT2, hL, hS, hJ, hR, hE⟩ := R
  exact ⟨⟨h1, h2, h3, h4, h5, h6, h7, h8, h9, h10, h11, h12.put hk, h13, h14, h15, h16, h17, h18, h19, h20, h21, h22, h23, h24⟩, hI, hT1, hT2, hL, hS, hJ, hR, hE⟩
theorem Rel.set_ages {n : Nat} {c m : St} (R : Rel n c m) {j k : Nat} (hj : j < 60) (hk : k ≤ 3) : Rel n (sI c 29 j (nI k)) (sI m 21 j (nI k)) := by
  obtain ⟨⟨h1, h2, h3, h4, h5, h6, h7, h8, h9, h10, h11, h12, h13, h14, h15, h16, h17, h18, h19, h20, h21, h22, h23, h24⟩, hI, hT1, hT2, hL, hS, hJ, hR, hE⟩ := R
  exact ⟨⟨h1, h2, h3, h4, h5, h6, h7, h8, h9, h10, h11, h12, h13.put hk, h14, h15, h16, h17, h18, h19, h20, h21, h22, h23, h24⟩, hI, hT1, hT2, hL, hS, hJ, hR, hE⟩
theorem Rel.set_fars {n : Nat} {c m : St} (R : Rel n c m) {j k : Nat} (hj : j < 60) (hk : k ≤ 99) : Rel n (sI c 30 j (nI k)) (sI m 22 j (nI k)) := by
  obtain ⟨⟨h1, h2, h3, h4, h5, h6, h7, h8, h9, h10, h11, h12, h13, h14, h15, h16, h17, h18, h19, h20, h21, h22, h23, h24⟩, hI, hT1, hT2, hL, hS, hJ, hR, hE⟩ := R
  exact ⟨⟨h1, h2, h3, h4, h5, h6, h7, h8, h9, h10, h11, h12, h13, h14.put hk, h15, h16, h17, h18, h19, h20, h21, h22, h23, h24⟩, hI, hT1, hT2, hL, hS, hJ, hR, hE⟩
theorem Rel.set_bkinds {n : Nat} {c m : St} (R : Rel n c m) {j k : Nat} (hj : j < 60) (hk : k ≤ 7) : Rel n (sI c 31 j (nI k)) (sI m 23 j (nI k)) := by
  obtain ⟨⟨h1, h2, h3, h4, h5, h6, h7, h8, h9, h10, h11, h12, h13, h14, h15, h16, h17, h18, h19, h20, h21, h22, h23, h24⟩, hI, hT1, hT2, hL, hS, hJ, hR, hE⟩ := R
  exact ⟨⟨h1, h2, h3, h4, h5, h6, h7, h8, h9, h10, h11, h12, h13, h14, h15.put hk, h16, h17, h18, h19, h20, h21, h22, h23, h24⟩, hI, hT1, hT2, hL, hS, hJ, hR, hE⟩
theorem Rel.set_keeps {n : Nat} {c m : St} (R : Rel n c m) {j k : Nat} (hj : j < 8) (hk : k ≤ 15) : Rel n (sI c 33 j (nI k)) (sI m 24 j (nI k)) := by
  obtain ⟨⟨h1, h2, h3, h4, h5, h6, h7, h8, h9, h10, h11, h12, h13, h14, h15, h16, h17, h18, h19, h20, h21, h22, h23, h24⟩, hI, hT1, hT2, hL, hS, hJ, hR, hE⟩ := R
  exact ⟨⟨h1, h2, h3, h4, h5, h6, h7, h8, h9, h10, h11, h12, h13, h14, h15, h16.put hk, h17, h18, h19, h20, h21, h22, h23, h24⟩, hI, hT1, hT2, hL, hS, hJ, hR, hE⟩
theorem Rel.set_shuts {n : Nat} {c m : St} (R : Rel n c m) {j k : Nat} (hj : j < 8) (hk : k ≤ 15) : Rel n (sI c 34 j (nI k)) (sI m 25 j (nI k)) := by
  obtain ⟨⟨h1, h2, h3, h4, h5, h6, h7, h8, h9, h10, h11, h12, h13, h14, h15, h16, h17, h18, h19, h20, h21, h22, h23, h24⟩, hI, hT1, hT2, hL, hS, hJ, hR, hE⟩ := R
  exact ⟨⟨h1, h2, h3, h4, h5, h6, h7, h8, h9, h10, h11, h12, h13, h14, h15, h16, h17.put hk, h18, h19, h20, h21, h22, h23, h24⟩, hI, hT1, hT2, hL, hS, hJ, hR, hE⟩
theorem Rel.set_settings {n : Nat} {c m : St} (R : Rel n c m) {j k : Nat} (hj : j < 10) (hk : k ≤ sMax j) : Rel n (sI c 7 j (nI k)) (sI m 5 j (nI k)) := by
  obtain ⟨⟨h1, h2, h3, h4, h5, h6, h7, h8, h9, h10, h11, h12, h13, h14, h15, h16, h17, h18, h19, h20, h21, h22, h23, h24⟩, hI, hT1, hT2, hL, hS, hJ, hR, hE⟩ := R
  exact ⟨⟨h1, h2, h3, h4.put hk, h5, h6, h7, h8, h9, h10, h11, h12, h13, h14, h15, h16, h17, h18, h19, h20, h21, h22, h23, h24⟩, hI, hT1, hT2, hL, hS, hJ, hR, hE⟩
theorem Rel.set_tc {n : Nat} {c m : St} (R : Rel n c m) {k : Nat} (hk : k ≤ 4) : Rel n (sI c 14 7 (nI k)) (sI m 0 14 (nI k)) := by
  obtain ⟨⟨h1, h2, h3, h4, h5, h6, h7, h8, h9, h10, h11, h12, h13, h14, h15, h16, h17, h18, h19, h20, h21, h22, h23, h24⟩, hI, hT1, hT2, hL, hS, hJ, hR, hE⟩ := R
  exact ⟨⟨h1, h2, h3, h4, h5, h6, h7, h8, h9, h10, h11, h12, h13, h14, h15, h16, h17, ⟨k, hk, rfl, rfl⟩, h19, h20, h21, h22, h23, h24⟩, hI, hT1, hT2, hL, hS, hJ, hR, hE⟩
theorem Rel.set_pc {n : Nat} {c m : St} (R : Rel n c m) {k : Nat} (hk : k ≤ 6) : Rel n (sI c 14 8 (nI k)) (sI m 0 18 (nI k)) := by
  obtain ⟨⟨h1, h2, h3, h4, h5, h6, h7, h8, h9, h10, h11, h12, h13, h14, h15, h16, h17, h18, h19, h20, h21, h22, h23, h24⟩, hI, hT1, hT2, hL, hS, hJ, hR, hE⟩ := R
  exact ⟨⟨h1, h2, h3, h4, h5, h6, h7, h8, h9, h10, h11, h12, h13, h14, h15, h16, h17, h18, ⟨k, hk, rfl, rfl⟩, h20, h21, h22, h23, h24⟩, hI, hT1, hT2, hL, hS, hJ, hR, hE⟩
theorem Rel.set_jc {n : Nat} {c m : St} (R : Rel n c m) {k : Nat} (hk : k ≤ 6) : Rel n (sI c 22 5 (nI k)) (sI m 0 21 (nI k)) := by
  obtain ⟨⟨h1, h2, h3, h4, h5, h6, h7, h8, h9, h10, h11, h12, h13, h14, h15, h16, h17, h18, h19, h20, h21, h22, h23, h24⟩, hI, hT1, hT2, hL, hS, hJ, hR, hE⟩ := R
  exact ⟨⟨h1, h2, h3, h4, h5, h6, h7, h8, h9, h10, h11, h12, h13, h14, h15, h16, h17, h18, h19, ⟨k, hk, rfl, rfl⟩, h21, h22, h23, h24⟩, hI, hT1, hT2, hL, hS, hJ, hR, hE⟩
theorem Rel.set_bc {n : Nat} {c m : St} (R : Rel n c m) {k : Nat} (hk : k ≤ 60) : Rel n (sI c 28 3 (nI k)) (sI m 0 27 (nI k)) := by
  obtain ⟨⟨h1, h2, h3, h4, h5, h6, h7, h8, h9, h10, h11, h12, h13, h14, h15, h16, h17, h18, h19, h20, h21, h22, h23, h24⟩, hI, hT1, hT2, hL, hS, hJ, hR, hE⟩ := R
  exact ⟨⟨h1, h2, h3, h4, h5, h6, h7, h8, h9, h10, h11, h12, h13, h14, h15, h16, h17, h18, h19, h20, ⟨k, hk, rfl, rfl⟩, h22, h23, h24⟩, hI, hT1, hT2, hL, hS, hJ, hR, hE⟩
theorem Rel.set_dc {n : Nat} {c m : St} (R : Rel n c m) {k : Nat} (hk : k ≤ 8) : Rel n (sI c 32 2 (nI k)) (sI m 0 31 (nI k)) := by
  obtain ⟨⟨h1, h2, h3, h4, h5, h6, h7, h8, h9, h10, h11, h12, h13, h14, h15, h16, h17, h18, h19, h20, h21, h22, h23, h24⟩, hI, hT1, hT2, hL, hS, hJ, hR, hE⟩ := R
  exact ⟨⟨h1, h2, h3, h4, h5, h6, h7, h8, h9, h10, h11, h12, h13, h14, h15, h16, h17, h18, h19, h20, h21, ⟨k, hk, rfl, rfl⟩, h23, h24⟩, hI, hT1, hT2, hL, hS, hJ, hR, hE⟩
theorem Rel.set_minute {n : Nat} {c m : St} (R : Rel n c m) {k : Nat} (hk : k ≤ 999) : Rel n (sI c 9 4 (nI k)) (sI m 0 13 (nI k)) := by
  obtain ⟨⟨h1, h2, h3, h4, h5, h6, h7, h8, h9, h10, h11, h12, h13, h14, h15, h16, h17, h18, h19, h20, h21, h22, h23, h24⟩, hI, hT1, hT2, hL, hS, hJ, hR, hE⟩ := R
  exact ⟨⟨h1, h2, h3, h4, h5, h6, h7, h8, h9, h10, h11, h12, h13, h14, h15, h16, h17, h18, h19, h20, h21, h22, Or.inr ⟨k, hk, rfl, rfl⟩, h24⟩, hI, hT1, hT2, hL, hS, hJ, hR, hE⟩
theorem Rel.s_lures {n : Nat} {c m : St} (R : Rel n c m) (j : Nat) (x : Int32) : Rel n (sI c 13 j x) m := by
  obtain ⟨⟨h1, h2, h3, h4, h5, h6, h7, h8, h9, h10, h11, h12, h13, h14, h15, h16, h17, h18, h19, h20, h21, h22, h23, h24⟩, hI, hT1, hT2, hL, hS, hJ, hR, hE⟩ := R
  exact ⟨⟨h1, h2, h3, h4, h5, h6, h7, h8, h9, h10, h11, h12, h13, h14, h15, h16, h17, h18, h19, h20, h21, h22, h23, h24⟩, hI, hT1, hT2, hL, hS, hJ, hR, hE⟩
theorem Rel.s_tried {n : Nat} {c m : St} (R : Rel n c m) (j : Nat) (x : Int32) : Rel n (sI c 20 j x) m := by
  obtain ⟨⟨h1, h2, h3, h4, h5, h6, h7, h8, h9, h10, h11, h12, h13, h14, h15, h16, h17, h18, h19, h20, h21, h22, h23, h24⟩, hI, hT1, hT2, hL, hS, hJ, hR, hE⟩ := R
  exact ⟨⟨h1, h2, h3, h4, h5, h6, h7, h8, h9, h10, h11, h12, h13, h14, h15, h16, h17, h18, h19, h20, h21, h22, h23, h24⟩, hI, hT1, hT2, hL, hS, hJ, hR, hE⟩
theorem Rel.s_chosen {n : Nat} {c m : St} (R : Rel n c m) (j : Nat) (x : Int32) : Rel n (sI c 21 j x) m := by
  obtain ⟨⟨h1, h2, h3, h4, h5, h6, h7, h8, h9, h10, h11, h12, h13, h14, h15, h16, h17, h18, h19, h20, h21, h22, h23, h24⟩, hI, hT1, hT2, hL, hS, hJ, hR, hE⟩ := R
  exact ⟨⟨h1, h2, h3, h4, h5, h6, h7, h8, h9, h10, h11, h12, h13, h14, h15, h16, h17, h18, h19, h20, h21, h22, h23, h24⟩, hI, hT1, hT2, hL, hS, hJ, hR, hE⟩
theorem Rel.s_jtried {n : Nat} {c m : St} (R : Rel n c m) (j : Nat) (x : Int32) : Rel n (sI c 26 j x) m := by
  obtain ⟨⟨h1, h2, h3, h4, h5, h6, h7, h8, h9, h10, h11, h12, h13, h14, h15, h16, h17, h18, h19, h20, h21, h22, h23, h24⟩, hI, hT1, hT2, hL, hS, hJ, hR, hE⟩ := R
  exact ⟨⟨h1, h2, h3, h4, h5, h6, h7, h8, h9, h10, h11, h12, h13, h14, h15, h16, h17, h18, h19, h20, h21, h22, h23, h24⟩, hI, hT1, hT2, hL, hS, hJ, hR, hE⟩
theorem Rel.s_jchosen {n : Nat} {c m : St} (R : Rel n c m) (j : Nat) (x : Int32) : Rel n (sI c 27 j x) m := by
  obtain ⟨⟨h1, h2, h3, h4, h5, h6, h7, h8, h9, h10, h11, h12, h13, h14, h15, h16, h17, h18, h19, h20, h21, h22, h23, h24⟩, hI, hT1, hT2, hL, hS, hJ, hR, hE⟩ := R
  exact ⟨⟨h1, h2, h3, h4, h5, h6, h7, h8, h9, h10, h11, h12, h13, h14, h15, h16, h17, h18, h19, h20, h21, h22, h23, h24⟩, hI, hT1, hT2, hL, hS, hJ, hR, hE⟩
theorem Rel.s_nhouses {n : Nat} {c m : St} (R : Rel n c m) (j : Nat) (x : Int32) : Rel n (sI c 70 j x) m := by
  obtain ⟨⟨h1, h2, h3, h4, h5, h6, h7, h8, h9, h10, h11, h12, h13, h14, h15, h16, h17, h18, h19, h20, h21, h22, h23, h24⟩, hI, hT1, hT2, hL, hS, hJ, hR, hE⟩ := R
  exact ⟨⟨h1, h2, h3, h4, h5, h6, h7, h8, h9, h10, h11, h12, h13, h14, h15, h16, h17, h18, h19, h20, h21, h22, h23, h24⟩, hI, hT1, hT2, hL, hS, hJ, hR, hE⟩
theorem Rel.s_ntried {n : Nat} {c m : St} (R : Rel n c m) (j : Nat) (x : Int32) : Rel n (sI c 72 j x) m := by
  obtain ⟨⟨h1, h2, h3, h4, h5, h6, h7, h8, h9, h10, h11, h12, h13, h14, h15, h16, h17, h18, h19, h20, h21, h22, h23, h24⟩, hI, hT1, hT2, hL, hS, hJ, hR, hE⟩ := R
  exact ⟨⟨h1, h2, h3, h4, h5, h6, h7, h8, h9, h10, h11, h12, h13, h14, h15, h16, h17, h18, h19, h20, h21, h22, h23, h24⟩, hI, hT1, hT2, hL, hS, hJ, hR, hE⟩
theorem Rel.s_nchosen {n : Nat} {c m : St} (R : Rel n c m) (j : Nat) (x : Int32) : Rel n (sI c 73 j x) m := by
  obtain ⟨⟨h1, h2, h3, h4, h5, h6, h7, h8, h9, h10, h11, h12, h13, h14, h15, h16, h17, h18, h19, h20, h21, h22, h23, h24⟩, hI, hT1, hT2, hL, hS, hJ, hR, hE⟩ := R
  exact ⟨⟨h1, h2, h3, h4, h5, h6, h7, h8, h9, h10, h11, h12, h13, h14, h15, h16, h17, h18, h19, h20, h21, h22, h23, h24⟩, hI, hT1, hT2, hL, hS, hJ, hR, hE⟩
theorem Rel.s_nhc {n : Nat} {c m : St} (R : Rel n c m) (j : Nat) (x : Int32) : Rel n (sI c 69 1 x) m := by
  obtain ⟨⟨h1, h2, h3, h4, h5, h6, h7, h8, h9, h10, h11, h12, h13, h14, h15, h16, h17, h18, h19, h20, h21, h22, h23, h24⟩, hI, hT1, hT2, hL, hS, hJ, hR, hE⟩ := R
  exact ⟨⟨h1, h2, h3, h4, h5, h6, h7, h8, h9, h10, h11, h12, h13, h14, h15, h16, h17, h18, h19, h20, h21, h22, h23, h24⟩, hI, hT1, hT2, hL, hS, hJ, hR, hE⟩
theorem Rel.s_nw {n : Nat} {c m : St} (R : Rel n c m) (j : Nat) (x : Int32) : Rel n (sI c 69 4 x) m := by
  obtain ⟨⟨h1, h2, h3, h4, h5, h6, h7, h8, h9, h10, h11, h12, h13, h14, h15, h16, h17, h18, h19, h20, h21, h22, h23, h24⟩, hI, hT1, hT2, hL, hS, hJ, hR, hE⟩ := R
  exact ⟨⟨h1, h2, h3, h4, h5, h6, h7, h8, h9, h10, h11, h12, h13, h14, h15, h16, h17, h18, h19, h20, h21, h22, h23, h24⟩, hI, hT1, hT2, hL, hS, hJ, hR, hE⟩
theorem Rel.s_values {n : Nat} {c m : St} (R : Rel n c m) (j : Nat) (x : Int64) : Rel n (sJ c 19 j x) m := by
  obtain ⟨⟨h1, h2, h3, h4, h5, h6, h7, h8, h9, h10, h11, h12, h13, h14, h15, h16, h17, h18, h19, h20, h21, h22, h23, h24⟩, hI, hT1, hT2, hL, hS, hJ, hR, hE⟩ := R
  exact ⟨⟨h1, h2, h3, h4, h5, h6, h7, h8, h9, h10, h11, h12, h13, h14, h15, h16, h17, h18, h19, h20, h21, h22, h23, h24⟩, hI, hT1, hT2, hL, hS, hJ, hR, hE⟩
theorem Rel.s_tmost {n : Nat} {c m : St} (R : Rel n c m) (j : Nat) (x : Int64) : Rel n (sJ c 14 9 x) m := by
  obtain ⟨⟨h1, h2, h3, h4, h5, h6, h7, h8, h9, h10, h11, h12, h13, h14, h15, h16, h17, h18, h19, h20, h21, h22, h23, h24⟩, hI, hT1, hT2, hL, hS, hJ, hR, hE⟩ := R
  exact ⟨⟨h1, h2, h3, h4, h5, h6, h7, h8, h9, h10, h11, h12, h13, h14, h15, h16, h17, h18, h19, h20, h21, h22, h23, h24⟩, hI, hT1, hT2, hL, hS, hJ, hR, hE⟩
theorem Rel.s_jmost {n : Nat} {c m : St} (R : Rel n c m) (j : Nat) (x : Int64) : Rel n (sJ c 22 6 x) m := by
  obtain ⟨⟨h1, h2, h3, h4, h5, h6, h7, h8, h9, h10, h11, h12, h13, h14, h15, h16, h17, h18, h19, h20, h21, h22, h23, h24⟩, hI, hT1, hT2, hL, hS, hJ, hR, hE⟩ := R
  exact ⟨⟨h1, h2, h3, h4, h5, h6, h7, h8, h9, h10, h11, h12, h13, h14, h15, h16, h17, h18, h19, h20, h21, h22, h23, h24⟩, hI, hT1, hT2, hL, hS, hJ, hR, hE⟩
theorem Rel.s_nmost {n : Nat} {c m : St} (R : Rel n c m) (j : Nat) (x : Int64) : Rel n (sJ c 69 6 x) m := by
  obtain ⟨⟨h1, h2, h3, h4, h5, h6, h7, h8, h9, h10, h11, h12, h13, h14, h15, h16, h17, h18, h19, h20, h21, h22, h23, h24⟩, hI, hT1, hT2, hL, hS, hJ, hR, hE⟩ := R
  exact ⟨⟨h1, h2, h3, h4, h5, h6, h7, h8, h9, h10, h11, h12, h13, h14, h15, h16, h17, h18, h19, h20, h21, h22, h23, h24⟩, hI, hT1, hT2, hL, hS, hJ, hR, hE⟩
theorem Rel.s_coming {n : Nat} {c m : St} (R : Rel n c m) (j : Nat) (x : Int64) : Rel n (sJ c 12 j x) m := by
  obtain ⟨⟨h1, h2, h3, h4, h5, h6, h7, h8, h9, h10, h11, h12, h13, h14, h15, h16, h17, h18, h19, h20, h21, h22, h23, h24⟩, hI, hT1, hT2, hL, hS, hJ, hR, hE⟩ := R
  exact ⟨⟨h1, h2, h3, h4, h5, h6, h7, h8, h9, h10, h11, h12, h13, h14, h15, h16, h17, h18, h19, h20, h21, h22, h23, h24⟩, hI, hT1, hT2, hL, hS, hJ, hR, hE⟩
theorem Rel.r_at {n : Nat} {c m : St} (R : Rel n c m) (j : Nat) (x : Int32) : Rel n c (sI m 0 8 x) := by
  obtain ⟨⟨h1, h2, h3, h4, h5, h6, h7, h8, h9, h10, h11, h12, h13, h14, h15, h16, h17, h18, h19, h20, h21, h22, h23, h24⟩, hI, hT1, hT2, hL, hS, hJ, hR, hE⟩ := R
  exact ⟨⟨h1, h2, h3, h4, h5, h6, h7, h8, h9, h10, h11, h12, h13, h14, h15, h16, h17, h18, h19, h20, h21, h22, h23, h24⟩, hI, hT1, hT2, hL, hS, hJ, hR, hE⟩
theorem Rel.r_wrong {n : Nat} {c m : St} (R : Rel n c m) (j : Nat) (x : Int32) : Rel n c (sI m 0 9 x) := by
  obtain ⟨⟨h1, h2, h3, h4, h5, h6, h7, h8, h9, h10, h11, h12, h13, h14, h15, h16, h17, h18, h19, h20, h21, h22, h23, h24⟩, hI, hT1, hT2, hL, hS, hJ, hR, hE⟩ := R
  exact ⟨⟨h1, h2, h3, h4, h5, h6, h7, h8, h9, h10, h11, h12, h13, h14, h15, h16, h17, h18, h19, h20, h21, h22, h23, h24⟩, hI, hT1, hT2, hL, hS, hJ, hR, hE⟩
theorem Rel.r_read {n : Nat} {c m : St} (R : Rel n c m) (j : Nat) (x : Int32) : Rel n c (sI m 8 j x) := by
  obtain ⟨⟨h1, h2, h3, h4, h5, h6, h7, h8, h9, h10, h11, h12, h13, h14, h15, h16, h17, h18, h19, h20, h21, h22, h23, h24⟩, hI, hT1, hT2, hL, hS, hJ, hR, hE⟩ := R
  exact ⟨⟨h1, h2, h3, h4, h5, h6, h7, h8, h9, h10, h11, h12, h13, h14, h15, h16, h17, h18, h19, h20, h21, h22, h23, h24⟩, hI, hT1, hT2, hL, hS, hJ, hR, hE⟩
theorem Rel.r_order {n : Nat} {c m : St} (R : Rel n c m) (j : Nat) (x : Int32) : Rel n c (sI m 19 j x) := by
  obtain ⟨⟨h1, h2, h3, h4, h5, h6, h7, h8, h9, h10, h11, h12, h13, h14, h15, h16, h17, h18, h19, h20, h21, h22, h23, h24⟩, hI, hT1, hT2, hL, hS, hJ, hR, hE⟩ := R
  exact ⟨⟨h1, h2, h3, h4, h5, h6, h7, h8, h9, h10, h11, h12, h13, h14, h15, h16, h17, h18, h19, h20, h21, h22, h23, h24⟩, hI, hT1, hT2, hL, hS, hJ, hR, hE⟩
theorem Rel.r_best {n : Nat} {c m : St} (R : Rel n c m) (j : Nat) (x : Int32) : Rel n c (sI m 20 j x) := by
  obtain ⟨⟨h1, h2, h3, h4, h5, h6, h7, h8, h9, h10, h11, h12, h13, h14, h15, h16, h17, h18, h19, h20, h21, h22, h23, h24⟩, hI, hT1, hT2, hL, hS, hJ, hR, hE⟩ := R
  exact ⟨⟨h1, h2, h3, h4, h5, h6, h7, h8, h9, h10, h11, h12, h13, h14, h15, h16, h17, h18, h19, h20, h21, h22, h23, h24⟩, hI, hT1, hT2, hL, hS, hJ, hR, hE⟩
theorem Rel.r_houses {n : Nat} {c m : St} (R : Rel n c m) (j : Nat) (x : Int32) : Rel n c (sI m 26 j x) := by
  obtain ⟨⟨h1, h2, h3, h4, h5, h6, h7, h8, h9, h10, h11, h12, h13, h14, h15, h16, h17, h18, h19, h20, h21, h22, h23, h24⟩, hI, hT1, hT2, hL, hS, hJ, hR, hE⟩ := R
  exact ⟨⟨h1, h2, h3, h4, h5, h6, h7, h8, h9, h10, h11, h12, h13, h14, h15, h16, h17, h18, h19, h20, h21, h22, h23, h24⟩, hI, hT1, hT2, hL, hS, hJ, hR, hE⟩
theorem Rel.r_then {n : Nat} {c m : St} (R : Rel n c m) (j : Nat) (x : Int64) : Rel n c (sJ m 10 j x) := by
  obtain ⟨⟨h1, h2, h3, h4, h5, h6, h7, h8, h9, h10, h11, h12, h13, h14, h15, h16, h17, h18, h19, h20, h21, h22, h23, h24⟩, hI, hT1, hT2, hL, hS, hJ, hR, hE⟩ := R
  exact ⟨⟨h1, h2, h3, h4, h5, h6, h7, h8, h9, h10, h11, h12, h13, h14, h15, h16, h17, h18, h19, h20, h21, h22, h23, h24⟩, hI, hT1, hT2, hL, hS, hJ, hR, hE⟩
theorem Rel.r_values {n : Nat} {c m : St} (R : Rel n c m) (j : Nat) (x : Int64) : Rel n c (sJ m 15 j x) := by
  obtain ⟨⟨h1, h2, h3, h4, h5, h6, h7, h8, h9, h10, h11, h12, h13, h14, h15, h16, h17, h18, h19, h20, h21, h22, h23, h24⟩, hI, hT1, hT2, hL, hS, hJ, hR, hE⟩ := R
  exact ⟨⟨h1, h2, h3, h4, h5, h6, h7, h8, h9, h10, h11, h12, h13, h14, h15, h16, h17, h18, h19, h20, h21, h22, h23, h24⟩, hI, hT1, hT2, hL, hS, hJ, hR, hE⟩
theorem Rel.r_moved {n : Nat} {c m : St} (R : Rel n c m) (j : Nat) (x : Int64) : Rel n c (sJ m 32 j x) := by
  obtain ⟨⟨h1, h2, h3, h4, h5, h6, h7, h8, h9, h10, h11, h12, h13, h14, h15, h16, h17, h18, h19, h20, h21, h22, h23, h24⟩, hI, hT1, hT2, hL, hS, hJ, hR, hE⟩ := R
  exact ⟨⟨h1, h2, h3, h4, h5, h6, h7, h8, h9, h10, h11, h12, h13, h14, h15, h16, h17, h18, h19, h20, h21, h22, h23, h24⟩, hI, hT1, hT2, hL, hS, hJ, hR, hE⟩
theorem Rel.set_refused {n : Nat} {c m : St} (R : Rel n c m) {j : Nat} {x : Int32} : Rel n (sI c 80 j x) (sI m 1 j x) := by
  obtain ⟨⟨h1, h2, h3, h4, h5, h6, h7, h8, h9, h10, h11, h12, h13, h14, h15, h16, h17, h18, h19, h20, h21, h22, h23, h24⟩, hI, hT1, hT2, hL, hS, hJ, hR, hE⟩ := R
  exact ⟨⟨h1, h2, h3, h4, h5, h6, h7, h8, h9, h10, h11, h12, h13, h14, h15, h16, h17, h18, h19, h20, h21, h22, h23, h24⟩, hI, hT1, hT2, hL, hS, hJ, eqAll_upd hR, hE⟩
theorem Rel.set_refused0 {n : Nat} {c m : St} (R : Rel n c m) {j : Nat} {x : Int32} (hj : j < 9) (hx : x = m.1 1 j) : Rel n c (sI m 1 j x) := by
  obtain ⟨⟨h1, h2, h3, h4, h5, h6, h7, h8, h9, h10, h11, h12, h13, h14, h15, h16, h17, h18, h19, h20, h21, h22, h23, h24⟩, hI, hT1, hT2, hL, hS, hJ, hR, hE⟩ := R
  exact ⟨⟨h1, h2, h3, h4, h5, h6, h7, h8, h9, h10, h11, h12, h13, h14, h15, h16, h17, h18, h19, h20, h21, h22, h23, h24⟩, hI, hT1, hT2, hL, hS, hJ, eqAll_same hR hx, hE⟩
theorem Rel.set_size0 {n : Nat} {c m : St} (R : Rel n c m) : Rel n (sI c 74 1 0) (sI m 0 7 0) := by
  obtain ⟨⟨h1, h2, h3, h4, h5, h6, h7, h8, h9, h10, h11, h12, h13, h14, h15, h16, h17, h18, h19, h20, h21, h22, h23, h24⟩, hI, hT1, hT2, hL, hS, hJ, hR, hE⟩ := R
  exact ⟨⟨h1, h2, h3, h4, h5, h6, h7, h8, h9, h10, h11, h12, h13, h14, h15, h16, h17, h18, h19, h20, h21, h22, h23, h24⟩, hI, ⟨0, by decide, rfl, rfl, fun j hj => absurd hj (Nat.not_lt_zero j)⟩, hT2, hL, hS, hJ, hR, hE⟩
theorem Rel.push {n : Nat} {c m : St} (R : Rel n c m) {t b : Nat} (ht : t < 160) (e : c.1 74 1 = nI t) (hb1 : 32 ≤ b) (hb2 : b ≤ 126) : Rel n (sI (sI c 74 1 (nI (t + 1))) 75 t (nI b)) (sI (sI m 0 7 (nI (t + 1))) 7 t (nI b)) := by
  obtain ⟨⟨h1, h2, h3, h4, h5, h6, h7, h8, h9, h10, h11, h12, h13, h14, h15, h16, h17, h18, h19, h20, h21, h22, h23, h24⟩, hI, hT1, hT2, hL, hS, hJ, hR, hE⟩ := R
  have hT : EqT (nI (t + 1)) (nI (t + 1)) (upd (c.1 75) t (nI b)) := by
    obtain ⟨k, k1, k2, k3, k4⟩ := hT1
    have ek : k = t := (nI_eq (by omega) (by omega)).mp (k2.symm.trans e)
    refine ⟨t + 1, by omega, rfl, rfl, fun j hj => ?_⟩
    by_cases ej : j = t
    · exact ⟨b, hb1, hb2, if_pos ej⟩
    · obtain ⟨b1, q1, q2, q3⟩ := k4 j (by omega)
      exact ⟨b1, q1, q2, (if_neg ej).trans q3⟩
  exact ⟨⟨h1, h2, h3, h4, h5, h6, h7, h8, h9, h10, h11, h12, h13, h14, h15, h16, h17, h18, h19, h20, h21, h22, h23, h24⟩, hI, hT, hT2.put hb2, hL, hS, hJ, hR, hE⟩
theorem Rel.set_lane {n : Nat} {c m : St} (R : Rel n c m) {j : Nat} {x : Int32} (hx : LaneV x) : Rel n (sI c 78 j x) (sI m 29 j x) := by
  obtain ⟨⟨h1, h2, h3, h4, h5, h6, h7, h8, h9, h10, h11, h12, h13, h14, h15, h16, h17, h18, h19, h20, h21, h22, h23, h24⟩, hI, hT1, hT2, hL, hS, hJ, hR, hE⟩ := R
  exact ⟨⟨h1, h2, h3, h4, h5, h6, h7, h8, h9, h10, h11, h12, h13, h14, h15, h16, h17, h18, h19, h20, h21, h22, h23, h24⟩, hI, hT1, hT2, eqL_upd hL hx, hS, hJ, hR, hE⟩
theorem Rel.set_sheetSize {n : Nat} {c m : St} (R : Rel n c m) {j k : Nat} (hk : k ≤ 24) : Rel n (sI c 79 j (nI k)) (sI m 30 j (nI k)) := by
  obtain ⟨⟨h1, h2, h3, h4, h5, h6, h7, h8, h9, h10, h11, h12, h13, h14, h15, h16, h17, h18, h19, h20, h21, h22, h23, h24⟩, hI, hT1, hT2, hL, hS, hJ, hR, hE⟩ := R
  exact ⟨⟨h1, h2, h3, h4, h5, h6, h7, h8, h9, h10, h11, h12, h13, h14, h15, h16, h17, h18, h19, h20, h21, h22, h23, h24⟩, hI, hT1, hT2, hL, hS.put hk, hJ, hR, hE⟩
theorem Rel.set_item {n : Nat} {c m : St} (R : Rel n c m) {j : Nat} {x : Int64} : Rel n (sJ c 77 j x) (sJ m 31 j x) := by
  obtain ⟨⟨h1, h2, h3, h4, h5, h6, h7, h8, h9, h10, h11, h12, h13, h14, h15, h16, h17, h18, h19, h20, h21, h22, h23, h24⟩, hI, hT1, hT2, hL, hS, hJ, hR, hE⟩ := R
  exact ⟨⟨h1, h2, h3, h4, h5, h6, h7, h8, h9, h10, h11, h12, h13, h14, h15, h16, h17, h18, h19, h20, h21, h22, h23, h24⟩, hI, hT1, hT2, hL, hS, eqAllJ_upd hJ, hR, hE⟩
/-! the same answer, the states still together -/
def SameR {T : Type} (n : Nat) (x y : Option (T × St)) : Prop := ∃ (r : T) (c m : St), x = some (r, c) ∧ y = some (r, m) ∧ Rel n c m
theorem SameR.same {T : Type} {n : Nat} {x y : Option (T × St)} (h : SameR n x y) : Same Rel n x y := by
  obtain ⟨r, c, m, h1, h2, h3⟩ := h
  exact ⟨r, c, m, h1, h2, h3.mono⟩
theorem SameR.ret {T : Type} {n : Nat} {r r' : T} {c m : St} (h : r = r') (R : Rel n c m) : SameR n (some (r, c)) (some (r', m)) := ⟨r, c, m, rfl, by rw [h], R⟩
def bz (p : Prop) [Decidable p] : Int32 := if p then 1 else 0
theorem bz_t {p : Prop} [Decidable p] (h : p) : bz p = 1 := if_pos h
theorem bz_f {p : Prop} [Decidable p] (h : ¬ p) : bz p = 0 := if_neg h
theorem bz_0 {p : Prop} [Decidable p] : (bz p = 0) = ¬ p := by
  by_cases h : p
  · rw [bz_t h]; simp [h]
  · rw [bz_f h]; simp [h]
theorem bz_01 {p : Prop} [Decidable p] {O : Type} (a b : O) : (if bz p = 0 ∨ bz p = 1 then a else b) = a := by
  by_cases h : p
  · rw [bz_t h]; rfl
  · rw [bz_f h]; rfl
theorem bz_ite {p : Prop} [Decidable p] {O : Type} (a b : O) : (if bz p = 0 then a else b) = if p then b else a := by
  by_cases h : p
  · rw [bz_t h, if_pos h]; rfl
  · rw [bz_f h, if_neg h]; rfl
theorem gB2_mk {T O : Type} (r : T) (s : St) (k : T → St → Option O) : gB2 (some (r, s)) k = k r s := rfl
theorem gB_mk {O : Type} (s : St) (k : St → Option O) : gB (some s) k = k s := rfl
theorem gB2_id {T : Type} (x : Option (T × St)) : gB2 x (fun r s => some (r, s)) = x := by
  cases x with
  | none => rfl
  | some q => rfl
theorem inb_nI {k n : Nat} (h : k < n) (hn : n < 2 ^ 31) : inb (nI k) n = true := decide_eq_true (nI_in h hn)
theorem cl_nI {k : Nat} (h : k < 2 ^ 31) : (nI k).toNatClampNeg = k := nI_clamp h
theorem i64_lit (x : Int32) (k : Nat) (h : k < 2 ^ 31) (he : x = nI k) : x.toInt64 = lN k := by rw [he]; exact nI_l h
/-- a number within: it is a small natural one -/
theorem in_nat {a : Int32} {lo hi : Nat} (hhi : hi < 2 ^ 31) (h : nI lo ≤ a ∧ a ≤ nI hi) (hlo : lo ≤ hi) : ∃ k, lo ≤ k ∧ k ≤ hi ∧ a = nI k := by
  obtain ⟨h1, h2⟩ := h
  rw [Int32.le_iff_toInt_le, nI_toInt (by omega)] at h1
  rw [Int32.le_iff_toInt_le, nI_toInt hhi] at h2
  refine ⟨a.toInt.toNat, by omega, by omega, ?_⟩
  apply Int32.toInt_inj.mp
  rw [nI_toInt (by omega)]
  omega
theorem c_isIn_eq (F : Nat) (a lo hi : Int32) (s : St) : c_isIn F a lo hi s = some (bz (lo ≤ a ∧ a ≤ hi), s) := by
  unfold c_isIn c_isIn_J14
  by_cases h1 : a < lo
  · rw [if_pos h1, bz_f (fun h => absurd h.1 (Int32.not_le.mpr h1))]
  · rw [if_neg h1]
    by_cases h2 : hi < a
    · rw [if_pos h2, bz_f (fun h => absurd h.2 (Int32.not_le.mpr h2))]
    · rw [if_neg h2, bz_t ⟨Int32.not_lt.mp h1, Int32.not_lt.mp h2⟩]
theorem m_in_eq (F : Nat) (a lo hi : Int64) (s : St) : m_in F a lo hi s = some (bz (lo ≤ a ∧ a ≤ hi), s) := by
  unfold m_in m_in_J17
  by_cases h1 : a < lo
  · rw [if_pos ((lg_cmp_lt _ _).mpr h1), bz_f (fun h => absurd h.1 (Int64.not_le.mpr h1))]
  · rw [if_neg (fun h => h1 ((lg_cmp_lt _ _).mp h))]
    by_cases h2 : hi < a
    · rw [if_pos ((lg_cmp_gt _ _).mpr h2), bz_f (fun h => absurd h.2 (Int64.not_le.mpr h2))]
    · rw [if_neg (fun h => h2 ((lg_cmp_gt _ _).mp h)), bz_t ⟨Int64.not_lt.mp h1, Int64.not_lt.mp h2⟩]
theorem wide_le (a b : Int32) : (a.toInt64 ≤ b.toInt64) = (a ≤ b) := by
  apply propext
  rw [Int64.le_iff_toInt_le, Int32.le_iff_toInt_le, Int32.toInt_toInt64, Int32.toInt_toInt64]
theorem bz_iff {p q : Prop} [Decidable p] [Decidable q] (h : p ↔ q) : bz p = bz q := by
  by_cases hp : p
  · rw [bz_t hp, bz_t (h.mp hp)]
  · rw [bz_f hp, bz_f (fun z => hp (h.mpr z))]
theorem m_in32 (F : Nat) (a lo hi : Int32) (s : St) : m_in F a.toInt64 lo.toInt64 hi.toInt64 s = some (bz (lo ≤ a ∧ a ≤ hi), s) := by
  rw [m_in_eq, bz_iff (q := lo ≤ a ∧ a ≤ hi) (by rw [wide_le, wide_le])]
