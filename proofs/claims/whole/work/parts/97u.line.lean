/-! the pure part: order -/
def oWalkL (f : List Nat → List (List Nat)) (r : List Nat) : Nat → Nat → List (List Nat)
  | _, 0 => []
  | j, m + 1 => (if r.contains j = true then [] else f (r ++ [j])) ++ oWalkL f r (j + 1) m
def oWalk (n : Nat) : Nat → List Nat → List (List Nat)
  | 0, r => [r]
  | d + 1, r => oWalkL (oWalk n d) r 0 n
def oMsk (r : List Nat) : Nat := r.foldl (fun a j => a ||| 2 ^ j) 0
theorem oMsk_put (r : List Nat) (j : Nat) : oMsk (r ++ [j]) = oMsk r ||| 2 ^ j := by
  unfold oMsk
  rw [List.foldl_append]
  rfl
theorem oMsk_go (j : Nat) : ∀ (r : List Nat) (a : Nat), (r.foldl (fun a j => a ||| 2 ^ j) a).testBit j = (a.testBit j || r.contains j)
  | [], a => by simp
  | x :: r, a => by
    rw [List.foldl_cons, oMsk_go j r, tb_or, List.contains_cons, Bool.or_assoc]
    congr 2
theorem oMsk_bit (r : List Nat) (j : Nat) : (oMsk r).testBit j = r.contains j := by
  unfold oMsk
  rw [oMsk_go, Nat.zero_testBit, Bool.false_or]
theorem get_old {r : List Nat} {j t : Nat} (h : t < r.length) : (r ++ [j]).getD t 0 = r.getD t 0 := by
  rw [List.getD_eq_getElem?_getD, List.getD_eq_getElem?_getD, List.getElem?_append_left h]
theorem get_new {r : List Nat} {j : Nat} : (r ++ [j]).getD r.length 0 = j := by
  rw [List.getD_eq_getElem?_getD, List.getElem?_append_right (Nat.le_refl _), Nat.sub_self]
  rfl
theorem drop_get {r : List Nat} {i : Nat} (h : i < r.length) : r.drop i = r.getD i 0 :: r.drop (i + 1) := by
  rw [List.drop_eq_getElem_cons h, List.getD_eq_getElem?_getD, List.getElem?_eq_getElem h]
  rfl
theorem get_map {n t : Nat} (B : Nat → Nat) (h : t < n) : ((List.range n).map B).getD t 0 = B t := by
  rw [List.getD_eq_getElem?_getD, List.getElem?_map, List.getElem?_range h]
  rfl
theorem get_mem {r : List Nat} {t n : Nat} (h : t < r.length) (hr : r.all (fun x => decide (x < n)) = true) : r.getD t 0 < n := by
  rw [List.all_eq_true] at hr
  have := hr (r.getD t 0) (by
    rw [List.getD_eq_getElem?_getD, List.getElem?_eq_getElem h]
    exact List.getElem_mem h)
  exact of_decide_eq_true this
def oSwp (A : Nat → Nat) (i j : Nat) : Nat → Nat := fun t => if t = j then A i else if t = i then A j else A t
def oPv (A : Nat → Nat) : Nat → Option Nat
  | 0 => none
  | i + 1 => if A i ≤ A (i + 1) then some i else oPv A i
def oSwj (A : Nat → Nat) (i : Nat) : Nat → Nat
  | 0 => 0
  | j + 1 => if A i ≤ A (j + 1) then j + 1 else oSwj A i j
def oRv : Nat → Nat → Nat → (Nat → Nat) → (Nat → Nat)
  | 0, _, _, A => A
  | k + 1, lo, hi, A => if hi ≤ lo then A else oRv k (lo + 1) (hi - 1) (oSwp A lo hi)
def oNx (n : Nat) (A : Nat → Nat) : Option (Nat → Nat) := match oPv A (n - 1) with
  | none => none
  | some i => some (oRv 6 (i + 1) (n - 1) (oSwp A i (oSwj A i (n - 1))))
def oGet (r : List Nat) : Nat → Nat := fun t => r.getD t 0
def oNxL (n : Nat) (r : List Nat) : Option (List Nat) := match oNx n (oGet r) with
  | none => none
  | some B => some ((List.range n).map B)
def oChkP (n : Nat) : List (List Nat) → Bool
  | [] => false
  | [r] => (oNxL n r).isNone
  | r :: r' :: rest => (oNxL n r == some r') && oChkP n (r' :: rest)
def oOkL (n : Nat) (r : List Nat) : Bool := r.length == n && r.all (fun x => decide (x < n))
def oChkN (n : Nat) : Bool := oChkP n (oWalk n n []) && (oWalk n n []).all (oOkL n) && (match oWalk n n [] with | [] => false | r :: _ => r == List.range n)
set_option maxRecDepth 100000 in
theorem oChk_all : ∀ n, n < 6 → oChkN (n + 1) = true := by decide +kernel
def jS (p K C A M : Nat → Nat) (x6 x7 x8 x9 : Nat) (a : Nat × Nat) (j : Nat) : Nat × Nat := (a.1 + M j, a.2 + seenS p K x8 x9 (A j) (C j) a.1 * LV x6 x7 (a.1 + M j))
def WoC (p K C A M : Nat → Nat) (x6 x7 x8 x9 t n : Nat) (c : St) : Prop := PC p c ∧ LawC K x8 x9 c ∧ c.1 7 6 = nI x6 ∧ c.1 7 7 = nI x7 ∧ c.1 9 4 = nI t ∧ c.1 22 5 = nI n ∧ ∀ j, j < 6 → c.1 23 j = nI (C j) ∧ c.1 24 j = nI (A j) ∧ c.1 25 j = nI (M j)
def WoM (p K C A M : Nat → Nat) (x6 x7 x8 x9 t n : Nat) (m : St) : Prop := PM p m ∧ LawM K x8 x9 m ∧ m.1 5 6 = nI x6 ∧ m.1 5 7 = nI x7 ∧ m.1 0 13 = nI t ∧ m.1 0 21 = nI n ∧ ∀ j, j < 6 → m.1 16 j = nI (C j) ∧ m.1 17 j = nI (A j) ∧ m.1 18 j = nI (M j)
def WoB (p K C A M : Nat → Nat) (x6 x7 x8 x9 t n : Nat) : Prop := sumN p 720 ≤ AL ∧ LawB K x8 x9 ∧ x6 ≤ 3 ∧ x7 ≤ 9 ∧ t ≤ 999 ∧ n ≤ 6 ∧ ∀ j, j < 6 → C j ≤ 143 ∧ A j ≤ 3 ∧ M j ≤ 60
theorem Rel.jobs {N : Nat} {c m : St} (R : Rel N c m) {t : Nat} (ht : t ≤ 999) (e1 : c.1 9 4 = nI t) (e2 : m.1 0 13 = nI t) : ∃ p K C A M x6 x7 x8 x9 n, WoC p K C A M x6 x7 x8 x9 t n c ∧ WoM p K C A M x6 x7 x8 x9 t n m ∧ WoB p K C A M x6 x7 x8 x9 t n := by
  obtain ⟨p, hc, hm, hs⟩ := R.1.pp
  obtain ⟨K, x8, x9, hlc, hlm, hlb⟩ := R.law
  obtain ⟨x6, b6, c6, m6⟩ := R.1.settings 6 (by omega)
  obtain ⟨x7, b7, c7, m7⟩ := R.1.settings 7 (by omega)
  obtain ⟨n, bn, cn, mn⟩ := R.1.jc
  obtain ⟨C, hC⟩ := R.1.jcell.fn (by decide)
  obtain ⟨A, hA⟩ := R.1.jsort.fn (by decide)
  obtain ⟨M, hM⟩ := R.1.jmin.fn (by decide)
  exact ⟨p, K, C, A, M, x6, x7, x8, x9, n, ⟨hc, hlc, c6, c7, e1, cn, fun i hi => ⟨(hC i hi).2.1, (hA i hi).2.1, (hM i hi).2.1⟩⟩, ⟨hm, hlm, m6, m7, e2, mn, fun i hi => ⟨(hC i hi).2.2, (hA i hi).2.2, (hM i hi).2.2⟩⟩, ⟨hs, hlb, b6, b7, ht, bn, fun i hi => ⟨(hC i hi).1, (hA i hi).1, (hM i hi).1⟩⟩⟩
section
variable {p K C A M : Nat → Nat} {x6 x7 x8 x9 t n : Nat}
theorem WoC.of {c c' : St} (h : WoC p K C A M x6 x7 x8 x9 t n c) (o : Only [26, 27] [22] c c') : WoC p K C A M x6 x7 x8 x9 t n c' := by
  unfold WoC PC LawC at h ⊢
  simp only [o.1 3 (by decide), o.1 7 (by decide), o.1 9 (by decide), o.1 22 (by decide), o.1 23 (by decide), o.1 24 (by decide), o.1 25 (by decide), o.2 10 (by decide), o.2 11 (by decide)]
  exact h
theorem WoM.of {c c' : St} (h : WoM p K C A M x6 x7 x8 x9 t n c) (o : Only [19, 20] [] c c') : WoM p K C A M x6 x7 x8 x9 t n c' := by
  unfold WoM PM LawM at h ⊢
  simp only [o.1 2 (by decide), o.1 5 (by decide), o.1 0 (by decide), o.1 16 (by decide), o.1 17 (by decide), o.1 18 (by decide), o.2 9 (by decide)]
  exact h
theorem jS_le (b : WoB p K C A M x6 x7 x8 x9 t n) {a : Nat × Nat} {j : Nat} (hj : j < 6) : (jS p K C A M x6 x7 x8 x9 a j).2 ≤ a.2 + AL * 1000 ∨ 90000 < a.1 := by
  obtain ⟨b1, b2, b3, b4, b5, b6, b7⟩ := b
  by_cases h : a.1 ≤ 90000
  · left
    unfold jS
    have h1 := seenS_le (K := K) (x8 := x8) (x9 := x9) (a := A j) (t := a.1) (show C j < 144 by have := (b7 j hj).1; omega) b1
    have h2 := (LV_eq (t := a.1 + M j) b3 b4 (by have := (b7 j hj).2.2; omega)).2
    exact Nat.add_le_add_left (Nat.mul_le_mul h1 h2) _
  · right
    omega
theorem ev_le (b : WoB p K C A M x6 x7 x8 x9 t n) : ∀ (r : List Nat) (a : Nat × Nat), r.all (fun x => decide (x < 6)) = true → a.1 + 60 * r.length ≤ 90000 → (r.foldl (jS p K C A M x6 x7 x8 x9) a).1 ≤ a.1 + 60 * r.length ∧ (r.foldl (jS p K C A M x6 x7 x8 x9) a).2 ≤ a.2 + r.length * (AL * 1000)
  | [], a, _, _ => by
    rw [List.foldl_nil, List.length_nil, Nat.mul_zero, Nat.zero_mul]
    exact ⟨Nat.le_refl _, Nat.le_refl _⟩
  | j :: r, a, hr, ha => by
    rw [List.all_cons, Bool.and_eq_true] at hr
    rw [List.length_cons] at ha
    have hj : j < 6 := of_decide_eq_true hr.1
    have e1 : (jS p K C A M x6 x7 x8 x9 a j).1 = a.1 + M j := rfl
    have hM := (b.2.2.2.2.2.2 j hj).2.2
    have ih := ev_le b r (jS p K C A M x6 x7 x8 x9 a j) hr.2 (by rw [e1]; omega)
    have h2 : (jS p K C A M x6 x7 x8 x9 a j).2 ≤ a.2 + AL * 1000 := by
      rcases jS_le b (a := a) hj with h | h
      · exact h
      · omega
    rw [List.foldl_cons, List.length_cons, Nat.add_mul]
    rw [e1] at ih
    omega
theorem c_worthJ (F : Nat) (hF : 3000 ≤ F) {c : St} (h : WoC p K C A M x6 x7 x8 x9 t n c) (b : WoB p K C A M x6 x7 x8 x9 t n) {j u : Nat} (hj : j < 6) (hu : u ≤ 90000) : c_State_worth F (nI (A j)) (nI (C j)) (nI u) (nI (u + M j)) c = some (lN (seenS p K x8 x9 (A j) (C j) u * LV x6 x7 (u + M j)), c) := by
  obtain ⟨h1, h2, h3, h4, h5, h6, h7⟩ := h
  obtain ⟨b1, b2, b3, b4, b5, b6, b7⟩ := b
  obtain ⟨q1, q2, q3⟩ := b7 j hj
  unfold c_State_worth
  rw [c_seenS F hF h1 b1 h2 b2 q2 (by omega) (by omega), gB2_mk, c_liv F h3 h4, gB2_mk, (LV_eq b3 b4 (by omega)).1, i2lN (by have := (LV_eq (t := u + M j) b3 b4 (by omega)).2; omega), lN_mul]
/-- the better of two orders: the first stays -/
def oUp (S : Nat × Nat → Nat → Nat × Nat) (a0 : Nat × Nat) (b : Nat × List Nat) (r : List Nat) : Nat × List Nat := if b.1 ≤ (r.foldl S a0).2 then ((r.foldl S a0).2 + 1, r) else b
def BestJ (n : Nat) (b : Nat × List Nat) (s : St) : Prop := s.2 22 6 = dL b.1 ∧ b.1 ≤ 6 * (AL * 1000) + 1 ∧ (0 < b.1 → ∀ t, t < n → s.1 27 t = nI (b.2.getD t 0))
def TriedJ (r : List Nat) (s : St) : Prop := ∀ t, t < r.length → s.1 26 t = nI (r.getD t 0)
theorem TriedJ.put {r : List Nat} {j : Nat} {s : St} (h : TriedJ r s) : TriedJ (r ++ [j]) (sI s 26 r.length (nI j)) := fun u hu => by
  rw [List.length_append, List.length_singleton] at hu
  rw [sI1_eq]
  by_cases e : u = r.length
  · rw [e, upd_eq, get_new]
  · rw [upd_ne e, get_old (by omega)]
    exact h u (by omega)
theorem TriedJ.back {r : List Nat} {j : Nat} {s : St} (h : TriedJ (r ++ [j]) s) : TriedJ r s := fun u hu => by
  rw [← get_old (j := j) hu]
  exact h u (by rw [List.length_append]; omega)
def LineS (F : Nat) (p K C A M : Nat → Nat) (x6 x7 x8 x9 t n D d : Nat) : Prop := ∀ (r : List Nat) (s : St) (b : Nat × List Nat), r.length + d = n → r.all (fun x => decide (x < 6)) = true → WoC p K C A M x6 x7 x8 x9 t n s → BestJ n b s → TriedJ r s →
    ∃ s', c_Jobs_line F D (nI r.length) (nI (oMsk r)) (nI (r.foldl (jS p K C A M x6 x7 x8 x9) (t, 0)).1) (lN (r.foldl (jS p K C A M x6 x7 x8 x9) (t, 0)).2) s = some s' ∧ BestJ n ((oWalk n d r).foldl (oUp (jS p K C A M x6 x7 x8 x9) (t, 0)) b) s' ∧ TriedJ r s' ∧ Only [26, 27] [22] s s'
theorem c_line_leaf (F : Nat) (b0 : WoB p K C A M x6 x7 x8 x9 t n) (D : Nat) : LineS F p K C A M x6 x7 x8 x9 t n (D + 1) 0 := by
  intro r s b hr ha h hb ht
  have hn := b0.2.2.2.2.2.1
  have ht9 := b0.2.2.2.2.1
  obtain ⟨-, v2⟩ := ev_le b0 r (t, 0) ha (by show t + _ ≤ _; omega)
  have v3 : r.length * (AL * 1000) ≤ 6 * (AL * 1000) := Nat.mul_le_mul_right _ (by omega)
  rw [show (t, 0).2 = 0 from rfl, Nat.zero_add] at v2
  have hAL : AL = 1099511627776 := rfl
  obtain ⟨b1, b2, b3⟩ := hb
  show ∃ s', c_Jobs_line_b F (c_Jobs_line F D) (nI r.length) (nI (oMsk r)) (nI (r.foldl (jS p K C A M x6 x7 x8 x9) (t, 0)).1) (lN (r.foldl (jS p K C A M x6 x7 x8 x9) (t, 0)).2) s = some s' ∧ BestJ n (oUp (jS p K C A M x6 x7 x8 x9) (t, 0) b r) s' ∧ _
  unfold c_Jobs_line_b oUp
  generalize (r.foldl (jS p K C A M x6 x7 x8 x9) (t, 0)).2 = v at *
  generalize (r.foldl (jS p K C A M x6 x7 x8 x9) (t, 0)).1 = u at *
  have e0 : r.length = n := by omega
  rw [h.2.2.2.2.2.1, e0, if_neg (show ¬ nI n < nI n from Int32.lt_irrefl), b1]
  by_cases g : b.1 ≤ v
  · have hc : ¬ lg_cmp (lN v) (dL b.1) ≤ 0 := by
      rw [cmp_le, le_dL (by omega) (by omega)]
      omega
    rw [if_neg hc, if_pos (by decide), if_pos g]
    refine ⟨cpI (sJ s 22 6 (lN v)) 26 27 0 0 6, rfl, ⟨?_, ?_, fun _ u hu => ?_⟩, ht, (Only.sJ s (by decide) 6 _).trans ⟨fun q hq => if_neg (fun e => hq (by rw [e]; decide)), fun _ _ => rfl⟩⟩
    · show vp_updL (s.2 22) 6 (lN v) 6 = dL (v + 1)
      rw [updL_eq, dL_1]
    · exact Nat.succ_le_succ (Nat.le_trans v2 v3)
    · show va_cpy (s.1 26) (s.1 27) 0 0 6 u = nI (r.getD u 0)
      unfold va_cpy
      rw [if_pos (by omega), show 0 + (u - 0) = u by omega]
      exact ht u (by omega)
  · have hc : lg_cmp (lN v) (dL b.1) ≤ 0 := by
      rw [cmp_le, le_dL (by omega) (by omega)]
      omega
    rw [if_pos hc, if_neg g]
    exact ⟨s, rfl, ⟨b1, b2, b3⟩, ht, Only.refl _ _ _⟩
theorem c_line_lp (F : Nat) (hF : 3000 ≤ F) (b0 : WoB p K C A M x6 x7 x8 x9 t n) {D d : Nat} (ih0 : LineS F p K C A M x6 x7 x8 x9 t n D d) {r : List Nat} (hr : r.length + (d + 1) = n) (ha : r.all (fun x => decide (x < 6)) = true) : ∀ (e j f : Nat) (s : St) (b : Nat × List Nat), j + e = n → e < f → WoC p K C A M x6 x7 x8 x9 t n s → BestJ n b s → TriedJ r s →
    ∃ s', c_Jobs_line_L43 F (c_Jobs_line F D) f (nI r.length) (nI (oMsk r)) (nI (r.foldl (jS p K C A M x6 x7 x8 x9) (t, 0)).1) (lN (r.foldl (jS p K C A M x6 x7 x8 x9) (t, 0)).2) (nI j) s = some s' ∧ BestJ n ((oWalkL (oWalk n d) r j e).foldl (oUp (jS p K C A M x6 x7 x8 x9) (t, 0)) b) s' ∧ TriedJ r s' ∧ Only [26, 27] [22] s s' := by
  have hn := b0.2.2.2.2.2.1
  have ht9 := b0.2.2.2.2.1
  intro e
  induction e with
  | zero =>
    intro j f s b hj hf h hb ht
    obtain ⟨f, rfl⟩ : ∃ z, f = z + 1 := ⟨f - 1, by omega⟩
    refine ⟨s, ?_, hb, ht, Only.refl _ _ _⟩
    show c_Jobs_line_L43b F (c_Jobs_line F D) (c_Jobs_line_L43 F (c_Jobs_line F D) f) (nI r.length) (nI (oMsk r)) _ _ (nI j) s = _
    unfold c_Jobs_line_L43b
    rw [h.2.2.2.2.2.1, if_pos (nI_le (by omega) (by omega))]
  | succ e ih =>
    intro j f s b hj hf h hb ht
    obtain ⟨f, rfl⟩ : ∃ z, f = z + 1 := ⟨f - 1, by omega⟩
    have g0 : ¬ nI n ≤ nI j := by
      rw [leI (by omega) (by omega)]
      omega
    have hbody : c_Jobs_line_L43 F (c_Jobs_line F D) (f + 1) (nI r.length) (nI (oMsk r)) (nI (r.foldl (jS p K C A M x6 x7 x8 x9) (t, 0)).1) (lN (r.foldl (jS p K C A M x6 x7 x8 x9) (t, 0)).2) (nI j) s = c_Jobs_line_L43b F (c_Jobs_line F D) (c_Jobs_line_L43 F (c_Jobs_line F D) f) (nI r.length) (nI (oMsk r)) (nI (r.foldl (jS p K C A M x6 x7 x8 x9) (t, 0)).1) (lN (r.foldl (jS p K C A M x6 x7 x8 x9) (t, 0)).2) (nI j) s := rfl
    rw [hbody]
    unfold c_Jobs_line_L43b c_Jobs_line_J125
    rw [oWalkL, List.foldl_append, h.2.2.2.2.2.1, if_neg g0, shl31 j (by omega), itBit (by omega), oMsk_bit, show nI j + (1 : Int32) = nI (j + 1) from by rw [show (1 : Int32) = nI 1 from rfl, nI_add]]
    by_cases hm : r.contains j = true
    · rw [if_pos hm, if_pos hm, List.foldl_nil]
      exact ih (j + 1) f s b (by omega) (by omega) h hb ht
    · rw [if_neg hm, if_neg hm]
      obtain ⟨v1, -⟩ := ev_le b0 r (t, 0) ha (by show t + _ ≤ _; omega)
      rw [show (t, 0).1 = t from rfl] at v1
      have o1 : Only [26, 27] [22] s (sI s 26 r.length (nI j)) := Only.sI _ (by decide) _ _
      have h1 := h.of o1
      obtain ⟨q1, q2, q3⟩ := h.2.2.2.2.2.2 j (by omega)
      have hl : (r ++ [j]).length = r.length + 1 := by rw [List.length_append, List.length_singleton]
      obtain ⟨s1, y1, y2, y3, y4⟩ := ih0 (r ++ [j]) (sI s 26 r.length (nI j)) b (by rw [hl]; omega) (by
        rw [List.all_append, ha, Bool.true_and, List.all_cons, List.all_nil, Bool.and_true]
        exact decide_eq_true (by omega)) h1 ⟨hb.1, hb.2.1, fun z u hu => by rw [sI1_ne (by decide)]; exact hb.2.2 z u hu⟩ ht.put
      obtain ⟨s', z1, z2, z3, z4⟩ := ih (j + 1) f s1 _ (by omega) (by omega) (h1.of y4) y2 y3.back
      refine ⟨s', ?_, z2, z3, (o1.trans y4).trans z4⟩
      rw [hl, oMsk_put, List.foldl_append] at y1
      rw [inb_nI (show j < 6 by omega) (by decide), inb_nI (show r.length < 6 by omega) (by decide), if_pos rfl, if_pos rfl, if_pos rfl, if_pos rfl, cl_nI (by omega), cl_nI (by omega), sI1_ne (by decide), sI1_ne (by decide), q1, q2, q3, nI_add, c_worthJ F hF h1 b0 (by omega) (by omega), gB2_mk, lN_add, fa_or, show nI r.length + (1 : Int32) = nI (r.length + 1) from by rw [show (1 : Int32) = nI 1 from rfl, nI_add]]
      rw [show c_Jobs_line F D (nI (r.length + 1)) (nI (oMsk r ||| 2 ^ j)) (nI ((r.foldl (jS p K C A M x6 x7 x8 x9) (t, 0)).1 + M j)) (lN ((r.foldl (jS p K C A M x6 x7 x8 x9) (t, 0)).2 + seenS p K x8 x9 (A j) (C j) (r.foldl (jS p K C A M x6 x7 x8 x9) (t, 0)).1 * LV x6 x7 ((r.foldl (jS p K C A M x6 x7 x8 x9) (t, 0)).1 + M j))) (sI s 26 r.length (nI j)) = some s1 from y1, gB_mk]
      exact z1
theorem c_lineS (F : Nat) (hF : 3000 ≤ F) (b0 : WoB p K C A M x6 x7 x8 x9 t n) : ∀ (d D : Nat), d < D → LineS F p K C A M x6 x7 x8 x9 t n D d := by
  intro d
  induction d with
  | zero =>
    intro D hD
    obtain ⟨D, rfl⟩ : ∃ z, D = z + 1 := ⟨D - 1, by omega⟩
    exact c_line_leaf F b0 D
  | succ d ih =>
    intro D hD r s b hr ha h hb ht
    obtain ⟨D, rfl⟩ : ∃ z, D = z + 1 := ⟨D - 1, by omega⟩
    have hn := b0.2.2.2.2.2.1
    show ∃ s', c_Jobs_line_b F (c_Jobs_line F D) (nI r.length) (nI (oMsk r)) (nI (r.foldl (jS p K C A M x6 x7 x8 x9) (t, 0)).1) (lN (r.foldl (jS p K C A M x6 x7 x8 x9) (t, 0)).2) s = some s' ∧ BestJ n ((oWalkL (oWalk n d) r 0 n).foldl (oUp (jS p K C A M x6 x7 x8 x9) (t, 0)) b) s' ∧ _
    unfold c_Jobs_line_b
    have hlt : nI r.length < nI n := by
      rw [ltI (by omega) (by omega)]
      omega
    rw [h.2.2.2.2.2.1, if_pos hlt]
    exact c_line_lp F hF b0 (ih D (by omega)) hr ha n 0 F s b (by omega) (by omega) h hb ht
end
