/-! the pure part: night, the class leaves -/
theorem Only.weak {I J I' J' : List Nat} {a b : St} (h : Only I J a b) (hI : ∀ q, q ∈ I → q ∈ I') (hJ : ∀ q, q ∈ J → q ∈ J') : Only I' J' a b := ⟨fun q hq => h.1 q (fun e => hq (hI q e)), fun q hq => h.2 q (fun e => hq (hJ q e))⟩
def NW (K D T S : Nat → Nat) (t : Nat) (c : St) : Prop := (∀ j, j < 144 → c.1 3 j = nI (K j) ∧ c.1 4 j = nI (D j)) ∧ (∀ j, j < 8 → c.1 8 j = nI (T j)) ∧ (∀ j, j < 6 → c.1 7 j = nI (S j)) ∧ c.1 9 4 = nI t
def NV (K D T S : Nat → Nat) (t : Nat) (m : St) : Prop := (∀ j, j < 144 → m.1 2 j = nI (K j) ∧ m.1 3 j = nI (D j)) ∧ (∀ j, j < 8 → m.1 6 j = nI (T j)) ∧ (∀ j, j < 6 → m.1 5 j = nI (S j)) ∧ m.1 0 13 = nI t
def NB (K D T S : Nat → Nat) (t : Nat) : Prop := (∀ j, j < 144 → K j ≤ 7 ∧ D j ≤ 9) ∧ (∀ j, j < 8 → T j ≤ 9) ∧ (∀ j, j < 6 → S j ≤ 9) ∧ t ≤ 999
theorem NW.of {K D T S : Nat → Nat} {t : Nat} {c c' : St} (h : NW K D T S t c) (o : Only [13] [11, 12] c c') : NW K D T S t c' := by
  unfold NW at *
  rw [o.1 3 (by simp), o.1 4 (by simp), o.1 8 (by simp), o.1 7 (by simp), o.1 9 (by simp)]
  exact h
def lur (K D : Nat → Nat) (q f : Nat) : Nat := match bes q f with
  | none => 0
  | some r => if K r = 3 ∨ K r = 4 then 0 else 1 + D r
theorem lurOk (K D : Nat → Nat) : LureOk (lur K D) := fun q f h => by
  unfold lur
  rw [h]
def sitN (K T S : Nat → Nat) (t q : Nat) : Nat := T (K q) + if t < 120 then 0 else S 4
def ridN (K S : Nat → Nat) (t q : Nat) : Nat := if K q = 6 ∧ t % 15 = 0 then S 5 else 0
def nsF (K : Nat → Nat) (q : Nat) : Nat → Nat → Nat
  | _, 0 => q
  | s, d + 1 => if K ((q + s) % 144) = 6 then (q + s) % 144 else nsF K q (s + 1) d
theorem nsF_lt {K : Nat → Nat} {q : Nat} (hq : q < 144) : ∀ (d s : Nat), nsF K q s d < 144
  | 0, _ => hq
  | d + 1, s => by
    unfold nsF
    split
    · exact Nat.mod_lt _ (by decide)
    · exact nsF_lt hq d (s + 1)
def stpN (K S : Nat → Nat) (t q : Nat) : Nat := if 0 < ridN K S t q then nsF K q 1 143 else q
theorem stpN_lt {K S : Nat → Nat} {t q : Nat} (hq : q < 144) : stpN K S t q < 144 := by
  unfold stpN
  split
  · exact nsF_lt hq _ _
  · exact hq
section
variable {K D T S : Nat → Nat} {t : Nat}
theorem lur_le (b : NB K D T S t) {q f : Nat} (hq : q < 144) : lur K D q f ≤ 10 := by
  unfold lur
  cases h : bes q f with
  | none => exact Nat.zero_le _
  | some r =>
    have := (b.1 r (bes_lt hq h)).2
    show (if K r = 3 ∨ K r = 4 then 0 else 1 + D r) ≤ 10
    split <;> omega
theorem pul_le (b : NB K D T S t) {q f x : Nat} (hq : q < 144) (hx : x < 4) : pul (lur K D) S q f x ≤ 90 :=
  Nat.mul_le_mul (b.2.2.1 x (by omega)) (lur_le b hq)
theorem sit_le (b : NB K D T S t) {q : Nat} (hq : q < 144) : sitN K T S t q ≤ 18 := by
  have h1 := (b.1 q hq).1
  have h2 := b.2.1 (K q) (by omega)
  have h3 := b.2.2.1 4 (by decide)
  unfold sitN
  split <;> omega
theorem rid_le (b : NB K D T S t) {q : Nat} : ridN K S t q ≤ 9 := by
  have h3 := b.2.2.1 5 (by decide)
  unfold ridN
  split <;> omega
theorem whl_le (b : NB K D T S t) {q f : Nat} (hq : q < 144) : whl (lur K D) S (sitN K T S t) (ridN K S t) q f ≤ 387 := by
  have h0 := pul_le b (f := f) (x := 0) hq (by decide)
  have h1 := pul_le b (f := f) (x := 1) hq (by decide)
  have h2 := pul_le b (f := f) (x := 2) hq (by decide)
  have h3 := pul_le b (f := f) (x := 3) hq (by decide)
  have h4 := sit_le b hq
  have h5 := rid_le b (q := q)
  unfold whl
  omega
theorem c_lureE (F : Nat) {c : St} (h : NW K D T S t c) (b : NB K D T S t) {q f : Nat} (hq : q < 144) (hf : f < 4) : c_Land_lure F (nI q) (nI f) c = some (nI (lur K D q f), c) := by
  unfold c_Land_lure c_Land_lure_J18 lur
  rw [c_bes F c hq hf, gB2_mk]
  cases hb : bes q f with
  | none =>
    rw [if_pos (show enc (-1) none < 0 by decide)]
    rfl
  | some r =>
    have hr := bes_lt hq hb
    have hn : ¬ nI r < 0 := by
      rw [show (0 : Int32) = nI 0 from rfl, ltI (by omega) (by omega)]
      omega
    rw [show enc (-1) (some r) = nI r from rfl, if_neg hn, c_barE F hr (b.1 r hr).1 (h.1 r hr).1, gB2_mk, bz_ite]
    show _ = some (nI (if K r = 3 ∨ K r = 4 then 0 else 1 + D r), c)
    by_cases e : K r = 3 ∨ K r = 4
    · rw [if_pos e, if_pos e]
      rfl
    · rw [if_neg e, if_neg e, inb_nI hr (by decide), if_pos rfl, cl_nI (by omega), (h.1 r hr).2, show (1 : Int32) = nI 1 from rfl, nI_add]
theorem c_sitE (F : Nat) {c : St} (h : NW K D T S t c) (b : NB K D T S t) {q : Nat} (hq : q < 144) : c_Law_sitDown F (nI (K q)) (nI t) c = some (nI (sitN K T S t q), c) := by
  have hk := (b.1 q hq).1
  have ht := b.2.2.2
  unfold c_Law_sitDown sitN
  rw [inb_nI (show K q < 8 by omega) (by decide), if_pos rfl, cl_nI (by omega), h.2.1 _ (by omega), show (120 : Int32) = nI 120 from rfl, itLt (by omega) (by omega)]
  by_cases e : t < 120
  · rw [if_pos e, if_pos e, show (0 : Int32) = nI 0 from rfl, nI_add]
  · rw [if_neg e, if_neg e, show inb (4 : Int32) 10 = true by decide, if_pos rfl, show ((4 : Int32)).toNatClampNeg = 4 by decide, h.2.2.1 4 (by decide), nI_add]
theorem c_rideE (F : Nat) {c : St} (h : NW K D T S t c) (b : NB K D T S t) {q : Nat} (hq : q < 144) : c_Law_rideOn F (nI (K q)) (nI t) c = some (nI (ridN K S t q), c) := by
  have hk := (b.1 q hq).1
  have ht := b.2.2.2
  unfold c_Law_rideOn c_Law_rideOn_J22 ridN
  rw [show (6 : Int32) = nI 6 from rfl, itEq (by omega) (by omega), show (15 : Int32) = nI 15 from rfl, divI (by omega) (by decide) (by decide), remI (by omega) (by decide) (by decide), show (0 : Int32) = nI 0 from rfl, itEq (by omega) (by omega)]
  by_cases e : K q = 6
  · by_cases e2 : t % 15 = 0
    · rw [if_pos e, if_pos e2, show inb (5 : Int32) 10 = true by decide, if_pos rfl, show ((5 : Int32)).toNatClampNeg = 5 by decide, h.2.2.1 5 (by decide), if_pos ⟨e, e2⟩]
    · rw [if_pos e, if_neg e2, if_neg (fun z => e2 z.2)]
  · rw [if_neg e, if_neg (fun z => e z.1)]
theorem c_next_lp (F : Nat) {c : St} (h : NW K D T S t c) (b : NB K D T S t) {q : Nat} (hq : q < 144) : ∀ (d s k : Nat), s + d = 144 → d < k → c_Land_nextStop_L2 F k (nI q) (nI s) c = some (nI (nsF K q s d), c) := by
  intro d
  induction d with
  | zero =>
    intro s k hs hk
    obtain ⟨k, rfl⟩ : ∃ z, k = z + 1 := ⟨k - 1, by omega⟩
    show c_Land_nextStop_L2b F (c_Land_nextStop_L2 F k) (nI q) (nI s) c = _
    unfold c_Land_nextStop_L2b
    rw [if_pos (show (144 : Int32) ≤ nI s from nI_le (a := 144) (by omega) (by omega))]
    rfl
  | succ d ih =>
    intro s k hs hk
    obtain ⟨k, rfl⟩ : ∃ z, k = z + 1 := ⟨k - 1, by omega⟩
    show c_Land_nextStop_L2b F (c_Land_nextStop_L2 F k) (nI q) (nI s) c = _
    unfold c_Land_nextStop_L2b nsF
    have g0 : ¬ (144 : Int32) ≤ nI s := by
      rw [show (144 : Int32) = nI 144 from rfl, leI (by omega) (by omega)]
      omega
    have hm : (q + s) % 144 < 144 := Nat.mod_lt _ (by decide)
    have hk7 := (b.1 _ hm).1
    rw [if_neg g0, show (144 : Int32) = nI 144 from rfl, nI_add, divI (by omega) (by decide) (by decide), remI (by omega) (by decide) (by decide), inb_nI hm (by decide), if_pos rfl, cl_nI (by omega), (h.1 _ hm).1, show (6 : Int32) = nI 6 from rfl, itEq (by omega) (by omega), show (1 : Int32) = nI 1 from rfl, nI_add]
    by_cases e : K ((q + s) % 144) = 6
    · rw [if_pos e, if_pos e]
    · rw [if_neg e, if_neg e]
      exact ih (s + 1) k (by omega) (by omega)
/-- she leaves a cell by one of its sides -/
theorem c_leave_step (F k : Nat) (hF : 3000 ≤ F) {p Y : Nat → Nat} {q f : Nat} {c : St} (h : NW K D T S t c) (b : NB K D T S t) (hs : sumN p 720 ≤ AL) (hq : q < 144) (hf : f < 4) (hl : ∀ g, g < 4 → c.1 13 g = nI (lur K D q g)) (hc : NC p Y c) :
    ∃ c', c_Night_leave_L80 F (k + 1) (nI q) (nI (sitN K T S t q)) (nI (ridN K S t q)) (nI (stpN K S t q)) (nI f) c = c_Night_leave_L80 F k (nI q) (nI (sitN K T S t q)) (nI (ridN K S t q)) (nI (stpN K S t q)) (nI (f + 1)) c' ∧ NC p (kStep (lur K D) S (sitN K T S t) (ridN K S t) (stpN K S t) p (5 * q + f) Y) c' ∧ Only [] [11, 12] c c' := by
  have hAL : AL = 1099511627776 := rfl
  have g0 : ¬ (4 : Int32) ≤ nI f := by
    rw [show (4 : Int32) = nI 4 from rfl, leI (by omega) (by omega)]
    omega
  have e0 : c_Night_leave_L80 F (k + 1) (nI q) (nI (sitN K T S t q)) (nI (ridN K S t q)) (nI (stpN K S t q)) (nI f) c = c_Night_leave_L80b F (c_Night_leave_L80 F k) (nI q) (nI (sitN K T S t q)) (nI (ridN K S t q)) (nI (stpN K S t q)) (nI f) c := rfl
  have hP := p_le (p := p) (k := 5 * q + f) (by omega) hs
  have hw := whl_le b (f := f) hq
  have hr := rid_le b (q := q)
  rw [e0]
  unfold c_Night_leave_L80b c_Night_leave_J170 kStep goS
  rw [show (5 * q + f) % 5 = f by omega, show (5 * q + f) / 5 = q by omega, if_neg (show ¬ f = 4 by omega)]
  rw [if_neg g0, show (4 : Int32) = nI 4 from rfl, mulI, nI_add, inb_nI (show q * 4 + f < 576 by omega) (by decide), if_pos rfl, cl_nI (by omega), Nat.mul_comm q 4, ((hc q hq).1 f hf).1, show (0 : Int64) = lN 0 from rfl, lgGt (by omega) (by omega), show nI f + (1 : Int32) = nI (f + 1) from by rw [show (1 : Int32) = nI 1 from rfl, nI_add]]
  by_cases h0 : p (5 * q + f) = 0
  · rw [if_neg (by omega), if_pos h0]
    exact ⟨c, rfl, hc, Only.refl _ _ _⟩
  · rw [if_pos (by omega), if_neg h0, c_pulls F hF (L := lur K D) (S := S) (q := q) hf (fun x hx => h.2.2.1 x (by omega)) hl, gB2_mk, nI_add, nI_add]
    rw [show nI (sitN K T S t q + ridN K S t q + (pul (lur K D) S q f 0 + pul (lur K D) S q f 1 + pul (lur K D) S q f 2 + pul (lur K D) S q f 3)) = nI (whl (lur K D) S (sitN K T S t) (ridN K S t) q f) from rfl, i2lN (by omega), i2lN (by omega)]
    have hpl := fun x (hx : x < 4) => Nat.le_trans (pul_le b (f := f) hq hx) (show 90 ≤ 1000 by decide)
    have hg := gon_le (lur K D) S (sitN K T S t) (ridN K S t) q f (p (5 * q + f))
    unfold gon at hg ⊢
    generalize whl (lur K D) S (sitN K T S t) (ridN K S t) q f = w at *
    obtain ⟨c1, a1, b1, d1⟩ := c_turn4 F hF (lurOk K D) (S := S) (p := p) (Y := Y) (q := q) (f := f) (P := p (5 * q + f)) (w := w) hq hf rfl hP (by omega) hpl (fun x hx => h.2.2.1 x (by omega)) hl hc
    rw [a1, gB2_mk, c_por F hP (by omega) (by omega), gB2_mk]
    obtain ⟨c2, a2, b2, d2⟩ := c_arrive_some F b1 (r := stpN K S t q) (f := f) (v := por (p (5 * q + f)) (ridN K S t q) w) (stpN_lt hq) hf
    rw [a2, gB2_mk, inb_nI hq (by decide), if_pos rfl, if_pos rfl, cl_nI (by omega), (b2 q hq).2, lN_add, subL hg, lN_add]
    exact ⟨_, rfl, b2.put11, ((d1.trans d2).weak (fun _ h => h) (fun q hq => by rw [List.mem_singleton] at hq; rw [hq]; decide)).trans (Only.sJ _ (by decide) _ _)⟩
end
section
variable {K D T S : Nat → Nat} {t : Nat}
theorem c_leave4 (F : Nat) (hF : 3000 ≤ F) {p Y : Nat → Nat} {q : Nat} {c : St} (h : NW K D T S t c) (b : NB K D T S t) (hs : sumN p 720 ≤ AL) (hq : q < 144) (hl : ∀ g, g < 4 → c.1 13 g = nI (lur K D q g)) (hc : NC p Y c) :
    ∃ c', c_Night_leave_L80 F F (nI q) (nI (sitN K T S t q)) (nI (ridN K S t q)) (nI (stpN K S t q)) 0 c = some c' ∧ NC p (kFold (lur K D) S (sitN K T S t) (ridN K S t) (stpN K S t) p (5 * q) 5 Y) c' ∧ Only [] [11, 12] c c' := by
  obtain ⟨k, hk⟩ : ∃ k, F = k + 1 + 1 + 1 + 1 + 1 := ⟨F - 5, by omega⟩
  have w0 : ∀ {a b : St}, Only [] [11, 12] a b → Only [13] [11, 12] a b := fun o => o.weak (fun q hq => by cases hq) (fun _ h => h)
  obtain ⟨c1, a1, b1, d1⟩ := c_leave_step F (k + 1 + 1 + 1 + 1) hF (f := 0) h b hs hq (by decide) hl hc
  have h1 := h.of (w0 d1)
  obtain ⟨c2, a2, b2, d2⟩ := c_leave_step F (k + 1 + 1 + 1) hF (f := 1) h1 b hs hq (by decide) (by rw [d1.1 13 (by simp)]; exact hl) b1
  have h2 := h1.of (w0 d2)
  obtain ⟨c3, a3, b3, d3⟩ := c_leave_step F (k + 1 + 1) hF (f := 2) h2 b hs hq (by decide) (by rw [d2.1 13 (by simp), d1.1 13 (by simp)]; exact hl) b2
  have h3 := h2.of (w0 d3)
  obtain ⟨c4, a4, b4, d4⟩ := c_leave_step F (k + 1) hF (f := 3) h3 b hs hq (by decide) (by rw [d3.1 13 (by simp), d2.1 13 (by simp), d1.1 13 (by simp)]; exact hl) b3
  refine ⟨c4, ?_, ?_, ((d1.trans d2).trans d3).trans d4⟩
  · have e : c_Night_leave_L80 F F (nI q) (nI (sitN K T S t q)) (nI (ridN K S t q)) (nI (stpN K S t q)) 0 c = c_Night_leave_L80 F (k + 1 + 1 + 1 + 1 + 1) (nI q) (nI (sitN K T S t q)) (nI (ridN K S t q)) (nI (stpN K S t q)) (nI 0) c := by rw [← hk]; rfl
    rw [e, a1, a2, a3, a4]
    have e9 : ∀ x y z w, c_Night_leave_L80 F (k + 1) x y z w (nI (3 + 1)) c4 = some c4 := fun x y z w => by
      show c_Night_leave_L80b F (c_Night_leave_L80 F k) x y z w (nI (3 + 1)) c4 = _
      unfold c_Night_leave_L80b
      rw [if_pos (show (4 : Int32) ≤ nI (3 + 1) by decide)]
    exact e9 _ _ _ _
  · have e4 : ∀ Z, kStep (lur K D) S (sitN K T S t) (ridN K S t) (stpN K S t) p (5 * q + 4) Z = Z := fun Z => by
      unfold kStep
      rw [if_pos (by omega)]
    simp only [kFold]
    rw [show 5 * q + 1 + 1 + 1 + 1 = 5 * q + 4 by omega, e4]
    exact b4
theorem c_leave (F : Nat) (hF : 3000 ≤ F) {p Y : Nat → Nat} {q : Nat} {c : St} (h : NW K D T S t c) (b : NB K D T S t) (hs : sumN p 720 ≤ AL) (hq : q < 144) (hc : NC p Y c) :
    ∃ c', c_Night_leave F (nI q) c = some c' ∧ NC p (kFold (lur K D) S (sitN K T S t) (ridN K S t) (stpN K S t) p (5 * q) 5 Y) c' ∧ Only [13] [11, 12] c c' := by
  have lp : ∀ (d f k : Nat) (c : St), f + d = 4 → d < k → NW K D T S t c → NC p Y c → (∀ g, g < f → c.1 13 g = nI (lur K D q g)) → ∃ c', c_Night_leave_L3 F k (nI q) (nI f) c = c_Night_leave_L3b F (fun _ _ _ => none) (nI q) (nI 4) c' ∧ NW K D T S t c' ∧ NC p Y c' ∧ (∀ g, g < 4 → c'.1 13 g = nI (lur K D q g)) ∧ Only [13] [11, 12] c c' := by
    intro d
    induction d with
    | zero =>
      intro f k c hf hk h hc hl
      obtain ⟨k, rfl⟩ : ∃ z, k = z + 1 := ⟨k - 1, by omega⟩
      have e4 : f = 4 := by omega
      subst e4
      refine ⟨c, ?_, h, hc, hl, Only.refl _ _ _⟩
      show c_Night_leave_L3b F (c_Night_leave_L3 F k) (nI q) (nI 4) c = _
      unfold c_Night_leave_L3b
      rw [if_pos (show (4 : Int32) ≤ nI 4 by decide), if_pos (show (4 : Int32) ≤ nI 4 by decide)]
    | succ d ih =>
      intro f k c hf hk h hc hl
      obtain ⟨k, rfl⟩ : ∃ z, k = z + 1 := ⟨k - 1, by omega⟩
      have o : Only [13] [11, 12] c (sI c 13 f (nI (lur K D q f))) := Only.sI _ (by decide) _ _
      obtain ⟨c', y1, y2, y3, y4, y5⟩ := ih (f + 1) k (sI c 13 f (nI (lur K D q f))) (by omega) (by omega) (h.of o) hc (fun g hg => by
        rw [sI1_eq]
        by_cases e : g = f
        · rw [e, upd_eq]
        · rw [upd_ne e]
          exact hl g (by omega))
      refine ⟨c', ?_, y2, y3, y4, o.trans y5⟩
      show c_Night_leave_L3b F (c_Night_leave_L3 F k) (nI q) (nI f) c = _
      rw [c_Night_leave_L3b]
      have g0 : ¬ (4 : Int32) ≤ nI f := by
        rw [show (4 : Int32) = nI 4 from rfl, leI (by omega) (by omega)]
        omega
      rw [if_neg g0, c_lureE F h b hq (by omega), gB2_mk, inb_nI (show f < 4 by omega) (by decide), if_pos rfl, cl_nI (by omega), show (1 : Int32) = nI 1 from rfl, nI_add]
      exact y1
  obtain ⟨c1, y1, y2, y3, y4, y5⟩ := lp 4 0 F c rfl (by omega) h hc (fun g hg => by omega)
  obtain ⟨c2, z1, z2, z3⟩ := c_leave4 F hF y2 b hs hq y4 y3
  refine ⟨c2, ?_, z2, y5.trans (z3.weak (fun q hq => by cases hq) (fun _ h => h))⟩
  unfold c_Night_leave
  rw [show c_Night_leave_L3 F F (nI q) 0 c = _ from y1]
  unfold c_Night_leave_L3b c_Night_leave_J75
  have hr := rid_le b (q := q)
  rw [if_pos (show (4 : Int32) ≤ nI 4 by decide), inb_nI hq (by decide), if_pos rfl, cl_nI (by omega), (y2.1 q hq).1, y2.2.2.2, c_sitE F y2 b hq, gB2_mk, if_pos rfl, (y2.1 q hq).1, y2.2.2.2, c_rideE F y2 b hq, gB2_mk, show (0 : Int32) = nI 0 from rfl, itLe (by omega) (by omega)]
  unfold stpN at z1
  by_cases e : ridN K S t q ≤ 0
  · rw [if_pos e]
    rw [if_neg (by omega)] at z1
    exact z1
  · rw [if_neg e]
    rw [if_pos (by omega)] at z1
    unfold c_Land_nextStop
    rw [show (1 : Int32) = nI 1 from rfl, c_next_lp F y2 b hq 143 1 F (by omega) (by omega), gB2_mk]
    exact z1
theorem kFold_idle (L : Nat → Nat → Nat) (S I V B p Y : Nat → Nat) {q : Nat} (h : ∀ s, s < 4 → p (5 * q + s) = 0) : kFold L S I V B p (5 * q) 5 Y = Y := by
  have e : ∀ s, s < 5 → ∀ Z, kStep L S I V B p (5 * q + s) Z = Z := fun s hs Z => by
    unfold kStep
    by_cases h4 : s = 4
    · rw [if_pos (by omega)]
    · rw [if_neg (by omega), goS, show 5 * ((5 * q + s) / 5) + (5 * q + s) % 5 = 5 * q + s by omega, if_pos (h s (by omega))]
  simp only [kFold]
  rw [show 5 * q + 1 + 1 + 1 + 1 = 5 * q + 4 by omega, show 5 * q + 1 + 1 + 1 = 5 * q + 3 by omega, show 5 * q + 1 + 1 = 5 * q + 2 by omega, show 5 * q = 5 * q + 0 by omega, e 0 (by decide), show 5 * q + 0 + 1 = 5 * q + 1 by omega, e 1 (by decide), show 5 * q + 0 + 2 = 5 * q + 2 by omega, e 2 (by decide), show 5 * q + 0 + 3 = 5 * q + 3 by omega, e 3 (by decide), show 5 * q + 0 + 4 = 5 * q + 4 by omega, e 4 (by decide)]
abbrev nF (K D T S : Nat → Nat) (t : Nat) (p : Nat → Nat) (k d : Nat) (Y : Nat → Nat) : Nat → Nat := kFold (lur K D) S (sitN K T S t) (ridN K S t) (stpN K S t) p k d Y
def mixP (Y p : Nat → Nat) (k : Nat) : Nat := if k % 5 = 4 then Y k else p k
theorem c_pass_lp (F : Nat) (hF : 3000 ≤ F) {p Y0 : Nat → Nat} (b : NB K D T S t) (hs : sumN p 720 ≤ AL) (h0 : NS p 0 Y0) : ∀ (d q k : Nat) (c : St), q + d = 144 → d < k → NW K D T S t c → NC p (nF K D T S t p 0 (5 * q) Y0) c →
    ∃ c', c_Night_pass_L10 F k (nI q) c = c_Night_pass_L10b F (fun _ _ => none) (nI 144) c' ∧ NC p (nF K D T S t p 0 720 Y0) c' ∧ Only [13] [11, 12] c c' := by
  have hAL : AL = 1099511627776 := rfl
  intro d
  induction d with
  | zero =>
    intro q k c hq hk h hc
    obtain ⟨k, rfl⟩ : ∃ z, k = z + 1 := ⟨k - 1, by omega⟩
    have e : q = 144 := by omega
    subst e
    refine ⟨c, ?_, hc, Only.refl _ _ _⟩
    show c_Night_pass_L10b F (c_Night_pass_L10 F k) (nI 144) c = _
    unfold c_Night_pass_L10b
    rw [if_pos (show (144 : Int32) ≤ nI 144 by decide), if_pos (show (144 : Int32) ≤ nI 144 by decide)]
  | succ d ih =>
    intro q k c hq hk h hc
    obtain ⟨k, rfl⟩ : ∃ z, k = z + 1 := ⟨k - 1, by omega⟩
    have hNS := NS.fold (lurOk K D) (S := S) (I := sitN K T S t) (V := ridN K S t) (B := stpN K S t) (p := p) (fun q hq => stpN_lt hq) (5 * q) 0 Y0 (by omega) h0
    rw [Nat.zero_add] at hNS
    have hNS : NS p (5 * q) (nF K D T S t p 0 (5 * q) Y0) := hNS
    have e5 : nF K D T S t p 0 (5 * (q + 1)) Y0 = nF K D T S t p (5 * q) 5 (nF K D T S t p 0 (5 * q) Y0) := by
      unfold nF
      rw [show 5 * (q + 1) = 5 * q + 5 by omega, kFold_add, Nat.zero_add]
    generalize nF K D T S t p 0 (5 * q) Y0 = Y at *
    have hY := hNS.at hs (j := 5 * q + 4) (by omega)
    have hp0 := p_le (p := p) (k := 5 * q) (by omega) hs
    have hp1 := p_le (p := p) (k := 5 * q + 1) (by omega) hs
    have hp2 := p_le (p := p) (k := 5 * q + 2) (by omega) hs
    have hp3 := p_le (p := p) (k := 5 * q + 3) (by omega) hs
    have hmix : PC (mixP Y p) c := fun q' hq' => by
      obtain ⟨u1, u2⟩ := hc q' hq'
      refine ⟨fun s hs => ?_, ?_⟩
      · rw [(u1 s hs).1, mixP, if_neg (by omega)]
      · rw [u2, mixP, if_pos (by omega)]
    have etg : tg (mixP Y p) q = p (5 * q) + p (5 * q + 1) + p (5 * q + 2) + p (5 * q + 3) + Y (5 * q + 4) := by
      unfold tg mixP
      simp only [show ¬ 5 * q % 5 = 4 by omega, show ¬ (5 * q + 1) % 5 = 4 by omega, show ¬ (5 * q + 2) % 5 = 4 by omega, show ¬ (5 * q + 3) % 5 = 4 by omega, show (5 * q + 4) % 5 = 4 by omega, if_true, if_false]
    have g0 : ¬ (144 : Int32) ≤ nI q := by
      rw [show (144 : Int32) = nI 144 from rfl, leI (by omega) (by omega)]
      omega
    have hbody : c_Night_pass_L10 F (k + 1) (nI q) c = c_Night_pass_L10b F (c_Night_pass_L10 F k) (nI q) c := rfl
    rw [hbody, c_Night_pass_L10b]
    unfold c_Night_pass_J39
    rw [if_neg g0, c_tog F hF hmix (by omega), gB2_mk, inb_nI (show q < 144 by omega) (by decide), if_pos rfl, cl_nI (by omega), (hc q (by omega)).2, etg, lgLe (by omega) (by omega), show (1 : Int32) = nI 1 from rfl, nI_add]
    by_cases e : p (5 * q) + p (5 * q + 1) + p (5 * q + 2) + p (5 * q + 3) + Y (5 * q + 4) ≤ Y (5 * q + 4)
    · rw [if_pos e]
      have ei := kFold_idle (lur K D) S (sitN K T S t) (ridN K S t) (stpN K S t) p Y (q := q) (fun s hs => by
        rcases (show s = 0 ∨ s = 1 ∨ s = 2 ∨ s = 3 by omega) with rfl | rfl | rfl | rfl
        · show p (5 * q) = 0
          omega
        · omega
        · omega
        · omega)
      refine ih (q + 1) k c (by omega) (by omega) h ?_
      rw [e5]
      unfold nF
      rw [ei]
      exact hc
    · rw [if_neg e]
      obtain ⟨c1, y1, y2, y3⟩ := c_leave F hF h b hs (q := q) (by omega) hc
      rw [y1, gB_mk]
      obtain ⟨c2, z1, z2, z3⟩ := ih (q + 1) k c1 (by omega) (by omega) (h.of y3) (by rw [e5]; exact y2)
      exact ⟨c2, z1, z2, y3.trans z3⟩
def Y0 (p : Nat → Nat) : Nat → Nat := fun k => if k % 5 = 4 then p k else 0
theorem NS0 (p : Nat → Nat) : NS p 0 (Y0 p) := by
  unfold NS
  congr 1
  funext j
  unfold gotB Y0
  by_cases h : j % 5 = 4
  · rw [if_pos h, if_pos (Or.inl h)]
  · rw [if_neg h, if_neg (by omega)]
/-- a minute goes by, the class -/
theorem c_passE (F : Nat) (hF : 3000 ≤ F) {p : Nat → Nat} {c : St} (h : NW K D T S t c) (b : NB K D T S t) (hs : sumN p 720 ≤ AL) (hp : PC p c) :
    ∃ c', c_Night_pass F c = some (sI c' 9 4 (nI (t + 1))) ∧ PC (nF K D T S t p 0 720 (Y0 p)) c' ∧ Only [13] [10, 11, 12] c c' := by
  unfold c_Night_pass c_Arrays_fill_d0a16_v2
  rw [show c_Arrays_fill_d0a16_v2_L6 F F 0 0 576 c = _ from c_fillK F 576 0 F c (by omega) (by omega), gB_mk]
  have o1 : Only [13] [11, 12] c (rJ c 12 (zJ (c.2 12) 0 576)) := ⟨fun _ _ => rfl, fun q hq => rJne (fun e => hq (by rw [e]; decide))⟩
  have hc1 : NC p (nF K D T S t p 0 (5 * 0) (Y0 p)) (rJ c 12 (zJ (c.2 12) 0 576)) := fun q hq => by
    obtain ⟨u1, u2⟩ := hp q hq
    show (∀ s, s < 4 → _ ∧ _ = lN (Y0 p (5 * q + s))) ∧ _ = lN (Y0 p (5 * q + 4))
    refine ⟨fun s hs => ⟨?_, ?_⟩, ?_⟩
    · rw [rJne (by decide)]
      exact u1 s hs
    · rw [rJat, Y0, if_neg (by omega)]
      exact zJ_at (Nat.zero_le _) (by omega)
    · rw [rJne (by decide), Y0, if_pos (by omega)]
      exact u2
  obtain ⟨c1, y1, y2, y3⟩ := c_pass_lp F hF b hs (NS0 p) 144 0 F _ (by omega) (by omega) (h.of o1) hc1
  rw [show c_Night_pass_L10 F F 0 _ = _ from y1]
  unfold c_Night_pass_L10b
  have hm : c1.1 9 4 = nI t := ((h.of o1).of y3).2.2.2
  rw [if_pos (show (144 : Int32) ≤ nI 144 by decide), if_pos (by decide)]
  refine ⟨cpJ c1 12 10 0 0 576, ?_, fun q hq => ?_, ?_⟩
  · show some (sI (cpJ c1 12 10 _ _ _) 9 4 (c1.1 9 4 + 1)) = _
    rw [hm, show (1 : Int32) = nI 1 from rfl, nI_add]
    rfl
  · obtain ⟨u1, u2⟩ := y2 q hq
    refine ⟨fun s hs => ?_, ?_⟩
    · show va_cpy (c1.2 12) (c1.2 10) 0 0 576 (4 * q + s) = _
      unfold va_cpy
      rw [if_pos (by omega), show 0 + (4 * q + s - 0) = 4 * q + s by omega]
      exact (u1 s hs).2
    · exact u2
  · have o3 := (o1.trans y3).weak (I' := [13]) (J' := [10, 11, 12]) (fun _ h => h) (fun q hq => List.mem_cons_of_mem _ hq)
    exact o3.trans ⟨fun _ _ => rfl, fun q hq => if_neg (fun e => hq (by rw [e]; decide))⟩
end
