/-! the pure part: night, the reference goes -/
def n47V (x y : Int32) : Int32 := if (0 : Int32) ≤ x ∧ x ≤ 11 then (if (0 : Int32) ≤ y ∧ y ≤ 11 then (12 : Int32) * x + y else -4) else -4
def n22V (a f x : Int32) : Int32 := if f = (1 : Int32) then n47V x ((a - a / (12 : Int32) * (12 : Int32)) + 1) else if f = (3 : Int32) then n47V x ((a - a / (12 : Int32) * (12 : Int32)) + (-1)) else n47V x ((a - a / (12 : Int32) * (12 : Int32)) + 0)
def nextV (a f : Int32) : Int32 := if f = 0 then n22V a f (a / (12 : Int32) + (-1)) else if f = (2 : Int32) then n22V a f (a / (12 : Int32) + 1) else n22V a f (a / (12 : Int32) + 0)
set_option maxRecDepth 20000 in
theorem nextV_eq : ∀ q, q < 144 → ∀ f, f < 4 → nextV (nI q) (nI f) = enc (-4) (bes q f) := by decide
theorem m_next_v (F : Nat) (x f : Int32) (s : St) : m_next F x f s = some (nextV x f, s) := by
  have e47 : ∀ x y0 y1, m_next_J47 F x y0 y1 s = some (n47V x (y0 + y1), s) := fun x y0 y1 => by
    unfold m_next_J47 m_next_J82 n47V
    simp only [m_in_0_11, gB2_mk, bz_ite, if_some]
  have e22 : ∀ a f y0 y1, m_next_J22 F a f y0 y1 s = some (n22V a f (y0 + y1), s) := fun a f y0 y1 => by
    unfold m_next_J22 n22V
    simp only [e47, if_some]
  unfold m_next nextV
  simp only [e22, if_some]
theorem m_bes (F : Nat) (s : St) {q f : Nat} (hq : q < 144) (hf : f < 4) : m_next F (nI q) (nI f) s = some (enc (-4) (bes q f), s) := by
  rw [m_next_v, nextV_eq q hq f hf]
def offN (x : Nat) : Nat := if x = 1 then 3 else if x = 2 then 1 else if x = 3 then 2 else 0
theorem off_eq : ∀ f, f < 4 → ∀ x, x < 4 → (nI f + nI (offN x)) - (nI f + nI (offN x)) / (4 : Int32) * (4 : Int32) = nI (tn f x) := by decide
theorem NV.of {K D T S : Nat → Nat} {t : Nat} {c c' : St} (h : NV K D T S t c) (o : Only [] [10] c c') : NV K D T S t c' := by
  unfold NV at *
  rw [o.1 2 (by simp), o.1 3 (by simp), o.1 6 (by simp), o.1 5 (by simp), o.1 0 (by simp)]
  exact h
def NM (p Y : Nat → Nat) (m : St) : Prop := ∀ k, k < 720 → m.2 9 k = lN (p k) ∧ m.2 10 k = lN (Y k)
theorem NM.put {p Y : Nat → Nat} {m : St} (h : NM p Y m) {k v : Nat} : NM p (addY Y k v) (sJ m 10 k (lN (Y k + v))) := fun j hj => by
  obtain ⟨a, b⟩ := h j hj
  rw [sJ2_ne (by decide), sJ2_eq]
  refine ⟨a, ?_⟩
  by_cases e : j = k
  · rw [e, updL_eq, addY, if_pos rfl]
  · rw [updL_ne e, addY, if_neg e]
    exact b
section
variable {K D T S : Nat → Nat} {t : Nat}
theorem m_weightE (F : Nat) {m : St} (h : NV K D T S t m) (b : NB K D T S t) {q f x : Nat} (hq : q < 144) (hf : f < 4) (hx : x < 4) : m_weight F (nI q) (nI f) (nI x) m = some (nI (S x * lur K D q f), m) := by
  unfold m_weight m_weight_J34 lur
  rw [m_bes F m hq hf, gB2_mk]
  cases hb : bes q f with
  | none =>
    rw [if_pos (show enc (-4) none < 0 by decide)]
    show _ = some (nI (S x * 0), m)
    rw [Nat.mul_zero]
    rfl
  | some r =>
    have hr := bes_lt hq hb
    have hk := (b.1 r hr).1
    have hn : ¬ nI r < 0 := by
      rw [show (0 : Int32) = nI 0 from rfl, ltI (by omega) (by omega)]
      omega
    rw [show enc (-4) (some r) = nI r from rfl, if_neg hn, inb_nI hr (by decide), if_pos rfl, cl_nI (by omega), (h.1 r hr).1, show (3 : Int32) = nI 3 from rfl, show (4 : Int32) = nI 4 from rfl, itEq (by omega) (by omega), if_pos rfl, itEq (by omega) (by omega)]
    show _ = some (nI (S x * (if K r = 3 ∨ K r = 4 then 0 else 1 + D r)), m)
    by_cases h3 : K r = 3
    · rw [if_pos h3, if_pos (Or.inl h3), Nat.mul_zero]
      rfl
    · by_cases h4 : K r = 4
      · rw [if_neg h3, if_pos h4, if_pos (Or.inr h4), Nat.mul_zero]
        rfl
      · rw [if_neg h3, if_neg h4, if_neg (fun e : K r = 3 ∨ K r = 4 => e.elim h3 h4), inb_nI (show x < 10 by omega) (by decide), if_pos rfl, if_pos rfl, cl_nI (by omega), h.2.2.1 x (by omega), (h.1 r hr).2, show (1 : Int32) = nI 1 from rfl, nI_add, mulI]
theorem m_stop_lp (F : Nat) {m : St} (h : NV K D T S t m) (b : NB K D T S t) {q : Nat} (hq : q < 144) (h6 : K q = 6) : ∀ (d s k : Nat), s + d = 144 → d < k → m_stopBehind_L8 F k (nI ((q + s) % 144)) m = some (nI (nsF K q s d), m) := by
  intro d
  induction d with
  | zero =>
    intro s k hs hk
    obtain ⟨k, rfl⟩ : ∃ z, k = z + 1 := ⟨k - 1, by omega⟩
    show m_stopBehind_L8b F (m_stopBehind_L8 F k) (nI ((q + s) % 144)) m = _
    rw [show (q + s) % 144 = q by omega]
    unfold m_stopBehind_L8b
    rw [inb_nI hq (by decide), if_pos rfl, cl_nI (by omega), (h.1 q hq).1, h6, if_pos (by decide)]
    rfl
  | succ d ih =>
    intro s k hs hk
    obtain ⟨k, rfl⟩ : ∃ z, k = z + 1 := ⟨k - 1, by omega⟩
    show m_stopBehind_L8b F (m_stopBehind_L8 F k) (nI ((q + s) % 144)) m = _
    unfold m_stopBehind_L8b nsF
    have hm : (q + s) % 144 < 144 := Nat.mod_lt _ (by decide)
    have hk7 := (b.1 _ hm).1
    rw [inb_nI hm (by decide), if_pos rfl, cl_nI (by omega), (h.1 _ hm).1, show (6 : Int32) = nI 6 from rfl, itEq (by omega) (by omega)]
    by_cases e : K ((q + s) % 144) = 6
    · rw [if_pos e, if_pos e]
    · rw [if_neg e, if_neg e, show (1 : Int32) = nI 1 from rfl, nI_add, show (144 : Int32) = nI 144 from rfl, divI (by omega) (by decide) (by decide), remI (by omega) (by decide) (by decide), show ((q + s) % 144 + 1) % 144 = (q + (s + 1)) % 144 by omega]
      exact ih (s + 1) k (by omega) (by omega)
theorem m_sum_step (F k : Nat) {m : St} (h : NV K D T S t m) (b : NB K D T S t) {q f x w : Nat} (x3 : Int64) (x6 : Int32) (hq : q < 144) (hf : f < 4) (hx : x < 4) : m_goes_L87 F (k + 1) (nI q) (nI f) x3 x6 (nI w) (nI x) m = m_goes_L87 F k (nI q) (nI f) x3 x6 (nI (w + pul (lur K D) S q f x)) (nI (x + 1)) m := by
  have g0 : ¬ (4 : Int32) ≤ nI x := by
    rw [show (4 : Int32) = nI 4 from rfl, leI (by omega) (by omega)]
    omega
  have ht := tn_lt f x
  have e0 : m_goes_L87 F (k + 1) (nI q) (nI f) x3 x6 (nI w) (nI x) m = m_goes_L87b F (m_goes_L87 F k) (nI q) (nI f) x3 x6 (nI w) (nI x) m := rfl
  have key : m_goes_J129 F (m_goes_L87 F k) (nI q) (nI f) x3 x6 (nI x) (nI w) (nI q) (nI f) (nI (offN x)) m = m_goes_L87 F k (nI q) (nI f) x3 x6 (nI (w + pul (lur K D) S q f x)) (nI (x + 1)) m := by
    unfold m_goes_J129
    rw [off_eq f hf x hx, m_weightE F h b hq ht hx, gB2_mk, nI_add, show (1 : Int32) = nI 1 from rfl, nI_add]
    rfl
  rw [e0, ← key]
  unfold m_goes_L87b
  rw [if_neg g0]
  rcases (show x = 0 ∨ x = 1 ∨ x = 2 ∨ x = 3 by omega) with rfl | rfl | rfl | rfl
  · rw [if_neg (by decide), if_neg (by decide), if_neg (by decide)]
    rfl
  · rw [if_pos (by decide)]
    rfl
  · rw [if_neg (by decide), if_pos (by decide)]
    rfl
  · rw [if_neg (by decide), if_neg (by decide), if_pos (by decide)]
    rfl
theorem m_turn_step (F k : Nat) {m : St} (h : NV K D T S t m) (b : NB K D T S t) {p Y : Nat → Nat} {q f x P a w : Nat} (x6 : Int32) (hq : q < 144) (hf : f < 4) (hx : x < 4) (hP : P ≤ AL) (hw0 : 0 < w) (hw : w ≤ 1000) (hm : NM p Y m) (ha : a + por P (pul (lur K D) S q f x) w ≤ P) :
    ∃ m', m_goes_L152 F (k + 1) (nI q) (nI f) (lN P) x6 (nI w) (lN (P - a)) (nI x) m = m_goes_L152 F k (nI q) (nI f) (lN P) x6 (nI w) (lN (P - (a + por P (pul (lur K D) S q f x) w))) (nI (x + 1)) m' ∧ NM p (tst (lur K D) S q f P w x Y) m' ∧ Only [] [10] m m' := by
  have hAL : AL = 1099511627776 := rfl
  have g0 : ¬ (4 : Int32) ≤ nI x := by
    rw [show (4 : Int32) = nI 4 from rfl, leI (by omega) (by omega)]
    omega
  have gw : ¬ nI w ≤ 0 := by
    rw [show (0 : Int32) = nI 0 from rfl, leI (by omega) (by omega)]
    omega
  have gw2 : ¬ lN w = 0 := by
    rw [show (0 : Int64) = lN 0 from rfl, eqL (by omega) (by omega)]
    omega
  have ht := tn_lt f x
  have hpl := pul_le b (f := f) hq hx
  have hPn : P * pul (lur K D) S q f x ≤ AL * 90 := Nat.mul_le_mul hP hpl
  have key : ∃ m', m_goes_J195 F (m_goes_L152 F k) (nI q) (nI f) (lN P) x6 (nI w) (lN (P - a)) (nI x) (nI f) (nI (offN x)) m = m_goes_L152 F k (nI q) (nI f) (lN P) x6 (nI w) (lN (P - (a + por P (pul (lur K D) S q f x) w))) (nI (x + 1)) m' ∧ NM p (tst (lur K D) S q f P w x Y) m' ∧ Only [] [10] m m' := by
    unfold m_goes_J195 m_goes_J255 tst
    rw [off_eq f hf x hx, m_weightE F h b hq ht hx, gB2_mk]
    rw [show nI (S x * lur K D q (tn f x)) = nI (pul (lur K D) S q f x) from rfl]
    rw [show (0 : Int32) = nI 0 from rfl, itLe (by omega) (by omega), show (1 : Int32) = nI 1 from rfl, nI_add]
    by_cases e : pul (lur K D) S q f x ≤ 0
    · rw [if_pos e]
      have e0 : pul (lur K D) S q f x = 0 := by omega
      rw [e0, por_0, Nat.add_zero]
      refine ⟨m, rfl, ?_, Only.refl _ _ _⟩
      cases hb : bes q (tn f x) with
      | none => exact hm
      | some r =>
        show NM p (addY Y (5 * r + tn f x) 0) m
        rw [addY_0]
        exact hm
    · rw [if_neg e, i2lN (by omega), if_neg gw2, m_bes F m hq ht, gB2_mk]
      cases hb : bes q (tn f x) with
      | none =>
        exfalso
        apply e
        unfold pul
        rw [lurOk K D q _ hb]
        omega
      | some r =>
        have hr := bes_lt hq hb
        refine ⟨_, ?_, hm.put (k := 5 * r + tn f x) (v := por P (pul (lur K D) S q f x) w), Only.sJ _ (by decide) _ _⟩
        rw [show enc (-4) (some r) = nI r from rfl, show (5 : Int32) = nI 5 from rfl, mulI, nI_add, inb_nI (show 5 * r + tn f x < 720 by omega) (by decide), if_pos rfl, if_pos rfl, cl_nI (by omega), (hm _ (by omega)).2, i2lN (by omega), lN_mul, divL (by omega) hw0 (by omega)]
        have ep : P * pul (lur K D) S q f x / w = por P (pul (lur K D) S q f x) w := by
          unfold por
          rw [if_neg (by omega)]
        rw [ep, subL (by omega), lN_add, show P - a - por P (pul (lur K D) S q f x) w = P - (a + por P (pul (lur K D) S q f x) w) by omega]
  have e0 : m_goes_L152 F (k + 1) (nI q) (nI f) (lN P) x6 (nI w) (lN (P - a)) (nI x) m = m_goes_L152b F (m_goes_L152 F k) (nI q) (nI f) (lN P) x6 (nI w) (lN (P - a)) (nI x) m := rfl
  obtain ⟨m', y1, y2, y3⟩ := key
  refine ⟨m', ?_, y2, y3⟩
  rw [e0, ← y1]
  unfold m_goes_L152b
  rw [if_neg g0, if_neg gw]
  rcases (show x = 0 ∨ x = 1 ∨ x = 2 ∨ x = 3 by omega) with rfl | rfl | rfl | rfl
  · rw [if_neg (by decide), if_neg (by decide), if_neg (by decide)]
    rfl
  · rw [if_pos (by decide)]
    rfl
  · rw [if_neg (by decide), if_pos (by decide)]
    rfl
  · rw [if_neg (by decide), if_neg (by decide), if_pos (by decide)]
    rfl
theorem m_stopE (F : Nat) (hF : 3000 ≤ F) {m : St} (h : NV K D T S t m) (b : NB K D T S t) {q : Nat} (hq : q < 144) (h6 : K q = 6) : m_stopBehind F (nI q) m = some (nI (nsF K q 1 143), m) := by
  unfold m_stopBehind
  rw [show (1 : Int32) = nI 1 from rfl, nI_add, show (144 : Int32) = nI 144 from rfl, divI (by omega) (by decide) (by decide), remI (by omega) (by decide) (by decide)]
  exact m_stop_lp F h b hq h6 143 1 F (by omega) (by omega)
theorem m_goes_end (F : Nat) (hF : 3000 ≤ F) {m : St} (h : NV K D T S t m) (b : NB K D T S t) {p Y : Nat → Nat} {q f P a w : Nat} (hq : q < 144) (hf : f < 4) (hP : P ≤ AL) (hw : w ≤ 1000) (hw0 : 0 < ridN K S t q → 0 < w) (hm : NM p Y m) (ha : a + por P (ridN K S t q) w ≤ P) :
    ∃ m', m_goes_J261 F (nI q) (nI f) (lN P) (nI (ridN K S t q)) (nI w) (lN (P - a)) m = some m' ∧ NM p (addY (addY Y (5 * stpN K S t q + f) (por P (ridN K S t q) w)) (5 * q + 4) (P - (a + por P (ridN K S t q) w))) m' ∧ Only [] [10] m m' := by
  have hAL : AL = 1099511627776 := rfl
  have hr := rid_le b (q := q)
  have hPn : P * ridN K S t q ≤ AL * 9 := Nat.mul_le_mul hP hr
  unfold m_goes_J261 m_goes_J303
  rw [show (0 : Int32) = nI 0 from rfl, itLe (by omega) (by omega), show (5 : Int32) = nI 5 from rfl, show (4 : Int32) = nI 4 from rfl, mulI, nI_add, inb_nI (show 5 * q + 4 < 720 by omega) (by decide), if_pos rfl, if_pos rfl, cl_nI (by omega)]
  by_cases e : ridN K S t q ≤ 0
  · have e0 : ridN K S t q = 0 := by omega
    rw [if_pos e, e0, por_0, addY_0, Nat.add_zero, (hm _ (by omega)).2, lN_add]
    exact ⟨_, rfl, hm.put, Only.sJ _ (by decide) _ _⟩
  · have hw1 := hw0 (by omega)
    have h6 : K q = 6 := by
      by_cases h6 : K q = 6
      · exact h6
      · exfalso
        apply e
        unfold ridN
        rw [if_neg (fun z => h6 z.1)]
        omega
    have gw2 : ¬ lN w = 0 := by
      rw [show (0 : Int64) = lN 0 from rfl, eqL (by omega) (by omega)]
      omega
    have hst := nsF_lt (K := K) hq 143 1
    have est : stpN K S t q = nsF K q 1 143 := if_pos (by omega)
    rw [if_neg e, i2lN (by omega), if_neg gw2, m_stopE F hF h b hq h6, gB2_mk, mulI, nI_add, inb_nI (show 5 * nsF K q 1 143 + f < 720 by omega) (by decide), if_pos rfl, if_pos rfl, cl_nI (by omega), (hm _ (by omega)).2, i2lN (by omega), lN_mul, divL (by omega) hw1 (by omega)]
    have ep : P * ridN K S t q / w = por P (ridN K S t q) w := by
      unfold por
      rw [if_neg (by omega)]
    have hm2 := hm.put (k := 5 * stpN K S t q + f) (v := por P (ridN K S t q) w)
    rw [ep, subL (by omega), lN_add, show P - a - por P (ridN K S t q) w = P - (a + por P (ridN K S t q) w) by omega, ← est]
    rw [(hm2 (5 * q + 4) (by omega)).2, lN_add]
    exact ⟨_, rfl, hm2.put, (Only.sJ _ (by decide) _ _).trans (Only.sJ _ (by decide) _ _)⟩
theorem m_goes_head (F : Nat) {m : St} (h : NV K D T S t m) (b : NB K D T S t) {p Y : Nat → Nat} {q f : Nat} (hq : q < 144) (hf : f < 4) (hm : NM p Y m) : m_goes F (nI q) (nI f) m = m_goes_L87 F F (nI q) (nI f) (lN (p (5 * q + f))) (nI (ridN K S t q)) (nI (sitN K T S t q + ridN K S t q)) (nI 0) m := by
  have hr := rid_le b (q := q)
  have hk := (b.1 q hq).1
  have ht9 := b.2.2.2
  have key : ∀ y, y = sitN K T S t q → ∀ u v : Nat, u + v = y → m_goes_J41 F (nI q) (nI f) (lN (p (5 * q + f))) (nI u) (nI v) m = m_goes_L87 F F (nI q) (nI f) (lN (p (5 * q + f))) (nI (ridN K S t q)) (nI (sitN K T S t q + ridN K S t q)) (nI 0) m := by
    intro y hy u v huv
    unfold m_goes_J41 m_goes_J75 m_goes_J74 ridN
    rw [inb_nI hq (by decide), if_pos rfl, cl_nI (by omega), (h.1 q hq).1, h.2.2.2, show (6 : Int32) = nI 6 from rfl, itEq (by omega) (by omega), show (15 : Int32) = nI 15 from rfl, divI (by omega) (by decide) (by decide), remI (by omega) (by decide) (by decide), show (0 : Int32) = nI 0 from rfl, itEq (by omega) (by omega), nI_add, huv, hy]
    by_cases e : K q = 6
    · by_cases e2 : t % 15 = 0
      · rw [if_pos e, if_pos e2, show inb (5 : Int32) 10 = true by decide, if_pos rfl, show ((5 : Int32)).toNatClampNeg = 5 by decide, h.2.2.1 5 (by decide), if_pos (show K q = 6 ∧ t % 15 = 0 from ⟨e, e2⟩), nI_add]
      · rw [if_pos e, if_neg e2, if_neg (show ¬ (K q = 6 ∧ t % 15 = 0) from fun z => e2 z.2)]
        unfold m_goes_J75
        rw [nI_add]
        rfl
    · rw [if_neg e, if_neg (show ¬ (K q = 6 ∧ t % 15 = 0) from fun z => e z.1)]
      unfold m_goes_J75
      rw [nI_add]
      rfl
  unfold m_goes
  rw [show (5 : Int32) = nI 5 from rfl, mulI, nI_add, inb_nI (show 5 * q + f < 720 by omega) (by decide), if_pos rfl, inb_nI hq (by decide), if_pos rfl, cl_nI (by omega), (h.1 q hq).1, inb_nI (show K q < 8 by omega) (by decide), if_pos rfl, h.2.2.2, show (120 : Int32) = nI 120 from rfl, itLt (by omega) (by omega), cl_nI (by omega), (hm _ (by omega)).1, cl_nI (by omega), h.2.1 _ (by omega)]
  by_cases e : t < 120
  · rw [if_pos e]
    exact key _ rfl (T (K q)) 0 (by unfold sitN; rw [if_pos e])
  · rw [if_neg e, show inb (4 : Int32) 10 = true by decide, if_pos rfl, show ((4 : Int32)).toNatClampNeg = 4 by decide, h.2.2.1 4 (by decide)]
    exact key _ rfl (T (K q)) (S 4) (by unfold sitN; rw [if_neg e])
theorem m_goes_sum (F : Nat) (hF : 3000 ≤ F) {m : St} (h : NV K D T S t m) (b : NB K D T S t) {q f P : Nat} (hq : q < 144) (hf : f < 4) : m_goes_L87 F F (nI q) (nI f) (lN P) (nI (ridN K S t q)) (nI (sitN K T S t q + ridN K S t q)) (nI 0) m = m_goes_L152 F F (nI q) (nI f) (lN P) (nI (ridN K S t q)) (nI (whl (lur K D) S (sitN K T S t) (ridN K S t) q f)) (lN P) 0 m := by
  obtain ⟨k, hkF⟩ : ∃ k, F = k + 1 + 1 + 1 + 1 + 1 := ⟨F - 5, by omega⟩
  have e : m_goes_L87 F F (nI q) (nI f) (lN P) (nI (ridN K S t q)) (nI (sitN K T S t q + ridN K S t q)) (nI 0) m = m_goes_L87 F (k + 1 + 1 + 1 + 1 + 1) (nI q) (nI f) (lN P) (nI (ridN K S t q)) (nI (sitN K T S t q + ridN K S t q)) (nI 0) m := by rw [← hkF]
  rw [e, m_sum_step F _ h b _ _ hq hf (show 0 < 4 by decide), m_sum_step F _ h b _ _ hq hf (show 0 + 1 < 4 by decide), m_sum_step F _ h b _ _ hq hf (show 0 + 1 + 1 < 4 by decide), m_sum_step F _ h b _ _ hq hf (show 0 + 1 + 1 + 1 < 4 by decide)]
  show m_goes_L87b F (m_goes_L87 F k) _ _ _ _ _ (nI (0 + 1 + 1 + 1 + 1)) m = _
  unfold m_goes_L87b
  rw [if_pos (show (4 : Int32) ≤ nI (0 + 1 + 1 + 1 + 1) by decide)]
  unfold whl
  simp only [Nat.add_assoc, Nat.zero_add]
theorem L152_succ (F k : Nat) (a b : Int32) (c : Int64) (d e : Int32) (g : Int64) (x : Int32) (m : St) : m_goes_L152 F (k + 1) a b c d e g x m = m_goes_L152b F (m_goes_L152 F k) a b c d e g x m := rfl
theorem m_goes_body0 (F : Nat) (hF : 3000 ≤ F) {m : St} (h : NV K D T S t m) (b : NB K D T S t) {p Y : Nat → Nat} {q f P: Nat} (hq : q < 144) (hf : f < 4) (hP : P ≤ AL) (hm : NM p Y m) (hrw : ridN K S t q ≤ 0) (hg : por P (pul (lur K D) S q f 0) 0 + por P (pul (lur K D) S q f 1) 0 + por P (pul (lur K D) S q f 2) 0 + por P (pul (lur K D) S q f 3) 0 + por P (ridN K S t q) 0 ≤ P) :
    ∃ m', m_goes_L152 F F (nI q) (nI f) (lN P) (nI (ridN K S t q)) (nI 0) (lN P) 0 m = some m' ∧ NM p (addY (addY (tst4 (lur K D) S q f P 0 Y) (5 * stpN K S t q + f) (por P (ridN K S t q) 0)) (5 * q + 4) (P - (por P (pul (lur K D) S q f 0) 0 + por P (pul (lur K D) S q f 1) 0 + por P (pul (lur K D) S q f 2) 0 + por P (pul (lur K D) S q f 3) 0 + por P (ridN K S t q) 0))) m' ∧ Only [] [10] m m' := by
  obtain ⟨k, hkF⟩ : ∃ k, F = k + 1 + 1 + 1 + 1 + 1 := ⟨F - 5, by omega⟩
  have ez : ∀ n, por P n 0 = 0 := fun n => by
    unfold por
    rw [if_pos rfl]
  have et : tst4 (lur K D) S q f P 0 Y = Y := by
    have e1 : ∀ x Z, tst (lur K D) S q f P 0 x Z = Z := fun x Z => by
      unfold tst
      cases bes q (tn f x) with
      | none => rfl
      | some r =>
        show addY Z _ (por P _ 0) = Z
        rw [ez, addY_0]
    unfold tst4
    rw [e1, e1, e1, e1]
  have ea := m_goes_end F hF h b (p := p) (Y := Y) (q := q) (f := f) (P := P) (a := 0) (w := 0) hq hf hP (by omega) (fun z => by omega) hm (by rw [ez]; omega)
  obtain ⟨m', y1, y2, y3⟩ := ea
  refine ⟨m', ?_, ?_, y3⟩
  · have e : m_goes_L152 F F (nI q) (nI f) (lN P) (nI (ridN K S t q)) (nI 0) (lN P) 0 m = m_goes_L152 F (k + 1 + 1 + 1 + 1 + 1) (nI q) (nI f) (lN P) (nI (ridN K S t q)) (nI 0) (lN P) 0 m := by rw [← hkF]
    rw [Nat.sub_zero] at y1
    rw [e, L152_succ, m_goes_L152b, if_neg (show ¬ (4 : Int32) ≤ 0 by decide), if_pos (show nI 0 ≤ 0 by decide), y1]
  · rw [et]
    simp only [ez] at y2 ⊢
    exact y2
theorem m_goes_body1 (F : Nat) (hF : 3000 ≤ F) {m : St} (h : NV K D T S t m) (b : NB K D T S t) {p Y : Nat → Nat} {q f P w : Nat} (hq : q < 144) (hf : f < 4) (hP : P ≤ AL) (hm : NM p Y m) (hw : w ≤ 387) (hw1 : 0 < w) (hg : por P (pul (lur K D) S q f 0) w + por P (pul (lur K D) S q f 1) w + por P (pul (lur K D) S q f 2) w + por P (pul (lur K D) S q f 3) w + por P (ridN K S t q) w ≤ P) :
    ∃ m', m_goes_L152 F F (nI q) (nI f) (lN P) (nI (ridN K S t q)) (nI w) (lN P) 0 m = some m' ∧ NM p (addY (addY (tst4 (lur K D) S q f P w Y) (5 * stpN K S t q + f) (por P (ridN K S t q) w)) (5 * q + 4) (P - (por P (pul (lur K D) S q f 0) w + por P (pul (lur K D) S q f 1) w + por P (pul (lur K D) S q f 2) w + por P (pul (lur K D) S q f 3) w + por P (ridN K S t q) w))) m' ∧ Only [] [10] m m' := by
  obtain ⟨k, hkF⟩ : ∃ k, F = k + 1 + 1 + 1 + 1 + 1 := ⟨F - 5, by omega⟩
  obtain ⟨m1, a1, b1, d1⟩ := m_turn_step F (k + 1 + 1 + 1 + 1) h b (nI (ridN K S t q)) (x := 0) (a := 0) hq hf (by decide) hP hw1 (by omega) hm (by omega)
  have h1 := h.of d1
  obtain ⟨m2, a2, b2, d2⟩ := m_turn_step F (k + 1 + 1 + 1) h1 b (nI (ridN K S t q)) (x := 1) (a := 0 + por P (pul (lur K D) S q f 0) w) hq hf (by decide) hP hw1 (by omega) b1 (by omega)
  have h2 := h1.of d2
  obtain ⟨m3, a3, b3, d3⟩ := m_turn_step F (k + 1 + 1) h2 b (nI (ridN K S t q)) (x := 2) (a := 0 + por P (pul (lur K D) S q f 0) w + por P (pul (lur K D) S q f 1) w) hq hf (by decide) hP hw1 (by omega) b2 (by omega)
  have h3 := h2.of d3
  obtain ⟨m4, a4, b4, d4⟩ := m_turn_step F (k + 1) h3 b (nI (ridN K S t q)) (x := 3) (a := 0 + por P (pul (lur K D) S q f 0) w + por P (pul (lur K D) S q f 1) w + por P (pul (lur K D) S q f 2) w) hq hf (by decide) hP hw1 (by omega) b3 (by omega)
  have h4 := h3.of d4
  obtain ⟨m5, a5, b5, d5⟩ := m_goes_end F hF h4 b (p := p) (q := q) (f := f) (P := P) (a := 0 + por P (pul (lur K D) S q f 0) w + por P (pul (lur K D) S q f 1) w + por P (pul (lur K D) S q f 2) w + por P (pul (lur K D) S q f 3) w) (w := w) hq hf hP (by omega) (fun _ => hw1) b4 (by omega)
  refine ⟨m5, ?_, ?_, (((d1.trans d2).trans d3).trans d4).trans d5⟩
  · have e : m_goes_L152 F F (nI q) (nI f) (lN P) (nI (ridN K S t q)) (nI w) (lN P) 0 m = m_goes_L152 F (k + 1 + 1 + 1 + 1 + 1) (nI q) (nI f) (lN P) (nI (ridN K S t q)) (nI w) (lN (P - 0)) (nI 0) m := by rw [← hkF]; rfl
    rw [e, a1, a2, a3, a4]
    show m_goes_L152b F (m_goes_L152 F k) _ _ _ _ _ _ (nI (3 + 1)) m4 = _
    unfold m_goes_L152b
    rw [if_pos (show (4 : Int32) ≤ nI (3 + 1) by decide)]
    exact a5
  · rw [Nat.zero_add] at b5
    exact b5
theorem m_goes_body (F : Nat) (hF : 3000 ≤ F) {m : St} (h : NV K D T S t m) (b : NB K D T S t) {p Y : Nat → Nat} {q f P w : Nat} (hq : q < 144) (hf : f < 4) (hP : P ≤ AL) (hm : NM p Y m) (hw : w ≤ 387) (hrw : ridN K S t q ≤ w) (hg : por P (pul (lur K D) S q f 0) w + por P (pul (lur K D) S q f 1) w + por P (pul (lur K D) S q f 2) w + por P (pul (lur K D) S q f 3) w + por P (ridN K S t q) w ≤ P) :
    ∃ m', m_goes_L152 F F (nI q) (nI f) (lN P) (nI (ridN K S t q)) (nI w) (lN P) 0 m = some m' ∧ NM p (addY (addY (tst4 (lur K D) S q f P w Y) (5 * stpN K S t q + f) (por P (ridN K S t q) w)) (5 * q + 4) (P - (por P (pul (lur K D) S q f 0) w + por P (pul (lur K D) S q f 1) w + por P (pul (lur K D) S q f 2) w + por P (pul (lur K D) S q f 3) w + por P (ridN K S t q) w))) m' ∧ Only [] [10] m m' := by
  by_cases hw0 : w = 0
  · subst hw0
    exact m_goes_body0 F hF h b hq hf hP hm hrw hg
  · exact m_goes_body1 F hF h b hq hf hP hm hw (by omega) hg
theorem m_goesE (F : Nat) (hF : 3000 ≤ F) {m : St} (h : NV K D T S t m) (b : NB K D T S t) {p Y : Nat → Nat} (hs : sumN p 720 ≤ AL) {q f : Nat} (hq : q < 144) (hf : f < 4) (hp0 : 0 < p (5 * q + f)) (hm : NM p Y m) :
    ∃ m', m_goes F (nI q) (nI f) m = some m' ∧ NM p (goS (lur K D) S (sitN K T S t) (ridN K S t) (stpN K S t) p q f Y) m' ∧ Only [] [10] m m' := by
  have hP := p_le (p := p) (k := 5 * q + f) (by omega) hs
  have hw := whl_le b (f := f) hq
  have hg := gon_le (lur K D) S (sitN K T S t) (ridN K S t) q f (p (5 * q + f))
  have hrw : ridN K S t q ≤ whl (lur K D) S (sitN K T S t) (ridN K S t) q f := by
    unfold whl
    omega
  rw [m_goes_head F h b hq hf hm, m_goes_sum F hF h b hq hf]
  unfold goS
  rw [if_neg (show ¬ p (5 * q + f) = 0 by omega)]
  unfold gon at hg ⊢
  exact m_goes_body F hF h b hq hf hP hm hw hrw hg
end
