/-! the pure part: night -/
section
variable {K D T S : Nat → Nat} {t : Nat}
theorem m_fill_lp (F : Nat) (k53 : Int32 → Int32 → St → Option (Int32 × St)) {p : Nat → Nat} (x1 x2 : Int32) : ∀ (d i k : Nat) (m : St), i + d = 720 → d < k → PM p m → (∀ j, j < i → m.2 10 j = lN (Y0 p j)) → ∃ m', m_night_L60 F k53 k x1 x2 (nI i) m = m_night_L98 F k53 F x1 x2 0 m' ∧ NM p (Y0 p) m' ∧ Only [] [10] m m' := by
  intro d
  induction d with
  | zero =>
    intro i k m hi hk hp hY
    obtain ⟨k, rfl⟩ : ∃ z, k = z + 1 := ⟨k - 1, by omega⟩
    refine ⟨m, ?_, fun j hj => ⟨hp j hj, hY j (by omega)⟩, Only.refl _ _ _⟩
    show m_night_L60b F k53 (m_night_L60 F k53 k) x1 x2 (nI i) m = _
    unfold m_night_L60b
    rw [if_pos (show (720 : Int32) ≤ nI i from nI_le (a := 720) (by omega) (by omega))]
  | succ d ih =>
    intro i k m hi hk hp hY
    obtain ⟨k, rfl⟩ : ∃ z, k = z + 1 := ⟨k - 1, by omega⟩
    have o : Only [] [10] m (sJ m 10 i (lN (Y0 p i))) := Only.sJ _ (by decide) _ _
    obtain ⟨m', y1, y2, y3⟩ := ih (i + 1) k (sJ m 10 i (lN (Y0 p i))) (by omega) (by omega) (fun j hj => by rw [sJ2_ne (by decide)]; exact hp j hj) (fun j hj => by
      rw [sJ2_eq]
      by_cases e : j = i
      · rw [e, updL_eq]
      · rw [updL_ne e]
        exact hY j (by omega))
    refine ⟨m', ?_, y2, o.trans y3⟩
    show m_night_L60b F k53 (m_night_L60 F k53 k) x1 x2 (nI i) m = _
    rw [m_night_L60b]
    unfold m_night_J89
    have g0 : ¬ (720 : Int32) ≤ nI i := by
      rw [show (720 : Int32) = nI 720 from rfl, leI (by omega) (by omega)]
      omega
    rw [if_neg g0, show (5 : Int32) = nI 5 from rfl, divI (by omega) (by decide) (by decide), remI (by omega) (by decide) (by decide), show (4 : Int32) = nI 4 from rfl, itEq (by omega) (by omega), inb_nI (show i < 720 by omega) (by decide), if_pos rfl, if_pos rfl, cl_nI (by omega), hp i (by omega), show (1 : Int32) = nI 1 from rfl, nI_add, ← y1]
    unfold Y0
    by_cases e : i % 5 = 4
    · rw [if_pos e, if_pos e]
    · rw [if_neg e, if_neg e]
      rfl
theorem m_go_lp (F : Nat) (hF : 3000 ≤ F) (k53 : Int32 → Int32 → St → Option (Int32 × St)) {p : Nat → Nat} (b : NB K D T S t) (hs : sumN p 720 ≤ AL) (x1 x2 : Int32) : ∀ (d i k : Nat) (m : St) (Y : Nat → Nat), i + d = 720 → d < k → NV K D T S t m → NM p Y m → ∃ m', m_night_L98 F k53 k x1 x2 (nI i) m = m_night_L141 F k53 F x1 x2 0 m' ∧ NM p (nF K D T S t p i d Y) m' ∧ Only [] [10] m m' := by
  have hAL : AL = 1099511627776 := rfl
  intro d
  induction d with
  | zero =>
    intro i k m Y hi hk h hm
    obtain ⟨k, rfl⟩ : ∃ z, k = z + 1 := ⟨k - 1, by omega⟩
    refine ⟨m, ?_, hm, Only.refl _ _ _⟩
    show m_night_L98b F k53 (m_night_L98 F k53 k) x1 x2 (nI i) m = _
    unfold m_night_L98b
    rw [if_pos (show (720 : Int32) ≤ nI i from nI_le (a := 720) (by omega) (by omega))]
  | succ d ih =>
    intro i k m Y hi hk h hm
    obtain ⟨k, rfl⟩ : ∃ z, k = z + 1 := ⟨k - 1, by omega⟩
    have g0 : ¬ (720 : Int32) ≤ nI i := by
      rw [show (720 : Int32) = nI 720 from rfl, leI (by omega) (by omega)]
      omega
    have hbody : m_night_L98 F k53 (k + 1) x1 x2 (nI i) m = m_night_L98b F k53 (m_night_L98 F k53 k) x1 x2 (nI i) m := rfl
    have hpi := p_le (p := p) (k := i) (by omega) hs
    rw [hbody]
    unfold m_night_L98b m_night_J133 nF
    rw [kFold, if_neg g0, show (5 : Int32) = nI 5 from rfl, divI (by omega) (by decide) (by decide), remI (by omega) (by decide) (by decide), show (4 : Int32) = nI 4 from rfl, itLe (by omega) (by omega), inb_nI (show i < 720 by omega) (by decide), if_pos rfl, cl_nI (by omega), (hm i (by omega)).1, show (0 : Int64) = lN 0 from rfl, lgLe (by omega) (by omega), show (1 : Int32) = nI 1 from rfl, nI_add]
    by_cases e : 4 ≤ i % 5
    · rw [if_pos e]
      have ek : kStep (lur K D) S (sitN K T S t) (ridN K S t) (stpN K S t) p i Y = Y := by
        unfold kStep
        rw [if_pos (by omega)]
      rw [ek]
      exact ih (i + 1) k m Y (by omega) (by omega) h hm
    · have ek : kStep (lur K D) S (sitN K T S t) (ridN K S t) (stpN K S t) p i Y = goS (lur K D) S (sitN K T S t) (ridN K S t) (stpN K S t) p (i / 5) (i % 5) Y := by
        unfold kStep
        rw [if_neg (by omega)]
      have ei : 5 * (i / 5) + i % 5 = i := by omega
      rw [if_neg e, ek]
      by_cases e0 : p i ≤ 0
      · rw [if_pos e0]
        have eg : goS (lur K D) S (sitN K T S t) (ridN K S t) (stpN K S t) p (i / 5) (i % 5) Y = Y := by
          unfold goS
          rw [ei, if_pos (by omega)]
        rw [eg]
        exact ih (i + 1) k m Y (by omega) (by omega) h hm
      · rw [if_neg e0]
        obtain ⟨m1, y1, y2, y3⟩ := m_goesE F hF h b hs (q := i / 5) (f := i % 5) (by omega) (by omega) (by rw [ei]; omega) hm
        rw [y1, gB_mk]
        obtain ⟨m2, z1, z2, z3⟩ := ih (i + 1) k m1 _ (by omega) (by omega) (h.of y3) y2
        exact ⟨m2, z1, z2, y3.trans z3⟩
theorem m_back_lp (F : Nat) (k53 : Int32 → Int32 → St → Option (Int32 × St)) {Y : Nat → Nat} (x1 x2 : Int32) : ∀ (d i k : Nat) (m : St), i + d = 720 → d < k → (∀ j, j < 720 → m.2 10 j = lN (Y j)) → (∀ j, j < i → m.2 9 j = lN (Y j)) → ∃ m', m_night_L141 F k53 k x1 x2 (nI i) m = k53 x1 (x2 + 1) (sI m' 0 13 ((m'.1 0 13) + 1)) ∧ PM Y m' ∧ Only [] [9] m m' := by
  intro d
  induction d with
  | zero =>
    intro i k m hi hk hY hp
    obtain ⟨k, rfl⟩ : ∃ z, k = z + 1 := ⟨k - 1, by omega⟩
    refine ⟨m, ?_, fun j hj => hp j (by omega), Only.refl _ _ _⟩
    show m_night_L141b F k53 (m_night_L141 F k53 k) x1 x2 (nI i) m = _
    unfold m_night_L141b
    rw [if_pos (show (720 : Int32) ≤ nI i from nI_le (a := 720) (by omega) (by omega))]
  | succ d ih =>
    intro i k m hi hk hY hp
    obtain ⟨k, rfl⟩ : ∃ z, k = z + 1 := ⟨k - 1, by omega⟩
    have o : Only [] [9] m (sJ m 9 i (m.2 10 i)) := Only.sJ _ (by decide) _ _
    obtain ⟨m', y1, y2, y3⟩ := ih (i + 1) k (sJ m 9 i (m.2 10 i)) (by omega) (by omega) (fun j hj => by rw [sJ2_ne (by decide)]; exact hY j hj) (fun j hj => by
      rw [sJ2_eq]
      by_cases e : j = i
      · rw [e, updL_eq]
        exact hY i (by omega)
      · rw [updL_ne e]
        exact hp j (by omega))
    refine ⟨m', ?_, y2, o.trans y3⟩
    show m_night_L141b F k53 (m_night_L141 F k53 k) x1 x2 (nI i) m = _
    rw [m_night_L141b]
    have g0 : ¬ (720 : Int32) ≤ nI i := by
      rw [show (720 : Int32) = nI 720 from rfl, leI (by omega) (by omega)]
      omega
    rw [if_neg g0, inb_nI (show i < 720 by omega) (by decide), if_pos rfl, if_pos rfl, cl_nI (by omega), show (1 : Int32) = nI 1 from rfl, nI_add]
    exact y1
/-- a minute goes by, the reference -/
theorem m_passE (F : Nat) (hF : 3000 ≤ F) (k53 : Int32 → Int32 → St → Option (Int32 × St)) {p : Nat → Nat} {m : St} (h : NV K D T S t m) (b : NB K D T S t) (hs : sumN p 720 ≤ AL) (hp : PM p m) (x1 x2 : Int32) :
    ∃ m', m_night_L60 F k53 F x1 x2 0 m = k53 x1 (x2 + 1) (sI m' 0 13 (nI (t + 1))) ∧ PM (nF K D T S t p 0 720 (Y0 p)) m' ∧ Only [] [9, 10] m m' := by
  obtain ⟨m1, a1, b1, d1⟩ := m_fill_lp F k53 x1 x2 720 0 F m (by omega) (by omega) hp (fun j hj => by omega)
  have h1 := h.of d1
  obtain ⟨m2, a2, b2, d2⟩ := m_go_lp F hF k53 b hs x1 x2 720 0 F m1 _ (by omega) (by omega) h1 b1
  have h2 := h1.of d2
  obtain ⟨m3, a3, b3, d3⟩ := m_back_lp F k53 x1 x2 720 0 F m2 (by omega) (by omega) (fun j hj => (b2 j hj).2) (fun j hj => by omega)
  refine ⟨m3, ?_, b3, ((d1.trans d2).weak (fun _ h => h) (fun q hq => by rw [List.mem_singleton] at hq; rw [hq]; decide)).trans (d3.weak (fun _ h => h) (fun q hq => by rw [List.mem_singleton] at hq; rw [hq]; decide))⟩
  rw [show m_night_L60 F k53 F x1 x2 0 m = _ from a1, show m_night_L98 F k53 F x1 x2 0 m1 = _ from a2, show m_night_L141 F k53 F x1 x2 0 m2 = _ from a3, d3.1 0 (by simp), h2.2.2.2, show (1 : Int32) = nI 1 from rfl, nI_add]
end
theorem EqS.fn {f g : Nat → Int32} (h : EqS f g) : ∃ S : Nat → Nat, ∀ j, j < 10 → S j ≤ sMax j ∧ f j = nI (S j) ∧ g j = nI (S j) :=
  ⟨fun j => if hj : j < 10 then (h j hj).choose else 0, fun j hj => by
    simp only [dif_pos hj]
    exact (h j hj).choose_spec⟩
theorem Rel.nightW {n : Nat} {c m : St} (R : Rel n c m) {t : Nat} (ht : t ≤ 999) (e1 : c.1 9 4 = nI t) (e2 : m.1 0 13 = nI t) : ∃ K D T S, NW K D T S t c ∧ NV K D T S t m ∧ NB K D T S t := by
  obtain ⟨K, hK⟩ := R.1.kinds.fn (by decide)
  obtain ⟨D, hD⟩ := R.1.draws.fn (by decide)
  obtain ⟨T, hT⟩ := R.1.sits.fn (by decide)
  obtain ⟨S, hS⟩ := R.1.settings.fn
  refine ⟨K, D, T, S, ⟨fun j hj => ⟨(hK j hj).2.1, (hD j hj).2.1⟩, fun j hj => (hT j hj).2.1, fun j hj => (hS j (by omega)).2.1, e1⟩, ⟨fun j hj => ⟨(hK j hj).2.2, (hD j hj).2.2⟩, fun j hj => (hT j hj).2.2, fun j hj => (hS j (by omega)).2.2, e2⟩, fun j hj => ⟨(hK j hj).1, (hD j hj).1⟩, fun j hj => (hT j hj).1, fun j hj => ?_, ht⟩
  have := (hS j (by omega)).1
  unfold sMax at this
  rw [if_neg (by omega), if_neg (by omega)] at this
  exact this
theorem night_lp (F : Nat) (hF : 3000 ≤ F) {N n : Nat} (hN : N ≤ 60) : ∀ (d i f g t : Nat) (c m : St), i + d = N → d < f → d < g → t + d ≤ 999 → Rel n c m → c.1 9 4 = nI t → m.1 0 13 = nI t → ∃ c' m', c_night_L63 F f (nI N) (nI i) c = some (nI (t + d), c') ∧ m_night_L53 F g (nI N) (nI i) m = some (nI (t + d), m') ∧ Rel n c' m' := by
  intro d
  induction d with
  | zero =>
    intro i f g t c m hi hf hg ht R e1 e2
    obtain ⟨f, rfl⟩ : ∃ z, f = z + 1 := ⟨f - 1, by omega⟩
    obtain ⟨g, rfl⟩ : ∃ z, g = z + 1 := ⟨g - 1, by omega⟩
    refine ⟨c, m, ?_, ?_, R⟩
    · show c_night_L63b F (c_night_L63 F f) (nI N) (nI i) c = _
      unfold c_night_L63b
      rw [if_pos (nI_le (by omega) (by omega)), e1]
      rfl
    · show m_night_L53b F (m_night_L53 F g) (nI N) (nI i) m = _
      unfold m_night_L53b
      rw [if_pos (nI_le (by omega) (by omega)), e2]
      rfl
  | succ d ih =>
    intro i f g t c m hi hf hg ht R e1 e2
    obtain ⟨f, rfl⟩ : ∃ z, f = z + 1 := ⟨f - 1, by omega⟩
    obtain ⟨g, rfl⟩ : ∃ z, g = z + 1 := ⟨g - 1, by omega⟩
    obtain ⟨K, D, T, S, hC, hM, b⟩ := R.nightW (t := t) (by omega) e1 e2
    obtain ⟨p, pc, pm, hs⟩ := R.1.pp
    obtain ⟨c1, y1, y2, y3⟩ := c_passE F hF hC b hs pc
    obtain ⟨m1, z1, z2, z3⟩ := m_passE F hF (m_night_L53 F g) hM b hs pm (nI N) (nI i)
    have hNS := NS.fold (lurOk K D) (S := S) (I := sitN K T S t) (V := ridN K S t) (B := stpN K S t) (p := p) (fun q hq => stpN_lt hq) 720 0 (Y0 p) (by omega) (NS0 p)
    have hle : sumN (nF K D T S t p 0 720 (Y0 p)) 720 ≤ AL := Nat.le_trans hNS.le hs
    have R1 : Rel n (c1.1, c.2) m := R.frameC ⟨fun q hq => y3.1 q (fun e => hq (by rw [List.mem_singleton] at e; rw [e]; decide)), fun _ _ => rfl⟩
    have R2 : Rel n c1 m1 := R1.parts (p := nF K D T S t p 0 720 (Y0 p)) ⟨rfl, fun q hq => y3.2 q hq⟩ ⟨funext fun q => z3.1 q (by simp), fun q hq => z3.2 q hq⟩ y2 z2 hle
    have R3 := R2.set_minute (k := t + 1) (by omega)
    obtain ⟨c', m', u1, u2, u3⟩ := ih (i + 1) f g (t + 1) _ _ (by omega) (by omega) (by omega) (by omega) R3 (by rw [sI1_eq, upd_eq]) (by rw [sI1_eq, upd_eq])
    rw [show t + 1 + d = t + (d + 1) by omega] at u1 u2
    have g0 : ¬ nI N ≤ nI i := by
      rw [leI (by omega) (by omega)]
      omega
    refine ⟨c', m', ?_, ?_, u3⟩
    · show c_night_L63b F (c_night_L63 F f) (nI N) (nI i) c = _
      unfold c_night_L63b
      rw [if_neg g0, y1, gB_mk, show (1 : Int32) = nI 1 from rfl, nI_add]
      exact u1
    · show m_night_L53b F (m_night_L53 F g) (nI N) (nI i) m = _
      unfold m_night_L53b
      rw [if_neg g0, z1, show (1 : Int32) = nI 1 from rfl, nI_add]
      exact u2
theorem p_night {n : Nat} {c m : St} (R : Rel n c m) (F : Nat) (hF : 3000 ≤ F) (a : Int32) : SameR n (c_night F a c) (m_night F a m) := by
  unfold c_night m_night
  simp only [gB2_mk, gB_mk, bz_ite, bz_01, gB2_id, c_isCell_eq, c_isKind_eq, c_isSort_eq, c_isPart_eq, c_Sheets_isSheet_eq, c_Sheets_isLane_eq, m_isCell_eq, m_isKind_eq, m_isSort_eq, m_isSheet_eq, m_isLane_eq, c_isIn_eq, m_in_0_0, m_in_0_1, m_in_0_2, m_in_0_3, m_in_0_5, m_in_0_7, m_in_0_8, m_in_0_9, m_in_0_11, m_in_0_15, m_in_0_16, m_in_0_99, m_in_0_143, m_in_0_999, m_in_1_4, m_in_1_8, m_in_1_9, m_in_1_60, m_in_m1_3, m_in_m1_5]
  by_cases h1 : (1 : Int32) ≤ a ∧ a ≤ 60
  case neg =>
    simp only [if_neg h1]
    exact ref_t R F ok1
  simp only [if_pos h1]
  obtain ⟨z, z_lo, z_hi, rfl⟩ := in_nat (lo := 1) (hi := 60) (by decide) h1 (by decide)
  rw [c_out, gB2_mk, bz_ite]
  rcases R.minuteV.out with ⟨n1, n2⟩ | ⟨t, ht, e1, e2, g⟩
  · rw [if_neg n1, if_neg n2]
    exact ref_t R F ok2
  · rw [e1, e2, if_pos g, if_pos g, nI_add, show (999 : Int32) = nI 999 from rfl, itLe (by omega) (by omega), itLe (by omega) (by omega)]
    by_cases h2 : t + z ≤ 999
    · rw [if_pos h2, if_pos h2]
      obtain ⟨c', m', y1, y2, y3⟩ := night_lp F hF (n := n) (N := z) z_hi z 0 F F t c m (by omega) (by omega) (by omega) h2 R e1 e2
      rw [show c_night_L63 F F (nI z) 0 c = _ from y1, show m_night_L53 F F (nI z) 0 m = _ from y2]
      exact SameR.ret rfl y3
    · rw [if_neg h2, if_neg h2]
      exact ref_t R F ok3
