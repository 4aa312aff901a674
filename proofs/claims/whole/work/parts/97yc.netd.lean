theorem Rel.row71 {n : Nat} {c m : St} (R : Rel n c m) {f : Nat → Int32} (h : ∀ j, j < 144 → f j = 0) : Rel n (rI c 71 f) m := by
  obtain ⟨⟨h1, h2, h3, h4, h5, h6, h7, h8, h9, h10, h11, h12, h13, h14, h15, h16, h17, h18, h19, h20, h21, h22, h23, h24⟩, hI, hT1, hT2, hL, hS, hJ, hR, hE⟩ := R
  exact ⟨⟨h1, h2, h3, h4, h5, h6, h7, h8, h9, h10, h11, h12, h13, h14, h15, h16, h17, h18, h19, h20, h21, h22, h23, h24⟩, hI, hT1, hT2, hL, hS, hJ, hR, h⟩
theorem Rel.frame71 {n : Nat} {c m c' : St} (R : Rel n c m) (o : Only (71 :: IC) JC c c') (h : ∀ j, j < 144 → c'.1 71 j = 0) : Rel n c' m := by
  have R1 : Rel n (rI c' 71 (c.1 71)) m := R.frameC ⟨fun q hq => by
    by_cases e : q = 71
    · rw [e, rIat]
    · rw [rIne e]
      exact o.1 q (fun z => (List.mem_cons.mp z).elim e hq), fun q hq => o.2 q hq⟩
  have R2 := R1.row71 h
  have e : rI (rI c' 71 (c.1 71)) 71 (c'.1 71) = c' := Prod.ext (funext fun q => by
    by_cases e : q = 71
    · rw [e, rIat]
    · rw [rIne e, rIne e]) rfl
  rw [e] at R2
  exact R2
theorem gmin4 : ∀ k, k < 5 → gMmin (nI k) 4 = nI k := by decide
theorem p_net {n : Nat} {c m : St} (R : Rel n c m) (F : Nat) (hF : 3000 ≤ F) (a b : Int32) : SameR n (c_net F a b c) (m_net F a b m) := by
  have hAL : AL = 1099511627776 := rfl
  unfold c_net c_net_J20 m_net m_net_J27 c_Land_cellsOf c_Net_choose c_Net_findHouses
  simp only [gB2_mk, gB_mk, bz_ite, bz_01, gB2_id, c_isCell_eq, c_isKind_eq, c_isSort_eq, c_isPart_eq, c_Sheets_isSheet_eq, c_Sheets_isLane_eq, m_isCell_eq, m_isKind_eq, m_isSort_eq, m_isSheet_eq, m_isLane_eq, c_isIn_eq, m_in_0_0, m_in_0_1, m_in_0_2, m_in_0_3, m_in_0_5, m_in_0_7, m_in_0_8, m_in_0_9, m_in_0_11, m_in_0_15, m_in_0_16, m_in_0_99, m_in_0_143, m_in_0_999, m_in_1_4, m_in_1_8, m_in_1_9, m_in_1_60, m_in_m1_3, m_in_m1_5]
  rw [show m_in F b.toInt64 (-1) (a - 1).toInt64 m = some (bz ((-1 : Int32) ≤ b ∧ b ≤ a - 1), m) from m_in32 F b (-1) (a - 1) m, gB2_mk, bz_ite]
  by_cases h1 : (1 : Int32) ≤ a ∧ a ≤ 4
  case neg =>
    simp only [if_neg h1]
    exact ref_s R F ok1 rfl
  simp only [if_pos h1]
  obtain ⟨k, k_lo, k_hi, rfl⟩ := in_nat (lo := 1) (hi := 4) (by decide) h1 (by decide)
  rw [show nI k - (1 : Int32) = nI (k - 1) from by rw [show (1 : Int32) = nI 1 from rfl, subI (by omega)]]
  by_cases h2 : (-1 : Int32) ≤ b ∧ b ≤ nI (k - 1)
  case neg =>
    rw [if_neg h2, if_neg h2]
    exact ref_s R F ok1 rfl
  rw [if_pos h2, if_pos h2]
  obtain ⟨K, hK⟩ := R.1.kinds.fn (by decide)
  obtain ⟨p, pc, pm, hs⟩ := R.1.pp
  have hb : ∀ j, j < 144 → K j ≤ 7 := fun j hj => (hK j hj).1
  have hKc : ∀ j, j < 144 → c.1 3 j = nI (K j) := fun j hj => (hK j hj).2.1
  have hKm : ∀ j, j < 144 → m.1 2 j = nI (K j) := fun j hj => (hK j hj).2.2
  have c7 : c_Land_cellsOf_L4 F F 7 0 0 c = _ := c_cells_lp F (w := 7) hKc hb (by decide) 144 0 F 0 (by omega) (by omega)
  obtain ⟨g1, g2, g3, g4⟩ := hR_ok K 144 0 (0, fun _ => 0) (by omega) (by decide) (fun j hj => absurd hj (Nat.not_lt_zero j))
  obtain ⟨m1, y1, y2, y3⟩ := m_house_lp F (nI k) b hb 144 0 F m (0, fun _ => 0) (by omega) (by omega) (by decide) hKm (fun j hj => absurd hj (Nat.not_lt_zero j))
  obtain ⟨c1, z1, z2, z3, z4⟩ := c_house_lp F hb 144 0 F (sI c 69 1 0) (0, fun _ => 0) (by omega) (by omega) (by decide) hKc (by rw [sI1_eq, upd_eq]; rfl) (fun j hj => absurd hj (Nat.not_lt_zero j))
  have hcf := cF_le (fun j => decide (K j = 7)) 144 0
  rw [c7, gB2_mk, show m_net_L40 F F (nI k) b 0 0 m = _ from y1]
  unfold m_net_L40b
  rw [if_pos (show (144 : Int32) ≤ nI 144 by decide), Nat.zero_add]
  rw [show ((0 : Nat), fun (_ : Nat) => (0 : Nat)).1 = 0 from rfl, Nat.zero_add] at g3 g4
  generalize cF (fun j => decide (K j = 7)) 0 144 = T at *
  generalize hR K 0 144 (0, fun _ => 0) = B at *
  obtain ⟨h, Hs⟩ := B
  have g1 : h ≤ 10 := g1
  have g2 : ∀ j, j < h → Hs j < 144 := g2
  have g3 : h = 10 ∨ h = T := g3
  have g4 : h ≤ T := g4
  have y2 : ∀ j, j < h → m1.1 26 j = nI (Hs j) := y2
  have z2 : c1.1 69 1 = nI h := z2
  have z3 : ∀ j, j < h → c1.1 70 j = nI (Hs j) := z3
  show SameR n _ (if nI k ≤ nI h then m_net_L107 F F (nI k) b (nI h) 0 (-1) 1 m1 else gB2 (m_says F (-4) m1) fun r4 s4 => some (r4, s4))
  have Rm : Rel n c m1 := R.frameM (y3.weak (by decide) (by decide))
  by_cases hkh : k ≤ h
  case neg =>
    have n1 : ¬ nI k ≤ nI T := by
      rw [leI (by omega) (by omega)]
      omega
    have n2 : ¬ nI k ≤ nI h := by
      rw [leI (by omega) (by omega)]
      omega
    rw [if_neg n1, if_neg n2, gB2_id]
    exact ref_s Rm F ok4 rfl
  rw [if_pos (nI_le (show k ≤ T by omega) (by omega)), if_pos (nI_le hkh (by omega)), show c_Net_findHouses_L7 F F 0 (sI c 69 1 0) = _ from z1, gB_mk, gmin4 k (by omega)]
  -- the class
  have o0 : Only (71 :: IC) JC c c1 := ((Only.sI (I := [69, 70]) (J := []) c (by decide) 1 0).trans z4).weak (by decide) (by decide)
  have o1 : Only (71 :: IC) JC c1 (sJ (sI c1 69 4 (nI k)) 69 6 (-1)) := (Only.sI _ (by decide) _ _).trans (Only.sJ _ (by decide) _ _)
  have e71 : ∀ j, j < 144 → c1.1 71 j = 0 := fun j hj => by
    rw [z4.1 71 (by decide), sI1_ne (by decide)]
    exact R.2.2.2.2.2.2.2.2 j hj
  have v0 : vL Hs p [] = 0 := by
    unfold vL
    rw [show sumN (fun q => if eC Hs [] q = 0 then 0 else tg p q) 144 = sumN (fun _ => 0) 144 from sumN_cong (fun q _ => if_pos rfl), sumN_0]
  have w : NetW p Hs h k (sJ (sI c1 69 4 (nI k)) 69 6 (-1)) := by
    refine ⟨?_, ?_, ?_, ?_⟩
    · intro q hq
      obtain ⟨u1, u2⟩ := pc q hq
      rw [sJ2_ne (by decide), sJ2_ne (by decide), sI2, z4.2 10 (by decide), z4.2 11 (by decide)]
      exact ⟨u1, u2⟩
    · rw [sJ1, sI1_eq, upd_ne (by decide)]
      exact z2
    · rw [sJ1, sI1_eq, upd_eq]
    · intro j hj
      rw [sJ1, sI1_ne (by decide)]
      exact z3 j hj
  obtain ⟨c5, t1, t2, -, t4, t5⟩ := c_tellS F hF hs k_hi g1 g2 k 5 (by omega) [] 0 (sJ (sI c1 69 4 (nI k)) 69 6 (-1)) (0, []) (by rw [List.length_nil, Nat.zero_add]) (Nat.zero_le _) w (fun q hq => by
    rw [sJ1, sI1_ne (by decide), e71 q hq]
    rfl) ⟨by rw [sJ2_eq, updL_eq]; decide, Nat.zero_le _, fun z => absurd z (Nat.lt_irrefl 0)⟩ (fun u hu => absurd hu (Nat.not_lt_zero u))
  rw [v0] at t1
  -- the reference
  have wm : NetM p Hs h m1 := ⟨fun q hq => by rw [y3.2 9 (by simp)]; exact pm q hq, y2⟩
  have hp1 : 1 ≤ (2 : Nat) ^ h := Nat.one_le_two_pow
  have hp2 : (2 : Nat) ^ h ≤ 1024 := Nat.pow_le_pow_right (n := 2) (by decide) g1
  have q1 := m_mask_lp F hF hs g1 k_hi g2 wm b (2 ^ h - 1) 1 F (0, 0) (by omega) (by omega) (Nat.zero_le _) (by decide)
  obtain ⟨r, r1, r2, r3, r4, r5⟩ := net_same (Hs := Hs) (p := p) g1 k_hi k_lo hkh
  rw [r1] at t2
  rw [r2] at q1
  obtain ⟨s1, s2, s3⟩ := t2
  have hd : m_net_L107 F F (nI k) b (nI h) 0 (-1) 1 m1 = m_net_L234 F F b (dL (vL Hs p r + 1)) (nI (oMsk r)) 0 m1 := q1
  have R5 : Rel n c5 m1 := Rm.frame71 ((o0.trans o1).trans (t5.weak (by decide) (by decide))) (fun j hj => by
    rw [t4 j hj]
    rfl)
  rw [show c_Net_tell F 5 0 0 0 (sJ (sI c1 69 4 (nI k)) 69 6 (-1)) = some c5 from t1, gB_mk, gB_mk, hd]
  rcases in_m1 (hi := k - 1) (by omega) h2 with rfl | ⟨q, hq, rfl⟩
  · obtain ⟨f, hf⟩ : ∃ z, F = z + 1 := ⟨F - 1, by omega⟩
    have e0 : m_net_L234 F F (-1) (dL (vL Hs p r + 1)) (nI (oMsk r)) 0 m1 = m_net_L258 F F (-1) (dL (vL Hs p r + 1)) (nI (oMsk r)) 0 m1 := by
      have e : m_net_L234 F F (-1) (dL (vL Hs p r + 1)) (nI (oMsk r)) 0 m1 = m_net_L234 F (f + 1) (-1) (dL (vL Hs p r + 1)) (nI (oMsk r)) 0 m1 := by rw [← hf]
      rw [e]
      show m_net_L234b F (m_net_L234 F f) (-1) (dL (vL Hs p r + 1)) (nI (oMsk r)) 0 m1 = _
      unfold m_net_L234b
      rw [if_pos (show (-1 : Int32) ≤ 0 by decide)]
    have hlow := r5 0 (by omega)
    rw [show clrN 0 (oMsk r) = oMsk r from rfl] at hlow
    have e1 := m_bit_lp F g1 wm (-1) (dL (vL Hs p r + 1)) r4 r3 (by rw [hlow.1]; exact hlow.2.2) (lowB 10 (oMsk r)) 0 F (by omega) (by have := (low_ok (oMsk r) r4 r3).1; omega)
    rw [if_neg (show ¬ (0 : Int32) ≤ -1 by decide)] at e1
    rw [e0, show m_net_L258 F F (-1) (dL (vL Hs p r + 1)) (nI (oMsk r)) 0 m1 = _ from e1, if_neg (show ¬ (0 : Int32) ≤ -1 by decide), s1]
    exact SameR.ret rfl R5
  · have hge : (0 : Int32) ≤ nI q := nI_le (a := 0) (Nat.zero_le q) (by omega)
    have hlow := r5 q (by omega)
    have hcl : ∀ i y, clrN i y ≤ y := by
      intro i
      induction i with
      | zero => exact fun y => Nat.le_refl _
      | succ i ih => exact fun y => Nat.le_trans (ih (clr y)) (clr_le y)
    have hcq := hcl q (oMsk r)
    have e0 := m_clr_lp F (m := m1) (dL (vL Hs p r + 1)) (q := q) (by omega) q 0 F (oMsk r) (by omega) (by omega) r4
    have e1 := m_bit_lp F g1 wm (nI q) (dL (vL Hs p r + 1)) (y := clrN q (oMsk r)) (by omega) hlow.2.1 (by rw [hlow.1]; exact hlow.2.2) (lowB 10 (clrN q (oMsk r))) 0 F (by omega) (by have := (low_ok (clrN q (oMsk r)) (by omega) hlow.2.1).1; omega)
    rw [if_pos hge, hlow.1] at e1
    rw [show m_net_L234 F F (nI q) (dL (vL Hs p r + 1)) (nI (oMsk r)) 0 m1 = _ from e0, show m_net_L258 F F (nI q) (dL (vL Hs p r + 1)) (nI (clrN q (oMsk r))) 0 m1 = _ from e1, if_pos hge, inb_nI (show q < 4 by omega) (by decide), if_pos rfl, cl_nI (by omega), s3 (Nat.succ_pos _) q (by omega)]
    exact SameR.ret rfl R5
