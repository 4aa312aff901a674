/-! the pure part: image, restore -/
theorem p_image {n : Nat} {c m : St} (R : Rel n c m) (F : Nat) (hF : 3000 ≤ F) : SameR n (c_image F c) (m_image F m) := by
  obtain ⟨c7, ea, h0, h1, h2, h3, h4, h5, h6, h7, h8, h9, h10, h11, h12, h13, h14, h15, h16, s0, s1, s2, s3, s4, s5, j0, j1, OC⟩ := bec0 F c
  obtain ⟨m17, el, f0, f1, f2, f3, f4, f5, f6, f7, f8, f9, f10, f11, f12, f13, f14, f15, f16, OL⟩ := lays F hF m
  obtain ⟨m', eb, ⟨t0, t1, t2, t3, t4, t5⟩, lo, pt, i37, k37, OE⟩ := image_end F hF m17
  unfold c_image
  rw [ea, gB_mk, el, eb]
  refine SameR.ret rfl ?_
  have h : Only (0 :: KI0) KJ0 c (sI c7 0 6 1) := (OC.weak (fun q hq => List.mem_cons_of_mem _ hq) (fun _ h => h)).trans (Only.sI _ (by decide) _ _)
  have o : Only [0, 27] [28] m m' := (OL.weak (by decide) (by decide)).trans OE
  have z : ∀ k, k ≠ 37 → m'.1 0 k = m.1 0 k := fun k hk => by rw [k37 k hk, OL.1 0 (by decide)]
  obtain ⟨RV, hI, hT1, hT2, hL, hS, hJ, hR, hE⟩ := R
  have vc : vC (sI c7 0 6 1) = vC c := by
    unfold vC
    simp only [h.1 3 (by decide), h.1 4 (by decide), h.1 5 (by decide), h.1 7 (by decide), h.1 8 (by decide), h.1 15 (by decide), h.1 16 (by decide), h.1 17 (by decide), h.1 18 (by decide), h.1 23 (by decide), h.1 24 (by decide), h.1 25 (by decide), h.1 29 (by decide), h.1 30 (by decide), h.1 31 (by decide), h.1 33 (by decide), h.1 34 (by decide), h.1 9 (by decide), h.1 14 (by decide), h.1 22 (by decide), h.1 28 (by decide), h.1 32 (by decide), h.2 11 (by decide), h.2 10 (by decide)]
  have vm : vM m' = vM m := by
    unfold vM
    simp only [o.1 2 (by decide), o.1 3 (by decide), o.1 4 (by decide), o.1 5 (by decide), o.1 6 (by decide), o.1 11 (by decide), o.1 12 (by decide), o.1 13 (by decide), o.1 14 (by decide), o.1 16 (by decide), o.1 17 (by decide), o.1 18 (by decide), o.1 21 (by decide), o.1 22 (by decide), o.1 23 (by decide), o.1 24 (by decide), o.1 25 (by decide), z 13 (by decide), z 14 (by decide), z 18 (by decide), z 21 (by decide), z 27 (by decide), z 31 (by decide), o.2 9 (by decide)]
  have K : RelV n (vK (sI c7 0 6 1)) (vI m') := by
    refine ⟨?_, ?_, ?_, ?_, ?_, ?_, ?_, ?_, ?_, ?_, ?_, ?_, ?_, ?_, ?_, ?_, ?_, ?_, ?_, ?_, ?_, ?_, ?_, ?_⟩
    · exact RV.kinds.cong (fun j hj => h0 j hj) (fun j hj => by
        show m'.1 27 (j) = m.1 2 j
        rw [lo _ (by omega), ← f0 j hj, Nat.zero_add])
    · exact RV.draws.cong (fun j hj => h1 j hj) (fun j hj => by
        show m'.1 27 (144 + j) = m.1 3 j
        rw [lo _ (by omega), f1 _ hj])
    · exact RV.searched.cong (fun j hj => h2 j hj) (fun j hj => by
        show m'.1 27 (288 + j) = m.1 4 j
        rw [lo _ (by omega), f2 _ hj])
    · exact RV.settings.cong (fun j hj => h3 j hj) (fun j hj => by
        show m'.1 27 (432 + j) = m.1 5 j
        rw [lo _ (by omega), f3 _ hj])
    · exact RV.sits.cong (fun j hj => h4 j hj) (fun j hj => by
        show m'.1 27 (442 + j) = m.1 6 j
        rw [lo _ (by omega), f4 _ hj])
    · exact RV.tsort.cong (fun j hj => h5 j hj) (fun j hj => by
        show m'.1 27 (450 + j) = m.1 11 j
        rw [lo _ (by omega), f5 _ hj])
    · exact RV.tcell.cong (fun j hj => h6 j hj) (fun j hj => by
        show m'.1 27 (454 + j) = m.1 12 j
        rw [lo _ (by omega), f6 _ hj])
    · exact RV.tpace.cong (fun j hj => h7 j hj) (fun j hj => by
        show m'.1 27 (458 + j) = m.1 13 j
        rw [lo _ (by omega), f7 _ hj])
    · exact RV.places.cong (fun j hj => h8 j hj) (fun j hj => by
        show m'.1 27 (462 + j) = m.1 14 j
        rw [lo _ (by omega), f8 _ hj])
    · exact RV.jcell.cong (fun j hj => h9 j hj) (fun j hj => by
        show m'.1 27 (468 + j) = m.1 16 j
        rw [lo _ (by omega), f9 _ hj])
    · exact RV.jsort.cong (fun j hj => h10 j hj) (fun j hj => by
        show m'.1 27 (474 + j) = m.1 17 j
        rw [lo _ (by omega), f10 _ hj])
    · exact RV.jmin.cong (fun j hj => h11 j hj) (fun j hj => by
        show m'.1 27 (480 + j) = m.1 18 j
        rw [lo _ (by omega), f11 _ hj])
    · exact RV.ages.cong (fun j hj => h12 j hj) (fun j hj => by
        show m'.1 27 (486 + j) = m.1 21 j
        rw [lo _ (by omega), f12 _ hj])
    · exact RV.fars.cong (fun j hj => h13 j hj) (fun j hj => by
        show m'.1 27 (546 + j) = m.1 22 j
        rw [lo _ (by omega), f13 _ hj])
    · exact RV.bkinds.cong (fun j hj => h14 j hj) (fun j hj => by
        show m'.1 27 (606 + j) = m.1 23 j
        rw [lo _ (by omega), f14 _ hj])
    · exact RV.keeps.cong (fun j hj => h15 j hj) (fun j hj => by
        show m'.1 27 (666 + j) = m.1 24 j
        rw [lo _ (by omega), f15 _ hj])
    · exact RV.shuts.cong (fun j hj => h16 j hj) (fun j hj => by
        show m'.1 27 (674 + j) = m.1 25 j
        rw [lo _ (by omega), f16 _ hj])
    · show EqV (c7.1 48 7) (m'.1 27 683) 4
      rw [s1, t1, OL.1 0 (by decide)]
      exact RV.tc
    · show EqV (c7.1 48 8) (m'.1 27 684) 6
      rw [s2, t2, OL.1 0 (by decide)]
      exact RV.pc
    · show EqV (c7.1 56 5) (m'.1 27 685) 6
      rw [s3, t3, OL.1 0 (by decide)]
      exact RV.jc
    · show EqV (c7.1 62 3) (m'.1 27 686) 60
      rw [s4, t4, OL.1 0 (by decide)]
      exact RV.bc
    · show EqV (c7.1 66 2) (m'.1 27 687) 8
      rw [s5, t5, OL.1 0 (by decide)]
      exact RV.dc
    · show EqM (c7.1 43 4) (m'.1 27 682)
      rw [s0, t0, OL.1 0 (by decide)]
      exact RV.minute
    · refine RV.parts.cong (fun k hk => ?_) (fun k hk => ?_)
      · show (if k % 5 = 4 then c7.2 45 (k / 5) else c7.2 44 (4 * (k / 5) + k % 5)) = if k % 5 = 4 then c.2 11 (k / 5) else c.2 10 (4 * (k / 5) + k % 5)
        rw [j1 _ (by omega)]
        by_cases e : k % 5 = 4
        · rw [if_pos e, if_pos e]
        · rw [if_neg e, if_neg e, j0 _ (by omega)]
      · show m'.2 28 k = m.2 9 k
        rw [pt k hk, OL.2 9 (by decide)]
  refine ⟨by rw [vc, vm]; exact RV, Or.inr ⟨by rw [sI1_eq, upd_eq], i37, K⟩, ?_, ?_, ?_, ?_, ?_, ?_, ?_⟩
  · rw [h.1 74 (by decide), h.1 75 (by decide), z 7 (by decide)]
    exact hT1
  · rw [h.1 75 (by decide), o.1 7 (by decide)]
    exact hT2
  · rw [h.1 78 (by decide), o.1 29 (by decide)]
    exact hL
  · rw [h.1 79 (by decide), o.1 30 (by decide)]
    exact hS
  · rw [h.2 77 (by decide), o.2 31 (by decide)]
    exact hJ
  · rw [h.1 80 (by decide), o.1 1 (by decide)]
    exact hR
  · rw [h.1 71 (by decide)]
    exact hE
theorem p_restore {n : Nat} {c m : St} (R : Rel n c m) (F : Nat) (hF : 3000 ≤ F) : SameR n (c_restore F c) (m_restore F m) := by
  have R0 := R
  obtain ⟨RV, hI, hT1, hT2, hL, hS, hJ, hR, hE⟩ := R
  rcases hI with ⟨e1, e2⟩ | ⟨e1, e2, RK⟩
  · unfold c_restore m_restore
    rw [if_pos e1, if_pos e2, gB2_id, gB2_id]
    exact ref_t R0 F ok4
  have g1 : ¬ c.1 0 6 = 0 := by rw [e1]; decide
  have g2 : ¬ m.1 0 37 = 0 := by rw [e2]; decide
  obtain ⟨c7, ea, h0, h1, h2, h3, h4, h5, h6, h7, h8, h9, h10, h11, h12, h13, h14, h15, h16, s0, s1, s2, s3, s4, s5, j0, j1, h⟩ := bec1 F c
  obtain ⟨m17, el, f0, f1, f2, f3, f4, f5, f6, f7, f8, f9, f10, f11, f12, f13, f14, f15, f16, OL⟩ := gives F hF m g2
  obtain ⟨m', eb, ⟨t0, t1, t2, t3, t4, t5⟩, pt, k0, OE⟩ := restore_end F hF m17
  unfold c_restore
  rw [if_neg g1, ea, gB_mk, el, eb]
  refine SameR.ret rfl ?_
  have o : Only (0 :: RI) [9] m m' := (OL.weak (fun q hq => List.mem_cons_of_mem _ hq) (by decide)).trans (OE.weak (by decide) (by decide))
  have vk : vK c7 = vK c := by
    unfold vK
    simp only [h.1 37 (by decide), h.1 38 (by decide), h.1 39 (by decide), h.1 41 (by decide), h.1 42 (by decide), h.1 49 (by decide), h.1 50 (by decide), h.1 51 (by decide), h.1 52 (by decide), h.1 57 (by decide), h.1 58 (by decide), h.1 59 (by decide), h.1 63 (by decide), h.1 64 (by decide), h.1 65 (by decide), h.1 67 (by decide), h.1 68 (by decide), h.1 43 (by decide), h.1 48 (by decide), h.1 56 (by decide), h.1 62 (by decide), h.1 66 (by decide), h.2 45 (by decide), h.2 44 (by decide)]
  have vi : vI m' = vI m := by
    unfold vI
    simp only [o.1 27 (by decide), o.2 28 (by decide)]
  have K : RelV n (vC c7) (vM m') := by
    refine ⟨?_, ?_, ?_, ?_, ?_, ?_, ?_, ?_, ?_, ?_, ?_, ?_, ?_, ?_, ?_, ?_, ?_, ?_, ?_, ?_, ?_, ?_, ?_, ?_⟩
    · exact RK.kinds.cong (fun j hj => h0 j hj) (fun j hj => by
        show m'.1 2 j = m.1 27 (j)
        rw [OE.1 2 (by decide), f0 j hj, Nat.zero_add])
    · exact RK.draws.cong (fun j hj => h1 j hj) (fun j hj => by
        show m'.1 3 j = m.1 27 (144 + j)
        rw [OE.1 3 (by decide), f1 j hj])
    · exact RK.searched.cong (fun j hj => h2 j hj) (fun j hj => by
        show m'.1 4 j = m.1 27 (288 + j)
        rw [OE.1 4 (by decide), f2 j hj])
    · exact RK.settings.cong (fun j hj => h3 j hj) (fun j hj => by
        show m'.1 5 j = m.1 27 (432 + j)
        rw [OE.1 5 (by decide), f3 j hj])
    · exact RK.sits.cong (fun j hj => h4 j hj) (fun j hj => by
        show m'.1 6 j = m.1 27 (442 + j)
        rw [OE.1 6 (by decide), f4 j hj])
    · exact RK.tsort.cong (fun j hj => h5 j hj) (fun j hj => by
        show m'.1 11 j = m.1 27 (450 + j)
        rw [OE.1 11 (by decide), f5 j hj])
    · exact RK.tcell.cong (fun j hj => h6 j hj) (fun j hj => by
        show m'.1 12 j = m.1 27 (454 + j)
        rw [OE.1 12 (by decide), f6 j hj])
    · exact RK.tpace.cong (fun j hj => h7 j hj) (fun j hj => by
        show m'.1 13 j = m.1 27 (458 + j)
        rw [OE.1 13 (by decide), f7 j hj])
    · exact RK.places.cong (fun j hj => h8 j hj) (fun j hj => by
        show m'.1 14 j = m.1 27 (462 + j)
        rw [OE.1 14 (by decide), f8 j hj])
    · exact RK.jcell.cong (fun j hj => h9 j hj) (fun j hj => by
        show m'.1 16 j = m.1 27 (468 + j)
        rw [OE.1 16 (by decide), f9 j hj])
    · exact RK.jsort.cong (fun j hj => h10 j hj) (fun j hj => by
        show m'.1 17 j = m.1 27 (474 + j)
        rw [OE.1 17 (by decide), f10 j hj])
    · exact RK.jmin.cong (fun j hj => h11 j hj) (fun j hj => by
        show m'.1 18 j = m.1 27 (480 + j)
        rw [OE.1 18 (by decide), f11 j hj])
    · exact RK.ages.cong (fun j hj => h12 j hj) (fun j hj => by
        show m'.1 21 j = m.1 27 (486 + j)
        rw [OE.1 21 (by decide), f12 j hj])
    · exact RK.fars.cong (fun j hj => h13 j hj) (fun j hj => by
        show m'.1 22 j = m.1 27 (546 + j)
        rw [OE.1 22 (by decide), f13 j hj])
    · exact RK.bkinds.cong (fun j hj => h14 j hj) (fun j hj => by
        show m'.1 23 j = m.1 27 (606 + j)
        rw [OE.1 23 (by decide), f14 j hj])
    · exact RK.keeps.cong (fun j hj => h15 j hj) (fun j hj => by
        show m'.1 24 j = m.1 27 (666 + j)
        rw [OE.1 24 (by decide), f15 j hj])
    · exact RK.shuts.cong (fun j hj => h16 j hj) (fun j hj => by
        show m'.1 25 j = m.1 27 (674 + j)
        rw [OE.1 25 (by decide), f16 j hj])
    · show EqV (c7.1 14 7) (m'.1 0 14) 4
      rw [s1, t1, OL.1 27 (by decide)]
      exact RK.tc
    · show EqV (c7.1 14 8) (m'.1 0 18) 6
      rw [s2, t2, OL.1 27 (by decide)]
      exact RK.pc
    · show EqV (c7.1 22 5) (m'.1 0 21) 6
      rw [s3, t3, OL.1 27 (by decide)]
      exact RK.jc
    · show EqV (c7.1 28 3) (m'.1 0 27) 60
      rw [s4, t4, OL.1 27 (by decide)]
      exact RK.bc
    · show EqV (c7.1 32 2) (m'.1 0 31) 8
      rw [s5, t5, OL.1 27 (by decide)]
      exact RK.dc
    · show EqM (c7.1 9 4) (m'.1 0 13)
      rw [s0, t0, OL.1 27 (by decide)]
      exact RK.minute
    · refine RK.parts.cong (fun k hk => ?_) (fun k hk => ?_)
      · show (if k % 5 = 4 then c7.2 11 (k / 5) else c7.2 10 (4 * (k / 5) + k % 5)) = if k % 5 = 4 then c.2 45 (k / 5) else c.2 44 (4 * (k / 5) + k % 5)
        rw [j1 _ (by omega)]
        by_cases e : k % 5 = 4
        · rw [if_pos e, if_pos e]
        · rw [if_neg e, if_neg e, j0 _ (by omega)]
      · show m'.2 9 k = m.2 28 k
        rw [pt k hk, OL.2 28 (by decide)]
  refine ⟨K, Or.inr ⟨by rw [h.1 0 (by decide)]; exact e1, by rw [k0 37 (by decide) (by decide) (by decide) (by decide) (by decide) (by decide), OL.1 0 (by decide)]; exact e2, by rw [vk, vi]; exact RK⟩, ?_, ?_, ?_, ?_, ?_, ?_, ?_⟩
  · rw [h.1 74 (by decide), h.1 75 (by decide), k0 7 (by decide) (by decide) (by decide) (by decide) (by decide) (by decide), OL.1 0 (by decide)]
    exact hT1
  · rw [h.1 75 (by decide), o.1 7 (by decide)]
    exact hT2
  · rw [h.1 78 (by decide), o.1 29 (by decide)]
    exact hL
  · rw [h.1 79 (by decide), o.1 30 (by decide)]
    exact hS
  · rw [h.2 77 (by decide), o.2 31 (by decide)]
    exact hJ
  · rw [h.1 80 (by decide), o.1 1 (by decide)]
    exact hR
  · rw [h.1 71 (by decide)]
    exact hE
