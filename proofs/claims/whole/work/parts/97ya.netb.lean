/-- the fold over the masks -/
def mUp (v : Nat → Nat) (h k : Nat) (a : Nat × Nat) (x : Nat) : Nat × Nat := if bcN x h = k then (if a.1 ≤ v x ∨ (v x + 1 = a.1 ∧ ahd x a.2 = true) then (v x + 1, x) else a) else a
def mFold (v : Nat → Nat) (h k : Nat) : Nat → Nat → Nat × Nat → Nat × Nat
  | _, 0, a => a
  | x, d + 1, a => mFold v h k (x + 1) d (mUp v h k a x)
def Wm (v : Nat → Nat) (x : Nat) : Nat := v x * 1024 + rR 10 x
def InvM (v : Nat → Nat) (h k x : Nat) (a : Nat × Nat) : Prop := (a = (0, 0) ∧ ∀ y, 1 ≤ y → y < x → bcN y h ≠ k) ∨ (a.1 = v a.2 + 1 ∧ 1 ≤ a.2 ∧ a.2 < x ∧ bcN a.2 h = k ∧ ∀ y, 1 ≤ y → y < x → bcN y h = k → Wm v y ≤ Wm v a.2)
theorem ref_fold (v : Nat → Nat) (h k : Nat) : ∀ (d x : Nat) (a : Nat × Nat), 1 ≤ x → x + d ≤ 1024 → InvM v h k x a → InvM v h k (x + d) (mFold v h k x d a)
  | 0, x, a, _, _, hi => hi
  | d + 1, x, a, h1, hd, hi => by
    rw [show x + (d + 1) = x + 1 + d by omega, mFold]
    refine ref_fold v h k d (x + 1) _ (by omega) (by omega) ?_
    unfold mUp
    by_cases e : bcN x h = k
    · rw [if_pos e]
      rcases hi with ⟨rfl, hn⟩ | ⟨i1, i0, i2, i3, i4⟩
      · rw [if_pos (Or.inl (Nat.zero_le _))]
        refine Or.inr ⟨rfl, h1, Nat.lt_succ_self _, e, fun y y1 y2 y3 => ?_⟩
        by_cases ey : y = x
        · rw [ey]
          exact Nat.le_refl _
        · exact absurd y3 (hn y y1 (by omega))
      · have l1 := rR_lt 10 x
        have l2 := rR_lt 10 a.2
        have hah := ahd_iff (a := x) (b := a.2) (by omega) (by omega) (by omega)
        rw [show (2 : Nat) ^ 10 = 1024 from rfl] at l1 l2
        by_cases g : a.1 ≤ v x ∨ (v x + 1 = a.1 ∧ ahd x a.2 = true)
        · rw [if_pos g]
          have hW : Wm v a.2 ≤ Wm v x := by
            unfold Wm
            rcases g with g | ⟨g1, g2⟩
            · omega
            · have := hah.mp g2
              omega
          refine Or.inr ⟨rfl, h1, Nat.lt_succ_self _, e, fun y y1 y2 y3 => ?_⟩
          by_cases ey : y = x
          · rw [ey]
            exact Nat.le_refl _
          · exact Nat.le_trans (i4 y y1 (by omega) y3) hW
        · rw [if_neg g]
          have hW : Wm v x ≤ Wm v a.2 := by
            unfold Wm
            by_cases g1 : a.1 ≤ v x
            · exact absurd (Or.inl g1) g
            · by_cases g2 : v x + 1 = a.1
              · have : ¬ rR 10 a.2 < rR 10 x := fun z => g (Or.inr ⟨g2, hah.mpr z⟩)
                omega
              · omega
          refine Or.inr ⟨i1, i0, by omega, i3, fun y y1 y2 y3 => ?_⟩
          by_cases ey : y = x
          · rw [ey]
            exact hW
          · exact i4 y y1 (by omega) y3
    · rw [if_neg e]
      rcases hi with ⟨rfl, hn⟩ | ⟨i1, i0, i2, i3, i4⟩
      · refine Or.inl ⟨rfl, fun y y1 y2 => ?_⟩
        by_cases ey : y = x
        · rw [ey]
          exact e
        · exact hn y y1 (by omega)
      · refine Or.inr ⟨i1, i0, by omega, i3, fun y y1 y2 y3 => ?_⟩
        by_cases ey : y = x
        · rw [ey] at y3
          exact absurd y3 e
        · exact i4 y y1 (by omega) y3
theorem chkDec_mono : ∀ (l : List Nat) (a b : Nat), a ≤ b → chkDec a l = true → chkDec b l = true
  | [], _, _, _, _ => rfl
  | x :: l, a, b, hab, h => by
    rw [chkDec, Bool.and_eq_true] at h ⊢
    have := of_decide_eq_true h.1
    exact ⟨decide_eq_true (by omega), h.2⟩
def Wl (Hs p : Nat → Nat) (r : List Nat) : Nat := vL Hs p r * 1024 + rR 10 (oMsk r)
theorem cls_fold (Hs p : Nat → Nat) : ∀ (l : List (List Nat)) (r0 : List Nat), chkDec (rR 10 (oMsk r0)) (l.map (fun r => rR 10 (oMsk r))) = true → (l.foldl (nUp Hs p) (vL Hs p r0 + 1, r0)).1 = vL Hs p (l.foldl (nUp Hs p) (vL Hs p r0 + 1, r0)).2 + 1 ∧ (l.foldl (nUp Hs p) (vL Hs p r0 + 1, r0)).2 ∈ r0 :: l ∧ ∀ r, r ∈ r0 :: l → Wl Hs p r ≤ Wl Hs p (l.foldl (nUp Hs p) (vL Hs p r0 + 1, r0)).2 := by
  intro l
  induction l with
  | nil =>
    intro r0 _
    refine ⟨rfl, List.mem_cons_self, fun r hr => ?_⟩
    rcases List.mem_cons.mp hr with rfl | hr
    · exact Nat.le_refl _
    · cases hr
  | cons x l ih =>
    intro r0 hc
    rw [List.map_cons, chkDec, Bool.and_eq_true] at hc
    have hlt := of_decide_eq_true hc.1
    have l1 := rR_lt 10 (oMsk x)
    have l2 := rR_lt 10 (oMsk r0)
    rw [show (2 : Nat) ^ 10 = 1024 from rfl] at l1 l2
    rw [List.foldl_cons]
    by_cases g : vL Hs p r0 + 1 ≤ vL Hs p x
    · rw [show nUp Hs p (vL Hs p r0 + 1, r0) x = (vL Hs p x + 1, x) from if_pos g]
      obtain ⟨h1, h2, h3⟩ := ih x hc.2
      refine ⟨h1, List.mem_cons_of_mem _ h2, fun r hr => ?_⟩
      rcases List.mem_cons.mp hr with rfl | hr
      · refine Nat.le_trans ?_ (h3 x List.mem_cons_self)
        unfold Wl
        omega
      · exact h3 r hr
    · rw [show nUp Hs p (vL Hs p r0 + 1, r0) x = (vL Hs p r0 + 1, r0) from if_neg g]
      obtain ⟨h1, h2, h3⟩ := ih r0 (chkDec_mono _ _ _ (by omega) hc.2)
      refine ⟨h1, ?_, fun r hr => ?_⟩
      · rcases List.mem_cons.mp h2 with h2 | h2
        · rw [h2]
          exact List.mem_cons_self
        · exact List.mem_cons_of_mem _ (List.mem_cons_of_mem _ h2)
      · rcases List.mem_cons.mp hr with rfl | hr
        · exact h3 _ List.mem_cons_self
        · rcases List.mem_cons.mp hr with rfl | hr
          · refine Nat.le_trans ?_ (h3 r0 List.mem_cons_self)
            unfold Wl
            omega
          · exact h3 r (List.mem_cons_of_mem _ hr)
/-- both find the same -/
theorem net_same {Hs p : Nat → Nat} {h k : Nat} (hh : h ≤ 10) (hk : k ≤ 4) (h1 : 1 ≤ k) (hkh : k ≤ h) : ∃ r : List Nat, (nW h k 0 []).foldl (nUp Hs p) (0, []) = (vL Hs p r + 1, r) ∧ mFold (vMk Hs p h) h k 1 (2 ^ h - 1) (0, 0) = (vL Hs p r + 1, oMsk r) ∧ 1 ≤ oMsk r ∧ oMsk r < 1024 ∧ ∀ i, i < k → lowB 10 (clrN i (oMsk r)) = r.getD i 0 ∧ 0 < clrN i (oMsk r) ∧ r.getD i 0 < h := by
  have hc := chk_net h (by omega) k (by omega)
  have hne := nW_ne h (by omega) k (by omega) hkh
  have hp2 : (2 : Nat) ^ h ≤ 1024 := Nat.pow_le_pow_right (n := 2) (by decide) hh
  have hp1 : 1 ≤ (2 : Nat) ^ h := Nat.one_le_two_pow
  unfold chkNet at hc
  rw [Bool.and_eq_true, Bool.and_eq_true] at hc
  obtain ⟨⟨k1, k2⟩, k3⟩ := hc
  have hcl : ∃ r, (nW h k 0 []).foldl (nUp Hs p) (0, []) = (vL Hs p r + 1, r) ∧ r ∈ nW h k 0 [] ∧ ∀ x, x ∈ nW h k 0 [] → Wl Hs p x ≤ Wl Hs p r := by
    cases hw : nW h k 0 [] with
    | nil =>
      rw [hw] at hne
      cases hne
    | cons r0 l =>
      rw [hw, List.map_cons, chkDec, Bool.and_eq_true] at k1
      obtain ⟨a1, a2, a3⟩ := cls_fold Hs p l r0 k1.2
      refine ⟨(l.foldl (nUp Hs p) (vL Hs p r0 + 1, r0)).2, ?_, a2, a3⟩
      rw [List.foldl_cons, show nUp Hs p (0, []) r0 = (vL Hs p r0 + 1, r0) from if_pos (Nat.zero_le _), ← a1]
  obtain ⟨r, e1, e2, e3⟩ := hcl
  rw [List.all_eq_true] at k2
  have kr : ∀ x, x ∈ nW h k 0 [] → oMsk x < 2 ^ h ∧ bcN (oMsk x) h = k ∧ x.length = k ∧ x.all (fun j => decide (j < h)) = true ∧ ∀ i, i < k → lowB 10 (clrN i (oMsk x)) = x.getD i 0 ∧ 0 < clrN i (oMsk x) := by
    intro x hx
    have := k2 x hx
    rw [Bool.and_eq_true, Bool.and_eq_true, Bool.and_eq_true, Bool.and_eq_true] at this
    obtain ⟨⟨⟨⟨q1, q2⟩, q3⟩, q4⟩, q5⟩ := this
    refine ⟨of_decide_eq_true q1, of_decide_eq_true q2, of_decide_eq_true q3, q4, fun i hi => ?_⟩
    rw [List.all_eq_true] at q5
    have := q5 i (List.mem_range.mpr hi)
    rw [Bool.and_eq_true] at this
    exact ⟨of_decide_eq_true this.1, of_decide_eq_true this.2⟩
  have Wlm : ∀ x, x ∈ nW h k 0 [] → Wl Hs p x = Wm (vMk Hs p h) (oMsk x) := fun x hx => by
    unfold Wl Wm
    rw [vLM (kr x hx).2.2.2.1]
  obtain ⟨r1, r2, r3, r4, r5⟩ := kr r e2
  have hr1 : 1 ≤ oMsk r := by
    have := (r5 0 (by omega)).2
    exact this
  have hI := ref_fold (vMk Hs p h) h k (2 ^ h - 1) 1 (0, 0) (Nat.le_refl _) (by omega) (Or.inl ⟨rfl, fun y y1 y2 => by omega⟩)
  rw [show 1 + (2 ^ h - 1) = 2 ^ h by omega] at hI
  generalize mFold (vMk Hs p h) h k 1 (2 ^ h - 1) (0, 0) = a at *
  rcases hI with ⟨-, hn⟩ | ⟨i1, i0, i2, i3, i4⟩
  · exact absurd r2 (hn (oMsk r) hr1 r1)
  · have hB : ∃ x, x ∈ nW h k 0 [] ∧ oMsk x = a.2 := by
      rw [List.all_eq_true] at k3
      have := k3 a.2 (List.mem_range.mpr i2)
      rw [Bool.or_eq_true, show decide (bcN a.2 h = k) = true from decide_eq_true i3] at this
      rcases this with this | this
      · cases this
      · rw [List.contains_iff_mem, List.mem_map] at this
        exact this
    obtain ⟨x, x1, x2⟩ := hB
    have w1 := e3 x x1
    rw [Wlm x x1, Wlm r e2, x2] at w1
    have w2 := i4 (oMsk r) hr1 r1 r2
    have w3 : Wm (vMk Hs p h) a.2 = Wm (vMk Hs p h) (oMsk r) := Nat.le_antisymm w1 w2
    have l1 := rR_lt 10 a.2
    have l2 := rR_lt 10 (oMsk r)
    rw [show (2 : Nat) ^ 10 = 1024 from rfl] at l1 l2
    unfold Wm at w3
    have w4 : vMk Hs p h a.2 = vMk Hs p h (oMsk r) := by omega
    have w5 : rR 10 a.2 = rR 10 (oMsk r) := by omega
    have w6 := rR_inj 10 a.2 (oMsk r) (by omega) (by omega) w5
    refine ⟨r, e1, ?_, hr1, by omega, fun i hi => ⟨(r5 i hi).1, (r5 i hi).2, ?_⟩⟩
    · rw [vLM r4, ← w6, ← i1]
    · exact get_mem (by omega) r4
