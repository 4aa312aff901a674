/-! the pure part: net, the class -/
def neigV (a i : Int32) : Int32 := if (0 : Int32) ≤ ((a / (12 : Int32)) + (i / (3 : Int32))) - (1 : Int32) ∧ ((a / (12 : Int32)) + (i / (3 : Int32))) - (1 : Int32) ≤ 11 then (if (0 : Int32) ≤ ((a - a / (12 : Int32) * (12 : Int32)) + (i - i / (3 : Int32) * (3 : Int32))) - (1 : Int32) ∧ ((a - a / (12 : Int32) * (12 : Int32)) + (i - i / (3 : Int32) * (3 : Int32))) - (1 : Int32) ≤ 11 then ((((a / (12 : Int32)) + (i / (3 : Int32))) - (1 : Int32)) * (12 : Int32)) + (((a - a / (12 : Int32) * (12 : Int32)) + (i - i / (3 : Int32) * (3 : Int32))) - (1 : Int32)) else -1) else -1
set_option maxRecDepth 100000 in
theorem neigV_eq : ∀ H, H < 144 → ∀ i, i < 9 → neigV (nI H) (nI i) = enc (-1) (nbr H i) := by decide +kernel
theorem c_nbr (F : Nat) (s : St) {H i : Nat} (hH : H < 144) (hi : i < 9) : c_Land_neighbour F (nI H) (nI i) s = some (enc (-1) (nbr H i), s) := by
  rw [← neigV_eq H hH i hi]
  unfold neigV c_Land_neighbour c_Land_neighbour_J51
  simp only [c_isIn_eq, gB2_mk, bz_ite, if_some]
theorem PC.of1 {p : Nat → Nat} {c c' : St} (h : PC p c) (e : c'.2 = c.2) : PC p c' := by
  unfold PC
  rw [e]
  exact h
def EarsS (Hs : Nat → Nat) (r : List Nat) (H i : Nat) (s : St) : Prop := ∀ q, q < 144 → s.1 71 q = nI (eC Hs r q + nbC H i q)
def EarsF (Hs : Nat → Nat) (r : List Nat) (H i : Nat) (s : St) : Prop := ∀ q, q < 144 → s.1 71 q = nI (eC Hs r q + nbC H 9 q - nbC H i q)
theorem nbC_ne {H i c q : Nat} (h : nbr H i = some c) (e : q ≠ c) : nbC H (i + 1) q = nbC H i q := by
  rw [nbC, if_neg (fun z => by rw [h] at z; exact e (Option.some.inj z).symm), Nat.add_zero]
theorem nbC_none {H i q : Nat} (h : nbr H i = none) : nbC H (i + 1) q = nbC H i q := by
  rw [nbC, if_neg (fun z => by rw [h] at z; cases z), Nat.add_zero]
theorem nbC_at {H i c : Nat} (h : nbr H i = some c) : nbC H (i + 1) c = nbC H i c + 1 := by
  rw [nbC, if_pos h]
theorem c_hear_lp (F : Nat) (hF : 3000 ≤ F) {Hs p : Nat → Nat} {r : List Nat} {H : Nat} (hH : H < 144) (hr : r.length < 100) : ∀ (d i k acc : Nat) (s : St), i + d = 9 → d < k → PC p s → EarsS Hs r H i s → ∃ s', c_Net_hear_L5 F k (nI H) (lN acc) (nI i) s = some (lN (acc + sF (nbG (newG Hs p r) H) i d), s') ∧ EarsS Hs r H 9 s' ∧ Only [71] [] s s' := by
  intro d
  induction d with
  | zero =>
    intro i k acc s hi hk hp hE
    obtain ⟨k, rfl⟩ : ∃ z, k = z + 1 := ⟨k - 1, by omega⟩
    have e9 : i = 9 := by omega
    subst e9
    refine ⟨s, ?_, hE, Only.refl _ _ _⟩
    show c_Net_hear_L5b F (c_Net_hear_L5 F k) (nI H) (lN acc) (nI 9) s = _
    unfold c_Net_hear_L5b
    rw [if_pos (show (9 : Int32) ≤ nI 9 by decide)]
    rfl
  | succ d ih =>
    intro i k acc s hi hk hp hE
    obtain ⟨k, rfl⟩ : ∃ z, k = z + 1 := ⟨k - 1, by omega⟩
    have g0 : ¬ (9 : Int32) ≤ nI i := by
      rw [show (9 : Int32) = nI 9 from rfl, leI (by omega) (by omega)]
      omega
    have i1 : nI i + (1 : Int32) = nI (i + 1) := by rw [show (1 : Int32) = nI 1 from rfl, nI_add]
    have hbody : c_Net_hear_L5 F (k + 1) (nI H) (lN acc) (nI i) s = c_Net_hear_L5b F (c_Net_hear_L5 F k) (nI H) (lN acc) (nI i) s := rfl
    rw [hbody]
    unfold c_Net_hear_L5b c_Net_hear_J49
    rw [if_neg g0, c_nbr F s hH (by omega), gB2_mk, i1, sF]
    cases hb : nbr H i with
    | none =>
      obtain ⟨s', y1, y2, y3⟩ := ih (i + 1) k acc s (by omega) (by omega) hp (fun q hq => by rw [nbC_none hb]; exact hE q hq)
      refine ⟨s', ?_, y2, y3⟩
      rw [if_pos (show enc (-1) none < 0 by decide), y1, show nbG (newG Hs p r) H i = 0 by unfold nbG; rw [hb], Nat.zero_add]
    | some c =>
      have hc := nbr_lt hb
      obtain ⟨n1, n2⟩ := nbC_new (by omega) hb
      have gn : ¬ enc (-1) (some c) < 0 := by
        show ¬ nI c < 0
        rw [show (0 : Int32) = nI 0 from rfl, ltI (by omega) (by omega)]
        omega
      have hle := eC_le Hs r c
      have hE1 : EarsS Hs r H (i + 1) (sI s 71 c (nI (eC Hs r c + 1))) := fun q hq => by
        rw [sI1_eq]
        by_cases e : q = c
        · rw [e, upd_eq, nbC_at hb, n1]
        · rw [upd_ne e, nbC_ne hb e]
          exact hE q hq
      have hp1 : PC p (sI s 71 c (nI (eC Hs r c + 1))) := hp.of1 rfl
      have o1 : Only [71] [] s (sI s 71 c (nI (eC Hs r c + 1))) := Only.sI _ (by decide) _ _
      have eG : nbG (newG Hs p r) H i = if eC Hs r c = 0 then tg p c else 0 := by
        unfold nbG newG
        rw [hb]
      rw [if_neg gn, show enc (-1) (some c) = nI c from rfl, inb_nI hc (by decide), if_pos rfl, if_pos rfl, cl_nI (by omega), hE c hc, n1, Nat.add_zero, show nI (eC Hs r c) + (1 : Int32) = nI (eC Hs r c + 1) from by rw [show (1 : Int32) = nI 1 from rfl, nI_add], show (0 : Int32) = nI 0 from rfl, itEq (by omega) (by omega), eG]
      by_cases e0 : eC Hs r c = 0
      · obtain ⟨s', y1, y2, y3⟩ := ih (i + 1) k (acc + tg p c) _ (by omega) (by omega) hp1 hE1
        refine ⟨s', ?_, y2, o1.trans y3⟩
        rw [if_pos e0, c_tog F hF hp1 hc, gB2_mk, lN_add, y1, if_pos e0, Nat.add_assoc]
      · obtain ⟨s', y1, y2, y3⟩ := ih (i + 1) k acc _ (by omega) (by omega) hp1 hE1
        refine ⟨s', ?_, y2, o1.trans y3⟩
        rw [if_neg e0, y1, if_neg e0, Nat.zero_add]
theorem c_forget_lp (F : Nat) {Hs : Nat → Nat} {r : List Nat} {H : Nat} (hH : H < 144) : ∀ (d i k : Nat) (s : St), i + d = 9 → d < k → EarsF Hs r H i s → ∃ s', c_Net_forget_L2 F k (nI H) (nI i) s = some s' ∧ EarsF Hs r H 9 s' ∧ Only [71] [] s s' := by
  intro d
  induction d with
  | zero =>
    intro i k s hi hk hE
    obtain ⟨k, rfl⟩ : ∃ z, k = z + 1 := ⟨k - 1, by omega⟩
    have e9 : i = 9 := by omega
    subst e9
    refine ⟨s, ?_, hE, Only.refl _ _ _⟩
    show c_Net_forget_L2b F (c_Net_forget_L2 F k) (nI H) (nI 9) s = _
    unfold c_Net_forget_L2b
    rw [if_pos (show (9 : Int32) ≤ nI 9 by decide)]
  | succ d ih =>
    intro i k s hi hk hE
    obtain ⟨k, rfl⟩ : ∃ z, k = z + 1 := ⟨k - 1, by omega⟩
    have g0 : ¬ (9 : Int32) ≤ nI i := by
      rw [show (9 : Int32) = nI 9 from rfl, leI (by omega) (by omega)]
      omega
    have i1 : nI i + (1 : Int32) = nI (i + 1) := by rw [show (1 : Int32) = nI 1 from rfl, nI_add]
    have hbody : c_Net_forget_L2 F (k + 1) (nI H) (nI i) s = c_Net_forget_L2b F (c_Net_forget_L2 F k) (nI H) (nI i) s := rfl
    rw [hbody]
    unfold c_Net_forget_L2b c_Net_forget_J28
    rw [if_neg g0, c_nbr F s hH (by omega), gB2_mk, i1]
    cases hb : nbr H i with
    | none =>
      rw [if_pos (show enc (-1) none < 0 by decide)]
      exact ih (i + 1) k s (by omega) (by omega) (fun q hq => by rw [nbC_none hb]; exact hE q hq)
    | some c =>
      have hc := nbr_lt hb
      obtain ⟨n1, n2⟩ := nbC_new (by omega) hb
      have gn : ¬ enc (-1) (some c) < 0 := by
        show ¬ nI c < 0
        rw [show (0 : Int32) = nI 0 from rfl, ltI (by omega) (by omega)]
        omega
      have hE1 : EarsF Hs r H (i + 1) (sI s 71 c (nI (eC Hs r c))) := fun q hq => by
        rw [sI1_eq]
        by_cases e : q = c
        · rw [e, upd_eq, nbC_at hb, n1, n2, Nat.zero_add, Nat.add_sub_cancel]
        · rw [upd_ne e, nbC_ne hb e]
          exact hE q hq
      obtain ⟨s', y1, y2, y3⟩ := ih (i + 1) k _ (by omega) (by omega) hE1
      refine ⟨s', ?_, y2, (Only.sI _ (by decide) _ _).trans y3⟩
      rw [if_neg gn, show enc (-1) (some c) = nI c from rfl, inb_nI hc (by decide), if_pos rfl, if_pos rfl, cl_nI (by omega), hE c hc, n1, n2, Nat.sub_zero, show nI (eC Hs r c + 1) - (1 : Int32) = nI (eC Hs r c) from by rw [show (1 : Int32) = nI 1 from rfl, subI (by omega), Nat.add_sub_cancel], y1]
def Ears (Hs : Nat → Nat) (r : List Nat) (s : St) : Prop := ∀ q, q < 144 → s.1 71 q = nI (eC Hs r q)
def NetW (p Hs : Nat → Nat) (h k : Nat) (s : St) : Prop := PC p s ∧ s.1 69 1 = nI h ∧ s.1 69 4 = nI k ∧ ∀ j, j < h → s.1 70 j = nI (Hs j)
theorem NetW.of {p Hs : Nat → Nat} {h k : Nat} {c c' : St} (w : NetW p Hs h k c) (o : Only [71, 72, 73] [69] c c') : NetW p Hs h k c' := by
  unfold NetW PC at w ⊢
  simp only [o.1 69 (by decide), o.1 70 (by decide), o.2 10 (by decide), o.2 11 (by decide)]
  exact w
def nUp (Hs p : Nat → Nat) (b : Nat × List Nat) (r : List Nat) : Nat × List Nat := if b.1 ≤ vL Hs p r then (vL Hs p r + 1, r) else b
def BestN (Hs : Nat → Nat) (k : Nat) (b : Nat × List Nat) (s : St) : Prop := s.2 69 6 = dL b.1 ∧ b.1 ≤ AL + 1 ∧ (0 < b.1 → ∀ t, t < k → s.1 73 t = nI (Hs (b.2.getD t 0)))
def TriedN (Hs : Nat → Nat) (r : List Nat) (s : St) : Prop := ∀ t, t < r.length → s.1 72 t = nI (Hs (r.getD t 0))
theorem TriedN.put {Hs : Nat → Nat} {r : List Nat} {j : Nat} {s : St} (h : TriedN Hs r s) : TriedN Hs (r ++ [j]) (sI s 72 r.length (nI (Hs j))) := fun u hu => by
  rw [List.length_append, List.length_singleton] at hu
  rw [sI1_eq]
  by_cases e : u = r.length
  · rw [e, upd_eq, get_new]
  · rw [upd_ne e, get_old (by omega)]
    exact h u (by omega)
theorem TriedN.back {Hs : Nat → Nat} {r : List Nat} {j : Nat} {s : St} (h : TriedN Hs (r ++ [j]) s) : TriedN Hs r s := fun u hu => by
  rw [← get_old (j := j) hu]
  exact h u (by rw [List.length_append]; omega)
section
variable {p Hs : Nat → Nat} {h k : Nat}
def TellS (F : Nat) (p Hs : Nat → Nat) (h k D d : Nat) : Prop := ∀ (r : List Nat) (j : Nat) (s : St) (b : Nat × List Nat), r.length + d = k → j ≤ h → NetW p Hs h k s → Ears Hs r s → BestN Hs k b s → TriedN Hs r s →
    ∃ s', c_Net_tell F D (nI r.length) (nI j) (lN (vL Hs p r)) s = some s' ∧ BestN Hs k ((nW h d j r).foldl (nUp Hs p) b) s' ∧ TriedN Hs r s' ∧ Ears Hs r s' ∧ Only [71, 72, 73] [69] s s'
theorem c_tell_leaf (F : Nat) (hs : sumN p 720 ≤ AL) (hk : k ≤ 4) (D : Nat) : TellS F p Hs h k (D + 1) 0 := by
  intro r j s b hr hj w hE hb ht
  have hAL : AL = 1099511627776 := rfl
  have hv := vL_le (Hs := Hs) (r := r) hs
  obtain ⟨b1, b2, b3⟩ := hb
  show ∃ s', c_Net_tell_b F (c_Net_tell F D) (nI r.length) (nI j) (lN (vL Hs p r)) s = some s' ∧ BestN Hs k (nUp Hs p b r) s' ∧ _
  unfold c_Net_tell_b nUp
  generalize vL Hs p r = v at *
  have e0 : r.length = k := by omega
  rw [w.2.2.1, e0, if_neg (show ¬ nI k < nI k from Int32.lt_irrefl), b1]
  by_cases g : b.1 ≤ v
  · have hc : ¬ lg_cmp (lN v) (dL b.1) ≤ 0 := by
      rw [cmp_le, le_dL (by omega) (by omega)]
      omega
    rw [if_neg hc, if_pos (by decide), if_pos g]
    refine ⟨cpI (sJ s 69 6 (lN v)) 72 73 0 0 4, rfl, ⟨?_, ?_, fun _ u hu => ?_⟩, ht, hE, (Only.sJ s (by decide) 6 _).trans ⟨fun q hq => if_neg (fun e => hq (by rw [e]; decide)), fun _ _ => rfl⟩⟩
    · show vp_updL (s.2 69) 6 (lN v) 6 = dL (v + 1)
      rw [updL_eq, dL_1]
    · exact Nat.succ_le_succ hv
    · show va_cpy (s.1 72) (s.1 73) 0 0 4 u = nI (Hs (r.getD u 0))
      unfold va_cpy
      rw [if_pos (by omega), show 0 + (u - 0) = u by omega]
      exact ht u (by omega)
  · have hc : lg_cmp (lN v) (dL b.1) ≤ 0 := by
      rw [cmp_le, le_dL (by omega) (by omega)]
      omega
    rw [if_pos hc, if_neg g]
    exact ⟨s, rfl, ⟨b1, b2, b3⟩, ht, hE, Only.refl _ _ _⟩
theorem c_tell_lp (F : Nat) (hF : 3000 ≤ F) (hk : k ≤ 4) (hh : h ≤ 10) (hH : ∀ j, j < h → Hs j < 144) {D d : Nat} (ih0 : TellS F p Hs h k D d) {r : List Nat} (hr : r.length + (d + 1) = k) : ∀ (e j f : Nat) (s : St) (b : Nat × List Nat), j + e = h → e < f → NetW p Hs h k s → Ears Hs r s → BestN Hs k b s → TriedN Hs r s →
    ∃ s', c_Net_tell_L42 F (c_Net_tell F D) f (nI r.length) (lN (vL Hs p r)) (nI j) s = some s' ∧ BestN Hs k ((nWL (nW h d) r j e).foldl (nUp Hs p) b) s' ∧ TriedN Hs r s' ∧ Ears Hs r s' ∧ Only [71, 72, 73] [69] s s' := by
  intro e
  induction e with
  | zero =>
    intro j f s b hj hf w hE hb ht
    obtain ⟨f, rfl⟩ : ∃ z, f = z + 1 := ⟨f - 1, by omega⟩
    refine ⟨s, ?_, hb, ht, hE, Only.refl _ _ _⟩
    show c_Net_tell_L42b F (c_Net_tell F D) (c_Net_tell_L42 F (c_Net_tell F D) f) (nI r.length) _ (nI j) s = _
    unfold c_Net_tell_L42b
    rw [w.2.1, if_pos (nI_le (by omega) (by omega))]
  | succ e ih =>
    intro j f s b hj hf w hE hb ht
    obtain ⟨f, rfl⟩ : ∃ z, f = z + 1 := ⟨f - 1, by omega⟩
    have g0 : ¬ nI h ≤ nI j := by
      rw [leI (by omega) (by omega)]
      omega
    have hl : (r ++ [j]).length = r.length + 1 := by rw [List.length_append, List.length_singleton]
    have hHj := hH j (by omega)
    -- told
    have o1 : Only [71, 72, 73] [69] s (sI s 72 r.length (nI (Hs j))) := Only.sI _ (by decide) _ _
    have w1 := w.of o1
    obtain ⟨s2, a1, a2, a3⟩ := c_hear_lp F hF (Hs := Hs) (p := p) (r := r) hHj (by omega) 9 0 F 0 (sI s 72 r.length (nI (Hs j))) (by omega) (by omega) w1.1 (fun q hq => hE q hq)
    have o2 : Only [71, 72, 73] [69] (sI s 72 r.length (nI (Hs j))) s2 := a3.weak (by decide) (fun q hq => by cases hq)
    have w2 := w1.of o2
    have hE2 : Ears Hs (r ++ [j]) s2 := fun q hq => by
      rw [a2 q hq, eC_put, nbC_9 hq]
    rw [nb_sum, Nat.zero_add] at a1
    have hb2 : BestN Hs k b s2 := ⟨by rw [a3.2 69 (by simp)]; exact hb.1, hb.2.1, fun z u hu => by rw [a3.1 73 (by decide), sI1_ne (by decide)]; exact hb.2.2 z u hu⟩
    have ht2 : TriedN Hs (r ++ [j]) s2 := fun u hu => by
      rw [a3.1 72 (by decide)]
      exact ht.put u hu
    obtain ⟨s3, y1, y2, y3, y4, y5⟩ := ih0 (r ++ [j]) (j + 1) s2 b (by rw [hl]; omega) (by omega) w2 hE2 hb2 ht2
    have w3 := w2.of y5
    rw [hl, vL_put] at y1
    -- and not
    obtain ⟨s4, z1, z2, z3⟩ := c_forget_lp F (Hs := Hs) (r := r) hHj 9 0 F s3 (by omega) (by omega) (fun q hq => by
      show s3.1 71 q = nI (eC Hs r q + nbC (Hs j) 9 q - 0)
      rw [y4 q hq, eC_put, nbC_9 hq, Nat.sub_zero])
    have o4 : Only [71, 72, 73] [69] s3 s4 := z3.weak (by decide) (fun q hq => by cases hq)
    have hE4 : Ears Hs r s4 := fun q hq => by
      rw [z2 q hq, Nat.add_sub_cancel]
    have hb4 : BestN Hs k ((nW h d (j + 1) (r ++ [j])).foldl (nUp Hs p) b) s4 := ⟨by rw [z3.2 69 (by simp)]; exact y2.1, y2.2.1, fun z u hu => by rw [z3.1 73 (by decide)]; exact y2.2.2 z u hu⟩
    have ht4 : TriedN Hs r s4 := fun u hu => by
      rw [z3.1 72 (by decide)]
      exact y3.back u hu
    obtain ⟨s', q1, q2, q3, q4, q5⟩ := ih (j + 1) f s4 _ (by omega) (by omega) (w3.of o4) hE4 hb4 ht4
    refine ⟨s', ?_, ?_, q3, q4, (((o1.trans o2).trans y5).trans o4).trans q5⟩
    · show c_Net_tell_L42b F (c_Net_tell F D) (c_Net_tell_L42 F (c_Net_tell F D) f) (nI r.length) (lN (vL Hs p r)) (nI j) s = _
      unfold c_Net_tell_L42b c_Net_hear c_Net_forget
      rw [w.2.1, if_neg g0, inb_nI (show j < 10 by omega) (by decide), inb_nI (show r.length < 4 by omega) (by decide), if_pos rfl, if_pos rfl, if_pos rfl, cl_nI (by omega), cl_nI (by omega), sI1_ne (by decide), w.2.2.2 j (by omega), show c_Net_hear_L5 F F (nI (Hs j)) 0 0 _ = _ from a1, gB2_mk, lN_add, show nI j + (1 : Int32) = nI (j + 1) from by rw [show (1 : Int32) = nI 1 from rfl, nI_add], show nI r.length + (1 : Int32) = nI (r.length + 1) from by rw [show (1 : Int32) = nI 1 from rfl, nI_add]]
      rw [show c_Net_tell F D (nI (r.length + 1)) (nI (j + 1)) (lN (vL Hs p r + sumN (fun q => if near 1 (Hs j) q = true then newG Hs p r q else 0) 144)) s2 = some s3 from y1, gB_mk, if_pos rfl, w3.2.2.2 j (by omega), show c_Net_forget_L2 F F (nI (Hs j)) 0 s3 = _ from z1, gB_mk]
      exact q1
    · rw [nWL, List.foldl_append]
      exact q2
theorem c_tellS (F : Nat) (hF : 3000 ≤ F) (hs : sumN p 720 ≤ AL) (hk : k ≤ 4) (hh : h ≤ 10) (hH : ∀ j, j < h → Hs j < 144) : ∀ (d D : Nat), d < D → TellS F p Hs h k D d := by
  intro d
  induction d with
  | zero =>
    intro D hD
    obtain ⟨D, rfl⟩ : ∃ z, D = z + 1 := ⟨D - 1, by omega⟩
    exact c_tell_leaf F hs hk D
  | succ d ih =>
    intro D hD r j s b hr hj w hE hb ht
    obtain ⟨D, rfl⟩ : ∃ z, D = z + 1 := ⟨D - 1, by omega⟩
    show ∃ s', c_Net_tell_b F (c_Net_tell F D) (nI r.length) (nI j) (lN (vL Hs p r)) s = some s' ∧ BestN Hs k ((nWL (nW h d) r j (h - j)).foldl (nUp Hs p) b) s' ∧ _
    unfold c_Net_tell_b
    have hlt : nI r.length < nI k := by
      rw [ltI (by omega) (by omega)]
      omega
    rw [w.2.2.1, if_pos hlt]
    exact c_tell_lp F hF hk hh hH (ih D (by omega)) hr (h - j) j F s b (by omega) (by omega) w hE hb ht
end
/-- the houses -/
def hR (K : Nat → Nat) : Nat → Nat → Nat × (Nat → Nat) → Nat × (Nat → Nat)
  | _, 0, a => a
  | i, d + 1, a => hR K (i + 1) d (if K i = 7 ∧ a.1 < 10 then (a.1 + 1, fun j => if j = a.1 then i else a.2 j) else a)
theorem hR_full (K : Nat → Nat) : ∀ (d i : Nat) (a : Nat × (Nat → Nat)), 10 ≤ a.1 → hR K i d a = a
  | 0, _, _, _ => rfl
  | d + 1, i, a, h => by
    rw [hR, if_neg (by omega)]
    exact hR_full K d (i + 1) a h
theorem hR_ok (K : Nat → Nat) : ∀ (d i : Nat) (a : Nat × (Nat → Nat)), i + d ≤ 144 → a.1 ≤ 10 → (∀ j, j < a.1 → a.2 j < 144) → (hR K i d a).1 ≤ 10 ∧ (∀ j, j < (hR K i d a).1 → (hR K i d a).2 j < 144) ∧ ((hR K i d a).1 = 10 ∨ (hR K i d a).1 = a.1 + cF (fun j => decide (K j = 7)) i d) ∧ (hR K i d a).1 ≤ a.1 + cF (fun j => decide (K j = 7)) i d
  | 0, i, a, _, h1, h2 => ⟨h1, h2, Or.inr rfl, Nat.le_refl _⟩
  | d + 1, i, a, hi, h1, h2 => by
    rw [hR, cF]
    by_cases e : K i = 7
    · rw [if_pos (show decide (K i = 7) = true from decide_eq_true e)]
      by_cases e2 : a.1 < 10
      · rw [if_pos ⟨e, e2⟩]
        have := hR_ok K d (i + 1) (a.1 + 1, fun j => if j = a.1 then i else a.2 j) (by omega) e2 (fun j hj => by
          show (if j = a.1 then i else a.2 j) < 144
          by_cases e3 : j = a.1
          · rw [if_pos e3]
            omega
          · rw [if_neg e3]
            exact h2 j (by have : j < a.1 + 1 := hj; omega))
        rw [← Nat.add_assoc]
        exact this
      · rw [if_neg (fun z => e2 z.2), hR_full K d (i + 1) a (by omega)]
        exact ⟨h1, h2, Or.inl (by omega), by omega⟩
    · rw [if_neg (fun z => e z.1), if_neg (fun z => e (of_decide_eq_true z)), Nat.zero_add]
      exact hR_ok K d (i + 1) a (by omega) h1 h2
theorem c_house_lp (F : Nat) {K : Nat → Nat} (hb : ∀ j, j < 144 → K j ≤ 7) : ∀ (d i k : Nat) (s : St) (a : Nat × (Nat → Nat)), i + d = 144 → d < k → a.1 ≤ 10 → (∀ j, j < 144 → s.1 3 j = nI (K j)) → s.1 69 1 = nI a.1 → (∀ j, j < a.1 → s.1 70 j = nI (a.2 j)) →
    ∃ s', c_Net_findHouses_L7 F k (nI i) s = some s' ∧ s'.1 69 1 = nI (hR K i d a).1 ∧ (∀ j, j < (hR K i d a).1 → s'.1 70 j = nI ((hR K i d a).2 j)) ∧ Only [69, 70] [] s s' := by
  intro d
  induction d with
  | zero =>
    intro i k s a hi hk ha hK e1 e2
    obtain ⟨k, rfl⟩ : ∃ z, k = z + 1 := ⟨k - 1, by omega⟩
    refine ⟨s, ?_, e1, e2, Only.refl _ _ _⟩
    show c_Net_findHouses_L7b F (c_Net_findHouses_L7 F k) (nI i) s = _
    unfold c_Net_findHouses_L7b
    rw [if_pos (show (144 : Int32) ≤ nI i from nI_le (a := 144) (by omega) (by omega))]
  | succ d ih =>
    intro i k s a hi hk ha hK e1 e2
    obtain ⟨k, rfl⟩ : ∃ z, k = z + 1 := ⟨k - 1, by omega⟩
    have g0 : ¬ (144 : Int32) ≤ nI i := by
      rw [show (144 : Int32) = nI 144 from rfl, leI (by omega) (by omega)]
      omega
    have i1 : nI i + (1 : Int32) = nI (i + 1) := by rw [show (1 : Int32) = nI 1 from rfl, nI_add]
    have hbody : c_Net_findHouses_L7 F (k + 1) (nI i) s = c_Net_findHouses_L7b F (c_Net_findHouses_L7 F k) (nI i) s := rfl
    have hk7 := hb i (by omega)
    rw [hbody]
    unfold c_Net_findHouses_L7b c_Net_findHouses_J51
    rw [if_neg g0, e1, show (10 : Int32) = nI 10 from rfl, itLe (by omega) (by omega), inb_nI (show i < 144 by omega) (by decide), if_pos rfl, cl_nI (by omega), hK i (by omega), show (7 : Int32) = nI 7 from rfl, itEq (by omega) (by omega), i1, hR]
    by_cases h10 : 10 ≤ a.1
    · rw [if_pos h10, if_neg (by omega), hR_full K d (i + 1) a h10]
      exact ⟨s, rfl, e1, e2, Only.refl _ _ _⟩
    · rw [if_neg h10]
      by_cases h7 : K i = 7
      · rw [if_pos h7, if_pos (show K i = 7 ∧ a.1 < 10 from ⟨h7, by omega⟩), inb_nI (show a.1 < 10 by omega) (by decide), if_pos rfl, cl_nI (by omega), show nI a.1 + (1 : Int32) = nI (a.1 + 1) from by rw [show (1 : Int32) = nI 1 from rfl, nI_add]]
        obtain ⟨s', y1, y2, y3, y4⟩ := ih (i + 1) k (sI (sI s 69 1 (nI (a.1 + 1))) 70 a.1 (nI i)) (a.1 + 1, fun j => if j = a.1 then i else a.2 j) (by omega) (by omega) (by show a.1 + 1 ≤ 10; omega) hK (by rw [sI1_ne (by decide), sI1_eq, upd_eq]) (fun j hj => by
          show _ = nI (if j = a.1 then i else a.2 j)
          rw [sI1_eq]
          by_cases e3 : j = a.1
          · rw [e3, upd_eq, if_pos rfl]
          · rw [upd_ne e3, if_neg e3, sI1_ne (by decide)]
            exact e2 j (by have : j < a.1 + 1 := hj; omega))
        exact ⟨s', y1, y2, y3, ((Only.sI _ (by decide) _ _).trans (Only.sI _ (by decide) _ _)).trans y4⟩
      · rw [if_neg h7, if_neg (show ¬ (K i = 7 ∧ a.1 < 10) from fun z => h7 z.1)]
        exact ih (i + 1) k s a (by omega) (by omega) ha hK e1 e2
