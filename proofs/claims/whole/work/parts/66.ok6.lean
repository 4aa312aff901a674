/-! each method does what its mirror says -/
set_option maxRecDepth 100000 in
set_option maxHeartbeats 4000000 in
theorem ok_m_gives_v1 {l : Launch} {D : va_G} {cy : Nat → ClassId} {ad sa : Nat → Nat} {A : Nat → Prop} {F : Nat} {a1 : Int32} {s0 : St} {ρ : Int32} {σ' : St} (h : m_gives_v1 F a1 s0 = some (ρ, σ')) : gMi l shM D cy ad sa A yX12_gives cX12_gives 4 (some .int) 1 [.ref (ad 0), .int a1, .ref (ad 3)] s0 ρ σ' := by
  refine gM_of (by decide) (Nat.le_of_ble_eq_true rfl) ?_
  intro p e s m args below meth c ls X G Y hr hlk hl
  have hl : lv_has ls 4 [(0, .ref (ad 0)), (1, .int a1), (2, .ref (ad 3))] := hl
  have b2 : ∀ n : Nat, ∀ (x1 : Int32) (x3 : Int32) (s0 : St) (H : Heap) (locs : List Loc) (ls : Array Slot), m_gives_v1_L2 F  n x1 x3 s0 = some (ρ, σ') → gY shM D cy ad A s0 s H locs → lv_has ls 4 [(0, .ref (ad 0)), (1, .int x1), (2, .ref (ad 3)), (3, .int x3)] → W p l e (grm 1) s m args below meth c H locs 0 0 (MQ below (va_Qi (fun (q : Int32) (_ : Unit) => q = ρ) (fun _ t => va_P D vwCl (gWl shM cy ad σ') t.heap) A) args s 0 0 A) (F0 m 2 ls []) := by
    intro n
    induction n with
    | zero => intro x1 x3 s0 H locs ls h Y hl; exact (gnone h).elim
    | succ n hk2 =>
      have e : m_gives_v1_L2 F  (n + 1) = m_gives_v1_L2b F  (m_gives_v1_L2 F  n) := rfl
      rw [e]; clear e
      generalize m_gives_v1_L2 F  n = k2 at hk2 ⊢
      intro x1 x3 s0 H locs ls h Y hl
      unfold m_gives_v1_L2b at h
      refine lv_iload_n X.1 X.2.1 (dck_at da_X12_gives 2 rfl) rfl (lv_at hl 3 rfl) ?_
      refine lv_aload_n X.1 X.2.1 (dck_at da_X12_gives 3 rfl) rfl (lv_at hl 2 rfl) ?_
      refine gr_alen (v := 144) X G Y clM_3 (by decide) rfl (dck_at da_X12_gives 4 rfl) ?_
      refine lv_icmp_ge (tgt := 25) X.1 X.2.1 (dck_at da_X12_gives 5 rfl) rfl (fun c => ?_) (fun c => ?_)
      · have h := gI_pos h c
        refine lv_iload_n X.1 X.2.1 (dck_at da_X12_gives 17 rfl) rfl (lv_at hl 1 rfl) ?_
        refine lv_aload_n X.1 X.2.1 (dck_at da_X12_gives 18 rfl) rfl (lv_at hl 2 rfl) ?_
        refine gr_alen (v := 144) X G Y clM_3 (by decide) rfl (dck_at da_X12_gives 19 rfl) ?_
        refine lv_iadd X.1 X.2.1 (dck_at da_X12_gives 20 rfl) ?_
        exact gr_iretO X Y h hr rfl hlk (dck_at da_X12_gives 21 rfl)
      · have h := gI_neg h c
        refine lv_aload_n X.1 X.2.1 (dck_at da_X12_gives 6 rfl) rfl (lv_at hl 2 rfl) ?_
        refine lv_iload_n X.1 X.2.1 (dck_at da_X12_gives 7 rfl) rfl (lv_at hl 3 rfl) ?_
        refine lv_aload_n X.1 X.2.1 (dck_at da_X12_gives 8 rfl) rfl (lv_at hl 0 rfl) ?_
        refine gr_getR X G Y fk_RX12_89 clM_0 rfl (dck_at da_X12_gives 9 rfl) ?_
        refine lv_iload_n X.1 X.2.1 (dck_at da_X12_gives 10 rfl) rfl (lv_at hl 1 rfl) ?_
        refine lv_iload_n X.1 X.2.1 (dck_at da_X12_gives 11 rfl) rfl (lv_at hl 3 rfl) ?_
        refine lv_iadd X.1 X.2.1 (dck_at da_X12_gives 12 rfl) ?_
        obtain ⟨hin, h⟩ := gI_if h
        refine gr_iald X G Y clM_27 hin (dck_at da_X12_gives 13 rfl) ?_
        obtain ⟨hin, h⟩ := gI_if h
        refine gr_iast X G Y clM_3 hin (dck_at da_X12_gives 14 rfl) (fun H locs Y => ?_)
        refine lv_iinc (v := x3 + (1 : Int32)) (lv' := [(3, .int (x3 + (1 : Int32))), (0, .ref (ad 0)), (1, .int x1), (2, .ref (ad 3))]) X.1 X.2.1 (dck_at da_X12_gives 15 rfl) hl (k := 3) rfl (congrArg (HAdd.hAdd _) ki_1) (by decide) rfl (fun ls hl => ?_)
        refine lv_goto (tgt := 2) X.1 X.2.1 (dck_at da_X12_gives 16 rfl) rfl ?_
        exact hk2 x1 (x3 + (1 : Int32)) (sI s0 3 (x3).toNatClampNeg (s0.1 27 (x1 + x3).toNatClampNeg)) _ _ _ h Y (lv_sub hl [1, 2, 3, 0] rfl)
  unfold m_gives_v1 at h
  refine lv_iconst X.1 X.2.1 (dck_at da_X12_gives 0 rfl) ki_0 ?_
  refine lv_istore_n (lv' := [(3, .int (0 : Int32)), (0, .ref (ad 0)), (1, .int a1), (2, .ref (ad 3))]) X.1 X.2.1 (dck_at da_X12_gives 1 rfl) rfl hl (by decide) rfl (fun ls hl => ?_)
  exact b2 F a1 (0 : Int32) s0 _ _ _ h Y (lv_sub hl [1, 2, 3, 0] rfl)
set_option maxRecDepth 100000 in
set_option maxHeartbeats 4000000 in
theorem ok_m_gives_v2 {l : Launch} {D : va_G} {cy : Nat → ClassId} {ad sa : Nat → Nat} {A : Nat → Prop} {F : Nat} {a1 : Int32} {s0 : St} {ρ : Int32} {σ' : St} (h : m_gives_v2 F a1 s0 = some (ρ, σ')) : gMi l shM D cy ad sa A yX12_gives cX12_gives 4 (some .int) 1 [.ref (ad 0), .int a1, .ref (ad 4)] s0 ρ σ' := by
  refine gM_of (by decide) (Nat.le_of_ble_eq_true rfl) ?_
  intro p e s m args below meth c ls X G Y hr hlk hl
  have hl : lv_has ls 4 [(0, .ref (ad 0)), (1, .int a1), (2, .ref (ad 4))] := hl
  have b2 : ∀ n : Nat, ∀ (x1 : Int32) (x3 : Int32) (s0 : St) (H : Heap) (locs : List Loc) (ls : Array Slot), m_gives_v2_L2 F  n x1 x3 s0 = some (ρ, σ') → gY shM D cy ad A s0 s H locs → lv_has ls 4 [(0, .ref (ad 0)), (1, .int x1), (2, .ref (ad 4)), (3, .int x3)] → W p l e (grm 1) s m args below meth c H locs 0 0 (MQ below (va_Qi (fun (q : Int32) (_ : Unit) => q = ρ) (fun _ t => va_P D vwCl (gWl shM cy ad σ') t.heap) A) args s 0 0 A) (F0 m 2 ls []) := by
    intro n
    induction n with
    | zero => intro x1 x3 s0 H locs ls h Y hl; exact (gnone h).elim
    | succ n hk2 =>
      have e : m_gives_v2_L2 F  (n + 1) = m_gives_v2_L2b F  (m_gives_v2_L2 F  n) := rfl
      rw [e]; clear e
      generalize m_gives_v2_L2 F  n = k2 at hk2 ⊢
      intro x1 x3 s0 H locs ls h Y hl
      unfold m_gives_v2_L2b at h
      refine lv_iload_n X.1 X.2.1 (dck_at da_X12_gives 2 rfl) rfl (lv_at hl 3 rfl) ?_
      refine lv_aload_n X.1 X.2.1 (dck_at da_X12_gives 3 rfl) rfl (lv_at hl 2 rfl) ?_
      refine gr_alen (v := 144) X G Y clM_4 (by decide) rfl (dck_at da_X12_gives 4 rfl) ?_
      refine lv_icmp_ge (tgt := 25) X.1 X.2.1 (dck_at da_X12_gives 5 rfl) rfl (fun c => ?_) (fun c => ?_)
      · have h := gI_pos h c
        refine lv_iload_n X.1 X.2.1 (dck_at da_X12_gives 17 rfl) rfl (lv_at hl 1 rfl) ?_
        refine lv_aload_n X.1 X.2.1 (dck_at da_X12_gives 18 rfl) rfl (lv_at hl 2 rfl) ?_
        refine gr_alen (v := 144) X G Y clM_4 (by decide) rfl (dck_at da_X12_gives 19 rfl) ?_
        refine lv_iadd X.1 X.2.1 (dck_at da_X12_gives 20 rfl) ?_
        exact gr_iretO X Y h hr rfl hlk (dck_at da_X12_gives 21 rfl)
      · have h := gI_neg h c
        refine lv_aload_n X.1 X.2.1 (dck_at da_X12_gives 6 rfl) rfl (lv_at hl 2 rfl) ?_
        refine lv_iload_n X.1 X.2.1 (dck_at da_X12_gives 7 rfl) rfl (lv_at hl 3 rfl) ?_
        refine lv_aload_n X.1 X.2.1 (dck_at da_X12_gives 8 rfl) rfl (lv_at hl 0 rfl) ?_
        refine gr_getR X G Y fk_RX12_89 clM_0 rfl (dck_at da_X12_gives 9 rfl) ?_
        refine lv_iload_n X.1 X.2.1 (dck_at da_X12_gives 10 rfl) rfl (lv_at hl 1 rfl) ?_
        refine lv_iload_n X.1 X.2.1 (dck_at da_X12_gives 11 rfl) rfl (lv_at hl 3 rfl) ?_
        refine lv_iadd X.1 X.2.1 (dck_at da_X12_gives 12 rfl) ?_
        obtain ⟨hin, h⟩ := gI_if h
        refine gr_iald X G Y clM_27 hin (dck_at da_X12_gives 13 rfl) ?_
        obtain ⟨hin, h⟩ := gI_if h
        refine gr_iast X G Y clM_4 hin (dck_at da_X12_gives 14 rfl) (fun H locs Y => ?_)
        refine lv_iinc (v := x3 + (1 : Int32)) (lv' := [(3, .int (x3 + (1 : Int32))), (0, .ref (ad 0)), (1, .int x1), (2, .ref (ad 4))]) X.1 X.2.1 (dck_at da_X12_gives 15 rfl) hl (k := 3) rfl (congrArg (HAdd.hAdd _) ki_1) (by decide) rfl (fun ls hl => ?_)
        refine lv_goto (tgt := 2) X.1 X.2.1 (dck_at da_X12_gives 16 rfl) rfl ?_
        exact hk2 x1 (x3 + (1 : Int32)) (sI s0 4 (x3).toNatClampNeg (s0.1 27 (x1 + x3).toNatClampNeg)) _ _ _ h Y (lv_sub hl [1, 2, 3, 0] rfl)
  unfold m_gives_v2 at h
  refine lv_iconst X.1 X.2.1 (dck_at da_X12_gives 0 rfl) ki_0 ?_
  refine lv_istore_n (lv' := [(3, .int (0 : Int32)), (0, .ref (ad 0)), (1, .int a1), (2, .ref (ad 4))]) X.1 X.2.1 (dck_at da_X12_gives 1 rfl) rfl hl (by decide) rfl (fun ls hl => ?_)
  exact b2 F a1 (0 : Int32) s0 _ _ _ h Y (lv_sub hl [1, 2, 3, 0] rfl)
set_option maxRecDepth 100000 in
set_option maxHeartbeats 4000000 in
theorem ok_m_gives_v3 {l : Launch} {D : va_G} {cy : Nat → ClassId} {ad sa : Nat → Nat} {A : Nat → Prop} {F : Nat} {a1 : Int32} {s0 : St} {ρ : Int32} {σ' : St} (h : m_gives_v3 F a1 s0 = some (ρ, σ')) : gMi l shM D cy ad sa A yX12_gives cX12_gives 4 (some .int) 1 [.ref (ad 0), .int a1, .ref (ad 5)] s0 ρ σ' := by
  refine gM_of (by decide) (Nat.le_of_ble_eq_true rfl) ?_
  intro p e s m args below meth c ls X G Y hr hlk hl
  have hl : lv_has ls 4 [(0, .ref (ad 0)), (1, .int a1), (2, .ref (ad 5))] := hl
  have b2 : ∀ n : Nat, ∀ (x1 : Int32) (x3 : Int32) (s0 : St) (H : Heap) (locs : List Loc) (ls : Array Slot), m_gives_v3_L2 F  n x1 x3 s0 = some (ρ, σ') → gY shM D cy ad A s0 s H locs → lv_has ls 4 [(0, .ref (ad 0)), (1, .int x1), (2, .ref (ad 5)), (3, .int x3)] → W p l e (grm 1) s m args below meth c H locs 0 0 (MQ below (va_Qi (fun (q : Int32) (_ : Unit) => q = ρ) (fun _ t => va_P D vwCl (gWl shM cy ad σ') t.heap) A) args s 0 0 A) (F0 m 2 ls []) := by
    intro n
    induction n with
    | zero => intro x1 x3 s0 H locs ls h Y hl; exact (gnone h).elim
    | succ n hk2 =>
      have e : m_gives_v3_L2 F  (n + 1) = m_gives_v3_L2b F  (m_gives_v3_L2 F  n) := rfl
      rw [e]; clear e
      generalize m_gives_v3_L2 F  n = k2 at hk2 ⊢
      intro x1 x3 s0 H locs ls h Y hl
      unfold m_gives_v3_L2b at h
      refine lv_iload_n X.1 X.2.1 (dck_at da_X12_gives 2 rfl) rfl (lv_at hl 3 rfl) ?_
      refine lv_aload_n X.1 X.2.1 (dck_at da_X12_gives 3 rfl) rfl (lv_at hl 2 rfl) ?_
      refine gr_alen (v := 10) X G Y clM_5 (by decide) rfl (dck_at da_X12_gives 4 rfl) ?_
      refine lv_icmp_ge (tgt := 25) X.1 X.2.1 (dck_at da_X12_gives 5 rfl) rfl (fun c => ?_) (fun c => ?_)
      · have h := gI_pos h c
        refine lv_iload_n X.1 X.2.1 (dck_at da_X12_gives 17 rfl) rfl (lv_at hl 1 rfl) ?_
        refine lv_aload_n X.1 X.2.1 (dck_at da_X12_gives 18 rfl) rfl (lv_at hl 2 rfl) ?_
        refine gr_alen (v := 10) X G Y clM_5 (by decide) rfl (dck_at da_X12_gives 19 rfl) ?_
        refine lv_iadd X.1 X.2.1 (dck_at da_X12_gives 20 rfl) ?_
        exact gr_iretO X Y h hr rfl hlk (dck_at da_X12_gives 21 rfl)
      · have h := gI_neg h c
        refine lv_aload_n X.1 X.2.1 (dck_at da_X12_gives 6 rfl) rfl (lv_at hl 2 rfl) ?_
        refine lv_iload_n X.1 X.2.1 (dck_at da_X12_gives 7 rfl) rfl (lv_at hl 3 rfl) ?_
        refine lv_aload_n X.1 X.2.1 (dck_at da_X12_gives 8 rfl) rfl (lv_at hl 0 rfl) ?_
        refine gr_getR X G Y fk_RX12_89 clM_0 rfl (dck_at da_X12_gives 9 rfl) ?_
        refine lv_iload_n X.1 X.2.1 (dck_at da_X12_gives 10 rfl) rfl (lv_at hl 1 rfl) ?_
        refine lv_iload_n X.1 X.2.1 (dck_at da_X12_gives 11 rfl) rfl (lv_at hl 3 rfl) ?_
        refine lv_iadd X.1 X.2.1 (dck_at da_X12_gives 12 rfl) ?_
        obtain ⟨hin, h⟩ := gI_if h
        refine gr_iald X G Y clM_27 hin (dck_at da_X12_gives 13 rfl) ?_
        obtain ⟨hin, h⟩ := gI_if h
        refine gr_iast X G Y clM_5 hin (dck_at da_X12_gives 14 rfl) (fun H locs Y => ?_)
        refine lv_iinc (v := x3 + (1 : Int32)) (lv' := [(3, .int (x3 + (1 : Int32))), (0, .ref (ad 0)), (1, .int x1), (2, .ref (ad 5))]) X.1 X.2.1 (dck_at da_X12_gives 15 rfl) hl (k := 3) rfl (congrArg (HAdd.hAdd _) ki_1) (by decide) rfl (fun ls hl => ?_)
        refine lv_goto (tgt := 2) X.1 X.2.1 (dck_at da_X12_gives 16 rfl) rfl ?_
        exact hk2 x1 (x3 + (1 : Int32)) (sI s0 5 (x3).toNatClampNeg (s0.1 27 (x1 + x3).toNatClampNeg)) _ _ _ h Y (lv_sub hl [1, 2, 3, 0] rfl)
  unfold m_gives_v3 at h
  refine lv_iconst X.1 X.2.1 (dck_at da_X12_gives 0 rfl) ki_0 ?_
  refine lv_istore_n (lv' := [(3, .int (0 : Int32)), (0, .ref (ad 0)), (1, .int a1), (2, .ref (ad 5))]) X.1 X.2.1 (dck_at da_X12_gives 1 rfl) rfl hl (by decide) rfl (fun ls hl => ?_)
  exact b2 F a1 (0 : Int32) s0 _ _ _ h Y (lv_sub hl [1, 2, 3, 0] rfl)
set_option maxRecDepth 100000 in
set_option maxHeartbeats 4000000 in
theorem ok_m_gives_v4 {l : Launch} {D : va_G} {cy : Nat → ClassId} {ad sa : Nat → Nat} {A : Nat → Prop} {F : Nat} {a1 : Int32} {s0 : St} {ρ : Int32} {σ' : St} (h : m_gives_v4 F a1 s0 = some (ρ, σ')) : gMi l shM D cy ad sa A yX12_gives cX12_gives 4 (some .int) 1 [.ref (ad 0), .int a1, .ref (ad 6)] s0 ρ σ' := by
  refine gM_of (by decide) (Nat.le_of_ble_eq_true rfl) ?_
  intro p e s m args below meth c ls X G Y hr hlk hl
  have hl : lv_has ls 4 [(0, .ref (ad 0)), (1, .int a1), (2, .ref (ad 6))] := hl
  have b2 : ∀ n : Nat, ∀ (x1 : Int32) (x3 : Int32) (s0 : St) (H : Heap) (locs : List Loc) (ls : Array Slot), m_gives_v4_L2 F  n x1 x3 s0 = some (ρ, σ') → gY shM D cy ad A s0 s H locs → lv_has ls 4 [(0, .ref (ad 0)), (1, .int x1), (2, .ref (ad 6)), (3, .int x3)] → W p l e (grm 1) s m args below meth c H locs 0 0 (MQ below (va_Qi (fun (q : Int32) (_ : Unit) => q = ρ) (fun _ t => va_P D vwCl (gWl shM cy ad σ') t.heap) A) args s 0 0 A) (F0 m 2 ls []) := by
    intro n
    induction n with
    | zero => intro x1 x3 s0 H locs ls h Y hl; exact (gnone h).elim
    | succ n hk2 =>
      have e : m_gives_v4_L2 F  (n + 1) = m_gives_v4_L2b F  (m_gives_v4_L2 F  n) := rfl
      rw [e]; clear e
      generalize m_gives_v4_L2 F  n = k2 at hk2 ⊢
      intro x1 x3 s0 H locs ls h Y hl
      unfold m_gives_v4_L2b at h
      refine lv_iload_n X.1 X.2.1 (dck_at da_X12_gives 2 rfl) rfl (lv_at hl 3 rfl) ?_
      refine lv_aload_n X.1 X.2.1 (dck_at da_X12_gives 3 rfl) rfl (lv_at hl 2 rfl) ?_
      refine gr_alen (v := 8) X G Y clM_6 (by decide) rfl (dck_at da_X12_gives 4 rfl) ?_
      refine lv_icmp_ge (tgt := 25) X.1 X.2.1 (dck_at da_X12_gives 5 rfl) rfl (fun c => ?_) (fun c => ?_)
      · have h := gI_pos h c
        refine lv_iload_n X.1 X.2.1 (dck_at da_X12_gives 17 rfl) rfl (lv_at hl 1 rfl) ?_
        refine lv_aload_n X.1 X.2.1 (dck_at da_X12_gives 18 rfl) rfl (lv_at hl 2 rfl) ?_
        refine gr_alen (v := 8) X G Y clM_6 (by decide) rfl (dck_at da_X12_gives 19 rfl) ?_
        refine lv_iadd X.1 X.2.1 (dck_at da_X12_gives 20 rfl) ?_
        exact gr_iretO X Y h hr rfl hlk (dck_at da_X12_gives 21 rfl)
      · have h := gI_neg h c
        refine lv_aload_n X.1 X.2.1 (dck_at da_X12_gives 6 rfl) rfl (lv_at hl 2 rfl) ?_
        refine lv_iload_n X.1 X.2.1 (dck_at da_X12_gives 7 rfl) rfl (lv_at hl 3 rfl) ?_
        refine lv_aload_n X.1 X.2.1 (dck_at da_X12_gives 8 rfl) rfl (lv_at hl 0 rfl) ?_
        refine gr_getR X G Y fk_RX12_89 clM_0 rfl (dck_at da_X12_gives 9 rfl) ?_
        refine lv_iload_n X.1 X.2.1 (dck_at da_X12_gives 10 rfl) rfl (lv_at hl 1 rfl) ?_
        refine lv_iload_n X.1 X.2.1 (dck_at da_X12_gives 11 rfl) rfl (lv_at hl 3 rfl) ?_
        refine lv_iadd X.1 X.2.1 (dck_at da_X12_gives 12 rfl) ?_
        obtain ⟨hin, h⟩ := gI_if h
        refine gr_iald X G Y clM_27 hin (dck_at da_X12_gives 13 rfl) ?_
        obtain ⟨hin, h⟩ := gI_if h
        refine gr_iast X G Y clM_6 hin (dck_at da_X12_gives 14 rfl) (fun H locs Y => ?_)
        refine lv_iinc (v := x3 + (1 : Int32)) (lv' := [(3, .int (x3 + (1 : Int32))), (0, .ref (ad 0)), (1, .int x1), (2, .ref (ad 6))]) X.1 X.2.1 (dck_at da_X12_gives 15 rfl) hl (k := 3) rfl (congrArg (HAdd.hAdd _) ki_1) (by decide) rfl (fun ls hl => ?_)
        refine lv_goto (tgt := 2) X.1 X.2.1 (dck_at da_X12_gives 16 rfl) rfl ?_
        exact hk2 x1 (x3 + (1 : Int32)) (sI s0 6 (x3).toNatClampNeg (s0.1 27 (x1 + x3).toNatClampNeg)) _ _ _ h Y (lv_sub hl [1, 2, 3, 0] rfl)
  unfold m_gives_v4 at h
  refine lv_iconst X.1 X.2.1 (dck_at da_X12_gives 0 rfl) ki_0 ?_
  refine lv_istore_n (lv' := [(3, .int (0 : Int32)), (0, .ref (ad 0)), (1, .int a1), (2, .ref (ad 6))]) X.1 X.2.1 (dck_at da_X12_gives 1 rfl) rfl hl (by decide) rfl (fun ls hl => ?_)
  exact b2 F a1 (0 : Int32) s0 _ _ _ h Y (lv_sub hl [1, 2, 3, 0] rfl)
set_option maxRecDepth 100000 in
set_option maxHeartbeats 4000000 in
theorem ok_m_gives_v5 {l : Launch} {D : va_G} {cy : Nat → ClassId} {ad sa : Nat → Nat} {A : Nat → Prop} {F : Nat} {a1 : Int32} {s0 : St} {ρ : Int32} {σ' : St} (h : m_gives_v5 F a1 s0 = some (ρ, σ')) : gMi l shM D cy ad sa A yX12_gives cX12_gives 4 (some .int) 1 [.ref (ad 0), .int a1, .ref (ad 11)] s0 ρ σ' := by
  refine gM_of (by decide) (Nat.le_of_ble_eq_true rfl) ?_
  intro p e s m args below meth c ls X G Y hr hlk hl
  have hl : lv_has ls 4 [(0, .ref (ad 0)), (1, .int a1), (2, .ref (ad 11))] := hl
  have b2 : ∀ n : Nat, ∀ (x1 : Int32) (x3 : Int32) (s0 : St) (H : Heap) (locs : List Loc) (ls : Array Slot), m_gives_v5_L2 F  n x1 x3 s0 = some (ρ, σ') → gY shM D cy ad A s0 s H locs → lv_has ls 4 [(0, .ref (ad 0)), (1, .int x1), (2, .ref (ad 11)), (3, .int x3)] → W p l e (grm 1) s m args below meth c H locs 0 0 (MQ below (va_Qi (fun (q : Int32) (_ : Unit) => q = ρ) (fun _ t => va_P D vwCl (gWl shM cy ad σ') t.heap) A) args s 0 0 A) (F0 m 2 ls []) := by
    intro n
    induction n with
    | zero => intro x1 x3 s0 H locs ls h Y hl; exact (gnone h).elim
    | succ n hk2 =>
      have e : m_gives_v5_L2 F  (n + 1) = m_gives_v5_L2b F  (m_gives_v5_L2 F  n) := rfl
      rw [e]; clear e
      generalize m_gives_v5_L2 F  n = k2 at hk2 ⊢
      intro x1 x3 s0 H locs ls h Y hl
      unfold m_gives_v5_L2b at h
      refine lv_iload_n X.1 X.2.1 (dck_at da_X12_gives 2 rfl) rfl (lv_at hl 3 rfl) ?_
      refine lv_aload_n X.1 X.2.1 (dck_at da_X12_gives 3 rfl) rfl (lv_at hl 2 rfl) ?_
      refine gr_alen (v := 4) X G Y clM_11 (by decide) rfl (dck_at da_X12_gives 4 rfl) ?_
      refine lv_icmp_ge (tgt := 25) X.1 X.2.1 (dck_at da_X12_gives 5 rfl) rfl (fun c => ?_) (fun c => ?_)
      · have h := gI_pos h c
        refine lv_iload_n X.1 X.2.1 (dck_at da_X12_gives 17 rfl) rfl (lv_at hl 1 rfl) ?_
        refine lv_aload_n X.1 X.2.1 (dck_at da_X12_gives 18 rfl) rfl (lv_at hl 2 rfl) ?_
        refine gr_alen (v := 4) X G Y clM_11 (by decide) rfl (dck_at da_X12_gives 19 rfl) ?_
        refine lv_iadd X.1 X.2.1 (dck_at da_X12_gives 20 rfl) ?_
        exact gr_iretO X Y h hr rfl hlk (dck_at da_X12_gives 21 rfl)
      · have h := gI_neg h c
        refine lv_aload_n X.1 X.2.1 (dck_at da_X12_gives 6 rfl) rfl (lv_at hl 2 rfl) ?_
        refine lv_iload_n X.1 X.2.1 (dck_at da_X12_gives 7 rfl) rfl (lv_at hl 3 rfl) ?_
        refine lv_aload_n X.1 X.2.1 (dck_at da_X12_gives 8 rfl) rfl (lv_at hl 0 rfl) ?_
        refine gr_getR X G Y fk_RX12_89 clM_0 rfl (dck_at da_X12_gives 9 rfl) ?_
        refine lv_iload_n X.1 X.2.1 (dck_at da_X12_gives 10 rfl) rfl (lv_at hl 1 rfl) ?_
        refine lv_iload_n X.1 X.2.1 (dck_at da_X12_gives 11 rfl) rfl (lv_at hl 3 rfl) ?_
        refine lv_iadd X.1 X.2.1 (dck_at da_X12_gives 12 rfl) ?_
        obtain ⟨hin, h⟩ := gI_if h
        refine gr_iald X G Y clM_27 hin (dck_at da_X12_gives 13 rfl) ?_
        obtain ⟨hin, h⟩ := gI_if h
        refine gr_iast X G Y clM_11 hin (dck_at da_X12_gives 14 rfl) (fun H locs Y => ?_)
        refine lv_iinc (v := x3 + (1 : Int32)) (lv' := [(3, .int (x3 + (1 : Int32))), (0, .ref (ad 0)), (1, .int x1), (2, .ref (ad 11))]) X.1 X.2.1 (dck_at da_X12_gives 15 rfl) hl (k := 3) rfl (congrArg (HAdd.hAdd _) ki_1) (by decide) rfl (fun ls hl => ?_)
        refine lv_goto (tgt := 2) X.1 X.2.1 (dck_at da_X12_gives 16 rfl) rfl ?_
        exact hk2 x1 (x3 + (1 : Int32)) (sI s0 11 (x3).toNatClampNeg (s0.1 27 (x1 + x3).toNatClampNeg)) _ _ _ h Y (lv_sub hl [1, 2, 3, 0] rfl)
  unfold m_gives_v5 at h
  refine lv_iconst X.1 X.2.1 (dck_at da_X12_gives 0 rfl) ki_0 ?_
  refine lv_istore_n (lv' := [(3, .int (0 : Int32)), (0, .ref (ad 0)), (1, .int a1), (2, .ref (ad 11))]) X.1 X.2.1 (dck_at da_X12_gives 1 rfl) rfl hl (by decide) rfl (fun ls hl => ?_)
  exact b2 F a1 (0 : Int32) s0 _ _ _ h Y (lv_sub hl [1, 2, 3, 0] rfl)
set_option maxRecDepth 100000 in
set_option maxHeartbeats 4000000 in
theorem ok_m_gives_v6 {l : Launch} {D : va_G} {cy : Nat → ClassId} {ad sa : Nat → Nat} {A : Nat → Prop} {F : Nat} {a1 : Int32} {s0 : St} {ρ : Int32} {σ' : St} (h : m_gives_v6 F a1 s0 = some (ρ, σ')) : gMi l shM D cy ad sa A yX12_gives cX12_gives 4 (some .int) 1 [.ref (ad 0), .int a1, .ref (ad 12)] s0 ρ σ' := by
  refine gM_of (by decide) (Nat.le_of_ble_eq_true rfl) ?_
  intro p e s m args below meth c ls X G Y hr hlk hl
  have hl : lv_has ls 4 [(0, .ref (ad 0)), (1, .int a1), (2, .ref (ad 12))] := hl
  have b2 : ∀ n : Nat, ∀ (x1 : Int32) (x3 : Int32) (s0 : St) (H : Heap) (locs : List Loc) (ls : Array Slot), m_gives_v6_L2 F  n x1 x3 s0 = some (ρ, σ') → gY shM D cy ad A s0 s H locs → lv_has ls 4 [(0, .ref (ad 0)), (1, .int x1), (2, .ref (ad 12)), (3, .int x3)] → W p l e (grm 1) s m args below meth c H locs 0 0 (MQ below (va_Qi (fun (q : Int32) (_ : Unit) => q = ρ) (fun _ t => va_P D vwCl (gWl shM cy ad σ') t.heap) A) args s 0 0 A) (F0 m 2 ls []) := by
    intro n
    induction n with
    | zero => intro x1 x3 s0 H locs ls h Y hl; exact (gnone h).elim
    | succ n hk2 =>
      have e : m_gives_v6_L2 F  (n + 1) = m_gives_v6_L2b F  (m_gives_v6_L2 F  n) := rfl
      rw [e]; clear e
      generalize m_gives_v6_L2 F  n = k2 at hk2 ⊢
      intro x1 x3 s0 H locs ls h Y hl
      unfold m_gives_v6_L2b at h
      refine lv_iload_n X.1 X.2.1 (dck_at da_X12_gives 2 rfl) rfl (lv_at hl 3 rfl) ?_
      refine lv_aload_n X.1 X.2.1 (dck_at da_X12_gives 3 rfl) rfl (lv_at hl 2 rfl) ?_
      refine gr_alen (v := 4) X G Y clM_12 (by decide) rfl (dck_at da_X12_gives 4 rfl) ?_
      refine lv_icmp_ge (tgt := 25) X.1 X.2.1 (dck_at da_X12_gives 5 rfl) rfl (fun c => ?_) (fun c => ?_)
      · have h := gI_pos h c
        refine lv_iload_n X.1 X.2.1 (dck_at da_X12_gives 17 rfl) rfl (lv_at hl 1 rfl) ?_
        refine lv_aload_n X.1 X.2.1 (dck_at da_X12_gives 18 rfl) rfl (lv_at hl 2 rfl) ?_
        refine gr_alen (v := 4) X G Y clM_12 (by decide) rfl (dck_at da_X12_gives 19 rfl) ?_
        refine lv_iadd X.1 X.2.1 (dck_at da_X12_gives 20 rfl) ?_
        exact gr_iretO X Y h hr rfl hlk (dck_at da_X12_gives 21 rfl)
      · have h := gI_neg h c
        refine lv_aload_n X.1 X.2.1 (dck_at da_X12_gives 6 rfl) rfl (lv_at hl 2 rfl) ?_
        refine lv_iload_n X.1 X.2.1 (dck_at da_X12_gives 7 rfl) rfl (lv_at hl 3 rfl) ?_
        refine lv_aload_n X.1 X.2.1 (dck_at da_X12_gives 8 rfl) rfl (lv_at hl 0 rfl) ?_
        refine gr_getR X G Y fk_RX12_89 clM_0 rfl (dck_at da_X12_gives 9 rfl) ?_
        refine lv_iload_n X.1 X.2.1 (dck_at da_X12_gives 10 rfl) rfl (lv_at hl 1 rfl) ?_
        refine lv_iload_n X.1 X.2.1 (dck_at da_X12_gives 11 rfl) rfl (lv_at hl 3 rfl) ?_
        refine lv_iadd X.1 X.2.1 (dck_at da_X12_gives 12 rfl) ?_
        obtain ⟨hin, h⟩ := gI_if h
        refine gr_iald X G Y clM_27 hin (dck_at da_X12_gives 13 rfl) ?_
        obtain ⟨hin, h⟩ := gI_if h
        refine gr_iast X G Y clM_12 hin (dck_at da_X12_gives 14 rfl) (fun H locs Y => ?_)
        refine lv_iinc (v := x3 + (1 : Int32)) (lv' := [(3, .int (x3 + (1 : Int32))), (0, .ref (ad 0)), (1, .int x1), (2, .ref (ad 12))]) X.1 X.2.1 (dck_at da_X12_gives 15 rfl) hl (k := 3) rfl (congrArg (HAdd.hAdd _) ki_1) (by decide) rfl (fun ls hl => ?_)
        refine lv_goto (tgt := 2) X.1 X.2.1 (dck_at da_X12_gives 16 rfl) rfl ?_
        exact hk2 x1 (x3 + (1 : Int32)) (sI s0 12 (x3).toNatClampNeg (s0.1 27 (x1 + x3).toNatClampNeg)) _ _ _ h Y (lv_sub hl [1, 2, 3, 0] rfl)
  unfold m_gives_v6 at h
  refine lv_iconst X.1 X.2.1 (dck_at da_X12_gives 0 rfl) ki_0 ?_
  refine lv_istore_n (lv' := [(3, .int (0 : Int32)), (0, .ref (ad 0)), (1, .int a1), (2, .ref (ad 12))]) X.1 X.2.1 (dck_at da_X12_gives 1 rfl) rfl hl (by decide) rfl (fun ls hl => ?_)
  exact b2 F a1 (0 : Int32) s0 _ _ _ h Y (lv_sub hl [1, 2, 3, 0] rfl)
set_option maxRecDepth 100000 in
set_option maxHeartbeats 4000000 in
theorem ok_m_gives_v7 {l : Launch} {D : va_G} {cy : Nat → ClassId} {ad sa : Nat → Nat} {A : Nat → Prop} {F : Nat} {a1 : Int32} {s0 : St} {ρ : Int32} {σ' : St} (h : m_gives_v7 F a1 s0 = some (ρ, σ')) : gMi l shM D cy ad sa A yX12_gives cX12_gives 4 (some .int) 1 [.ref (ad 0), .int a1, .ref (ad 13)] s0 ρ σ' := by
  refine gM_of (by decide) (Nat.le_of_ble_eq_true rfl) ?_
  intro p e s m args below meth c ls X G Y hr hlk hl
  have hl : lv_has ls 4 [(0, .ref (ad 0)), (1, .int a1), (2, .ref (ad 13))] := hl
  have b2 : ∀ n : Nat, ∀ (x1 : Int32) (x3 : Int32) (s0 : St) (H : Heap) (locs : List Loc) (ls : Array Slot), m_gives_v7_L2 F  n x1 x3 s0 = some (ρ, σ') → gY shM D cy ad A s0 s H locs → lv_has ls 4 [(0, .ref (ad 0)), (1, .int x1), (2, .ref (ad 13)), (3, .int x3)] → W p l e (grm 1) s m args below meth c H locs 0 0 (MQ below (va_Qi (fun (q : Int32) (_ : Unit) => q = ρ) (fun _ t => va_P D vwCl (gWl shM cy ad σ') t.heap) A) args s 0 0 A) (F0 m 2 ls []) := by
    intro n
    induction n with
    | zero => intro x1 x3 s0 H locs ls h Y hl; exact (gnone h).elim
    | succ n hk2 =>
      have e : m_gives_v7_L2 F  (n + 1) = m_gives_v7_L2b F  (m_gives_v7_L2 F  n) := rfl
      rw [e]; clear e
      generalize m_gives_v7_L2 F  n = k2 at hk2 ⊢
      intro x1 x3 s0 H locs ls h Y hl
      unfold m_gives_v7_L2b at h
      refine lv_iload_n X.1 X.2.1 (dck_at da_X12_gives 2 rfl) rfl (lv_at hl 3 rfl) ?_
      refine lv_aload_n X.1 X.2.1 (dck_at da_X12_gives 3 rfl) rfl (lv_at hl 2 rfl) ?_
      refine gr_alen (v := 4) X G Y clM_13 (by decide) rfl (dck_at da_X12_gives 4 rfl) ?_
      refine lv_icmp_ge (tgt := 25) X.1 X.2.1 (dck_at da_X12_gives 5 rfl) rfl (fun c => ?_) (fun c => ?_)
      · have h := gI_pos h c
        refine lv_iload_n X.1 X.2.1 (dck_at da_X12_gives 17 rfl) rfl (lv_at hl 1 rfl) ?_
        refine lv_aload_n X.1 X.2.1 (dck_at da_X12_gives 18 rfl) rfl (lv_at hl 2 rfl) ?_
        refine gr_alen (v := 4) X G Y clM_13 (by decide) rfl (dck_at da_X12_gives 19 rfl) ?_
        refine lv_iadd X.1 X.2.1 (dck_at da_X12_gives 20 rfl) ?_
        exact gr_iretO X Y h hr rfl hlk (dck_at da_X12_gives 21 rfl)
      · have h := gI_neg h c
        refine lv_aload_n X.1 X.2.1 (dck_at da_X12_gives 6 rfl) rfl (lv_at hl 2 rfl) ?_
        refine lv_iload_n X.1 X.2.1 (dck_at da_X12_gives 7 rfl) rfl (lv_at hl 3 rfl) ?_
        refine lv_aload_n X.1 X.2.1 (dck_at da_X12_gives 8 rfl) rfl (lv_at hl 0 rfl) ?_
        refine gr_getR X G Y fk_RX12_89 clM_0 rfl (dck_at da_X12_gives 9 rfl) ?_
        refine lv_iload_n X.1 X.2.1 (dck_at da_X12_gives 10 rfl) rfl (lv_at hl 1 rfl) ?_
        refine lv_iload_n X.1 X.2.1 (dck_at da_X12_gives 11 rfl) rfl (lv_at hl 3 rfl) ?_
        refine lv_iadd X.1 X.2.1 (dck_at da_X12_gives 12 rfl) ?_
        obtain ⟨hin, h⟩ := gI_if h
        refine gr_iald X G Y clM_27 hin (dck_at da_X12_gives 13 rfl) ?_
        obtain ⟨hin, h⟩ := gI_if h
        refine gr_iast X G Y clM_13 hin (dck_at da_X12_gives 14 rfl) (fun H locs Y => ?_)
        refine lv_iinc (v := x3 + (1 : Int32)) (lv' := [(3, .int (x3 + (1 : Int32))), (0, .ref (ad 0)), (1, .int x1), (2, .ref (ad 13))]) X.1 X.2.1 (dck_at da_X12_gives 15 rfl) hl (k := 3) rfl (congrArg (HAdd.hAdd _) ki_1) (by decide) rfl (fun ls hl => ?_)
        refine lv_goto (tgt := 2) X.1 X.2.1 (dck_at da_X12_gives 16 rfl) rfl ?_
        exact hk2 x1 (x3 + (1 : Int32)) (sI s0 13 (x3).toNatClampNeg (s0.1 27 (x1 + x3).toNatClampNeg)) _ _ _ h Y (lv_sub hl [1, 2, 3, 0] rfl)
  unfold m_gives_v7 at h
  refine lv_iconst X.1 X.2.1 (dck_at da_X12_gives 0 rfl) ki_0 ?_
  refine lv_istore_n (lv' := [(3, .int (0 : Int32)), (0, .ref (ad 0)), (1, .int a1), (2, .ref (ad 13))]) X.1 X.2.1 (dck_at da_X12_gives 1 rfl) rfl hl (by decide) rfl (fun ls hl => ?_)
  exact b2 F a1 (0 : Int32) s0 _ _ _ h Y (lv_sub hl [1, 2, 3, 0] rfl)
set_option maxRecDepth 100000 in
set_option maxHeartbeats 4000000 in
theorem ok_m_gives_v8 {l : Launch} {D : va_G} {cy : Nat → ClassId} {ad sa : Nat → Nat} {A : Nat → Prop} {F : Nat} {a1 : Int32} {s0 : St} {ρ : Int32} {σ' : St} (h : m_gives_v8 F a1 s0 = some (ρ, σ')) : gMi l shM D cy ad sa A yX12_gives cX12_gives 4 (some .int) 1 [.ref (ad 0), .int a1, .ref (ad 14)] s0 ρ σ' := by
  refine gM_of (by decide) (Nat.le_of_ble_eq_true rfl) ?_
  intro p e s m args below meth c ls X G Y hr hlk hl
  have hl : lv_has ls 4 [(0, .ref (ad 0)), (1, .int a1), (2, .ref (ad 14))] := hl
  have b2 : ∀ n : Nat, ∀ (x1 : Int32) (x3 : Int32) (s0 : St) (H : Heap) (locs : List Loc) (ls : Array Slot), m_gives_v8_L2 F  n x1 x3 s0 = some (ρ, σ') → gY shM D cy ad A s0 s H locs → lv_has ls 4 [(0, .ref (ad 0)), (1, .int x1), (2, .ref (ad 14)), (3, .int x3)] → W p l e (grm 1) s m args below meth c H locs 0 0 (MQ below (va_Qi (fun (q : Int32) (_ : Unit) => q = ρ) (fun _ t => va_P D vwCl (gWl shM cy ad σ') t.heap) A) args s 0 0 A) (F0 m 2 ls []) := by
    intro n
    induction n with
    | zero => intro x1 x3 s0 H locs ls h Y hl; exact (gnone h).elim
    | succ n hk2 =>
      have e : m_gives_v8_L2 F  (n + 1) = m_gives_v8_L2b F  (m_gives_v8_L2 F  n) := rfl
      rw [e]; clear e
      generalize m_gives_v8_L2 F  n = k2 at hk2 ⊢
      intro x1 x3 s0 H locs ls h Y hl
      unfold m_gives_v8_L2b at h
      refine lv_iload_n X.1 X.2.1 (dck_at da_X12_gives 2 rfl) rfl (lv_at hl 3 rfl) ?_
      refine lv_aload_n X.1 X.2.1 (dck_at da_X12_gives 3 rfl) rfl (lv_at hl 2 rfl) ?_
      refine gr_alen (v := 6) X G Y clM_14 (by decide) rfl (dck_at da_X12_gives 4 rfl) ?_
      refine lv_icmp_ge (tgt := 25) X.1 X.2.1 (dck_at da_X12_gives 5 rfl) rfl (fun c => ?_) (fun c => ?_)
      · have h := gI_pos h c
        refine lv_iload_n X.1 X.2.1 (dck_at da_X12_gives 17 rfl) rfl (lv_at hl 1 rfl) ?_
        refine lv_aload_n X.1 X.2.1 (dck_at da_X12_gives 18 rfl) rfl (lv_at hl 2 rfl) ?_
        refine gr_alen (v := 6) X G Y clM_14 (by decide) rfl (dck_at da_X12_gives 19 rfl) ?_
        refine lv_iadd X.1 X.2.1 (dck_at da_X12_gives 20 rfl) ?_
        exact gr_iretO X Y h hr rfl hlk (dck_at da_X12_gives 21 rfl)
      · have h := gI_neg h c
        refine lv_aload_n X.1 X.2.1 (dck_at da_X12_gives 6 rfl) rfl (lv_at hl 2 rfl) ?_
        refine lv_iload_n X.1 X.2.1 (dck_at da_X12_gives 7 rfl) rfl (lv_at hl 3 rfl) ?_
        refine lv_aload_n X.1 X.2.1 (dck_at da_X12_gives 8 rfl) rfl (lv_at hl 0 rfl) ?_
        refine gr_getR X G Y fk_RX12_89 clM_0 rfl (dck_at da_X12_gives 9 rfl) ?_
        refine lv_iload_n X.1 X.2.1 (dck_at da_X12_gives 10 rfl) rfl (lv_at hl 1 rfl) ?_
        refine lv_iload_n X.1 X.2.1 (dck_at da_X12_gives 11 rfl) rfl (lv_at hl 3 rfl) ?_
        refine lv_iadd X.1 X.2.1 (dck_at da_X12_gives 12 rfl) ?_
        obtain ⟨hin, h⟩ := gI_if h
        refine gr_iald X G Y clM_27 hin (dck_at da_X12_gives 13 rfl) ?_
        obtain ⟨hin, h⟩ := gI_if h
        refine gr_iast X G Y clM_14 hin (dck_at da_X12_gives 14 rfl) (fun H locs Y => ?_)
        refine lv_iinc (v := x3 + (1 : Int32)) (lv' := [(3, .int (x3 + (1 : Int32))), (0, .ref (ad 0)), (1, .int x1), (2, .ref (ad 14))]) X.1 X.2.1 (dck_at da_X12_gives 15 rfl) hl (k := 3) rfl (congrArg (HAdd.hAdd _) ki_1) (by decide) rfl (fun ls hl => ?_)
        refine lv_goto (tgt := 2) X.1 X.2.1 (dck_at da_X12_gives 16 rfl) rfl ?_
        exact hk2 x1 (x3 + (1 : Int32)) (sI s0 14 (x3).toNatClampNeg (s0.1 27 (x1 + x3).toNatClampNeg)) _ _ _ h Y (lv_sub hl [1, 2, 3, 0] rfl)
  unfold m_gives_v8 at h
  refine lv_iconst X.1 X.2.1 (dck_at da_X12_gives 0 rfl) ki_0 ?_
  refine lv_istore_n (lv' := [(3, .int (0 : Int32)), (0, .ref (ad 0)), (1, .int a1), (2, .ref (ad 14))]) X.1 X.2.1 (dck_at da_X12_gives 1 rfl) rfl hl (by decide) rfl (fun ls hl => ?_)
  exact b2 F a1 (0 : Int32) s0 _ _ _ h Y (lv_sub hl [1, 2, 3, 0] rfl)
set_option maxRecDepth 100000 in
set_option maxHeartbeats 4000000 in
theorem ok_m_gives_v9 {l : Launch} {D : va_G} {cy : Nat → ClassId} {ad sa : Nat → Nat} {A : Nat → Prop} {F : Nat} {a1 : Int32} {s0 : St} {ρ : Int32} {σ' : St} (h : m_gives_v9 F a1 s0 = some (ρ, σ')) : gMi l shM D cy ad sa A yX12_gives cX12_gives 4 (some .int) 1 [.ref (ad 0), .int a1, .ref (ad 16)] s0 ρ σ' := by
  refine gM_of (by decide) (Nat.le_of_ble_eq_true rfl) ?_
  intro p e s m args below meth c ls X G Y hr hlk hl
  have hl : lv_has ls 4 [(0, .ref (ad 0)), (1, .int a1), (2, .ref (ad 16))] := hl
  have b2 : ∀ n : Nat, ∀ (x1 : Int32) (x3 : Int32) (s0 : St) (H : Heap) (locs : List Loc) (ls : Array Slot), m_gives_v9_L2 F  n x1 x3 s0 = some (ρ, σ') → gY shM D cy ad A s0 s H locs → lv_has ls 4 [(0, .ref (ad 0)), (1, .int x1), (2, .ref (ad 16)), (3, .int x3)] → W p l e (grm 1) s m args below meth c H locs 0 0 (MQ below (va_Qi (fun (q : Int32) (_ : Unit) => q = ρ) (fun _ t => va_P D vwCl (gWl shM cy ad σ') t.heap) A) args s 0 0 A) (F0 m 2 ls []) := by
    intro n
    induction n with
    | zero => intro x1 x3 s0 H locs ls h Y hl; exact (gnone h).elim
    | succ n hk2 =>
      have e : m_gives_v9_L2 F  (n + 1) = m_gives_v9_L2b F  (m_gives_v9_L2 F  n) := rfl
      rw [e]; clear e
      generalize m_gives_v9_L2 F  n = k2 at hk2 ⊢
      intro x1 x3 s0 H locs ls h Y hl
      unfold m_gives_v9_L2b at h
      refine lv_iload_n X.1 X.2.1 (dck_at da_X12_gives 2 rfl) rfl (lv_at hl 3 rfl) ?_
      refine lv_aload_n X.1 X.2.1 (dck_at da_X12_gives 3 rfl) rfl (lv_at hl 2 rfl) ?_
      refine gr_alen (v := 6) X G Y clM_16 (by decide) rfl (dck_at da_X12_gives 4 rfl) ?_
      refine lv_icmp_ge (tgt := 25) X.1 X.2.1 (dck_at da_X12_gives 5 rfl) rfl (fun c => ?_) (fun c => ?_)
      · have h := gI_pos h c
        refine lv_iload_n X.1 X.2.1 (dck_at da_X12_gives 17 rfl) rfl (lv_at hl 1 rfl) ?_
        refine lv_aload_n X.1 X.2.1 (dck_at da_X12_gives 18 rfl) rfl (lv_at hl 2 rfl) ?_
        refine gr_alen (v := 6) X G Y clM_16 (by decide) rfl (dck_at da_X12_gives 19 rfl) ?_
        refine lv_iadd X.1 X.2.1 (dck_at da_X12_gives 20 rfl) ?_
        exact gr_iretO X Y h hr rfl hlk (dck_at da_X12_gives 21 rfl)
      · have h := gI_neg h c
        refine lv_aload_n X.1 X.2.1 (dck_at da_X12_gives 6 rfl) rfl (lv_at hl 2 rfl) ?_
        refine lv_iload_n X.1 X.2.1 (dck_at da_X12_gives 7 rfl) rfl (lv_at hl 3 rfl) ?_
        refine lv_aload_n X.1 X.2.1 (dck_at da_X12_gives 8 rfl) rfl (lv_at hl 0 rfl) ?_
        refine gr_getR X G Y fk_RX12_89 clM_0 rfl (dck_at da_X12_gives 9 rfl) ?_
        refine lv_iload_n X.1 X.2.1 (dck_at da_X12_gives 10 rfl) rfl (lv_at hl 1 rfl) ?_
        refine lv_iload_n X.1 X.2.1 (dck_at da_X12_gives 11 rfl) rfl (lv_at hl 3 rfl) ?_
        refine lv_iadd X.1 X.2.1 (dck_at da_X12_gives 12 rfl) ?_
        obtain ⟨hin, h⟩ := gI_if h
        refine gr_iald X G Y clM_27 hin (dck_at da_X12_gives 13 rfl) ?_
        obtain ⟨hin, h⟩ := gI_if h
        refine gr_iast X G Y clM_16 hin (dck_at da_X12_gives 14 rfl) (fun H locs Y => ?_)
        refine lv_iinc (v := x3 + (1 : Int32)) (lv' := [(3, .int (x3 + (1 : Int32))), (0, .ref (ad 0)), (1, .int x1), (2, .ref (ad 16))]) X.1 X.2.1 (dck_at da_X12_gives 15 rfl) hl (k := 3) rfl (congrArg (HAdd.hAdd _) ki_1) (by decide) rfl (fun ls hl => ?_)
        refine lv_goto (tgt := 2) X.1 X.2.1 (dck_at da_X12_gives 16 rfl) rfl ?_
        exact hk2 x1 (x3 + (1 : Int32)) (sI s0 16 (x3).toNatClampNeg (s0.1 27 (x1 + x3).toNatClampNeg)) _ _ _ h Y (lv_sub hl [1, 2, 3, 0] rfl)
  unfold m_gives_v9 at h
  refine lv_iconst X.1 X.2.1 (dck_at da_X12_gives 0 rfl) ki_0 ?_
  refine lv_istore_n (lv' := [(3, .int (0 : Int32)), (0, .ref (ad 0)), (1, .int a1), (2, .ref (ad 16))]) X.1 X.2.1 (dck_at da_X12_gives 1 rfl) rfl hl (by decide) rfl (fun ls hl => ?_)
  exact b2 F a1 (0 : Int32) s0 _ _ _ h Y (lv_sub hl [1, 2, 3, 0] rfl)
set_option maxRecDepth 100000 in
set_option maxHeartbeats 4000000 in
theorem ok_m_gives_v10 {l : Launch} {D : va_G} {cy : Nat → ClassId} {ad sa : Nat → Nat} {A : Nat → Prop} {F : Nat} {a1 : Int32} {s0 : St} {ρ : Int32} {σ' : St} (h : m_gives_v10 F a1 s0 = some (ρ, σ')) : gMi l shM D cy ad sa A yX12_gives cX12_gives 4 (some .int) 1 [.ref (ad 0), .int a1, .ref (ad 17)] s0 ρ σ' := by
  refine gM_of (by decide) (Nat.le_of_ble_eq_true rfl) ?_
  intro p e s m args below meth c ls X G Y hr hlk hl
  have hl : lv_has ls 4 [(0, .ref (ad 0)), (1, .int a1), (2, .ref (ad 17))] := hl
  have b2 : ∀ n : Nat, ∀ (x1 : Int32) (x3 : Int32) (s0 : St) (H : Heap) (locs : List Loc) (ls : Array Slot), m_gives_v10_L2 F  n x1 x3 s0 = some (ρ, σ') → gY shM D cy ad A s0 s H locs → lv_has ls 4 [(0, .ref (ad 0)), (1, .int x1), (2, .ref (ad 17)), (3, .int x3)] → W p l e (grm 1) s m args below meth c H locs 0 0 (MQ below (va_Qi (fun (q : Int32) (_ : Unit) => q = ρ) (fun _ t => va_P D vwCl (gWl shM cy ad σ') t.heap) A) args s 0 0 A) (F0 m 2 ls []) := by
    intro n
    induction n with
    | zero => intro x1 x3 s0 H locs ls h Y hl; exact (gnone h).elim
    | succ n hk2 =>
      have e : m_gives_v10_L2 F  (n + 1) = m_gives_v10_L2b F  (m_gives_v10_L2 F  n) := rfl
      rw [e]; clear e
      generalize m_gives_v10_L2 F  n = k2 at hk2 ⊢
      intro x1 x3 s0 H locs ls h Y hl
      unfold m_gives_v10_L2b at h
      refine lv_iload_n X.1 X.2.1 (dck_at da_X12_gives 2 rfl) rfl (lv_at hl 3 rfl) ?_
      refine lv_aload_n X.1 X.2.1 (dck_at da_X12_gives 3 rfl) rfl (lv_at hl 2 rfl) ?_
      refine gr_alen (v := 6) X G Y clM_17 (by decide) rfl (dck_at da_X12_gives 4 rfl) ?_
      refine lv_icmp_ge (tgt := 25) X.1 X.2.1 (dck_at da_X12_gives 5 rfl) rfl (fun c => ?_) (fun c => ?_)
      · have h := gI_pos h c
        refine lv_iload_n X.1 X.2.1 (dck_at da_X12_gives 17 rfl) rfl (lv_at hl 1 rfl) ?_
        refine lv_aload_n X.1 X.2.1 (dck_at da_X12_gives 18 rfl) rfl (lv_at hl 2 rfl) ?_
        refine gr_alen (v := 6) X G Y clM_17 (by decide) rfl (dck_at da_X12_gives 19 rfl) ?_
        refine lv_iadd X.1 X.2.1 (dck_at da_X12_gives 20 rfl) ?_
        exact gr_iretO X Y h hr rfl hlk (dck_at da_X12_gives 21 rfl)
      · have h := gI_neg h c
        refine lv_aload_n X.1 X.2.1 (dck_at da_X12_gives 6 rfl) rfl (lv_at hl 2 rfl) ?_
        refine lv_iload_n X.1 X.2.1 (dck_at da_X12_gives 7 rfl) rfl (lv_at hl 3 rfl) ?_
        refine lv_aload_n X.1 X.2.1 (dck_at da_X12_gives 8 rfl) rfl (lv_at hl 0 rfl) ?_
        refine gr_getR X G Y fk_RX12_89 clM_0 rfl (dck_at da_X12_gives 9 rfl) ?_
        refine lv_iload_n X.1 X.2.1 (dck_at da_X12_gives 10 rfl) rfl (lv_at hl 1 rfl) ?_
        refine lv_iload_n X.1 X.2.1 (dck_at da_X12_gives 11 rfl) rfl (lv_at hl 3 rfl) ?_
        refine lv_iadd X.1 X.2.1 (dck_at da_X12_gives 12 rfl) ?_
        obtain ⟨hin, h⟩ := gI_if h
        refine gr_iald X G Y clM_27 hin (dck_at da_X12_gives 13 rfl) ?_
        obtain ⟨hin, h⟩ := gI_if h
        refine gr_iast X G Y clM_17 hin (dck_at da_X12_gives 14 rfl) (fun H locs Y => ?_)
        refine lv_iinc (v := x3 + (1 : Int32)) (lv' := [(3, .int (x3 + (1 : Int32))), (0, .ref (ad 0)), (1, .int x1), (2, .ref (ad 17))]) X.1 X.2.1 (dck_at da_X12_gives 15 rfl) hl (k := 3) rfl (congrArg (HAdd.hAdd _) ki_1) (by decide) rfl (fun ls hl => ?_)
        refine lv_goto (tgt := 2) X.1 X.2.1 (dck_at da_X12_gives 16 rfl) rfl ?_
        exact hk2 x1 (x3 + (1 : Int32)) (sI s0 17 (x3).toNatClampNeg (s0.1 27 (x1 + x3).toNatClampNeg)) _ _ _ h Y (lv_sub hl [1, 2, 3, 0] rfl)
  unfold m_gives_v10 at h
  refine lv_iconst X.1 X.2.1 (dck_at da_X12_gives 0 rfl) ki_0 ?_
  refine lv_istore_n (lv' := [(3, .int (0 : Int32)), (0, .ref (ad 0)), (1, .int a1), (2, .ref (ad 17))]) X.1 X.2.1 (dck_at da_X12_gives 1 rfl) rfl hl (by decide) rfl (fun ls hl => ?_)
  exact b2 F a1 (0 : Int32) s0 _ _ _ h Y (lv_sub hl [1, 2, 3, 0] rfl)
set_option maxRecDepth 100000 in
set_option maxHeartbeats 4000000 in
theorem ok_m_gives_v11 {l : Launch} {D : va_G} {cy : Nat → ClassId} {ad sa : Nat → Nat} {A : Nat → Prop} {F : Nat} {a1 : Int32} {s0 : St} {ρ : Int32} {σ' : St} (h : m_gives_v11 F a1 s0 = some (ρ, σ')) : gMi l shM D cy ad sa A yX12_gives cX12_gives 4 (some .int) 1 [.ref (ad 0), .int a1, .ref (ad 18)] s0 ρ σ' := by
  refine gM_of (by decide) (Nat.le_of_ble_eq_true rfl) ?_
  intro p e s m args below meth c ls X G Y hr hlk hl
  have hl : lv_has ls 4 [(0, .ref (ad 0)), (1, .int a1), (2, .ref (ad 18))] := hl
  have b2 : ∀ n : Nat, ∀ (x1 : Int32) (x3 : Int32) (s0 : St) (H : Heap) (locs : List Loc) (ls : Array Slot), m_gives_v11_L2 F  n x1 x3 s0 = some (ρ, σ') → gY shM D cy ad A s0 s H locs → lv_has ls 4 [(0, .ref (ad 0)), (1, .int x1), (2, .ref (ad 18)), (3, .int x3)] → W p l e (grm 1) s m args below meth c H locs 0 0 (MQ below (va_Qi (fun (q : Int32) (_ : Unit) => q = ρ) (fun _ t => va_P D vwCl (gWl shM cy ad σ') t.heap) A) args s 0 0 A) (F0 m 2 ls []) := by
    intro n
    induction n with
    | zero => intro x1 x3 s0 H locs ls h Y hl; exact (gnone h).elim
    | succ n hk2 =>
      have e : m_gives_v11_L2 F  (n + 1) = m_gives_v11_L2b F  (m_gives_v11_L2 F  n) := rfl
      rw [e]; clear e
      generalize m_gives_v11_L2 F  n = k2 at hk2 ⊢
      intro x1 x3 s0 H locs ls h Y hl
      unfold m_gives_v11_L2b at h
      refine lv_iload_n X.1 X.2.1 (dck_at da_X12_gives 2 rfl) rfl (lv_at hl 3 rfl) ?_
      refine lv_aload_n X.1 X.2.1 (dck_at da_X12_gives 3 rfl) rfl (lv_at hl 2 rfl) ?_
      refine gr_alen (v := 6) X G Y clM_18 (by decide) rfl (dck_at da_X12_gives 4 rfl) ?_
      refine lv_icmp_ge (tgt := 25) X.1 X.2.1 (dck_at da_X12_gives 5 rfl) rfl (fun c => ?_) (fun c => ?_)
      · have h := gI_pos h c
        refine lv_iload_n X.1 X.2.1 (dck_at da_X12_gives 17 rfl) rfl (lv_at hl 1 rfl) ?_
        refine lv_aload_n X.1 X.2.1 (dck_at da_X12_gives 18 rfl) rfl (lv_at hl 2 rfl) ?_
        refine gr_alen (v := 6) X G Y clM_18 (by decide) rfl (dck_at da_X12_gives 19 rfl) ?_
        refine lv_iadd X.1 X.2.1 (dck_at da_X12_gives 20 rfl) ?_
        exact gr_iretO X Y h hr rfl hlk (dck_at da_X12_gives 21 rfl)
      · have h := gI_neg h c
        refine lv_aload_n X.1 X.2.1 (dck_at da_X12_gives 6 rfl) rfl (lv_at hl 2 rfl) ?_
        refine lv_iload_n X.1 X.2.1 (dck_at da_X12_gives 7 rfl) rfl (lv_at hl 3 rfl) ?_
        refine lv_aload_n X.1 X.2.1 (dck_at da_X12_gives 8 rfl) rfl (lv_at hl 0 rfl) ?_
        refine gr_getR X G Y fk_RX12_89 clM_0 rfl (dck_at da_X12_gives 9 rfl) ?_
        refine lv_iload_n X.1 X.2.1 (dck_at da_X12_gives 10 rfl) rfl (lv_at hl 1 rfl) ?_
        refine lv_iload_n X.1 X.2.1 (dck_at da_X12_gives 11 rfl) rfl (lv_at hl 3 rfl) ?_
        refine lv_iadd X.1 X.2.1 (dck_at da_X12_gives 12 rfl) ?_
        obtain ⟨hin, h⟩ := gI_if h
        refine gr_iald X G Y clM_27 hin (dck_at da_X12_gives 13 rfl) ?_
        obtain ⟨hin, h⟩ := gI_if h
        refine gr_iast X G Y clM_18 hin (dck_at da_X12_gives 14 rfl) (fun H locs Y => ?_)
        refine lv_iinc (v := x3 + (1 : Int32)) (lv' := [(3, .int (x3 + (1 : Int32))), (0, .ref (ad 0)), (1, .int x1), (2, .ref (ad 18))]) X.1 X.2.1 (dck_at da_X12_gives 15 rfl) hl (k := 3) rfl (congrArg (HAdd.hAdd _) ki_1) (by decide) rfl (fun ls hl => ?_)
        refine lv_goto (tgt := 2) X.1 X.2.1 (dck_at da_X12_gives 16 rfl) rfl ?_
        exact hk2 x1 (x3 + (1 : Int32)) (sI s0 18 (x3).toNatClampNeg (s0.1 27 (x1 + x3).toNatClampNeg)) _ _ _ h Y (lv_sub hl [1, 2, 3, 0] rfl)
  unfold m_gives_v11 at h
  refine lv_iconst X.1 X.2.1 (dck_at da_X12_gives 0 rfl) ki_0 ?_
  refine lv_istore_n (lv' := [(3, .int (0 : Int32)), (0, .ref (ad 0)), (1, .int a1), (2, .ref (ad 18))]) X.1 X.2.1 (dck_at da_X12_gives 1 rfl) rfl hl (by decide) rfl (fun ls hl => ?_)
  exact b2 F a1 (0 : Int32) s0 _ _ _ h Y (lv_sub hl [1, 2, 3, 0] rfl)
set_option maxRecDepth 100000 in
set_option maxHeartbeats 4000000 in
theorem ok_m_gives_v12 {l : Launch} {D : va_G} {cy : Nat → ClassId} {ad sa : Nat → Nat} {A : Nat → Prop} {F : Nat} {a1 : Int32} {s0 : St} {ρ : Int32} {σ' : St} (h : m_gives_v12 F a1 s0 = some (ρ, σ')) : gMi l shM D cy ad sa A yX12_gives cX12_gives 4 (some .int) 1 [.ref (ad 0), .int a1, .ref (ad 21)] s0 ρ σ' := by
  refine gM_of (by decide) (Nat.le_of_ble_eq_true rfl) ?_
  intro p e s m args below meth c ls X G Y hr hlk hl
  have hl : lv_has ls 4 [(0, .ref (ad 0)), (1, .int a1), (2, .ref (ad 21))] := hl
  have b2 : ∀ n : Nat, ∀ (x1 : Int32) (x3 : Int32) (s0 : St) (H : Heap) (locs : List Loc) (ls : Array Slot), m_gives_v12_L2 F  n x1 x3 s0 = some (ρ, σ') → gY shM D cy ad A s0 s H locs → lv_has ls 4 [(0, .ref (ad 0)), (1, .int x1), (2, .ref (ad 21)), (3, .int x3)] → W p l e (grm 1) s m args below meth c H locs 0 0 (MQ below (va_Qi (fun (q : Int32) (_ : Unit) => q = ρ) (fun _ t => va_P D vwCl (gWl shM cy ad σ') t.heap) A) args s 0 0 A) (F0 m 2 ls []) := by
    intro n
    induction n with
    | zero => intro x1 x3 s0 H locs ls h Y hl; exact (gnone h).elim
    | succ n hk2 =>
      have e : m_gives_v12_L2 F  (n + 1) = m_gives_v12_L2b F  (m_gives_v12_L2 F  n) := rfl
      rw [e]; clear e
      generalize m_gives_v12_L2 F  n = k2 at hk2 ⊢
      intro x1 x3 s0 H locs ls h Y hl
      unfold m_gives_v12_L2b at h
      refine lv_iload_n X.1 X.2.1 (dck_at da_X12_gives 2 rfl) rfl (lv_at hl 3 rfl) ?_
      refine lv_aload_n X.1 X.2.1 (dck_at da_X12_gives 3 rfl) rfl (lv_at hl 2 rfl) ?_
      refine gr_alen (v := 60) X G Y clM_21 (by decide) rfl (dck_at da_X12_gives 4 rfl) ?_
      refine lv_icmp_ge (tgt := 25) X.1 X.2.1 (dck_at da_X12_gives 5 rfl) rfl (fun c => ?_) (fun c => ?_)
      · have h := gI_pos h c
        refine lv_iload_n X.1 X.2.1 (dck_at da_X12_gives 17 rfl) rfl (lv_at hl 1 rfl) ?_
        refine lv_aload_n X.1 X.2.1 (dck_at da_X12_gives 18 rfl) rfl (lv_at hl 2 rfl) ?_
        refine gr_alen (v := 60) X G Y clM_21 (by decide) rfl (dck_at da_X12_gives 19 rfl) ?_
        refine lv_iadd X.1 X.2.1 (dck_at da_X12_gives 20 rfl) ?_
        exact gr_iretO X Y h hr rfl hlk (dck_at da_X12_gives 21 rfl)
      · have h := gI_neg h c
        refine lv_aload_n X.1 X.2.1 (dck_at da_X12_gives 6 rfl) rfl (lv_at hl 2 rfl) ?_
        refine lv_iload_n X.1 X.2.1 (dck_at da_X12_gives 7 rfl) rfl (lv_at hl 3 rfl) ?_
        refine lv_aload_n X.1 X.2.1 (dck_at da_X12_gives 8 rfl) rfl (lv_at hl 0 rfl) ?_
        refine gr_getR X G Y fk_RX12_89 clM_0 rfl (dck_at da_X12_gives 9 rfl) ?_
        refine lv_iload_n X.1 X.2.1 (dck_at da_X12_gives 10 rfl) rfl (lv_at hl 1 rfl) ?_
        refine lv_iload_n X.1 X.2.1 (dck_at da_X12_gives 11 rfl) rfl (lv_at hl 3 rfl) ?_
        refine lv_iadd X.1 X.2.1 (dck_at da_X12_gives 12 rfl) ?_
        obtain ⟨hin, h⟩ := gI_if h
        refine gr_iald X G Y clM_27 hin (dck_at da_X12_gives 13 rfl) ?_
        obtain ⟨hin, h⟩ := gI_if h
        refine gr_iast X G Y clM_21 hin (dck_at da_X12_gives 14 rfl) (fun H locs Y => ?_)
        refine lv_iinc (v := x3 + (1 : Int32)) (lv' := [(3, .int (x3 + (1 : Int32))), (0, .ref (ad 0)), (1, .int x1), (2, .ref (ad 21))]) X.1 X.2.1 (dck_at da_X12_gives 15 rfl) hl (k := 3) rfl (congrArg (HAdd.hAdd _) ki_1) (by decide) rfl (fun ls hl => ?_)
        refine lv_goto (tgt := 2) X.1 X.2.1 (dck_at da_X12_gives 16 rfl) rfl ?_
        exact hk2 x1 (x3 + (1 : Int32)) (sI s0 21 (x3).toNatClampNeg (s0.1 27 (x1 + x3).toNatClampNeg)) _ _ _ h Y (lv_sub hl [1, 2, 3, 0] rfl)
  unfold m_gives_v12 at h
  refine lv_iconst X.1 X.2.1 (dck_at da_X12_gives 0 rfl) ki_0 ?_
  refine lv_istore_n (lv' := [(3, .int (0 : Int32)), (0, .ref (ad 0)), (1, .int a1), (2, .ref (ad 21))]) X.1 X.2.1 (dck_at da_X12_gives 1 rfl) rfl hl (by decide) rfl (fun ls hl => ?_)
  exact b2 F a1 (0 : Int32) s0 _ _ _ h Y (lv_sub hl [1, 2, 3, 0] rfl)
set_option maxRecDepth 100000 in
set_option maxHeartbeats 4000000 in
theorem ok_m_gives_v13 {l : Launch} {D : va_G} {cy : Nat → ClassId} {ad sa : Nat → Nat} {A : Nat → Prop} {F : Nat} {a1 : Int32} {s0 : St} {ρ : Int32} {σ' : St} (h : m_gives_v13 F a1 s0 = some (ρ, σ')) : gMi l shM D cy ad sa A yX12_gives cX12_gives 4 (some .int) 1 [.ref (ad 0), .int a1, .ref (ad 22)] s0 ρ σ' := by
  refine gM_of (by decide) (Nat.le_of_ble_eq_true rfl) ?_
  intro p e s m args below meth c ls X G Y hr hlk hl
  have hl : lv_has ls 4 [(0, .ref (ad 0)), (1, .int a1), (2, .ref (ad 22))] := hl
  have b2 : ∀ n : Nat, ∀ (x1 : Int32) (x3 : Int32) (s0 : St) (H : Heap) (locs : List Loc) (ls : Array Slot), m_gives_v13_L2 F  n x1 x3 s0 = some (ρ, σ') → gY shM D cy ad A s0 s H locs → lv_has ls 4 [(0, .ref (ad 0)), (1, .int x1), (2, .ref (ad 22)), (3, .int x3)] → W p l e (grm 1) s m args below meth c H locs 0 0 (MQ below (va_Qi (fun (q : Int32) (_ : Unit) => q = ρ) (fun _ t => va_P D vwCl (gWl shM cy ad σ') t.heap) A) args s 0 0 A) (F0 m 2 ls []) := by
    intro n
    induction n with
    | zero => intro x1 x3 s0 H locs ls h Y hl; exact (gnone h).elim
    | succ n hk2 =>
      have e : m_gives_v13_L2 F  (n + 1) = m_gives_v13_L2b F  (m_gives_v13_L2 F  n) := rfl
      rw [e]; clear e
      generalize m_gives_v13_L2 F  n = k2 at hk2 ⊢
      intro x1 x3 s0 H locs ls h Y hl
      unfold m_gives_v13_L2b at h
      refine lv_iload_n X.1 X.2.1 (dck_at da_X12_gives 2 rfl) rfl (lv_at hl 3 rfl) ?_
      refine lv_aload_n X.1 X.2.1 (dck_at da_X12_gives 3 rfl) rfl (lv_at hl 2 rfl) ?_
      refine gr_alen (v := 60) X G Y clM_22 (by decide) rfl (dck_at da_X12_gives 4 rfl) ?_
      refine lv_icmp_ge (tgt := 25) X.1 X.2.1 (dck_at da_X12_gives 5 rfl) rfl (fun c => ?_) (fun c => ?_)
      · have h := gI_pos h c
        refine lv_iload_n X.1 X.2.1 (dck_at da_X12_gives 17 rfl) rfl (lv_at hl 1 rfl) ?_
        refine lv_aload_n X.1 X.2.1 (dck_at da_X12_gives 18 rfl) rfl (lv_at hl 2 rfl) ?_
        refine gr_alen (v := 60) X G Y clM_22 (by decide) rfl (dck_at da_X12_gives 19 rfl) ?_
        refine lv_iadd X.1 X.2.1 (dck_at da_X12_gives 20 rfl) ?_
        exact gr_iretO X Y h hr rfl hlk (dck_at da_X12_gives 21 rfl)
      · have h := gI_neg h c
        refine lv_aload_n X.1 X.2.1 (dck_at da_X12_gives 6 rfl) rfl (lv_at hl 2 rfl) ?_
        refine lv_iload_n X.1 X.2.1 (dck_at da_X12_gives 7 rfl) rfl (lv_at hl 3 rfl) ?_
        refine lv_aload_n X.1 X.2.1 (dck_at da_X12_gives 8 rfl) rfl (lv_at hl 0 rfl) ?_
        refine gr_getR X G Y fk_RX12_89 clM_0 rfl (dck_at da_X12_gives 9 rfl) ?_
        refine lv_iload_n X.1 X.2.1 (dck_at da_X12_gives 10 rfl) rfl (lv_at hl 1 rfl) ?_
        refine lv_iload_n X.1 X.2.1 (dck_at da_X12_gives 11 rfl) rfl (lv_at hl 3 rfl) ?_
        refine lv_iadd X.1 X.2.1 (dck_at da_X12_gives 12 rfl) ?_
        obtain ⟨hin, h⟩ := gI_if h
        refine gr_iald X G Y clM_27 hin (dck_at da_X12_gives 13 rfl) ?_
        obtain ⟨hin, h⟩ := gI_if h
        refine gr_iast X G Y clM_22 hin (dck_at da_X12_gives 14 rfl) (fun H locs Y => ?_)
        refine lv_iinc (v := x3 + (1 : Int32)) (lv' := [(3, .int (x3 + (1 : Int32))), (0, .ref (ad 0)), (1, .int x1), (2, .ref (ad 22))]) X.1 X.2.1 (dck_at da_X12_gives 15 rfl) hl (k := 3) rfl (congrArg (HAdd.hAdd _) ki_1) (by decide) rfl (fun ls hl => ?_)
        refine lv_goto (tgt := 2) X.1 X.2.1 (dck_at da_X12_gives 16 rfl) rfl ?_
        exact hk2 x1 (x3 + (1 : Int32)) (sI s0 22 (x3).toNatClampNeg (s0.1 27 (x1 + x3).toNatClampNeg)) _ _ _ h Y (lv_sub hl [1, 2, 3, 0] rfl)
  unfold m_gives_v13 at h
  refine lv_iconst X.1 X.2.1 (dck_at da_X12_gives 0 rfl) ki_0 ?_
  refine lv_istore_n (lv' := [(3, .int (0 : Int32)), (0, .ref (ad 0)), (1, .int a1), (2, .ref (ad 22))]) X.1 X.2.1 (dck_at da_X12_gives 1 rfl) rfl hl (by decide) rfl (fun ls hl => ?_)
  exact b2 F a1 (0 : Int32) s0 _ _ _ h Y (lv_sub hl [1, 2, 3, 0] rfl)
set_option maxRecDepth 100000 in
set_option maxHeartbeats 4000000 in
theorem ok_m_gives_v14 {l : Launch} {D : va_G} {cy : Nat → ClassId} {ad sa : Nat → Nat} {A : Nat → Prop} {F : Nat} {a1 : Int32} {s0 : St} {ρ : Int32} {σ' : St} (h : m_gives_v14 F a1 s0 = some (ρ, σ')) : gMi l shM D cy ad sa A yX12_gives cX12_gives 4 (some .int) 1 [.ref (ad 0), .int a1, .ref (ad 23)] s0 ρ σ' := by
  refine gM_of (by decide) (Nat.le_of_ble_eq_true rfl) ?_
  intro p e s m args below meth c ls X G Y hr hlk hl
  have hl : lv_has ls 4 [(0, .ref (ad 0)), (1, .int a1), (2, .ref (ad 23))] := hl
  have b2 : ∀ n : Nat, ∀ (x1 : Int32) (x3 : Int32) (s0 : St) (H : Heap) (locs : List Loc) (ls : Array Slot), m_gives_v14_L2 F  n x1 x3 s0 = some (ρ, σ') → gY shM D cy ad A s0 s H locs → lv_has ls 4 [(0, .ref (ad 0)), (1, .int x1), (2, .ref (ad 23)), (3, .int x3)] → W p l e (grm 1) s m args below meth c H locs 0 0 (MQ below (va_Qi (fun (q : Int32) (_ : Unit) => q = ρ) (fun _ t => va_P D vwCl (gWl shM cy ad σ') t.heap) A) args s 0 0 A) (F0 m 2 ls []) := by
    intro n
    induction n with
    | zero => intro x1 x3 s0 H locs ls h Y hl; exact (gnone h).elim
    | succ n hk2 =>
      have e : m_gives_v14_L2 F  (n + 1) = m_gives_v14_L2b F  (m_gives_v14_L2 F  n) := rfl
      rw [e]; clear e
      generalize m_gives_v14_L2 F  n = k2 at hk2 ⊢
      intro x1 x3 s0 H locs ls h Y hl
      unfold m_gives_v14_L2b at h
      refine lv_iload_n X.1 X.2.1 (dck_at da_X12_gives 2 rfl) rfl (lv_at hl 3 rfl) ?_
      refine lv_aload_n X.1 X.2.1 (dck_at da_X12_gives 3 rfl) rfl (lv_at hl 2 rfl) ?_
      refine gr_alen (v := 60) X G Y clM_23 (by decide) rfl (dck_at da_X12_gives 4 rfl) ?_
      refine lv_icmp_ge (tgt := 25) X.1 X.2.1 (dck_at da_X12_gives 5 rfl) rfl (fun c => ?_) (fun c => ?_)
      · have h := gI_pos h c
        refine lv_iload_n X.1 X.2.1 (dck_at da_X12_gives 17 rfl) rfl (lv_at hl 1 rfl) ?_
        refine lv_aload_n X.1 X.2.1 (dck_at da_X12_gives 18 rfl) rfl (lv_at hl 2 rfl) ?_
        refine gr_alen (v := 60) X G Y clM_23 (by decide) rfl (dck_at da_X12_gives 19 rfl) ?_
        refine lv_iadd X.1 X.2.1 (dck_at da_X12_gives 20 rfl) ?_
        exact gr_iretO X Y h hr rfl hlk (dck_at da_X12_gives 21 rfl)
      · have h := gI_neg h c
        refine lv_aload_n X.1 X.2.1 (dck_at da_X12_gives 6 rfl) rfl (lv_at hl 2 rfl) ?_
        refine lv_iload_n X.1 X.2.1 (dck_at da_X12_gives 7 rfl) rfl (lv_at hl 3 rfl) ?_
        refine lv_aload_n X.1 X.2.1 (dck_at da_X12_gives 8 rfl) rfl (lv_at hl 0 rfl) ?_
        refine gr_getR X G Y fk_RX12_89 clM_0 rfl (dck_at da_X12_gives 9 rfl) ?_
        refine lv_iload_n X.1 X.2.1 (dck_at da_X12_gives 10 rfl) rfl (lv_at hl 1 rfl) ?_
        refine lv_iload_n X.1 X.2.1 (dck_at da_X12_gives 11 rfl) rfl (lv_at hl 3 rfl) ?_
        refine lv_iadd X.1 X.2.1 (dck_at da_X12_gives 12 rfl) ?_
        obtain ⟨hin, h⟩ := gI_if h
        refine gr_iald X G Y clM_27 hin (dck_at da_X12_gives 13 rfl) ?_
        obtain ⟨hin, h⟩ := gI_if h
        refine gr_iast X G Y clM_23 hin (dck_at da_X12_gives 14 rfl) (fun H locs Y => ?_)
        refine lv_iinc (v := x3 + (1 : Int32)) (lv' := [(3, .int (x3 + (1 : Int32))), (0, .ref (ad 0)), (1, .int x1), (2, .ref (ad 23))]) X.1 X.2.1 (dck_at da_X12_gives 15 rfl) hl (k := 3) rfl (congrArg (HAdd.hAdd _) ki_1) (by decide) rfl (fun ls hl => ?_)
        refine lv_goto (tgt := 2) X.1 X.2.1 (dck_at da_X12_gives 16 rfl) rfl ?_
        exact hk2 x1 (x3 + (1 : Int32)) (sI s0 23 (x3).toNatClampNeg (s0.1 27 (x1 + x3).toNatClampNeg)) _ _ _ h Y (lv_sub hl [1, 2, 3, 0] rfl)
  unfold m_gives_v14 at h
  refine lv_iconst X.1 X.2.1 (dck_at da_X12_gives 0 rfl) ki_0 ?_
  refine lv_istore_n (lv' := [(3, .int (0 : Int32)), (0, .ref (ad 0)), (1, .int a1), (2, .ref (ad 23))]) X.1 X.2.1 (dck_at da_X12_gives 1 rfl) rfl hl (by decide) rfl (fun ls hl => ?_)
  exact b2 F a1 (0 : Int32) s0 _ _ _ h Y (lv_sub hl [1, 2, 3, 0] rfl)
set_option maxRecDepth 100000 in
set_option maxHeartbeats 4000000 in
theorem ok_m_gives_v15 {l : Launch} {D : va_G} {cy : Nat → ClassId} {ad sa : Nat → Nat} {A : Nat → Prop} {F : Nat} {a1 : Int32} {s0 : St} {ρ : Int32} {σ' : St} (h : m_gives_v15 F a1 s0 = some (ρ, σ')) : gMi l shM D cy ad sa A yX12_gives cX12_gives 4 (some .int) 1 [.ref (ad 0), .int a1, .ref (ad 24)] s0 ρ σ' := by
  refine gM_of (by decide) (Nat.le_of_ble_eq_true rfl) ?_
  intro p e s m args below meth c ls X G Y hr hlk hl
  have hl : lv_has ls 4 [(0, .ref (ad 0)), (1, .int a1), (2, .ref (ad 24))] := hl
  have b2 : ∀ n : Nat, ∀ (x1 : Int32) (x3 : Int32) (s0 : St) (H : Heap) (locs : List Loc) (ls : Array Slot), m_gives_v15_L2 F  n x1 x3 s0 = some (ρ, σ') → gY shM D cy ad A s0 s H locs → lv_has ls 4 [(0, .ref (ad 0)), (1, .int x1), (2, .ref (ad 24)), (3, .int x3)] → W p l e (grm 1) s m args below meth c H locs 0 0 (MQ below (va_Qi (fun (q : Int32) (_ : Unit) => q = ρ) (fun _ t => va_P D vwCl (gWl shM cy ad σ') t.heap) A) args s 0 0 A) (F0 m 2 ls []) := by
    intro n
    induction n with
    | zero => intro x1 x3 s0 H locs ls h Y hl; exact (gnone h).elim
    | succ n hk2 =>
      have e : m_gives_v15_L2 F  (n + 1) = m_gives_v15_L2b F  (m_gives_v15_L2 F  n) := rfl
      rw [e]; clear e
      generalize m_gives_v15_L2 F  n = k2 at hk2 ⊢
      intro x1 x3 s0 H locs ls h Y hl
      unfold m_gives_v15_L2b at h
      refine lv_iload_n X.1 X.2.1 (dck_at da_X12_gives 2 rfl) rfl (lv_at hl 3 rfl) ?_
      refine lv_aload_n X.1 X.2.1 (dck_at da_X12_gives 3 rfl) rfl (lv_at hl 2 rfl) ?_
      refine gr_alen (v := 8) X G Y clM_24 (by decide) rfl (dck_at da_X12_gives 4 rfl) ?_
      refine lv_icmp_ge (tgt := 25) X.1 X.2.1 (dck_at da_X12_gives 5 rfl) rfl (fun c => ?_) (fun c => ?_)
      · have h := gI_pos h c
        refine lv_iload_n X.1 X.2.1 (dck_at da_X12_gives 17 rfl) rfl (lv_at hl 1 rfl) ?_
        refine lv_aload_n X.1 X.2.1 (dck_at da_X12_gives 18 rfl) rfl (lv_at hl 2 rfl) ?_
        refine gr_alen (v := 8) X G Y clM_24 (by decide) rfl (dck_at da_X12_gives 19 rfl) ?_
        refine lv_iadd X.1 X.2.1 (dck_at da_X12_gives 20 rfl) ?_
        exact gr_iretO X Y h hr rfl hlk (dck_at da_X12_gives 21 rfl)
      · have h := gI_neg h c
        refine lv_aload_n X.1 X.2.1 (dck_at da_X12_gives 6 rfl) rfl (lv_at hl 2 rfl) ?_
        refine lv_iload_n X.1 X.2.1 (dck_at da_X12_gives 7 rfl) rfl (lv_at hl 3 rfl) ?_
        refine lv_aload_n X.1 X.2.1 (dck_at da_X12_gives 8 rfl) rfl (lv_at hl 0 rfl) ?_
        refine gr_getR X G Y fk_RX12_89 clM_0 rfl (dck_at da_X12_gives 9 rfl) ?_
        refine lv_iload_n X.1 X.2.1 (dck_at da_X12_gives 10 rfl) rfl (lv_at hl 1 rfl) ?_
        refine lv_iload_n X.1 X.2.1 (dck_at da_X12_gives 11 rfl) rfl (lv_at hl 3 rfl) ?_
        refine lv_iadd X.1 X.2.1 (dck_at da_X12_gives 12 rfl) ?_
        obtain ⟨hin, h⟩ := gI_if h
        refine gr_iald X G Y clM_27 hin (dck_at da_X12_gives 13 rfl) ?_
        obtain ⟨hin, h⟩ := gI_if h
        refine gr_iast X G Y clM_24 hin (dck_at da_X12_gives 14 rfl) (fun H locs Y => ?_)
        refine lv_iinc (v := x3 + (1 : Int32)) (lv' := [(3, .int (x3 + (1 : Int32))), (0, .ref (ad 0)), (1, .int x1), (2, .ref (ad 24))]) X.1 X.2.1 (dck_at da_X12_gives 15 rfl) hl (k := 3) rfl (congrArg (HAdd.hAdd _) ki_1) (by decide) rfl (fun ls hl => ?_)
        refine lv_goto (tgt := 2) X.1 X.2.1 (dck_at da_X12_gives 16 rfl) rfl ?_
        exact hk2 x1 (x3 + (1 : Int32)) (sI s0 24 (x3).toNatClampNeg (s0.1 27 (x1 + x3).toNatClampNeg)) _ _ _ h Y (lv_sub hl [1, 2, 3, 0] rfl)
  unfold m_gives_v15 at h
  refine lv_iconst X.1 X.2.1 (dck_at da_X12_gives 0 rfl) ki_0 ?_
  refine lv_istore_n (lv' := [(3, .int (0 : Int32)), (0, .ref (ad 0)), (1, .int a1), (2, .ref (ad 24))]) X.1 X.2.1 (dck_at da_X12_gives 1 rfl) rfl hl (by decide) rfl (fun ls hl => ?_)
  exact b2 F a1 (0 : Int32) s0 _ _ _ h Y (lv_sub hl [1, 2, 3, 0] rfl)
set_option maxRecDepth 100000 in
set_option maxHeartbeats 4000000 in
theorem ok_m_gives_v16 {l : Launch} {D : va_G} {cy : Nat → ClassId} {ad sa : Nat → Nat} {A : Nat → Prop} {F : Nat} {a1 : Int32} {s0 : St} {ρ : Int32} {σ' : St} (h : m_gives_v16 F a1 s0 = some (ρ, σ')) : gMi l shM D cy ad sa A yX12_gives cX12_gives 4 (some .int) 1 [.ref (ad 0), .int a1, .ref (ad 25)] s0 ρ σ' := by
  refine gM_of (by decide) (Nat.le_of_ble_eq_true rfl) ?_
  intro p e s m args below meth c ls X G Y hr hlk hl
  have hl : lv_has ls 4 [(0, .ref (ad 0)), (1, .int a1), (2, .ref (ad 25))] := hl
  have b2 : ∀ n : Nat, ∀ (x1 : Int32) (x3 : Int32) (s0 : St) (H : Heap) (locs : List Loc) (ls : Array Slot), m_gives_v16_L2 F  n x1 x3 s0 = some (ρ, σ') → gY shM D cy ad A s0 s H locs → lv_has ls 4 [(0, .ref (ad 0)), (1, .int x1), (2, .ref (ad 25)), (3, .int x3)] → W p l e (grm 1) s m args below meth c H locs 0 0 (MQ below (va_Qi (fun (q : Int32) (_ : Unit) => q = ρ) (fun _ t => va_P D vwCl (gWl shM cy ad σ') t.heap) A) args s 0 0 A) (F0 m 2 ls []) := by
    intro n
    induction n with
    | zero => intro x1 x3 s0 H locs ls h Y hl; exact (gnone h).elim
    | succ n hk2 =>
      have e : m_gives_v16_L2 F  (n + 1) = m_gives_v16_L2b F  (m_gives_v16_L2 F  n) := rfl
      rw [e]; clear e
      generalize m_gives_v16_L2 F  n = k2 at hk2 ⊢
      intro x1 x3 s0 H locs ls h Y hl
      unfold m_gives_v16_L2b at h
      refine lv_iload_n X.1 X.2.1 (dck_at da_X12_gives 2 rfl) rfl (lv_at hl 3 rfl) ?_
      refine lv_aload_n X.1 X.2.1 (dck_at da_X12_gives 3 rfl) rfl (lv_at hl 2 rfl) ?_
      refine gr_alen (v := 8) X G Y clM_25 (by decide) rfl (dck_at da_X12_gives 4 rfl) ?_
      refine lv_icmp_ge (tgt := 25) X.1 X.2.1 (dck_at da_X12_gives 5 rfl) rfl (fun c => ?_) (fun c => ?_)
      · have h := gI_pos h c
        refine lv_iload_n X.1 X.2.1 (dck_at da_X12_gives 17 rfl) rfl (lv_at hl 1 rfl) ?_
        refine lv_aload_n X.1 X.2.1 (dck_at da_X12_gives 18 rfl) rfl (lv_at hl 2 rfl) ?_
        refine gr_alen (v := 8) X G Y clM_25 (by decide) rfl (dck_at da_X12_gives 19 rfl) ?_
        refine lv_iadd X.1 X.2.1 (dck_at da_X12_gives 20 rfl) ?_
        exact gr_iretO X Y h hr rfl hlk (dck_at da_X12_gives 21 rfl)
      · have h := gI_neg h c
        refine lv_aload_n X.1 X.2.1 (dck_at da_X12_gives 6 rfl) rfl (lv_at hl 2 rfl) ?_
        refine lv_iload_n X.1 X.2.1 (dck_at da_X12_gives 7 rfl) rfl (lv_at hl 3 rfl) ?_
        refine lv_aload_n X.1 X.2.1 (dck_at da_X12_gives 8 rfl) rfl (lv_at hl 0 rfl) ?_
        refine gr_getR X G Y fk_RX12_89 clM_0 rfl (dck_at da_X12_gives 9 rfl) ?_
        refine lv_iload_n X.1 X.2.1 (dck_at da_X12_gives 10 rfl) rfl (lv_at hl 1 rfl) ?_
        refine lv_iload_n X.1 X.2.1 (dck_at da_X12_gives 11 rfl) rfl (lv_at hl 3 rfl) ?_
        refine lv_iadd X.1 X.2.1 (dck_at da_X12_gives 12 rfl) ?_
        obtain ⟨hin, h⟩ := gI_if h
        refine gr_iald X G Y clM_27 hin (dck_at da_X12_gives 13 rfl) ?_
        obtain ⟨hin, h⟩ := gI_if h
        refine gr_iast X G Y clM_25 hin (dck_at da_X12_gives 14 rfl) (fun H locs Y => ?_)
        refine lv_iinc (v := x3 + (1 : Int32)) (lv' := [(3, .int (x3 + (1 : Int32))), (0, .ref (ad 0)), (1, .int x1), (2, .ref (ad 25))]) X.1 X.2.1 (dck_at da_X12_gives 15 rfl) hl (k := 3) rfl (congrArg (HAdd.hAdd _) ki_1) (by decide) rfl (fun ls hl => ?_)
        refine lv_goto (tgt := 2) X.1 X.2.1 (dck_at da_X12_gives 16 rfl) rfl ?_
        exact hk2 x1 (x3 + (1 : Int32)) (sI s0 25 (x3).toNatClampNeg (s0.1 27 (x1 + x3).toNatClampNeg)) _ _ _ h Y (lv_sub hl [1, 2, 3, 0] rfl)
  unfold m_gives_v16 at h
  refine lv_iconst X.1 X.2.1 (dck_at da_X12_gives 0 rfl) ki_0 ?_
  refine lv_istore_n (lv' := [(3, .int (0 : Int32)), (0, .ref (ad 0)), (1, .int a1), (2, .ref (ad 25))]) X.1 X.2.1 (dck_at da_X12_gives 1 rfl) rfl hl (by decide) rfl (fun ls hl => ?_)
  exact b2 F a1 (0 : Int32) s0 _ _ _ h Y (lv_sub hl [1, 2, 3, 0] rfl)
set_option maxRecDepth 100000 in
set_option maxHeartbeats 4000000 in
theorem ok_m_restore {l : Launch} {D : va_G} {cy : Nat → ClassId} {ad sa : Nat → Nat} {A : Nat → Prop} {F : Nat}  {s0 : St} {ρ : Int32} {σ' : St} (h : m_restore F s0 = some (ρ, σ')) : gMi l shM D cy ad sa A yX12_restore cX12_restore 3 (some .int) 3 [.ref (ad 0)] s0 ρ σ' := by
  refine gM_of (by decide) (Nat.le_of_ble_eq_true rfl) ?_
  intro p e s m args below meth c ls X G Y hr hlk hl
  have hl : lv_has ls 3 [(0, .ref (ad 0))] := hl
  have b256 : ∀ n : Nat, ∀ (x2 : Int32) (s0 : St) (H : Heap) (locs : List Loc) (ls : Array Slot), m_restore_L256 F  n x2 s0 = some (ρ, σ') → gY shM D cy ad A s0 s H locs → lv_has ls 3 [(0, .ref (ad 0)), (2, .int x2)] → W p l e (grm 3) s m args below meth c H locs 0 0 (MQ below (va_Qi (fun (q : Int32) (_ : Unit) => q = ρ) (fun _ t => va_P D vwCl (gWl shM cy ad σ') t.heap) A) args s 0 0 A) (F0 m 256 ls []) := by
    intro n
    induction n with
    | zero => intro x2 s0 H locs ls h Y hl; exact (gnone h).elim
    | succ n hk256 =>
      have e : m_restore_L256 F  (n + 1) = m_restore_L256b F  (m_restore_L256 F  n) := rfl
      rw [e]; clear e
      generalize m_restore_L256 F  n = k256 at hk256 ⊢
      intro x2 s0 H locs ls h Y hl
      unfold m_restore_L256b at h
      refine lv_iload_n X.1 X.2.1 (dck_at da_X12_restore 157 rfl) rfl (lv_at hl 1 rfl) ?_
      refine lv_sipush X.1 X.2.1 (dck_at da_X12_restore 158 rfl) ks_720 ?_
      refine lv_icmp_ge (tgt := 281) X.1 X.2.1 (dck_at da_X12_restore 159 rfl) rfl (fun c => ?_) (fun c => ?_)
      · have h := gI_pos h c
        refine lv_iconst X.1 X.2.1 (dck_at da_X12_restore 170 rfl) ki_1 ?_
        exact gr_iretO X Y h hr rfl hlk (dck_at da_X12_restore 171 rfl)
      · have h := gI_neg h c
        refine lv_aload_n X.1 X.2.1 (dck_at da_X12_restore 160 rfl) rfl (lv_at hl 0 rfl) ?_
        refine gr_getR X G Y fk_RX12_34 clM_0 rfl (dck_at da_X12_restore 161 rfl) ?_
        refine lv_iload_n X.1 X.2.1 (dck_at da_X12_restore 162 rfl) rfl (lv_at hl 1 rfl) ?_
        refine lv_aload_n X.1 X.2.1 (dck_at da_X12_restore 163 rfl) rfl (lv_at hl 0 rfl) ?_
        refine gr_getR X G Y fk_RX12_92 clM_0 rfl (dck_at da_X12_restore 164 rfl) ?_
        refine lv_iload_n X.1 X.2.1 (dck_at da_X12_restore 165 rfl) rfl (lv_at hl 1 rfl) ?_
        obtain ⟨hin, h⟩ := gI_if h
        refine gr_lald X G Y clM_28 hin (dck_at da_X12_restore 166 rfl) ?_
        obtain ⟨hin, h⟩ := gI_if h
        refine gr_last X G Y clM_9 hin (dck_at da_X12_restore 167 rfl) (fun H locs Y => ?_)
        refine lv_iinc (v := x2 + (1 : Int32)) (lv' := [(2, .int (x2 + (1 : Int32))), (0, .ref (ad 0))]) X.1 X.2.1 (dck_at da_X12_restore 168 rfl) hl (k := 1) rfl (congrArg (HAdd.hAdd _) ki_1) (by decide) rfl (fun ls hl => ?_)
        refine lv_goto (tgt := 256) X.1 X.2.1 (dck_at da_X12_restore 169 rfl) rfl ?_
        exact hk256 (x2 + (1 : Int32)) (sJ s0 9 (x2).toNatClampNeg (s0.2 28 (x2).toNatClampNeg)) _ _ _ h Y (lv_sub hl [1, 0] rfl)
  unfold m_restore at h
  refine lv_aload_n X.1 X.2.1 (dck_at da_X12_restore 0 rfl) rfl (lv_at hl 0 rfl) ?_
  refine gr_getI X G Y fk_RX12_321 clM_0 rfl (dck_at da_X12_restore 1 rfl) ?_
  refine lv_if_ne (tgt := 14) X.1 X.2.1 (dck_at da_X12_restore 2 rfl) rfl (fun c => ?_) (fun c => ?_)
  · have h := gI_neg h c
    refine lv_aload_n X.1 X.2.1 (dck_at da_X12_restore 7 rfl) rfl (lv_at hl 0 rfl) ?_
    refine lv_iconst X.1 X.2.1 (dck_at da_X12_restore 8 rfl) ki_0 ?_
    refine lv_aload_n X.1 X.2.1 (dck_at da_X12_restore 9 rfl) rfl (lv_at hl 0 rfl) ?_
    refine gr_getR X G Y fk_RX12_13 clM_0 rfl (dck_at da_X12_restore 10 rfl) ?_
    obtain ⟨r1, s1, hc, h⟩ := gB2_some h
    refine gr_backi Y (gr_runV (as := [.int (0 : Int32), .ref (ad 2)]) (rest := []) X G Y (ok_m_gives hc) cv_RX12_324 clM_0 ⟨Nat.le_of_ble_eq_true rfl, Nat.le_of_ble_eq_true rfl⟩ rfl hl.1 (Nat.le_of_ble_eq_true rfl) (dck_at da_X12_restore 11 rfl)) (fun H locs Y => ?_)
    refine lv_istore_n (lv' := [(1, .int r1), (0, .ref (ad 0))]) X.1 X.2.1 (dck_at da_X12_restore 12 rfl) rfl hl (by decide) rfl (fun ls hl => ?_)
    refine lv_aload_n X.1 X.2.1 (dck_at da_X12_restore 13 rfl) rfl (lv_at hl 1 rfl) ?_
    refine lv_iload_n X.1 X.2.1 (dck_at da_X12_restore 14 rfl) rfl (lv_at hl 0 rfl) ?_
    refine lv_aload_n X.1 X.2.1 (dck_at da_X12_restore 15 rfl) rfl (lv_at hl 1 rfl) ?_
    refine gr_getR X G Y fk_RX12_16 clM_0 rfl (dck_at da_X12_restore 16 rfl) ?_
    obtain ⟨r2, s2, hc, h⟩ := gB2_some h
    refine gr_backi Y (gr_runV (as := [.int r1, .ref (ad 3)]) (rest := []) X G Y (ok_m_gives_v1 hc) cv_RX12_324 clM_0 ⟨Nat.le_of_ble_eq_true rfl, Nat.le_of_ble_eq_true rfl⟩ rfl hl.1 (Nat.le_of_ble_eq_true rfl) (dck_at da_X12_restore 17 rfl)) (fun H locs Y => ?_)
    refine lv_istore_n (lv' := [(1, .int r2), (0, .ref (ad 0))]) X.1 X.2.1 (dck_at da_X12_restore 18 rfl) rfl hl (by decide) rfl (fun ls hl => ?_)
    refine lv_aload_n X.1 X.2.1 (dck_at da_X12_restore 19 rfl) rfl (lv_at hl 1 rfl) ?_
    refine lv_iload_n X.1 X.2.1 (dck_at da_X12_restore 20 rfl) rfl (lv_at hl 0 rfl) ?_
    refine lv_aload_n X.1 X.2.1 (dck_at da_X12_restore 21 rfl) rfl (lv_at hl 1 rfl) ?_
    refine gr_getR X G Y fk_RX12_19 clM_0 rfl (dck_at da_X12_restore 22 rfl) ?_
    obtain ⟨r3, s3, hc, h⟩ := gB2_some h
    refine gr_backi Y (gr_runV (as := [.int r2, .ref (ad 4)]) (rest := []) X G Y (ok_m_gives_v2 hc) cv_RX12_324 clM_0 ⟨Nat.le_of_ble_eq_true rfl, Nat.le_of_ble_eq_true rfl⟩ rfl hl.1 (Nat.le_of_ble_eq_true rfl) (dck_at da_X12_restore 23 rfl)) (fun H locs Y => ?_)
    refine lv_istore_n (lv' := [(1, .int r3), (0, .ref (ad 0))]) X.1 X.2.1 (dck_at da_X12_restore 24 rfl) rfl hl (by decide) rfl (fun ls hl => ?_)
    refine lv_aload_n X.1 X.2.1 (dck_at da_X12_restore 25 rfl) rfl (lv_at hl 1 rfl) ?_
    refine lv_iload_n X.1 X.2.1 (dck_at da_X12_restore 26 rfl) rfl (lv_at hl 0 rfl) ?_
    refine lv_aload_n X.1 X.2.1 (dck_at da_X12_restore 27 rfl) rfl (lv_at hl 1 rfl) ?_
    refine gr_getR X G Y fk_RX12_22 clM_0 rfl (dck_at da_X12_restore 28 rfl) ?_
    obtain ⟨r4, s4, hc, h⟩ := gB2_some h
    refine gr_backi Y (gr_runV (as := [.int r3, .ref (ad 5)]) (rest := []) X G Y (ok_m_gives_v3 hc) cv_RX12_324 clM_0 ⟨Nat.le_of_ble_eq_true rfl, Nat.le_of_ble_eq_true rfl⟩ rfl hl.1 (Nat.le_of_ble_eq_true rfl) (dck_at da_X12_restore 29 rfl)) (fun H locs Y => ?_)
    refine lv_istore_n (lv' := [(1, .int r4), (0, .ref (ad 0))]) X.1 X.2.1 (dck_at da_X12_restore 30 rfl) rfl hl (by decide) rfl (fun ls hl => ?_)
    refine lv_aload_n X.1 X.2.1 (dck_at da_X12_restore 31 rfl) rfl (lv_at hl 1 rfl) ?_
    refine lv_iload_n X.1 X.2.1 (dck_at da_X12_restore 32 rfl) rfl (lv_at hl 0 rfl) ?_
    refine lv_aload_n X.1 X.2.1 (dck_at da_X12_restore 33 rfl) rfl (lv_at hl 1 rfl) ?_
    refine gr_getR X G Y fk_RX12_25 clM_0 rfl (dck_at da_X12_restore 34 rfl) ?_
    obtain ⟨r5, s5, hc, h⟩ := gB2_some h
    refine gr_backi Y (gr_runV (as := [.int r4, .ref (ad 6)]) (rest := []) X G Y (ok_m_gives_v4 hc) cv_RX12_324 clM_0 ⟨Nat.le_of_ble_eq_true rfl, Nat.le_of_ble_eq_true rfl⟩ rfl hl.1 (Nat.le_of_ble_eq_true rfl) (dck_at da_X12_restore 35 rfl)) (fun H locs Y => ?_)
    refine lv_istore_n (lv' := [(1, .int r5), (0, .ref (ad 0))]) X.1 X.2.1 (dck_at da_X12_restore 36 rfl) rfl hl (by decide) rfl (fun ls hl => ?_)
    refine lv_aload_n X.1 X.2.1 (dck_at da_X12_restore 37 rfl) rfl (lv_at hl 1 rfl) ?_
    refine lv_iload_n X.1 X.2.1 (dck_at da_X12_restore 38 rfl) rfl (lv_at hl 0 rfl) ?_
    refine lv_aload_n X.1 X.2.1 (dck_at da_X12_restore 39 rfl) rfl (lv_at hl 1 rfl) ?_
    refine gr_getR X G Y fk_RX12_41 clM_0 rfl (dck_at da_X12_restore 40 rfl) ?_
    obtain ⟨r6, s6, hc, h⟩ := gB2_some h
    refine gr_backi Y (gr_runV (as := [.int r5, .ref (ad 11)]) (rest := []) X G Y (ok_m_gives_v5 hc) cv_RX12_324 clM_0 ⟨Nat.le_of_ble_eq_true rfl, Nat.le_of_ble_eq_true rfl⟩ rfl hl.1 (Nat.le_of_ble_eq_true rfl) (dck_at da_X12_restore 41 rfl)) (fun H locs Y => ?_)
    refine lv_istore_n (lv' := [(1, .int r6), (0, .ref (ad 0))]) X.1 X.2.1 (dck_at da_X12_restore 42 rfl) rfl hl (by decide) rfl (fun ls hl => ?_)
    refine lv_aload_n X.1 X.2.1 (dck_at da_X12_restore 43 rfl) rfl (lv_at hl 1 rfl) ?_
    refine lv_iload_n X.1 X.2.1 (dck_at da_X12_restore 44 rfl) rfl (lv_at hl 0 rfl) ?_
    refine lv_aload_n X.1 X.2.1 (dck_at da_X12_restore 45 rfl) rfl (lv_at hl 1 rfl) ?_
    refine gr_getR X G Y fk_RX12_44 clM_0 rfl (dck_at da_X12_restore 46 rfl) ?_
    obtain ⟨r7, s7, hc, h⟩ := gB2_some h
    refine gr_backi Y (gr_runV (as := [.int r6, .ref (ad 12)]) (rest := []) X G Y (ok_m_gives_v6 hc) cv_RX12_324 clM_0 ⟨Nat.le_of_ble_eq_true rfl, Nat.le_of_ble_eq_true rfl⟩ rfl hl.1 (Nat.le_of_ble_eq_true rfl) (dck_at da_X12_restore 47 rfl)) (fun H locs Y => ?_)
    refine lv_istore_n (lv' := [(1, .int r7), (0, .ref (ad 0))]) X.1 X.2.1 (dck_at da_X12_restore 48 rfl) rfl hl (by decide) rfl (fun ls hl => ?_)
    refine lv_aload_n X.1 X.2.1 (dck_at da_X12_restore 49 rfl) rfl (lv_at hl 1 rfl) ?_
    refine lv_iload_n X.1 X.2.1 (dck_at da_X12_restore 50 rfl) rfl (lv_at hl 0 rfl) ?_
    refine lv_aload_n X.1 X.2.1 (dck_at da_X12_restore 51 rfl) rfl (lv_at hl 1 rfl) ?_
    refine gr_getR X G Y fk_RX12_47 clM_0 rfl (dck_at da_X12_restore 52 rfl) ?_
    obtain ⟨r8, s8, hc, h⟩ := gB2_some h
    refine gr_backi Y (gr_runV (as := [.int r7, .ref (ad 13)]) (rest := []) X G Y (ok_m_gives_v7 hc) cv_RX12_324 clM_0 ⟨Nat.le_of_ble_eq_true rfl, Nat.le_of_ble_eq_true rfl⟩ rfl hl.1 (Nat.le_of_ble_eq_true rfl) (dck_at da_X12_restore 53 rfl)) (fun H locs Y => ?_)
    refine lv_istore_n (lv' := [(1, .int r8), (0, .ref (ad 0))]) X.1 X.2.1 (dck_at da_X12_restore 54 rfl) rfl hl (by decide) rfl (fun ls hl => ?_)
    refine lv_aload_n X.1 X.2.1 (dck_at da_X12_restore 55 rfl) rfl (lv_at hl 1 rfl) ?_
    refine lv_iload_n X.1 X.2.1 (dck_at da_X12_restore 56 rfl) rfl (lv_at hl 0 rfl) ?_
    refine lv_aload_n X.1 X.2.1 (dck_at da_X12_restore 57 rfl) rfl (lv_at hl 1 rfl) ?_
    refine gr_getR X G Y fk_RX12_50 clM_0 rfl (dck_at da_X12_restore 58 rfl) ?_
    obtain ⟨r9, s9, hc, h⟩ := gB2_some h
    refine gr_backi Y (gr_runV (as := [.int r8, .ref (ad 14)]) (rest := []) X G Y (ok_m_gives_v8 hc) cv_RX12_324 clM_0 ⟨Nat.le_of_ble_eq_true rfl, Nat.le_of_ble_eq_true rfl⟩ rfl hl.1 (Nat.le_of_ble_eq_true rfl) (dck_at da_X12_restore 59 rfl)) (fun H locs Y => ?_)
    refine lv_istore_n (lv' := [(1, .int r9), (0, .ref (ad 0))]) X.1 X.2.1 (dck_at da_X12_restore 60 rfl) rfl hl (by decide) rfl (fun ls hl => ?_)
    refine lv_aload_n X.1 X.2.1 (dck_at da_X12_restore 61 rfl) rfl (lv_at hl 1 rfl) ?_
    refine lv_iload_n X.1 X.2.1 (dck_at da_X12_restore 62 rfl) rfl (lv_at hl 0 rfl) ?_
    refine lv_aload_n X.1 X.2.1 (dck_at da_X12_restore 63 rfl) rfl (lv_at hl 1 rfl) ?_
    refine gr_getR X G Y fk_RX12_56 clM_0 rfl (dck_at da_X12_restore 64 rfl) ?_
    obtain ⟨r10, s10, hc, h⟩ := gB2_some h
    refine gr_backi Y (gr_runV (as := [.int r9, .ref (ad 16)]) (rest := []) X G Y (ok_m_gives_v9 hc) cv_RX12_324 clM_0 ⟨Nat.le_of_ble_eq_true rfl, Nat.le_of_ble_eq_true rfl⟩ rfl hl.1 (Nat.le_of_ble_eq_true rfl) (dck_at da_X12_restore 65 rfl)) (fun H locs Y => ?_)
    refine lv_istore_n (lv' := [(1, .int r10), (0, .ref (ad 0))]) X.1 X.2.1 (dck_at da_X12_restore 66 rfl) rfl hl (by decide) rfl (fun ls hl => ?_)
    refine lv_aload_n X.1 X.2.1 (dck_at da_X12_restore 67 rfl) rfl (lv_at hl 1 rfl) ?_
    refine lv_iload_n X.1 X.2.1 (dck_at da_X12_restore 68 rfl) rfl (lv_at hl 0 rfl) ?_
    refine lv_aload_n X.1 X.2.1 (dck_at da_X12_restore 69 rfl) rfl (lv_at hl 1 rfl) ?_
    refine gr_getR X G Y fk_RX12_59 clM_0 rfl (dck_at da_X12_restore 70 rfl) ?_
    obtain ⟨r11, s11, hc, h⟩ := gB2_some h
    refine gr_backi Y (gr_runV (as := [.int r10, .ref (ad 17)]) (rest := []) X G Y (ok_m_gives_v10 hc) cv_RX12_324 clM_0 ⟨Nat.le_of_ble_eq_true rfl, Nat.le_of_ble_eq_true rfl⟩ rfl hl.1 (Nat.le_of_ble_eq_true rfl) (dck_at da_X12_restore 71 rfl)) (fun H locs Y => ?_)
    refine lv_istore_n (lv' := [(1, .int r11), (0, .ref (ad 0))]) X.1 X.2.1 (dck_at da_X12_restore 72 rfl) rfl hl (by decide) rfl (fun ls hl => ?_)
    refine lv_aload_n X.1 X.2.1 (dck_at da_X12_restore 73 rfl) rfl (lv_at hl 1 rfl) ?_
    refine lv_iload_n X.1 X.2.1 (dck_at da_X12_restore 74 rfl) rfl (lv_at hl 0 rfl) ?_
    refine lv_aload_n X.1 X.2.1 (dck_at da_X12_restore 75 rfl) rfl (lv_at hl 1 rfl) ?_
    refine gr_getR X G Y fk_RX12_62 clM_0 rfl (dck_at da_X12_restore 76 rfl) ?_
    obtain ⟨r12, s12, hc, h⟩ := gB2_some h
    refine gr_backi Y (gr_runV (as := [.int r11, .ref (ad 18)]) (rest := []) X G Y (ok_m_gives_v11 hc) cv_RX12_324 clM_0 ⟨Nat.le_of_ble_eq_true rfl, Nat.le_of_ble_eq_true rfl⟩ rfl hl.1 (Nat.le_of_ble_eq_true rfl) (dck_at da_X12_restore 77 rfl)) (fun H locs Y => ?_)
    refine lv_istore_n (lv' := [(1, .int r12), (0, .ref (ad 0))]) X.1 X.2.1 (dck_at da_X12_restore 78 rfl) rfl hl (by decide) rfl (fun ls hl => ?_)
    refine lv_aload_n X.1 X.2.1 (dck_at da_X12_restore 79 rfl) rfl (lv_at hl 1 rfl) ?_
    refine lv_iload_n X.1 X.2.1 (dck_at da_X12_restore 80 rfl) rfl (lv_at hl 0 rfl) ?_
    refine lv_aload_n X.1 X.2.1 (dck_at da_X12_restore 81 rfl) rfl (lv_at hl 1 rfl) ?_
    refine gr_getR X G Y fk_RX12_71 clM_0 rfl (dck_at da_X12_restore 82 rfl) ?_
    obtain ⟨r13, s13, hc, h⟩ := gB2_some h
    refine gr_backi Y (gr_runV (as := [.int r12, .ref (ad 21)]) (rest := []) X G Y (ok_m_gives_v12 hc) cv_RX12_324 clM_0 ⟨Nat.le_of_ble_eq_true rfl, Nat.le_of_ble_eq_true rfl⟩ rfl hl.1 (Nat.le_of_ble_eq_true rfl) (dck_at da_X12_restore 83 rfl)) (fun H locs Y => ?_)
    refine lv_istore_n (lv' := [(1, .int r13), (0, .ref (ad 0))]) X.1 X.2.1 (dck_at da_X12_restore 84 rfl) rfl hl (by decide) rfl (fun ls hl => ?_)
    refine lv_aload_n X.1 X.2.1 (dck_at da_X12_restore 85 rfl) rfl (lv_at hl 1 rfl) ?_
    refine lv_iload_n X.1 X.2.1 (dck_at da_X12_restore 86 rfl) rfl (lv_at hl 0 rfl) ?_
    refine lv_aload_n X.1 X.2.1 (dck_at da_X12_restore 87 rfl) rfl (lv_at hl 1 rfl) ?_
    refine gr_getR X G Y fk_RX12_74 clM_0 rfl (dck_at da_X12_restore 88 rfl) ?_
    obtain ⟨r14, s14, hc, h⟩ := gB2_some h
    refine gr_backi Y (gr_runV (as := [.int r13, .ref (ad 22)]) (rest := []) X G Y (ok_m_gives_v13 hc) cv_RX12_324 clM_0 ⟨Nat.le_of_ble_eq_true rfl, Nat.le_of_ble_eq_true rfl⟩ rfl hl.1 (Nat.le_of_ble_eq_true rfl) (dck_at da_X12_restore 89 rfl)) (fun H locs Y => ?_)
    refine lv_istore_n (lv' := [(1, .int r14), (0, .ref (ad 0))]) X.1 X.2.1 (dck_at da_X12_restore 90 rfl) rfl hl (by decide) rfl (fun ls hl => ?_)
    refine lv_aload_n X.1 X.2.1 (dck_at da_X12_restore 91 rfl) rfl (lv_at hl 1 rfl) ?_
    refine lv_iload_n X.1 X.2.1 (dck_at da_X12_restore 92 rfl) rfl (lv_at hl 0 rfl) ?_
    refine lv_aload_n X.1 X.2.1 (dck_at da_X12_restore 93 rfl) rfl (lv_at hl 1 rfl) ?_
    refine gr_getR X G Y fk_RX12_77 clM_0 rfl (dck_at da_X12_restore 94 rfl) ?_
    obtain ⟨r15, s15, hc, h⟩ := gB2_some h
    refine gr_backi Y (gr_runV (as := [.int r14, .ref (ad 23)]) (rest := []) X G Y (ok_m_gives_v14 hc) cv_RX12_324 clM_0 ⟨Nat.le_of_ble_eq_true rfl, Nat.le_of_ble_eq_true rfl⟩ rfl hl.1 (Nat.le_of_ble_eq_true rfl) (dck_at da_X12_restore 95 rfl)) (fun H locs Y => ?_)
    refine lv_istore_n (lv' := [(1, .int r15), (0, .ref (ad 0))]) X.1 X.2.1 (dck_at da_X12_restore 96 rfl) rfl hl (by decide) rfl (fun ls hl => ?_)
    refine lv_aload_n X.1 X.2.1 (dck_at da_X12_restore 97 rfl) rfl (lv_at hl 1 rfl) ?_
    refine lv_iload_n X.1 X.2.1 (dck_at da_X12_restore 98 rfl) rfl (lv_at hl 0 rfl) ?_
    refine lv_aload_n X.1 X.2.1 (dck_at da_X12_restore 99 rfl) rfl (lv_at hl 1 rfl) ?_
    refine gr_getR X G Y fk_RX12_80 clM_0 rfl (dck_at da_X12_restore 100 rfl) ?_
    obtain ⟨r16, s16, hc, h⟩ := gB2_some h
    refine gr_backi Y (gr_runV (as := [.int r15, .ref (ad 24)]) (rest := []) X G Y (ok_m_gives_v15 hc) cv_RX12_324 clM_0 ⟨Nat.le_of_ble_eq_true rfl, Nat.le_of_ble_eq_true rfl⟩ rfl hl.1 (Nat.le_of_ble_eq_true rfl) (dck_at da_X12_restore 101 rfl)) (fun H locs Y => ?_)
    refine lv_istore_n (lv' := [(1, .int r16), (0, .ref (ad 0))]) X.1 X.2.1 (dck_at da_X12_restore 102 rfl) rfl hl (by decide) rfl (fun ls hl => ?_)
    refine lv_aload_n X.1 X.2.1 (dck_at da_X12_restore 103 rfl) rfl (lv_at hl 1 rfl) ?_
    refine lv_iload_n X.1 X.2.1 (dck_at da_X12_restore 104 rfl) rfl (lv_at hl 0 rfl) ?_
    refine lv_aload_n X.1 X.2.1 (dck_at da_X12_restore 105 rfl) rfl (lv_at hl 1 rfl) ?_
    refine gr_getR X G Y fk_RX12_83 clM_0 rfl (dck_at da_X12_restore 106 rfl) ?_
    obtain ⟨r17, s17, hc, h⟩ := gB2_some h
    refine gr_backi Y (gr_runV (as := [.int r16, .ref (ad 25)]) (rest := []) X G Y (ok_m_gives_v16 hc) cv_RX12_324 clM_0 ⟨Nat.le_of_ble_eq_true rfl, Nat.le_of_ble_eq_true rfl⟩ rfl hl.1 (Nat.le_of_ble_eq_true rfl) (dck_at da_X12_restore 107 rfl)) (fun H locs Y => ?_)
    refine lv_istore_n (lv' := [(1, .int r17), (0, .ref (ad 0))]) X.1 X.2.1 (dck_at da_X12_restore 108 rfl) rfl hl (by decide) rfl (fun ls hl => ?_)
    refine lv_aload_n X.1 X.2.1 (dck_at da_X12_restore 109 rfl) rfl (lv_at hl 1 rfl) ?_
    refine lv_aload_n X.1 X.2.1 (dck_at da_X12_restore 110 rfl) rfl (lv_at hl 1 rfl) ?_
    refine gr_getR X G Y fk_RX12_89 clM_0 rfl (dck_at da_X12_restore 111 rfl) ?_
    refine lv_iload_n X.1 X.2.1 (dck_at da_X12_restore 112 rfl) rfl (lv_at hl 0 rfl) ?_
    obtain ⟨hin, h⟩ := gI_if h
    refine gr_iald X G Y clM_27 hin (dck_at da_X12_restore 113 rfl) ?_
    refine gr_putI X G Y fp_RX12_107 clM_0 rfl (dck_at da_X12_restore 114 rfl) (fun H locs Y => ?_)
    refine lv_aload_n X.1 X.2.1 (dck_at da_X12_restore 115 rfl) rfl (lv_at hl 1 rfl) ?_
    refine lv_aload_n X.1 X.2.1 (dck_at da_X12_restore 116 rfl) rfl (lv_at hl 1 rfl) ?_
    refine gr_getR X G Y fk_RX12_89 clM_0 rfl (dck_at da_X12_restore 117 rfl) ?_
    refine lv_iload_n X.1 X.2.1 (dck_at da_X12_restore 118 rfl) rfl (lv_at hl 0 rfl) ?_
    refine lv_iconst X.1 X.2.1 (dck_at da_X12_restore 119 rfl) ki_1 ?_
    refine lv_iadd X.1 X.2.1 (dck_at da_X12_restore 120 rfl) ?_
    obtain ⟨hin, h⟩ := gI_if h
    refine gr_iald X G Y clM_27 hin (dck_at da_X12_restore 121 rfl) ?_
    refine gr_putI X G Y fp_RX12_228 clM_0 rfl (dck_at da_X12_restore 122 rfl) (fun H locs Y => ?_)
    refine lv_aload_n X.1 X.2.1 (dck_at da_X12_restore 123 rfl) rfl (lv_at hl 1 rfl) ?_
    refine lv_aload_n X.1 X.2.1 (dck_at da_X12_restore 124 rfl) rfl (lv_at hl 1 rfl) ?_
    refine gr_getR X G Y fk_RX12_89 clM_0 rfl (dck_at da_X12_restore 125 rfl) ?_
    refine lv_iload_n X.1 X.2.1 (dck_at da_X12_restore 126 rfl) rfl (lv_at hl 0 rfl) ?_
    refine lv_iconst X.1 X.2.1 (dck_at da_X12_restore 127 rfl) ki_2 ?_
    refine lv_iadd X.1 X.2.1 (dck_at da_X12_restore 128 rfl) ?_
    obtain ⟨hin, h⟩ := gI_if h
    refine gr_iald X G Y clM_27 hin (dck_at da_X12_restore 129 rfl) ?_
    refine gr_putI X G Y fp_RX12_231 clM_0 rfl (dck_at da_X12_restore 130 rfl) (fun H locs Y => ?_)
    refine lv_aload_n X.1 X.2.1 (dck_at da_X12_restore 131 rfl) rfl (lv_at hl 1 rfl) ?_
    refine lv_aload_n X.1 X.2.1 (dck_at da_X12_restore 132 rfl) rfl (lv_at hl 1 rfl) ?_
    refine gr_getR X G Y fk_RX12_89 clM_0 rfl (dck_at da_X12_restore 133 rfl) ?_
    refine lv_iload_n X.1 X.2.1 (dck_at da_X12_restore 134 rfl) rfl (lv_at hl 0 rfl) ?_
    refine lv_iconst X.1 X.2.1 (dck_at da_X12_restore 135 rfl) ki_3 ?_
    refine lv_iadd X.1 X.2.1 (dck_at da_X12_restore 136 rfl) ?_
    obtain ⟨hin, h⟩ := gI_if h
    refine gr_iald X G Y clM_27 hin (dck_at da_X12_restore 137 rfl) ?_
    refine gr_putI X G Y fp_RX12_234 clM_0 rfl (dck_at da_X12_restore 138 rfl) (fun H locs Y => ?_)
    refine lv_aload_n X.1 X.2.1 (dck_at da_X12_restore 139 rfl) rfl (lv_at hl 1 rfl) ?_
    refine lv_aload_n X.1 X.2.1 (dck_at da_X12_restore 140 rfl) rfl (lv_at hl 1 rfl) ?_
    refine gr_getR X G Y fk_RX12_89 clM_0 rfl (dck_at da_X12_restore 141 rfl) ?_
    refine lv_iload_n X.1 X.2.1 (dck_at da_X12_restore 142 rfl) rfl (lv_at hl 0 rfl) ?_
    refine lv_iconst X.1 X.2.1 (dck_at da_X12_restore 143 rfl) ki_4 ?_
    refine lv_iadd X.1 X.2.1 (dck_at da_X12_restore 144 rfl) ?_
    obtain ⟨hin, h⟩ := gI_if h
    refine gr_iald X G Y clM_27 hin (dck_at da_X12_restore 145 rfl) ?_
    refine gr_putI X G Y fp_RX12_237 clM_0 rfl (dck_at da_X12_restore 146 rfl) (fun H locs Y => ?_)
    refine lv_aload_n X.1 X.2.1 (dck_at da_X12_restore 147 rfl) rfl (lv_at hl 1 rfl) ?_
    refine lv_aload_n X.1 X.2.1 (dck_at da_X12_restore 148 rfl) rfl (lv_at hl 1 rfl) ?_
    refine gr_getR X G Y fk_RX12_89 clM_0 rfl (dck_at da_X12_restore 149 rfl) ?_
    refine lv_iload_n X.1 X.2.1 (dck_at da_X12_restore 150 rfl) rfl (lv_at hl 0 rfl) ?_
    refine lv_iconst X.1 X.2.1 (dck_at da_X12_restore 151 rfl) ki_5 ?_
    refine lv_iadd X.1 X.2.1 (dck_at da_X12_restore 152 rfl) ?_
    obtain ⟨hin, h⟩ := gI_if h
    refine gr_iald X G Y clM_27 hin (dck_at da_X12_restore 153 rfl) ?_
    refine gr_putI X G Y fp_RX12_240 clM_0 rfl (dck_at da_X12_restore 154 rfl) (fun H locs Y => ?_)
    refine lv_iconst X.1 X.2.1 (dck_at da_X12_restore 155 rfl) ki_0 ?_
    refine lv_istore_n (lv' := [(2, .int (0 : Int32)), (1, .int r17), (0, .ref (ad 0))]) X.1 X.2.1 (dck_at da_X12_restore 156 rfl) rfl hl (by decide) rfl (fun ls hl => ?_)
    exact b256 F (0 : Int32) (sI (sI (sI (sI (sI (sI s17 0 13 (s17.1 27 (r17).toNatClampNeg)) 0 14 ((sI s17 0 13 (s17.1 27 (r17).toNatClampNeg)).1 27 (r17 + (1 : Int32)).toNatClampNeg)) 0 18 ((sI (sI s17 0 13 (s17.1 27 (r17).toNatClampNeg)) 0 14 ((sI s17 0 13 (s17.1 27 (r17).toNatClampNeg)).1 27 (r17 + (1 : Int32)).toNatClampNeg)).1 27 (r17 + (2 : Int32)).toNatClampNeg)) 0 21 ((sI (sI (sI s17 0 13 (s17.1 27 (r17).toNatClampNeg)) 0 14 ((sI s17 0 13 (s17.1 27 (r17).toNatClampNeg)).1 27 (r17 + (1 : Int32)).toNatClampNeg)) 0 18 ((sI (sI s17 0 13 (s17.1 27 (r17).toNatClampNeg)) 0 14 ((sI s17 0 13 (s17.1 27 (r17).toNatClampNeg)).1 27 (r17 + (1 : Int32)).toNatClampNeg)).1 27 (r17 + (2 : Int32)).toNatClampNeg)).1 27 (r17 + (3 : Int32)).toNatClampNeg)) 0 27 ((sI (sI (sI (sI s17 0 13 (s17.1 27 (r17).toNatClampNeg)) 0 14 ((sI s17 0 13 (s17.1 27 (r17).toNatClampNeg)).1 27 (r17 + (1 : Int32)).toNatClampNeg)) 0 18 ((sI (sI s17 0 13 (s17.1 27 (r17).toNatClampNeg)) 0 14 ((sI s17 0 13 (s17.1 27 (r17).toNatClampNeg)).1 27 (r17 + (1 : Int32)).toNatClampNeg)).1 27 (r17 + (2 : Int32)).toNatClampNeg)) 0 21 ((sI (sI (sI s17 0 13 (s17.1 27 (r17).toNatClampNeg)) 0 14 ((sI s17 0 13 (s17.1 27 (r17).toNatClampNeg)).1 27 (r17 + (1 : Int32)).toNatClampNeg)) 0 18 ((sI (sI s17 0 13 (s17.1 27 (r17).toNatClampNeg)) 0 14 ((sI s17 0 13 (s17.1 27 (r17).toNatClampNeg)).1 27 (r17 + (1 : Int32)).toNatClampNeg)).1 27 (r17 + (2 : Int32)).toNatClampNeg)).1 27 (r17 + (3 : Int32)).toNatClampNeg)).1 27 (r17 + (4 : Int32)).toNatClampNeg)) 0 31 ((sI (sI (sI (sI (sI s17 0 13 (s17.1 27 (r17).toNatClampNeg)) 0 14 ((sI s17 0 13 (s17.1 27 (r17).toNatClampNeg)).1 27 (r17 + (1 : Int32)).toNatClampNeg)) 0 18 ((sI (sI s17 0 13 (s17.1 27 (r17).toNatClampNeg)) 0 14 ((sI s17 0 13 (s17.1 27 (r17).toNatClampNeg)).1 27 (r17 + (1 : Int32)).toNatClampNeg)).1 27 (r17 + (2 : Int32)).toNatClampNeg)) 0 21 ((sI (sI (sI s17 0 13 (s17.1 27 (r17).toNatClampNeg)) 0 14 ((sI s17 0 13 (s17.1 27 (r17).toNatClampNeg)).1 27 (r17 + (1 : Int32)).toNatClampNeg)) 0 18 ((sI (sI s17 0 13 (s17.1 27 (r17).toNatClampNeg)) 0 14 ((sI s17 0 13 (s17.1 27 (r17).toNatClampNeg)).1 27 (r17 + (1 : Int32)).toNatClampNeg)).1 27 (r17 + (2 : Int32)).toNatClampNeg)).1 27 (r17 + (3 : Int32)).toNatClampNeg)) 0 27 ((sI (sI (sI (sI s17 0 13 (s17.1 27 (r17).toNatClampNeg)) 0 14 ((sI s17 0 13 (s17.1 27 (r17).toNatClampNeg)).1 27 (r17 + (1 : Int32)).toNatClampNeg)) 0 18 ((sI (sI s17 0 13 (s17.1 27 (r17).toNatClampNeg)) 0 14 ((sI s17 0 13 (s17.1 27 (r17).toNatClampNeg)).1 27 (r17 + (1 : Int32)).toNatClampNeg)).1 27 (r17 + (2 : Int32)).toNatClampNeg)) 0 21 ((sI (sI (sI s17 0 13 (s17.1 27 (r17).toNatClampNeg)) 0 14 ((sI s17 0 13 (s17.1 27 (r17).toNatClampNeg)).1 27 (r17 + (1 : Int32)).toNatClampNeg)) 0 18 ((sI (sI s17 0 13 (s17.1 27 (r17).toNatClampNeg)) 0 14 ((sI s17 0 13 (s17.1 27 (r17).toNatClampNeg)).1 27 (r17 + (1 : Int32)).toNatClampNeg)).1 27 (r17 + (2 : Int32)).toNatClampNeg)).1 27 (r17 + (3 : Int32)).toNatClampNeg)).1 27 (r17 + (4 : Int32)).toNatClampNeg)).1 27 (r17 + (5 : Int32)).toNatClampNeg)) _ _ _ h Y (lv_sub hl [2, 0] rfl)
  · have h := gI_pos h c
    refine lv_aload_n X.1 X.2.1 (dck_at da_X12_restore 3 rfl) rfl (lv_at hl 0 rfl) ?_
    refine lv_bipush X.1 X.2.1 (dck_at da_X12_restore 4 rfl) kb_m4 ?_
    obtain ⟨r18, s18, hc, h⟩ := gB2_some h
    refine gr_backi Y (gr_runV (as := [.int (-4 : Int32)]) (rest := []) X G Y (ok_m_tells hc) cv_RX12_130 clM_0 ⟨Nat.le_of_ble_eq_true rfl, Nat.le_of_ble_eq_true rfl⟩ rfl hl.1 (Nat.le_of_ble_eq_true rfl) (dck_at da_X12_restore 5 rfl)) (fun H locs Y => ?_)
    exact gr_iretO X Y h hr rfl hlk (dck_at da_X12_restore 6 rfl)
set_option maxRecDepth 100000 in
set_option maxHeartbeats 4000000 in
theorem ok_m_isSheet {l : Launch} {D : va_G} {cy : Nat → ClassId} {ad sa : Nat → Nat} {A : Nat → Prop} {F : Nat} {a0 : Int32} {s0 : St} {ρ : Int32} {σ' : St} (h : m_isSheet F a0 s0 = some (ρ, σ')) : gMi l shM D cy ad sa A yX12_isSheet cX12_isSheet 1 (some .boolean) 2 [.int a0] s0 ρ σ' := by
  refine gM_of (by decide) (Nat.le_of_ble_eq_true rfl) ?_
  intro p e s m args below meth c ls X G Y hr hlk hl
  have hl : lv_has ls 1 [(0, .int a0)] := hl
  unfold m_isSheet at h
  refine lv_iload_n X.1 X.2.1 (dck_at da_X12_isSheet 0 rfl) rfl (lv_at hl 0 rfl) ?_
  refine lv_i2l (v := (a0).toInt64) X.1 X.2.1 (dck_at da_X12_isSheet 1 rfl) rfl ?_
  refine lv_lconst (v := 0) X.1 X.2.1 (dck_at da_X12_isSheet 2 rfl) rfl ?_
  refine lv_ldc2 X.1 X.2.1 X.2.2.2.1 (X.2.2.2.2 _ wm_1323) (dck_at da_X12_isSheet 3 rfl) ?_
  obtain ⟨r1, s1, hc, h⟩ := gB2_some h
  refine gr_backi Y (gr_runS (as := [.long ((a0).toInt64), .long (0 : Int64), .long (3 : Int64)]) (rest := []) X G Y (ok_m_in hc) cs_RX12_126 ⟨Nat.le_of_ble_eq_true rfl, Nat.le_of_ble_eq_true rfl⟩ rfl hl.1 (Nat.le_of_ble_eq_true rfl) (dck_at da_X12_isSheet 4 rfl)) (fun H locs Y => ?_)
  obtain ⟨hz, h⟩ := gI_if h
  exact gr_iretO X Y h hr (gz_nar hz) hlk (dck_at da_X12_isSheet 5 rfl)
set_option maxRecDepth 100000 in
set_option maxHeartbeats 4000000 in
theorem ok_m_isLane {l : Launch} {D : va_G} {cy : Nat → ClassId} {ad sa : Nat → Nat} {A : Nat → Prop} {F : Nat} {a0 : Int32} {s0 : St} {ρ : Int32} {σ' : St} (h : m_isLane F a0 s0 = some (ρ, σ')) : gMi l shM D cy ad sa A yX12_isLane cX12_isLane 1 (some .boolean) 2 [.int a0] s0 ρ σ' := by
  refine gM_of (by decide) (Nat.le_of_ble_eq_true rfl) ?_
  intro p e s m args below meth c ls X G Y hr hlk hl
  have hl : lv_has ls 1 [(0, .int a0)] := hl
  unfold m_isLane at h
  refine lv_iload_n X.1 X.2.1 (dck_at da_X12_isLane 0 rfl) rfl (lv_at hl 0 rfl) ?_
  refine lv_i2l (v := (a0).toInt64) X.1 X.2.1 (dck_at da_X12_isLane 1 rfl) rfl ?_
  refine lv_lconst (v := 0) X.1 X.2.1 (dck_at da_X12_isLane 2 rfl) rfl ?_
  refine lv_ldc2 X.1 X.2.1 X.2.2.2.1 (X.2.2.2.2 _ wm_1323) (dck_at da_X12_isLane 3 rfl) ?_
  obtain ⟨r1, s1, hc, h⟩ := gB2_some h
  refine gr_backi Y (gr_runS (as := [.long ((a0).toInt64), .long (0 : Int64), .long (3 : Int64)]) (rest := []) X G Y (ok_m_in hc) cs_RX12_126 ⟨Nat.le_of_ble_eq_true rfl, Nat.le_of_ble_eq_true rfl⟩ rfl hl.1 (Nat.le_of_ble_eq_true rfl) (dck_at da_X12_isLane 4 rfl)) (fun H locs Y => ?_)
  obtain ⟨hz, h⟩ := gI_if h
  exact gr_iretO X Y h hr (gz_nar hz) hlk (dck_at da_X12_isLane 5 rfl)
set_option maxRecDepth 100000 in
set_option maxHeartbeats 4000000 in
theorem ok_m_why {l : Launch} {D : va_G} {cy : Nat → ClassId} {ad sa : Nat → Nat} {A : Nat → Prop} {F : Nat} {a1 : Int32} {a2 : Int32} {a3 : Int32} {a4 : Int32} {s0 : St} {ρ : Int32} {σ' : St} (h : m_why F a1 a2 a3 a4 s0 = some (ρ, σ')) : gMi l shM D cy ad sa A yX12_why cX12_why 5 (some .int) 1 [.ref (ad 0), .int a1, .int a2, .int a3, .int a4] s0 ρ σ' := by
  refine gM_of (by decide) (Nat.le_of_ble_eq_true rfl) ?_
  intro p e s m args below meth c ls X G Y hr hlk hl
  have hl : lv_has ls 5 [(0, .ref (ad 0)), (1, .int a1), (2, .int a2), (3, .int a3), (4, .int a4)] := hl
  have b46 : ∀  (s0 : St) (H : Heap) (locs : List Loc) (ls : Array Slot), m_why_J46 F  s0 = some (ρ, σ') → gY shM D cy ad A s0 s H locs → lv_has ls 5 [] → W p l e (grm 1) s m args below meth c H locs 0 0 (MQ below (va_Qi (fun (q : Int32) (_ : Unit) => q = ρ) (fun _ t => va_P D vwCl (gWl shM cy ad σ') t.heap) A) args s 0 0 A) (F0 m 46 ls []) := by
    intro s0 H locs ls h Y hl
    unfold m_why_J46 at h
    refine lv_bipush X.1 X.2.1 (dck_at da_X12_why 29 rfl) kb_m13 ?_
    refine lv_goto (tgt := 52) X.1 X.2.1 (dck_at da_X12_why 30 rfl) rfl ?_
    exact gr_iretO X Y h hr rfl hlk (dck_at da_X12_why 32 rfl)
  unfold m_why at h
  refine lv_aload_n X.1 X.2.1 (dck_at da_X12_why 0 rfl) rfl (lv_at hl 0 rfl) ?_
  refine gr_getR X G Y fk_RX12_95 clM_0 rfl (dck_at da_X12_why 1 rfl) ?_
  refine lv_iload_n X.1 X.2.1 (dck_at da_X12_why 2 rfl) rfl (lv_at hl 1 rfl) ?_
  obtain ⟨hin, h⟩ := gI_if h
  refine gr_iald X G Y clM_29 hin (dck_at da_X12_why 3 rfl) ?_
  refine lv_if_ge (tgt := 12) X.1 X.2.1 (dck_at da_X12_why 4 rfl) rfl (fun c => ?_) (fun c => ?_)
  · have h := gI_pos h c
    refine lv_aload_n X.1 X.2.1 (dck_at da_X12_why 7 rfl) rfl (lv_at hl 0 rfl) ?_
    refine gr_getR X G Y fk_RX12_95 clM_0 rfl (dck_at da_X12_why 8 rfl) ?_
    refine lv_iload_n X.1 X.2.1 (dck_at da_X12_why 9 rfl) rfl (lv_at hl 1 rfl) ?_
    obtain ⟨hin, h⟩ := gI_if h
    refine gr_iald X G Y clM_29 hin (dck_at da_X12_why 10 rfl) ?_
    refine lv_iload_n X.1 X.2.1 (dck_at da_X12_why 11 rfl) rfl (lv_at hl 2 rfl) ?_
    refine lv_icmp_eq (tgt := 25) X.1 X.2.1 (dck_at da_X12_why 12 rfl) rfl (fun c => ?_) (fun c => ?_)
    · have h := gI_pos h c
      refine lv_iload_n X.1 X.2.1 (dck_at da_X12_why 15 rfl) rfl (lv_at hl 3 rfl) ?_
      refine lv_if_lt (tgt := 46) X.1 X.2.1 (dck_at da_X12_why 16 rfl) rfl (fun c => ?_) (fun c => ?_)
      · have h := gI_pos h c
        exact b46 s0 _ _ _ h Y (lv_sub hl [] rfl)
      · have h := gI_neg h c
        refine lv_iload_n X.1 X.2.1 (dck_at da_X12_why 17 rfl) rfl (lv_at hl 3 rfl) ?_
        refine lv_i2l (v := (a3).toInt64) X.1 X.2.1 (dck_at da_X12_why 18 rfl) rfl ?_
        refine lv_iload X.1 X.2.1 (dck_at da_X12_why 19 rfl) (lv_at hl 4 rfl) ?_
        refine lv_i2l (v := (a4).toInt64) X.1 X.2.1 (dck_at da_X12_why 20 rfl) rfl ?_
        refine lv_ladd X.1 X.2.1 (dck_at da_X12_why 21 rfl) ?_
        refine lv_aload_n X.1 X.2.1 (dck_at da_X12_why 22 rfl) rfl (lv_at hl 0 rfl) ?_
        refine gr_getR X G Y fk_RX12_98 clM_0 rfl (dck_at da_X12_why 23 rfl) ?_
        refine lv_iload_n X.1 X.2.1 (dck_at da_X12_why 24 rfl) rfl (lv_at hl 1 rfl) ?_
        obtain ⟨hin, h⟩ := gI_if h
        refine gr_iald X G Y clM_30 hin (dck_at da_X12_why 25 rfl) ?_
        refine lv_i2l (v := (s0.1 30 (a1).toNatClampNeg).toInt64) X.1 X.2.1 (dck_at da_X12_why 26 rfl) rfl ?_
        refine W.lcmp X.1 X.2.1 (dck_at da_X12_why 27 rfl) ?_
        refine lv_if_le (tgt := 51) X.1 X.2.1 (dck_at da_X12_why 28 rfl) rfl (fun c => ?_) (fun c => ?_)
        · have h := gI_pos h c
          refine lv_iconst X.1 X.2.1 (dck_at da_X12_why 31 rfl) ki_0 ?_
          exact gr_iretO X Y h hr rfl hlk (dck_at da_X12_why 32 rfl)
        · have h := gI_neg h c
          exact b46 s0 _ _ _ h Y (lv_sub hl [] rfl)
    · have h := gI_neg h c
      refine lv_bipush X.1 X.2.1 (dck_at da_X12_why 13 rfl) kb_m12 ?_
      exact gr_iretO X Y h hr rfl hlk (dck_at da_X12_why 14 rfl)
  · have h := gI_neg h c
    refine lv_bipush X.1 X.2.1 (dck_at da_X12_why 5 rfl) kb_m11 ?_
    exact gr_iretO X Y h hr rfl hlk (dck_at da_X12_why 6 rfl)
set_option maxRecDepth 100000 in
set_option maxHeartbeats 4000000 in
theorem ok_m_finds {l : Launch} {D : va_G} {cy : Nat → ClassId} {ad sa : Nat → Nat} {A : Nat → Prop} {F : Nat} {a1 : Int32} {a2 : Int32} {a3 : Int32} {a4 : Int32} {s0 : St} {ρ : Int32} {σ' : St} (h : m_finds F a1 a2 a3 a4 s0 = some (ρ, σ')) : gMi l shM D cy ad sa A yX12_finds cX12_finds 8 (some .int) 3 [.ref (ad 0), .int a1, .int a2, .int a3, .int a4] s0 ρ σ' := by
  refine gM_of (by decide) (Nat.le_of_ble_eq_true rfl) ?_
  intro p e s m args below meth c ls X G Y hr hlk hl
  have hl : lv_has ls 8 [(0, .ref (ad 0)), (1, .int a1), (2, .int a2), (3, .int a3), (4, .int a4)] := hl
  have b27 : ∀  (s0 : St) (H : Heap) (locs : List Loc) (ls : Array Slot), m_finds_J27 F  s0 = some (ρ, σ') → gY shM D cy ad A s0 s H locs → lv_has ls 8 [(0, .ref (ad 0))] → W p l e (grm 3) s m args below meth c H locs 0 0 (MQ below (va_Qi (fun (q : Int32) (_ : Unit) => q = ρ) (fun _ t => va_P D vwCl (gWl shM cy ad σ') t.heap) A) args s 0 0 A) (F0 m 27 ls []) := by
    intro s0 H locs ls h Y hl
    unfold m_finds_J27 at h
    refine lv_aload_n X.1 X.2.1 (dck_at da_X12_finds 12 rfl) rfl (lv_at hl 0 rfl) ?_
    refine lv_iconst X.1 X.2.1 (dck_at da_X12_finds 13 rfl) ki_m1 ?_
    obtain ⟨r1, s1, hc, h⟩ := gB2_some h
    refine gr_backi Y (gr_runV (as := [.int (-1 : Int32)]) (rest := []) X G Y (ok_m_tells hc) cv_RX12_130 clM_0 ⟨Nat.le_of_ble_eq_true rfl, Nat.le_of_ble_eq_true rfl⟩ rfl hl.1 (Nat.le_of_ble_eq_true rfl) (dck_at da_X12_finds 14 rfl)) (fun H locs Y => ?_)
    exact gr_iretO X Y h hr rfl hlk (dck_at da_X12_finds 15 rfl)
  have b157 : ∀ n : Nat, ∀ (x4 : Int32) (x6 : Int32) (x7 : Int32) (s0 : St) (H : Heap) (locs : List Loc) (ls : Array Slot), m_finds_L157 F  n x4 x6 x7 s0 = some (ρ, σ') → gY shM D cy ad A s0 s H locs → lv_has ls 8 [(0, .ref (ad 0)), (4, .int x4), (6, .int x6), (7, .int x7)] → W p l e (grm 3) s m args below meth c H locs 0 0 (MQ below (va_Qi (fun (q : Int32) (_ : Unit) => q = ρ) (fun _ t => va_P D vwCl (gWl shM cy ad σ') t.heap) A) args s 0 0 A) (F0 m 157 ls []) := by
    intro n
    induction n with
    | zero => intro x4 x6 x7 s0 H locs ls h Y hl; exact (gnone h).elim
    | succ n hk157 =>
      have e : m_finds_L157 F  (n + 1) = m_finds_L157b F  (m_finds_L157 F  n) := rfl
      rw [e]; clear e
      generalize m_finds_L157 F  n = k157 at hk157 ⊢
      intro x4 x6 x7 s0 H locs ls h Y hl
      unfold m_finds_L157b at h
      refine lv_iload X.1 X.2.1 (dck_at da_X12_finds 90 rfl) (lv_at hl 3 rfl) ?_
      refine lv_iload X.1 X.2.1 (dck_at da_X12_finds 91 rfl) (lv_at hl 1 rfl) ?_
      refine lv_icmp_ge (tgt := 217) X.1 X.2.1 (dck_at da_X12_finds 92 rfl) rfl (fun c => ?_) (fun c => ?_)
      · have h := gI_pos h c
        refine lv_aload_n X.1 X.2.1 (dck_at da_X12_finds 128 rfl) rfl (lv_at hl 0 rfl) ?_
        refine gr_getI X G Y fk_RX12_237 clM_0 rfl (dck_at da_X12_finds 129 rfl) ?_
        exact gr_iretO X Y h hr rfl hlk (dck_at da_X12_finds 130 rfl)
      · have h := gI_neg h c
        refine lv_aload_n X.1 X.2.1 (dck_at da_X12_finds 93 rfl) rfl (lv_at hl 0 rfl) ?_
        refine lv_aload_n X.1 X.2.1 (dck_at da_X12_finds 94 rfl) rfl (lv_at hl 0 rfl) ?_
        refine gr_getR X G Y fk_RX12_101 clM_0 rfl (dck_at da_X12_finds 95 rfl) ?_
        refine lv_iload X.1 X.2.1 (dck_at da_X12_finds 96 rfl) (lv_at hl 2 rfl) ?_
        refine lv_iconst X.1 X.2.1 (dck_at da_X12_finds 97 rfl) ki_3 ?_
        refine lv_iload X.1 X.2.1 (dck_at da_X12_finds 98 rfl) (lv_at hl 3 rfl) ?_
        refine lv_imul X.1 X.2.1 (dck_at da_X12_finds 99 rfl) ?_
        refine lv_iadd X.1 X.2.1 (dck_at da_X12_finds 100 rfl) ?_
        obtain ⟨hin, h⟩ := gI_if h
        refine gr_lald X G Y clM_31 hin (dck_at da_X12_finds 101 rfl) ?_
        refine lv_l2i (v := (s0.2 31 (x6 + ((3 : Int32) * x7)).toNatClampNeg).toInt32) X.1 X.2.1 (dck_at da_X12_finds 102 rfl) rfl ?_
        refine lv_aload_n X.1 X.2.1 (dck_at da_X12_finds 103 rfl) rfl (lv_at hl 0 rfl) ?_
        refine gr_getR X G Y fk_RX12_101 clM_0 rfl (dck_at da_X12_finds 104 rfl) ?_
        refine lv_iload X.1 X.2.1 (dck_at da_X12_finds 105 rfl) (lv_at hl 2 rfl) ?_
        refine lv_iconst X.1 X.2.1 (dck_at da_X12_finds 106 rfl) ki_3 ?_
        refine lv_iload X.1 X.2.1 (dck_at da_X12_finds 107 rfl) (lv_at hl 3 rfl) ?_
        refine lv_imul X.1 X.2.1 (dck_at da_X12_finds 108 rfl) ?_
        refine lv_iadd X.1 X.2.1 (dck_at da_X12_finds 109 rfl) ?_
        refine lv_iconst X.1 X.2.1 (dck_at da_X12_finds 110 rfl) ki_1 ?_
        refine lv_iadd X.1 X.2.1 (dck_at da_X12_finds 111 rfl) ?_
        obtain ⟨hin, h⟩ := gI_if h
        refine gr_lald X G Y clM_31 hin (dck_at da_X12_finds 112 rfl) ?_
        refine lv_l2i (v := (s0.2 31 ((x6 + ((3 : Int32) * x7)) + (1 : Int32)).toNatClampNeg).toInt32) X.1 X.2.1 (dck_at da_X12_finds 113 rfl) rfl ?_
        refine lv_aload_n X.1 X.2.1 (dck_at da_X12_finds 114 rfl) rfl (lv_at hl 0 rfl) ?_
        refine gr_getR X G Y fk_RX12_101 clM_0 rfl (dck_at da_X12_finds 115 rfl) ?_
        refine lv_iload X.1 X.2.1 (dck_at da_X12_finds 116 rfl) (lv_at hl 2 rfl) ?_
        refine lv_iconst X.1 X.2.1 (dck_at da_X12_finds 117 rfl) ki_3 ?_
        refine lv_iload X.1 X.2.1 (dck_at da_X12_finds 118 rfl) (lv_at hl 3 rfl) ?_
        refine lv_imul X.1 X.2.1 (dck_at da_X12_finds 119 rfl) ?_
        refine lv_iadd X.1 X.2.1 (dck_at da_X12_finds 120 rfl) ?_
        refine lv_iconst X.1 X.2.1 (dck_at da_X12_finds 121 rfl) ki_2 ?_
        refine lv_iadd X.1 X.2.1 (dck_at da_X12_finds 122 rfl) ?_
        obtain ⟨hin, h⟩ := gI_if h
        refine gr_lald X G Y clM_31 hin (dck_at da_X12_finds 123 rfl) ?_
        refine lv_l2i (v := (s0.2 31 ((x6 + ((3 : Int32) * x7)) + (2 : Int32)).toNatClampNeg).toInt32) X.1 X.2.1 (dck_at da_X12_finds 124 rfl) rfl ?_
        obtain ⟨s2, hc, h⟩ := gB_some h
        refine gr_backv Y (gr_runV (as := [.int ((s0.2 31 (x6 + ((3 : Int32) * x7)).toNatClampNeg).toInt32), .int ((s0.2 31 ((x6 + ((3 : Int32) * x7)) + (1 : Int32)).toNatClampNeg).toInt32), .int ((s0.2 31 ((x6 + ((3 : Int32) * x7)) + (2 : Int32)).toNatClampNeg).toInt32)]) (rest := []) X G Y (ok_m_writes hc) cv_RX12_298 clM_0 ⟨Nat.le_of_ble_eq_true rfl, Nat.le_of_ble_eq_true rfl⟩ rfl hl.1 (Nat.le_of_ble_eq_true rfl) (dck_at da_X12_finds 125 rfl)) (fun H locs Y => ?_)
        refine lv_iinc (v := x7 + (1 : Int32)) (lv' := [(7, .int (x7 + (1 : Int32))), (0, .ref (ad 0)), (4, .int x4), (6, .int x6)]) X.1 X.2.1 (dck_at da_X12_finds 126 rfl) hl (k := 3) rfl (congrArg (HAdd.hAdd _) ki_1) (by decide) rfl (fun ls hl => ?_)
        refine lv_goto (tgt := 157) X.1 X.2.1 (dck_at da_X12_finds 127 rfl) rfl ?_
        exact hk157 x4 x6 (x7 + (1 : Int32)) s2 _ _ _ h Y (lv_sub hl [1, 2, 3, 0] rfl)
  have b69 : ∀ n : Nat, ∀ (x4 : Int32) (x6 : Int32) (x7 : Int32) (s0 : St) (H : Heap) (locs : List Loc) (ls : Array Slot), m_finds_L69 F  n x4 x6 x7 s0 = some (ρ, σ') → gY shM D cy ad A s0 s H locs → lv_has ls 8 [(0, .ref (ad 0)), (4, .int x4), (6, .int x6), (7, .int x7)] → W p l e (grm 3) s m args below meth c H locs 0 0 (MQ below (va_Qi (fun (q : Int32) (_ : Unit) => q = ρ) (fun _ t => va_P D vwCl (gWl shM cy ad σ') t.heap) A) args s 0 0 A) (F0 m 69 ls []) := by
    intro n
    induction n with
    | zero => intro x4 x6 x7 s0 H locs ls h Y hl; exact (gnone h).elim
    | succ n hk69 =>
      have e : m_finds_L69 F  (n + 1) = m_finds_L69b F  (m_finds_L69 F  n) := rfl
      rw [e]; clear e
      generalize m_finds_L69 F  n = k69 at hk69 ⊢
      intro x4 x6 x7 s0 H locs ls h Y hl
      unfold m_finds_L69b at h
      refine lv_iload X.1 X.2.1 (dck_at da_X12_finds 39 rfl) (lv_at hl 3 rfl) ?_
      refine lv_iload X.1 X.2.1 (dck_at da_X12_finds 40 rfl) (lv_at hl 1 rfl) ?_
      refine lv_icmp_ge (tgt := 135) X.1 X.2.1 (dck_at da_X12_finds 41 rfl) rfl (fun c => ?_) (fun c => ?_)
      · have h := gI_pos h c
        refine lv_aload_n X.1 X.2.1 (dck_at da_X12_finds 78 rfl) rfl (lv_at hl 0 rfl) ?_
        refine gr_getI X G Y fk_RX12_237 clM_0 rfl (dck_at da_X12_finds 79 rfl) ?_
        refine lv_iload X.1 X.2.1 (dck_at da_X12_finds 80 rfl) (lv_at hl 1 rfl) ?_
        refine lv_iadd X.1 X.2.1 (dck_at da_X12_finds 81 rfl) ?_
        refine lv_bipush X.1 X.2.1 (dck_at da_X12_finds 82 rfl) kb_60 ?_
        refine lv_icmp_le (tgt := 154) X.1 X.2.1 (dck_at da_X12_finds 83 rfl) rfl (fun c => ?_) (fun c => ?_)
        · have h := gI_pos h c
          refine lv_iconst X.1 X.2.1 (dck_at da_X12_finds 88 rfl) ki_0 ?_
          refine lv_istore (lv' := [(7, .int (0 : Int32)), (0, .ref (ad 0)), (4, .int x4), (6, .int x6)]) X.1 X.2.1 (dck_at da_X12_finds 89 rfl) hl (by decide) rfl (fun ls hl => ?_)
          exact b157 F x4 x6 (0 : Int32) s0 _ _ _ h Y (lv_sub hl [1, 2, 3, 0] rfl)
        · have h := gI_neg h c
          refine lv_aload_n X.1 X.2.1 (dck_at da_X12_finds 84 rfl) rfl (lv_at hl 0 rfl) ?_
          refine lv_bipush X.1 X.2.1 (dck_at da_X12_finds 85 rfl) kb_m3 ?_
          obtain ⟨r3, s3, hc, h⟩ := gB2_some h
          refine gr_backi Y (gr_runV (as := [.int (-3 : Int32)]) (rest := []) X G Y (ok_m_tells hc) cv_RX12_130 clM_0 ⟨Nat.le_of_ble_eq_true rfl, Nat.le_of_ble_eq_true rfl⟩ rfl hl.1 (Nat.le_of_ble_eq_true rfl) (dck_at da_X12_finds 86 rfl)) (fun H locs Y => ?_)
          exact gr_iretO X Y h hr rfl hlk (dck_at da_X12_finds 87 rfl)
      · have h := gI_neg h c
        refine lv_aload_n X.1 X.2.1 (dck_at da_X12_finds 42 rfl) rfl (lv_at hl 0 rfl) ?_
        refine gr_getR X G Y fk_RX12_101 clM_0 rfl (dck_at da_X12_finds 43 rfl) ?_
        refine lv_iload X.1 X.2.1 (dck_at da_X12_finds 44 rfl) (lv_at hl 2 rfl) ?_
        refine lv_iconst X.1 X.2.1 (dck_at da_X12_finds 45 rfl) ki_3 ?_
        refine lv_iload X.1 X.2.1 (dck_at da_X12_finds 46 rfl) (lv_at hl 3 rfl) ?_
        refine lv_imul X.1 X.2.1 (dck_at da_X12_finds 47 rfl) ?_
        refine lv_iadd X.1 X.2.1 (dck_at da_X12_finds 48 rfl) ?_
        obtain ⟨hin, h⟩ := gI_if h
        refine gr_lald X G Y clM_31 hin (dck_at da_X12_finds 49 rfl) ?_
        refine lv_aload_n X.1 X.2.1 (dck_at da_X12_finds 50 rfl) rfl (lv_at hl 0 rfl) ?_
        refine gr_getR X G Y fk_RX12_101 clM_0 rfl (dck_at da_X12_finds 51 rfl) ?_
        refine lv_iload X.1 X.2.1 (dck_at da_X12_finds 52 rfl) (lv_at hl 2 rfl) ?_
        refine lv_iconst X.1 X.2.1 (dck_at da_X12_finds 53 rfl) ki_3 ?_
        refine lv_iload X.1 X.2.1 (dck_at da_X12_finds 54 rfl) (lv_at hl 3 rfl) ?_
        refine lv_imul X.1 X.2.1 (dck_at da_X12_finds 55 rfl) ?_
        refine lv_iadd X.1 X.2.1 (dck_at da_X12_finds 56 rfl) ?_
        refine lv_iconst X.1 X.2.1 (dck_at da_X12_finds 57 rfl) ki_1 ?_
        refine lv_iadd X.1 X.2.1 (dck_at da_X12_finds 58 rfl) ?_
        obtain ⟨hin, h⟩ := gI_if h
        refine gr_lald X G Y clM_31 hin (dck_at da_X12_finds 59 rfl) ?_
        refine lv_aload_n X.1 X.2.1 (dck_at da_X12_finds 60 rfl) rfl (lv_at hl 0 rfl) ?_
        refine gr_getR X G Y fk_RX12_101 clM_0 rfl (dck_at da_X12_finds 61 rfl) ?_
        refine lv_iload X.1 X.2.1 (dck_at da_X12_finds 62 rfl) (lv_at hl 2 rfl) ?_
        refine lv_iconst X.1 X.2.1 (dck_at da_X12_finds 63 rfl) ki_3 ?_
        refine lv_iload X.1 X.2.1 (dck_at da_X12_finds 64 rfl) (lv_at hl 3 rfl) ?_
        refine lv_imul X.1 X.2.1 (dck_at da_X12_finds 65 rfl) ?_
        refine lv_iadd X.1 X.2.1 (dck_at da_X12_finds 66 rfl) ?_
        refine lv_iconst X.1 X.2.1 (dck_at da_X12_finds 67 rfl) ki_2 ?_
        refine lv_iadd X.1 X.2.1 (dck_at da_X12_finds 68 rfl) ?_
        obtain ⟨hin, h⟩ := gI_if h
        refine gr_lald X G Y clM_31 hin (dck_at da_X12_finds 69 rfl) ?_
        obtain ⟨r4, s4, hc, h⟩ := gB2_some h
        refine gr_backi Y (gr_runS (as := [.long (s0.2 31 (x6 + ((3 : Int32) * x7)).toNatClampNeg), .long (s0.2 31 ((x6 + ((3 : Int32) * x7)) + (1 : Int32)).toNatClampNeg), .long (s0.2 31 ((x6 + ((3 : Int32) * x7)) + (2 : Int32)).toNatClampNeg)]) (rest := []) X G Y (ok_m_isFound hc) cs_RX12_295 ⟨Nat.le_of_ble_eq_true rfl, Nat.le_of_ble_eq_true rfl⟩ rfl hl.1 (Nat.le_of_ble_eq_true rfl) (dck_at da_X12_finds 70 rfl)) (fun H locs Y => ?_)
        refine lv_if_ne (tgt := 129) X.1 X.2.1 (dck_at da_X12_finds 71 rfl) rfl (fun c => ?_) (fun c => ?_)
        · have h := gI_neg h c
          refine lv_iinc (v := x7 + (1 : Int32)) (lv' := [(7, .int (x7 + (1 : Int32))), (0, .ref (ad 0)), (4, .int x4), (6, .int x6)]) X.1 X.2.1 (dck_at da_X12_finds 76 rfl) hl (k := 3) rfl (congrArg (HAdd.hAdd _) ki_1) (by decide) rfl (fun ls hl => ?_)
          refine lv_goto (tgt := 69) X.1 X.2.1 (dck_at da_X12_finds 77 rfl) rfl ?_
          exact hk69 x4 x6 (x7 + (1 : Int32)) s4 _ _ _ h Y (lv_sub hl [1, 2, 3, 0] rfl)
        · have h := gI_pos h c
          refine lv_aload_n X.1 X.2.1 (dck_at da_X12_finds 72 rfl) rfl (lv_at hl 0 rfl) ?_
          refine lv_bipush X.1 X.2.1 (dck_at da_X12_finds 73 rfl) kb_m2 ?_
          obtain ⟨r5, s5, hc, h⟩ := gB2_some h
          refine gr_backi Y (gr_runV (as := [.int (-2 : Int32)]) (rest := []) X G Y (ok_m_tells hc) cv_RX12_130 clM_0 ⟨Nat.le_of_ble_eq_true rfl, Nat.le_of_ble_eq_true rfl⟩ rfl hl.1 (Nat.le_of_ble_eq_true rfl) (dck_at da_X12_finds 74 rfl)) (fun H locs Y => ?_)
          exact gr_iretO X Y h hr rfl hlk (dck_at da_X12_finds 75 rfl)
  unfold m_finds at h
  refine lv_iload_n X.1 X.2.1 (dck_at da_X12_finds 0 rfl) rfl (lv_at hl 1 rfl) ?_
  obtain ⟨r6, s6, hc, h⟩ := gB2_some h
  refine gr_backi Y (gr_runS (as := [.int a1]) (rest := []) X G Y (ok_m_isSheet hc) cs_RX12_328 ⟨Nat.le_of_ble_eq_true rfl, Nat.le_of_ble_eq_true rfl⟩ rfl hl.1 (Nat.le_of_ble_eq_true rfl) (dck_at da_X12_finds 1 rfl)) (fun H locs Y => ?_)
  refine lv_if_eq (tgt := 27) X.1 X.2.1 (dck_at da_X12_finds 2 rfl) rfl (fun c => ?_) (fun c => ?_)
  · have h := gI_pos h c
    exact b27 s6 _ _ _ h Y (lv_sub hl [0] rfl)
  · have h := gI_neg h c
    refine lv_iload_n X.1 X.2.1 (dck_at da_X12_finds 3 rfl) rfl (lv_at hl 2 rfl) ?_
    obtain ⟨r7, s7, hc, h⟩ := gB2_some h
    refine gr_backi Y (gr_runS (as := [.int a2]) (rest := []) X G Y (ok_m_isLane hc) cs_RX12_331 ⟨Nat.le_of_ble_eq_true rfl, Nat.le_of_ble_eq_true rfl⟩ rfl hl.1 (Nat.le_of_ble_eq_true rfl) (dck_at da_X12_finds 4 rfl)) (fun H locs Y => ?_)
    refine lv_if_eq (tgt := 27) X.1 X.2.1 (dck_at da_X12_finds 5 rfl) rfl (fun c => ?_) (fun c => ?_)
    · have h := gI_pos h c
      exact b27 s7 _ _ _ h Y (lv_sub hl [0] rfl)
    · have h := gI_neg h c
      refine lv_iload X.1 X.2.1 (dck_at da_X12_finds 6 rfl) (lv_at hl 4 rfl) ?_
      refine lv_i2l (v := (a4).toInt64) X.1 X.2.1 (dck_at da_X12_finds 7 rfl) rfl ?_
      refine lv_lconst (v := 1) X.1 X.2.1 (dck_at da_X12_finds 8 rfl) rfl ?_
      refine lv_ldc2 X.1 X.2.1 X.2.2.2.1 (X.2.2.2.2 _ wm_1280) (dck_at da_X12_finds 9 rfl) ?_
      obtain ⟨r8, s8, hc, h⟩ := gB2_some h
      refine gr_backi Y (gr_runS (as := [.long ((a4).toInt64), .long (1 : Int64), .long (8 : Int64)]) (rest := []) X G Y (ok_m_in hc) cs_RX12_126 ⟨Nat.le_of_ble_eq_true rfl, Nat.le_of_ble_eq_true rfl⟩ rfl hl.1 (Nat.le_of_ble_eq_true rfl) (dck_at da_X12_finds 10 rfl)) (fun H locs Y => ?_)
      refine lv_if_ne (tgt := 33) X.1 X.2.1 (dck_at da_X12_finds 11 rfl) rfl (fun c => ?_) (fun c => ?_)
      · have h := gI_neg h c
        refine lv_aload_n X.1 X.2.1 (dck_at da_X12_finds 16 rfl) rfl (lv_at hl 0 rfl) ?_
        refine lv_iload_n X.1 X.2.1 (dck_at da_X12_finds 17 rfl) rfl (lv_at hl 1 rfl) ?_
        refine lv_iload_n X.1 X.2.1 (dck_at da_X12_finds 18 rfl) rfl (lv_at hl 2 rfl) ?_
        refine lv_iload_n X.1 X.2.1 (dck_at da_X12_finds 19 rfl) rfl (lv_at hl 3 rfl) ?_
        refine lv_iconst X.1 X.2.1 (dck_at da_X12_finds 20 rfl) ki_3 ?_
        refine lv_iload X.1 X.2.1 (dck_at da_X12_finds 21 rfl) (lv_at hl 4 rfl) ?_
        refine lv_imul X.1 X.2.1 (dck_at da_X12_finds 22 rfl) ?_
        obtain ⟨r9, s9, hc, h⟩ := gB2_some h
        refine gr_backi Y (gr_runV (as := [.int a1, .int a2, .int a3, .int ((3 : Int32) * a4)]) (rest := []) X G Y (ok_m_why hc) cv_RX12_334 clM_0 ⟨Nat.le_of_ble_eq_true rfl, Nat.le_of_ble_eq_true rfl⟩ rfl hl.1 (Nat.le_of_ble_eq_true rfl) (dck_at da_X12_finds 23 rfl)) (fun H locs Y => ?_)
        refine lv_istore (lv' := [(5, .int r9), (0, .ref (ad 0)), (1, .int a1), (2, .int a2), (3, .int a3), (4, .int a4)]) X.1 X.2.1 (dck_at da_X12_finds 24 rfl) hl (by decide) rfl (fun ls hl => ?_)
        refine lv_iload X.1 X.2.1 (dck_at da_X12_finds 25 rfl) (lv_at hl 0 rfl) ?_
        refine lv_if_ge (tgt := 58) X.1 X.2.1 (dck_at da_X12_finds 26 rfl) rfl (fun c => ?_) (fun c => ?_)
        · have h := gI_pos h c
          refine lv_bipush X.1 X.2.1 (dck_at da_X12_finds 31 rfl) kb_24 ?_
          refine lv_iload_n X.1 X.2.1 (dck_at da_X12_finds 32 rfl) rfl (lv_at hl 2 rfl) ?_
          refine lv_imul X.1 X.2.1 (dck_at da_X12_finds 33 rfl) ?_
          refine lv_iload_n X.1 X.2.1 (dck_at da_X12_finds 34 rfl) rfl (lv_at hl 4 rfl) ?_
          refine lv_iadd X.1 X.2.1 (dck_at da_X12_finds 35 rfl) ?_
          refine lv_istore (lv' := [(6, .int (((24 : Int32) * a1) + a3)), (5, .int r9), (0, .ref (ad 0)), (1, .int a1), (2, .int a2), (3, .int a3), (4, .int a4)]) X.1 X.2.1 (dck_at da_X12_finds 36 rfl) hl (by decide) rfl (fun ls hl => ?_)
          refine lv_iconst X.1 X.2.1 (dck_at da_X12_finds 37 rfl) ki_0 ?_
          refine lv_istore (lv' := [(7, .int (0 : Int32)), (6, .int (((24 : Int32) * a1) + a3)), (5, .int r9), (0, .ref (ad 0)), (1, .int a1), (2, .int a2), (3, .int a3), (4, .int a4)]) X.1 X.2.1 (dck_at da_X12_finds 38 rfl) hl (by decide) rfl (fun ls hl => ?_)
          exact b69 F a4 (((24 : Int32) * a1) + a3) (0 : Int32) s9 _ _ _ h Y (lv_sub hl [3, 7, 1, 0] rfl)
        · have h := gI_neg h c
          refine lv_aload_n X.1 X.2.1 (dck_at da_X12_finds 27 rfl) rfl (lv_at hl 1 rfl) ?_
          refine lv_iload X.1 X.2.1 (dck_at da_X12_finds 28 rfl) (lv_at hl 0 rfl) ?_
          obtain ⟨r10, s10, hc, h⟩ := gB2_some h
          refine gr_backi Y (gr_runV (as := [.int r9]) (rest := []) X G Y (ok_m_tells hc) cv_RX12_130 clM_0 ⟨Nat.le_of_ble_eq_true rfl, Nat.le_of_ble_eq_true rfl⟩ rfl hl.1 (Nat.le_of_ble_eq_true rfl) (dck_at da_X12_finds 29 rfl)) (fun H locs Y => ?_)
          exact gr_iretO X Y h hr rfl hlk (dck_at da_X12_finds 30 rfl)
      · have h := gI_pos h c
        exact b27 s8 _ _ _ h Y (lv_sub hl [0] rfl)
set_option maxRecDepth 100000 in
set_option maxHeartbeats 4000000 in
theorem ok_m_puts {l : Launch} {D : va_G} {cy : Nat → ClassId} {ad sa : Nat → Nat} {A : Nat → Prop} {F : Nat} {a1 : Int32} {a2 : Int32} {a3 : Int64} {s0 : St} {σ' : St} (h : m_puts F a1 a2 a3 s0 = some σ') : gMv l shM D cy ad sa A yX12_puts cX12_puts 6 none 1 [.ref (ad 0), .int a1, .int a2, .long a3] s0 σ' := by
  refine gM_of (by decide) (Nat.le_of_ble_eq_true rfl) ?_
  intro p e s m args below meth c ls X G Y hr hlk hl
  have hl : lv_has ls 6 [(0, .ref (ad 0)), (1, .int a1), (2, .int a2), (3, .long a3)] := hl
  unfold m_puts at h
  refine lv_aload_n X.1 X.2.1 (dck_at da_X12_puts 0 rfl) rfl (lv_at hl 0 rfl) ?_
  refine gr_getR X G Y fk_RX12_95 clM_0 rfl (dck_at da_X12_puts 1 rfl) ?_
  refine lv_iload_n X.1 X.2.1 (dck_at da_X12_puts 2 rfl) rfl (lv_at hl 1 rfl) ?_
  obtain ⟨hin, h⟩ := gI_if h
  refine gr_iald X G Y clM_29 hin (dck_at da_X12_puts 3 rfl) ?_
  refine lv_istore (lv' := [(5, .int (s0.1 29 (a1).toNatClampNeg)), (0, .ref (ad 0)), (1, .int a1), (2, .int a2), (3, .long a3)]) X.1 X.2.1 (dck_at da_X12_puts 4 rfl) hl (by decide) rfl (fun ls hl => ?_)
  refine lv_aload_n X.1 X.2.1 (dck_at da_X12_puts 5 rfl) rfl (lv_at hl 1 rfl) ?_
  refine gr_getR X G Y fk_RX12_101 clM_0 rfl (dck_at da_X12_puts 6 rfl) ?_
  refine lv_bipush X.1 X.2.1 (dck_at da_X12_puts 7 rfl) kb_24 ?_
  refine lv_iload_n X.1 X.2.1 (dck_at da_X12_puts 8 rfl) rfl (lv_at hl 2 rfl) ?_
  refine lv_imul X.1 X.2.1 (dck_at da_X12_puts 9 rfl) ?_
  refine lv_iload_n X.1 X.2.1 (dck_at da_X12_puts 10 rfl) rfl (lv_at hl 3 rfl) ?_
  refine lv_iadd X.1 X.2.1 (dck_at da_X12_puts 11 rfl) ?_
  refine lv_iload X.1 X.2.1 (dck_at da_X12_puts 12 rfl) (lv_at hl 0 rfl) ?_
  refine lv_if_ne (tgt := 30) X.1 X.2.1 (dck_at da_X12_puts 13 rfl) rfl (fun c => ?_) (fun c => ?_)
  · have h := gI_neg h c
    refine lv_iload X.1 X.2.1 (dck_at da_X12_puts 19 rfl) (lv_at hl 0 rfl) ?_
    refine lv_iconst X.1 X.2.1 (dck_at da_X12_puts 20 rfl) ki_1 ?_
    refine lv_icmp_ne (tgt := 43) X.1 X.2.1 (dck_at da_X12_puts 21 rfl) rfl (fun c => ?_) (fun c => ?_)
    · have h := gI_neg h c
      refine lv_iload X.1 X.2.1 (dck_at da_X12_puts 27 rfl) (lv_at hl 0 rfl) ?_
      refine lv_iconst X.1 X.2.1 (dck_at da_X12_puts 28 rfl) ki_2 ?_
      refine lv_icmp_ne (tgt := 55) X.1 X.2.1 (dck_at da_X12_puts 29 rfl) rfl (fun c => ?_) (fun c => ?_)
      · have h := gI_neg h c
        refine lv_lload_n X.1 X.2.1 (dck_at da_X12_puts 34 rfl) rfl (lv_at hl 4 rfl) ?_
        obtain ⟨hin, h⟩ := gI_if h
        refine gr_last X G Y clM_31 hin (dck_at da_X12_puts 35 rfl) (fun H locs Y => ?_)
        exact gr_vretO X Y h hr hlk (dck_at da_X12_puts 36 rfl)
      · have h := gI_pos h c
        refine lv_lload_n X.1 X.2.1 (dck_at da_X12_puts 30 rfl) rfl (lv_at hl 4 rfl) ?_
        refine lv_l2i (v := (a3).toInt32) X.1 X.2.1 (dck_at da_X12_puts 31 rfl) rfl ?_
        refine lv_i2l (v := ((a3).toInt32).toInt64) X.1 X.2.1 (dck_at da_X12_puts 32 rfl) rfl ?_
        refine lv_goto (tgt := 56) X.1 X.2.1 (dck_at da_X12_puts 33 rfl) rfl ?_
        obtain ⟨hin, h⟩ := gI_if h
        refine gr_last X G Y clM_31 hin (dck_at da_X12_puts 35 rfl) (fun H locs Y => ?_)
        exact gr_vretO X Y h hr hlk (dck_at da_X12_puts 36 rfl)
    · have h := gI_pos h c
      refine lv_lload_n X.1 X.2.1 (dck_at da_X12_puts 22 rfl) rfl (lv_at hl 4 rfl) ?_
      refine lv_l2i (v := (a3).toInt32) X.1 X.2.1 (dck_at da_X12_puts 23 rfl) rfl ?_
      refine lv_i2s (v := ((a3).toInt32).toInt16.toInt32) X.1 X.2.1 (dck_at da_X12_puts 24 rfl) rfl ?_
      refine lv_i2l (v := (((a3).toInt32).toInt16.toInt32).toInt64) X.1 X.2.1 (dck_at da_X12_puts 25 rfl) rfl ?_
      refine lv_goto (tgt := 56) X.1 X.2.1 (dck_at da_X12_puts 26 rfl) rfl ?_
      obtain ⟨hin, h⟩ := gI_if h
      refine gr_last X G Y clM_31 hin (dck_at da_X12_puts 35 rfl) (fun H locs Y => ?_)
      exact gr_vretO X Y h hr hlk (dck_at da_X12_puts 36 rfl)
  · have h := gI_pos h c
    refine lv_lload_n X.1 X.2.1 (dck_at da_X12_puts 14 rfl) rfl (lv_at hl 4 rfl) ?_
    refine lv_l2i (v := (a3).toInt32) X.1 X.2.1 (dck_at da_X12_puts 15 rfl) rfl ?_
    refine lv_i2b (v := ((a3).toInt32).toInt8.toInt32) X.1 X.2.1 (dck_at da_X12_puts 16 rfl) rfl ?_
    refine lv_i2l (v := (((a3).toInt32).toInt8.toInt32).toInt64) X.1 X.2.1 (dck_at da_X12_puts 17 rfl) rfl ?_
    refine lv_goto (tgt := 56) X.1 X.2.1 (dck_at da_X12_puts 18 rfl) rfl ?_
    obtain ⟨hin, h⟩ := gI_if h
    refine gr_last X G Y clM_31 hin (dck_at da_X12_puts 35 rfl) (fun H locs Y => ?_)
    exact gr_vretO X Y h hr hlk (dck_at da_X12_puts 36 rfl)
set_option maxRecDepth 100000 in
set_option maxHeartbeats 4000000 in
theorem ok_m_film {l : Launch} {D : va_G} {cy : Nat → ClassId} {ad sa : Nat → Nat} {A : Nat → Prop} {F : Nat} {a1 : Int32} {a2 : Int32} {a3 : Int32} {a4 : Int32} {s0 : St} {ρ : Int32} {σ' : St} (h : m_film F a1 a2 a3 a4 s0 = some (ρ, σ')) : gMi l shM D cy ad sa A yX12_film cX12_film 9 (some .int) 3 [.ref (ad 0), .int a1, .int a2, .int a3, .int a4] s0 ρ σ' := by
  refine gM_of (by decide) (Nat.le_of_ble_eq_true rfl) ?_
  intro p e s m args below meth c ls X G Y hr hlk hl
  have hl : lv_has ls 9 [(0, .ref (ad 0)), (1, .int a1), (2, .int a2), (3, .int a3), (4, .int a4)] := hl
  have b26 : ∀  (s0 : St) (H : Heap) (locs : List Loc) (ls : Array Slot), m_film_J26 F  s0 = some (ρ, σ') → gY shM D cy ad A s0 s H locs → lv_has ls 9 [(0, .ref (ad 0))] → W p l e (grm 3) s m args below meth c H locs 0 0 (MQ below (va_Qi (fun (q : Int32) (_ : Unit) => q = ρ) (fun _ t => va_P D vwCl (gWl shM cy ad σ') t.heap) A) args s 0 0 A) (F0 m 26 ls []) := by
    intro s0 H locs ls h Y hl
    unfold m_film_J26 at h
    refine lv_aload_n X.1 X.2.1 (dck_at da_X12_film 12 rfl) rfl (lv_at hl 0 rfl) ?_
    refine lv_iconst X.1 X.2.1 (dck_at da_X12_film 13 rfl) ki_m1 ?_
    obtain ⟨r1, s1, hc, h⟩ := gB2_some h
    refine gr_backi Y (gr_runV (as := [.int (-1 : Int32)]) (rest := []) X G Y (ok_m_tells hc) cv_RX12_130 clM_0 ⟨Nat.le_of_ble_eq_true rfl, Nat.le_of_ble_eq_true rfl⟩ rfl hl.1 (Nat.le_of_ble_eq_true rfl) (dck_at da_X12_film 14 rfl)) (fun H locs Y => ?_)
    exact gr_iretO X Y h hr rfl hlk (dck_at da_X12_film 15 rfl)
  have b79 : ∀ n : Nat, ∀ (x1 : Int32) (x2 : Int32) (x4 : Int32) (x6 : Int64) (x8 : Int32) (s0 : St) (H : Heap) (locs : List Loc) (ls : Array Slot), m_film_L79 F  n x1 x2 x4 x6 x8 s0 = some (ρ, σ') → gY shM D cy ad A s0 s H locs → lv_has ls 9 [(0, .ref (ad 0)), (1, .int x1), (2, .int x2), (4, .int x4), (6, .long x6), (8, .int x8)] → W p l e (grm 3) s m args below meth c H locs 0 0 (MQ below (va_Qi (fun (q : Int32) (_ : Unit) => q = ρ) (fun _ t => va_P D vwCl (gWl shM cy ad σ') t.heap) A) args s 0 0 A) (F0 m 79 ls []) := by
    intro n
    induction n with
    | zero => intro x1 x2 x4 x6 x8 s0 H locs ls h Y hl; exact (gnone h).elim
    | succ n hk79 =>
      have e : m_film_L79 F  (n + 1) = m_film_L79b F  (m_film_L79 F  n) := rfl
      rw [e]; clear e
      generalize m_film_L79 F  n = k79 at hk79 ⊢
      intro x1 x2 x4 x6 x8 s0 H locs ls h Y hl
      unfold m_film_L79b at h
      refine lv_iload X.1 X.2.1 (dck_at da_X12_film 42 rfl) (lv_at hl 5 rfl) ?_
      refine lv_bipush X.1 X.2.1 (dck_at da_X12_film 43 rfl) kb_12 ?_
      refine lv_icmp_ge (tgt := 120) X.1 X.2.1 (dck_at da_X12_film 44 rfl) rfl (fun c => ?_) (fun c => ?_)
      · have h := gI_pos h c
        refine lv_bipush X.1 X.2.1 (dck_at da_X12_film 64 rfl) kb_12 ?_
        exact gr_iretO X Y h hr rfl hlk (dck_at da_X12_film 65 rfl)
      · have h := gI_neg h c
        refine lv_aload_n X.1 X.2.1 (dck_at da_X12_film 45 rfl) rfl (lv_at hl 0 rfl) ?_
        refine lv_iload_n X.1 X.2.1 (dck_at da_X12_film 46 rfl) rfl (lv_at hl 2 rfl) ?_
        refine lv_iload X.1 X.2.1 (dck_at da_X12_film 47 rfl) (lv_at hl 3 rfl) ?_
        refine lv_iload X.1 X.2.1 (dck_at da_X12_film 48 rfl) (lv_at hl 5 rfl) ?_
        refine lv_iadd X.1 X.2.1 (dck_at da_X12_film 49 rfl) ?_
        refine lv_aload_n X.1 X.2.1 (dck_at da_X12_film 50 rfl) rfl (lv_at hl 0 rfl) ?_
        refine lv_bipush X.1 X.2.1 (dck_at da_X12_film 51 rfl) kb_12 ?_
        refine lv_iload_n X.1 X.2.1 (dck_at da_X12_film 52 rfl) rfl (lv_at hl 1 rfl) ?_
        refine lv_imul X.1 X.2.1 (dck_at da_X12_film 53 rfl) ?_
        refine lv_iload X.1 X.2.1 (dck_at da_X12_film 54 rfl) (lv_at hl 5 rfl) ?_
        refine lv_iadd X.1 X.2.1 (dck_at da_X12_film 55 rfl) ?_
        obtain ⟨r2, s2, hc, h⟩ := gB2_some h
        refine gr_backl Y (gr_runV (as := [.int (((12 : Int32) * x1) + x8)]) (rest := [.int (x4 + x8), .int x2, .ref (ad 0)]) X G Y (ok_m_partsOf hc) cv_RX12_214 clM_0 ⟨Nat.le_of_ble_eq_true rfl, Nat.le_of_ble_eq_true rfl⟩ rfl hl.1 (Nat.le_of_ble_eq_true rfl) (dck_at da_X12_film 56 rfl)) (fun H locs Y => ?_)
        refine lv_ldc2 X.1 X.2.1 X.2.2.2.1 (X.2.2.2.2 _ wm_1443) (dck_at da_X12_film 57 rfl) ?_
        refine lv_lmul X.1 X.2.1 (dck_at da_X12_film 58 rfl) ?_
        refine lv_lload X.1 X.2.1 (dck_at da_X12_film 59 rfl) (lv_at hl 4 rfl) ?_
        obtain ⟨hz, h⟩ := gI_nz h
        refine lv_ldiv X.1 X.2.1 (dck_at da_X12_film 60 rfl) hz ?_
        obtain ⟨s3, hc, h⟩ := gB_some h
        refine gr_backv Y (gr_runV (as := [.int x2, .int (x4 + x8), .long ((r2 * (1000 : Int64)) / x6)]) (rest := []) X G Y (ok_m_puts hc) cv_RX12_338 clM_0 ⟨Nat.le_of_ble_eq_true rfl, Nat.le_of_ble_eq_true rfl⟩ rfl hl.1 (Nat.le_of_ble_eq_true rfl) (dck_at da_X12_film 61 rfl)) (fun H locs Y => ?_)
        refine lv_iinc (v := x8 + (1 : Int32)) (lv' := [(8, .int (x8 + (1 : Int32))), (0, .ref (ad 0)), (1, .int x1), (2, .int x2), (4, .int x4), (6, .long x6)]) X.1 X.2.1 (dck_at da_X12_film 62 rfl) hl (k := 5) rfl (congrArg (HAdd.hAdd _) ki_1) (by decide) rfl (fun ls hl => ?_)
        refine lv_goto (tgt := 79) X.1 X.2.1 (dck_at da_X12_film 63 rfl) rfl ?_
        exact hk79 x1 x2 x4 x6 (x8 + (1 : Int32)) s3 _ _ _ h Y (lv_sub hl [1, 2, 3, 4, 5, 0] rfl)
  unfold m_film at h
  refine lv_iload_n X.1 X.2.1 (dck_at da_X12_film 0 rfl) rfl (lv_at hl 1 rfl) ?_
  refine lv_i2l (v := (a1).toInt64) X.1 X.2.1 (dck_at da_X12_film 1 rfl) rfl ?_
  refine lv_lconst (v := 0) X.1 X.2.1 (dck_at da_X12_film 2 rfl) rfl ?_
  refine lv_ldc2 X.1 X.2.1 X.2.2.2.1 (X.2.2.2.2 _ wm_1386) (dck_at da_X12_film 3 rfl) ?_
  obtain ⟨r4, s4, hc, h⟩ := gB2_some h
  refine gr_backi Y (gr_runS (as := [.long ((a1).toInt64), .long (0 : Int64), .long (11 : Int64)]) (rest := []) X G Y (ok_m_in hc) cs_RX12_126 ⟨Nat.le_of_ble_eq_true rfl, Nat.le_of_ble_eq_true rfl⟩ rfl hl.1 (Nat.le_of_ble_eq_true rfl) (dck_at da_X12_film 4 rfl)) (fun H locs Y => ?_)
  refine lv_if_eq (tgt := 26) X.1 X.2.1 (dck_at da_X12_film 5 rfl) rfl (fun c => ?_) (fun c => ?_)
  · have h := gI_pos h c
    exact b26 s4 _ _ _ h Y (lv_sub hl [0] rfl)
  · have h := gI_neg h c
    refine lv_iload_n X.1 X.2.1 (dck_at da_X12_film 6 rfl) rfl (lv_at hl 2 rfl) ?_
    obtain ⟨r5, s5, hc, h⟩ := gB2_some h
    refine gr_backi Y (gr_runS (as := [.int a2]) (rest := []) X G Y (ok_m_isSheet hc) cs_RX12_328 ⟨Nat.le_of_ble_eq_true rfl, Nat.le_of_ble_eq_true rfl⟩ rfl hl.1 (Nat.le_of_ble_eq_true rfl) (dck_at da_X12_film 7 rfl)) (fun H locs Y => ?_)
    refine lv_if_eq (tgt := 26) X.1 X.2.1 (dck_at da_X12_film 8 rfl) rfl (fun c => ?_) (fun c => ?_)
    · have h := gI_pos h c
      exact b26 s5 _ _ _ h Y (lv_sub hl [0] rfl)
    · have h := gI_neg h c
      refine lv_iload_n X.1 X.2.1 (dck_at da_X12_film 9 rfl) rfl (lv_at hl 3 rfl) ?_
      obtain ⟨r6, s6, hc, h⟩ := gB2_some h
      refine gr_backi Y (gr_runS (as := [.int a3]) (rest := []) X G Y (ok_m_isLane hc) cs_RX12_331 ⟨Nat.le_of_ble_eq_true rfl, Nat.le_of_ble_eq_true rfl⟩ rfl hl.1 (Nat.le_of_ble_eq_true rfl) (dck_at da_X12_film 10 rfl)) (fun H locs Y => ?_)
      refine lv_if_ne (tgt := 32) X.1 X.2.1 (dck_at da_X12_film 11 rfl) rfl (fun c => ?_) (fun c => ?_)
      · have h := gI_neg h c
        refine lv_aload_n X.1 X.2.1 (dck_at da_X12_film 16 rfl) rfl (lv_at hl 0 rfl) ?_
        refine lv_iload_n X.1 X.2.1 (dck_at da_X12_film 17 rfl) rfl (lv_at hl 2 rfl) ?_
        refine lv_iload_n X.1 X.2.1 (dck_at da_X12_film 18 rfl) rfl (lv_at hl 3 rfl) ?_
        refine lv_iload X.1 X.2.1 (dck_at da_X12_film 19 rfl) (lv_at hl 4 rfl) ?_
        refine lv_bipush X.1 X.2.1 (dck_at da_X12_film 20 rfl) kb_12 ?_
        obtain ⟨r7, s7, hc, h⟩ := gB2_some h
        refine gr_backi Y (gr_runV (as := [.int a2, .int a3, .int a4, .int (12 : Int32)]) (rest := []) X G Y (ok_m_why hc) cv_RX12_334 clM_0 ⟨Nat.le_of_ble_eq_true rfl, Nat.le_of_ble_eq_true rfl⟩ rfl hl.1 (Nat.le_of_ble_eq_true rfl) (dck_at da_X12_film 21 rfl)) (fun H locs Y => ?_)
        refine lv_istore (lv' := [(5, .int r7), (0, .ref (ad 0)), (1, .int a1), (2, .int a2), (3, .int a3), (4, .int a4)]) X.1 X.2.1 (dck_at da_X12_film 22 rfl) hl (by decide) rfl (fun ls hl => ?_)
        refine lv_iload X.1 X.2.1 (dck_at da_X12_film 23 rfl) (lv_at hl 0 rfl) ?_
        refine lv_if_ge (tgt := 56) X.1 X.2.1 (dck_at da_X12_film 24 rfl) rfl (fun c => ?_) (fun c => ?_)
        · have h := gI_pos h c
          refine lv_aload_n X.1 X.2.1 (dck_at da_X12_film 29 rfl) rfl (lv_at hl 1 rfl) ?_
          obtain ⟨r8, s8, hc, h⟩ := gB2_some h
          refine gr_backl Y (gr_runV (as := []) (rest := []) X G Y (ok_m_all hc) cv_RX12_218 clM_0 ⟨Nat.le_of_ble_eq_true rfl, Nat.le_of_ble_eq_true rfl⟩ rfl hl.1 (Nat.le_of_ble_eq_true rfl) (dck_at da_X12_film 30 rfl)) (fun H locs Y => ?_)
          refine lv_lstore (lv' := [(6, .long r8), (5, .int r7), (0, .ref (ad 0)), (1, .int a1), (2, .int a2), (3, .int a3), (4, .int a4)]) X.1 X.2.1 (dck_at da_X12_film 31 rfl) hl (by decide) rfl (fun ls hl => ?_)
          refine lv_lload X.1 X.2.1 (dck_at da_X12_film 32 rfl) (lv_at hl 0 rfl) ?_
          refine lv_lconst (v := 0) X.1 X.2.1 (dck_at da_X12_film 33 rfl) rfl ?_
          refine W.lcmp X.1 X.2.1 (dck_at da_X12_film 34 rfl) ?_
          refine lv_if_ne (tgt := 76) X.1 X.2.1 (dck_at da_X12_film 35 rfl) rfl (fun c => ?_) (fun c => ?_)
          · have h := gI_neg h c
            refine lv_iconst X.1 X.2.1 (dck_at da_X12_film 40 rfl) ki_0 ?_
            refine lv_istore (lv' := [(8, .int (0 : Int32)), (6, .long r8), (5, .int r7), (0, .ref (ad 0)), (1, .int a1), (2, .int a2), (3, .int a3), (4, .int a4)]) X.1 X.2.1 (dck_at da_X12_film 41 rfl) hl (by decide) rfl (fun ls hl => ?_)
            exact b79 F a1 a2 a4 r8 (0 : Int32) s8 _ _ _ h Y (lv_sub hl [3, 4, 5, 7, 1, 0] rfl)
          · have h := gI_pos h c
            refine lv_aload_n X.1 X.2.1 (dck_at da_X12_film 36 rfl) rfl (lv_at hl 2 rfl) ?_
            refine lv_bipush X.1 X.2.1 (dck_at da_X12_film 37 rfl) kb_m4 ?_
            obtain ⟨r9, s9, hc, h⟩ := gB2_some h
            refine gr_backi Y (gr_runV (as := [.int (-4 : Int32)]) (rest := []) X G Y (ok_m_tells hc) cv_RX12_130 clM_0 ⟨Nat.le_of_ble_eq_true rfl, Nat.le_of_ble_eq_true rfl⟩ rfl hl.1 (Nat.le_of_ble_eq_true rfl) (dck_at da_X12_film 38 rfl)) (fun H locs Y => ?_)
            exact gr_iretO X Y h hr rfl hlk (dck_at da_X12_film 39 rfl)
        · have h := gI_neg h c
          refine lv_aload_n X.1 X.2.1 (dck_at da_X12_film 25 rfl) rfl (lv_at hl 1 rfl) ?_
          refine lv_iload X.1 X.2.1 (dck_at da_X12_film 26 rfl) (lv_at hl 0 rfl) ?_
          obtain ⟨r10, s10, hc, h⟩ := gB2_some h
          refine gr_backi Y (gr_runV (as := [.int r7]) (rest := []) X G Y (ok_m_tells hc) cv_RX12_130 clM_0 ⟨Nat.le_of_ble_eq_true rfl, Nat.le_of_ble_eq_true rfl⟩ rfl hl.1 (Nat.le_of_ble_eq_true rfl) (dck_at da_X12_film 27 rfl)) (fun H locs Y => ?_)
          exact gr_iretO X Y h hr rfl hlk (dck_at da_X12_film 28 rfl)
      · have h := gI_pos h c
        exact b26 s6 _ _ _ h Y (lv_sub hl [0] rfl)
set_option maxRecDepth 100000 in
set_option maxHeartbeats 4000000 in
theorem ok_m_sheet {l : Launch} {D : va_G} {cy : Nat → ClassId} {ad sa : Nat → Nat} {A : Nat → Prop} {F : Nat} {a1 : Int32} {a2 : Int32} {a3 : Int32} {s0 : St} {ρ : Int32} {σ' : St} (h : m_sheet F a1 a2 a3 s0 = some (ρ, σ')) : gMi l shM D cy ad sa A yX12_sheet cX12_sheet 5 (some .int) 3 [.ref (ad 0), .int a1, .int a2, .int a3] s0 ρ σ' := by
  refine gM_of (by decide) (Nat.le_of_ble_eq_true rfl) ?_
  intro p e s m args below meth c ls X G Y hr hlk hl
  have hl : lv_has ls 5 [(0, .ref (ad 0)), (1, .int a1), (2, .int a2), (3, .int a3)] := hl
  have b20 : ∀  (s0 : St) (H : Heap) (locs : List Loc) (ls : Array Slot), m_sheet_J20 F  s0 = some (ρ, σ') → gY shM D cy ad A s0 s H locs → lv_has ls 5 [(0, .ref (ad 0))] → W p l e (grm 3) s m args below meth c H locs 0 0 (MQ below (va_Qi (fun (q : Int32) (_ : Unit) => q = ρ) (fun _ t => va_P D vwCl (gWl shM cy ad σ') t.heap) A) args s 0 0 A) (F0 m 20 ls []) := by
    intro s0 H locs ls h Y hl
    unfold m_sheet_J20 at h
    refine lv_aload_n X.1 X.2.1 (dck_at da_X12_sheet 9 rfl) rfl (lv_at hl 0 rfl) ?_
    refine lv_iconst X.1 X.2.1 (dck_at da_X12_sheet 10 rfl) ki_m1 ?_
    obtain ⟨r1, s1, hc, h⟩ := gB2_some h
    refine gr_backi Y (gr_runV (as := [.int (-1 : Int32)]) (rest := []) X G Y (ok_m_tells hc) cv_RX12_130 clM_0 ⟨Nat.le_of_ble_eq_true rfl, Nat.le_of_ble_eq_true rfl⟩ rfl hl.1 (Nat.le_of_ble_eq_true rfl) (dck_at da_X12_sheet 11 rfl)) (fun H locs Y => ?_)
    exact gr_iretO X Y h hr rfl hlk (dck_at da_X12_sheet 12 rfl)
  have b54 : ∀ n : Nat, ∀ (x1 : Int32) (x3 : Int32) (x4 : Int32) (s0 : St) (H : Heap) (locs : List Loc) (ls : Array Slot), m_sheet_L54 F  n x1 x3 x4 s0 = some (ρ, σ') → gY shM D cy ad A s0 s H locs → lv_has ls 5 [(0, .ref (ad 0)), (1, .int x1), (3, .int x3), (4, .int x4)] → W p l e (grm 3) s m args below meth c H locs 0 0 (MQ below (va_Qi (fun (q : Int32) (_ : Unit) => q = ρ) (fun _ t => va_P D vwCl (gWl shM cy ad σ') t.heap) A) args s 0 0 A) (F0 m 54 ls []) := by
    intro n
    induction n with
    | zero => intro x1 x3 x4 s0 H locs ls h Y hl; exact (gnone h).elim
    | succ n hk54 =>
      have e : m_sheet_L54 F  (n + 1) = m_sheet_L54b F  (m_sheet_L54 F  n) := rfl
      rw [e]; clear e
      generalize m_sheet_L54 F  n = k54 at hk54 ⊢
      intro x1 x3 x4 s0 H locs ls h Y hl
      unfold m_sheet_L54b at h
      refine lv_iload X.1 X.2.1 (dck_at da_X12_sheet 31 rfl) (lv_at hl 3 rfl) ?_
      refine lv_bipush X.1 X.2.1 (dck_at da_X12_sheet 32 rfl) kb_24 ?_
      refine lv_icmp_ge (tgt := 80) X.1 X.2.1 (dck_at da_X12_sheet 33 rfl) rfl (fun c => ?_) (fun c => ?_)
      · have h := gI_pos h c
        refine lv_iload_n X.1 X.2.1 (dck_at da_X12_sheet 45 rfl) rfl (lv_at hl 2 rfl) ?_
        exact gr_iretO X Y h hr rfl hlk (dck_at da_X12_sheet 46 rfl)
      · have h := gI_neg h c
        refine lv_aload_n X.1 X.2.1 (dck_at da_X12_sheet 34 rfl) rfl (lv_at hl 0 rfl) ?_
        refine gr_getR X G Y fk_RX12_101 clM_0 rfl (dck_at da_X12_sheet 35 rfl) ?_
        refine lv_bipush X.1 X.2.1 (dck_at da_X12_sheet 36 rfl) kb_24 ?_
        refine lv_iload_n X.1 X.2.1 (dck_at da_X12_sheet 37 rfl) rfl (lv_at hl 1 rfl) ?_
        refine lv_imul X.1 X.2.1 (dck_at da_X12_sheet 38 rfl) ?_
        refine lv_iload X.1 X.2.1 (dck_at da_X12_sheet 39 rfl) (lv_at hl 3 rfl) ?_
        refine lv_iadd X.1 X.2.1 (dck_at da_X12_sheet 40 rfl) ?_
        refine lv_lconst (v := 0) X.1 X.2.1 (dck_at da_X12_sheet 41 rfl) rfl ?_
        obtain ⟨hin, h⟩ := gI_if h
        refine gr_last X G Y clM_31 hin (dck_at da_X12_sheet 42 rfl) (fun H locs Y => ?_)
        refine lv_iinc (v := x4 + (1 : Int32)) (lv' := [(4, .int (x4 + (1 : Int32))), (0, .ref (ad 0)), (1, .int x1), (3, .int x3)]) X.1 X.2.1 (dck_at da_X12_sheet 43 rfl) hl (k := 3) rfl (congrArg (HAdd.hAdd _) ki_1) (by decide) rfl (fun ls hl => ?_)
        refine lv_goto (tgt := 54) X.1 X.2.1 (dck_at da_X12_sheet 44 rfl) rfl ?_
        exact hk54 x1 x3 (x4 + (1 : Int32)) (sJ s0 31 (((24 : Int32) * x1) + x4).toNatClampNeg (0 : Int64)) _ _ _ h Y (lv_sub hl [1, 2, 3, 0] rfl)
  unfold m_sheet at h
  refine lv_iload_n X.1 X.2.1 (dck_at da_X12_sheet 0 rfl) rfl (lv_at hl 1 rfl) ?_
  obtain ⟨r2, s2, hc, h⟩ := gB2_some h
  refine gr_backi Y (gr_runS (as := [.int a1]) (rest := []) X G Y (ok_m_isSheet hc) cs_RX12_328 ⟨Nat.le_of_ble_eq_true rfl, Nat.le_of_ble_eq_true rfl⟩ rfl hl.1 (Nat.le_of_ble_eq_true rfl) (dck_at da_X12_sheet 1 rfl)) (fun H locs Y => ?_)
  refine lv_if_eq (tgt := 20) X.1 X.2.1 (dck_at da_X12_sheet 2 rfl) rfl (fun c => ?_) (fun c => ?_)
  · have h := gI_pos h c
    exact b20 s2 _ _ _ h Y (lv_sub hl [0] rfl)
  · have h := gI_neg h c
    refine lv_iload_n X.1 X.2.1 (dck_at da_X12_sheet 3 rfl) rfl (lv_at hl 2 rfl) ?_
    obtain ⟨r3, s3, hc, h⟩ := gB2_some h
    refine gr_backi Y (gr_runS (as := [.int a2]) (rest := []) X G Y (ok_m_isLane hc) cs_RX12_331 ⟨Nat.le_of_ble_eq_true rfl, Nat.le_of_ble_eq_true rfl⟩ rfl hl.1 (Nat.le_of_ble_eq_true rfl) (dck_at da_X12_sheet 4 rfl)) (fun H locs Y => ?_)
    refine lv_if_eq (tgt := 20) X.1 X.2.1 (dck_at da_X12_sheet 5 rfl) rfl (fun c => ?_) (fun c => ?_)
    · have h := gI_pos h c
      exact b20 s3 _ _ _ h Y (lv_sub hl [0] rfl)
    · have h := gI_neg h c
      refine lv_iload_n X.1 X.2.1 (dck_at da_X12_sheet 6 rfl) rfl (lv_at hl 3 rfl) ?_
      refine lv_bipush X.1 X.2.1 (dck_at da_X12_sheet 7 rfl) kb_24 ?_
      refine lv_icmp_le (tgt := 26) X.1 X.2.1 (dck_at da_X12_sheet 8 rfl) rfl (fun c => ?_) (fun c => ?_)
      · have h := gI_pos h c
        refine lv_iload_n X.1 X.2.1 (dck_at da_X12_sheet 13 rfl) rfl (lv_at hl 3 rfl) ?_
        refine lv_if_ge (tgt := 37) X.1 X.2.1 (dck_at da_X12_sheet 14 rfl) rfl (fun c => ?_) (fun c => ?_)
        · have h := gI_pos h c
          refine lv_aload_n X.1 X.2.1 (dck_at da_X12_sheet 19 rfl) rfl (lv_at hl 0 rfl) ?_
          refine gr_getR X G Y fk_RX12_95 clM_0 rfl (dck_at da_X12_sheet 20 rfl) ?_
          refine lv_iload_n X.1 X.2.1 (dck_at da_X12_sheet 21 rfl) rfl (lv_at hl 1 rfl) ?_
          refine lv_iload_n X.1 X.2.1 (dck_at da_X12_sheet 22 rfl) rfl (lv_at hl 2 rfl) ?_
          obtain ⟨hin, h⟩ := gI_if h
          refine gr_iast X G Y clM_29 hin (dck_at da_X12_sheet 23 rfl) (fun H locs Y => ?_)
          refine lv_aload_n X.1 X.2.1 (dck_at da_X12_sheet 24 rfl) rfl (lv_at hl 0 rfl) ?_
          refine gr_getR X G Y fk_RX12_98 clM_0 rfl (dck_at da_X12_sheet 25 rfl) ?_
          refine lv_iload_n X.1 X.2.1 (dck_at da_X12_sheet 26 rfl) rfl (lv_at hl 1 rfl) ?_
          refine lv_iload_n X.1 X.2.1 (dck_at da_X12_sheet 27 rfl) rfl (lv_at hl 3 rfl) ?_
          obtain ⟨hin, h⟩ := gI_if h
          refine gr_iast X G Y clM_30 hin (dck_at da_X12_sheet 28 rfl) (fun H locs Y => ?_)
          refine lv_iconst X.1 X.2.1 (dck_at da_X12_sheet 29 rfl) ki_0 ?_
          refine lv_istore (lv' := [(4, .int (0 : Int32)), (0, .ref (ad 0)), (1, .int a1), (2, .int a2), (3, .int a3)]) X.1 X.2.1 (dck_at da_X12_sheet 30 rfl) hl (by decide) rfl (fun ls hl => ?_)
          exact b54 F a1 a3 (0 : Int32) (sI (sI s3 29 (a1).toNatClampNeg a2) 30 (a1).toNatClampNeg a3) _ _ _ h Y (lv_sub hl [1, 2, 4, 0] rfl)
        · have h := gI_neg h c
          refine lv_aload_n X.1 X.2.1 (dck_at da_X12_sheet 15 rfl) rfl (lv_at hl 0 rfl) ?_
          refine lv_bipush X.1 X.2.1 (dck_at da_X12_sheet 16 rfl) kb_m14 ?_
          obtain ⟨r4, s4, hc, h⟩ := gB2_some h
          refine gr_backi Y (gr_runV (as := [.int (-14 : Int32)]) (rest := []) X G Y (ok_m_tells hc) cv_RX12_130 clM_0 ⟨Nat.le_of_ble_eq_true rfl, Nat.le_of_ble_eq_true rfl⟩ rfl hl.1 (Nat.le_of_ble_eq_true rfl) (dck_at da_X12_sheet 17 rfl)) (fun H locs Y => ?_)
          exact gr_iretO X Y h hr rfl hlk (dck_at da_X12_sheet 18 rfl)
      · have h := gI_neg h c
        exact b20 s3 _ _ _ h Y (lv_sub hl [0] rfl)
set_option maxRecDepth 100000 in
set_option maxHeartbeats 4000000 in
theorem ok_m_drop {l : Launch} {D : va_G} {cy : Nat → ClassId} {ad sa : Nat → Nat} {A : Nat → Prop} {F : Nat} {a1 : Int32} {s0 : St} {ρ : Int32} {σ' : St} (h : m_drop F a1 s0 = some (ρ, σ')) : gMi l shM D cy ad sa A yX12_drop cX12_drop 2 (some .int) 3 [.ref (ad 0), .int a1] s0 ρ σ' := by
  refine gM_of (by decide) (Nat.le_of_ble_eq_true rfl) ?_
  intro p e s m args below meth c ls X G Y hr hlk hl
  have hl : lv_has ls 2 [(0, .ref (ad 0)), (1, .int a1)] := hl
  unfold m_drop at h
  refine lv_iload_n X.1 X.2.1 (dck_at da_X12_drop 0 rfl) rfl (lv_at hl 1 rfl) ?_
  obtain ⟨r1, s1, hc, h⟩ := gB2_some h
  refine gr_backi Y (gr_runS (as := [.int a1]) (rest := []) X G Y (ok_m_isSheet hc) cs_RX12_328 ⟨Nat.le_of_ble_eq_true rfl, Nat.le_of_ble_eq_true rfl⟩ rfl hl.1 (Nat.le_of_ble_eq_true rfl) (dck_at da_X12_drop 1 rfl)) (fun H locs Y => ?_)
  refine lv_if_ne (tgt := 13) X.1 X.2.1 (dck_at da_X12_drop 2 rfl) rfl (fun c => ?_) (fun c => ?_)
  · have h := gI_neg h c
    refine lv_aload_n X.1 X.2.1 (dck_at da_X12_drop 7 rfl) rfl (lv_at hl 0 rfl) ?_
    refine gr_getR X G Y fk_RX12_95 clM_0 rfl (dck_at da_X12_drop 8 rfl) ?_
    refine lv_iload_n X.1 X.2.1 (dck_at da_X12_drop 9 rfl) rfl (lv_at hl 1 rfl) ?_
    obtain ⟨hin, h⟩ := gI_if h
    refine gr_iald X G Y clM_29 hin (dck_at da_X12_drop 10 rfl) ?_
    refine lv_if_ge (tgt := 29) X.1 X.2.1 (dck_at da_X12_drop 11 rfl) rfl (fun c => ?_) (fun c => ?_)
    · have h := gI_pos h c
      refine lv_aload_n X.1 X.2.1 (dck_at da_X12_drop 16 rfl) rfl (lv_at hl 0 rfl) ?_
      refine gr_getR X G Y fk_RX12_95 clM_0 rfl (dck_at da_X12_drop 17 rfl) ?_
      refine lv_iload_n X.1 X.2.1 (dck_at da_X12_drop 18 rfl) rfl (lv_at hl 1 rfl) ?_
      refine lv_iconst X.1 X.2.1 (dck_at da_X12_drop 19 rfl) ki_m1 ?_
      obtain ⟨hin, h⟩ := gI_if h
      refine gr_iast X G Y clM_29 hin (dck_at da_X12_drop 20 rfl) (fun H locs Y => ?_)
      refine lv_aload_n X.1 X.2.1 (dck_at da_X12_drop 21 rfl) rfl (lv_at hl 0 rfl) ?_
      refine gr_getR X G Y fk_RX12_98 clM_0 rfl (dck_at da_X12_drop 22 rfl) ?_
      refine lv_iload_n X.1 X.2.1 (dck_at da_X12_drop 23 rfl) rfl (lv_at hl 1 rfl) ?_
      obtain ⟨hin, h⟩ := gI_if h
      refine gr_iald X G Y clM_30 hin (dck_at da_X12_drop 24 rfl) ?_
      exact gr_iretO X Y h hr rfl hlk (dck_at da_X12_drop 25 rfl)
    · have h := gI_neg h c
      refine lv_aload_n X.1 X.2.1 (dck_at da_X12_drop 12 rfl) rfl (lv_at hl 0 rfl) ?_
      refine lv_bipush X.1 X.2.1 (dck_at da_X12_drop 13 rfl) kb_m11 ?_
      obtain ⟨r2, s2, hc, h⟩ := gB2_some h
      refine gr_backi Y (gr_runV (as := [.int (-11 : Int32)]) (rest := []) X G Y (ok_m_tells hc) cv_RX12_130 clM_0 ⟨Nat.le_of_ble_eq_true rfl, Nat.le_of_ble_eq_true rfl⟩ rfl hl.1 (Nat.le_of_ble_eq_true rfl) (dck_at da_X12_drop 14 rfl)) (fun H locs Y => ?_)
      exact gr_iretO X Y h hr rfl hlk (dck_at da_X12_drop 15 rfl)
  · have h := gI_pos h c
    refine lv_aload_n X.1 X.2.1 (dck_at da_X12_drop 3 rfl) rfl (lv_at hl 0 rfl) ?_
    refine lv_iconst X.1 X.2.1 (dck_at da_X12_drop 4 rfl) ki_m1 ?_
    obtain ⟨r3, s3, hc, h⟩ := gB2_some h
    refine gr_backi Y (gr_runV (as := [.int (-1 : Int32)]) (rest := []) X G Y (ok_m_tells hc) cv_RX12_130 clM_0 ⟨Nat.le_of_ble_eq_true rfl, Nat.le_of_ble_eq_true rfl⟩ rfl hl.1 (Nat.le_of_ble_eq_true rfl) (dck_at da_X12_drop 5 rfl)) (fun H locs Y => ?_)
    exact gr_iretO X Y h hr rfl hlk (dck_at da_X12_drop 6 rfl)
set_option maxRecDepth 100000 in
set_option maxHeartbeats 4000000 in
theorem ok_m_item {l : Launch} {D : va_G} {cy : Nat → ClassId} {ad sa : Nat → Nat} {A : Nat → Prop} {F : Nat} {a1 : Int32} {a2 : Int32} {a3 : Int32} {a4 : Int64} {s0 : St} {ρ : Int32} {σ' : St} (h : m_item F a1 a2 a3 a4 s0 = some (ρ, σ')) : gMi l shM D cy ad sa A yX12_item cX12_item 7 (some .int) 3 [.ref (ad 0), .int a1, .int a2, .int a3, .long a4] s0 ρ σ' := by
  refine gM_of (by decide) (Nat.le_of_ble_eq_true rfl) ?_
  intro p e s m args below meth c ls X G Y hr hlk hl
  have hl : lv_has ls 7 [(0, .ref (ad 0)), (1, .int a1), (2, .int a2), (3, .int a3), (4, .long a4)] := hl
  have b14 : ∀  (s0 : St) (H : Heap) (locs : List Loc) (ls : Array Slot), m_item_J14 F  s0 = some (ρ, σ') → gY shM D cy ad A s0 s H locs → lv_has ls 7 [(0, .ref (ad 0))] → W p l e (grm 3) s m args below meth c H locs 0 0 (MQ below (va_Qi (fun (q : Int32) (_ : Unit) => q = ρ) (fun _ t => va_P D vwCl (gWl shM cy ad σ') t.heap) A) args s 0 0 A) (F0 m 14 ls []) := by
    intro s0 H locs ls h Y hl
    unfold m_item_J14 at h
    refine lv_aload_n X.1 X.2.1 (dck_at da_X12_item 6 rfl) rfl (lv_at hl 0 rfl) ?_
    refine lv_iconst X.1 X.2.1 (dck_at da_X12_item 7 rfl) ki_m1 ?_
    obtain ⟨r1, s1, hc, h⟩ := gB2_some h
    refine gr_backi Y (gr_runV (as := [.int (-1 : Int32)]) (rest := []) X G Y (ok_m_tells hc) cv_RX12_130 clM_0 ⟨Nat.le_of_ble_eq_true rfl, Nat.le_of_ble_eq_true rfl⟩ rfl hl.1 (Nat.le_of_ble_eq_true rfl) (dck_at da_X12_item 8 rfl)) (fun H locs Y => ?_)
    exact gr_iretO X Y h hr rfl hlk (dck_at da_X12_item 9 rfl)
  unfold m_item at h
  refine lv_iload_n X.1 X.2.1 (dck_at da_X12_item 0 rfl) rfl (lv_at hl 1 rfl) ?_
  obtain ⟨r2, s2, hc, h⟩ := gB2_some h
  refine gr_backi Y (gr_runS (as := [.int a1]) (rest := []) X G Y (ok_m_isSheet hc) cs_RX12_328 ⟨Nat.le_of_ble_eq_true rfl, Nat.le_of_ble_eq_true rfl⟩ rfl hl.1 (Nat.le_of_ble_eq_true rfl) (dck_at da_X12_item 1 rfl)) (fun H locs Y => ?_)
  refine lv_if_eq (tgt := 14) X.1 X.2.1 (dck_at da_X12_item 2 rfl) rfl (fun c => ?_) (fun c => ?_)
  · have h := gI_pos h c
    exact b14 s2 _ _ _ h Y (lv_sub hl [0] rfl)
  · have h := gI_neg h c
    refine lv_iload_n X.1 X.2.1 (dck_at da_X12_item 3 rfl) rfl (lv_at hl 2 rfl) ?_
    obtain ⟨r3, s3, hc, h⟩ := gB2_some h
    refine gr_backi Y (gr_runS (as := [.int a2]) (rest := []) X G Y (ok_m_isLane hc) cs_RX12_331 ⟨Nat.le_of_ble_eq_true rfl, Nat.le_of_ble_eq_true rfl⟩ rfl hl.1 (Nat.le_of_ble_eq_true rfl) (dck_at da_X12_item 4 rfl)) (fun H locs Y => ?_)
    refine lv_if_ne (tgt := 20) X.1 X.2.1 (dck_at da_X12_item 5 rfl) rfl (fun c => ?_) (fun c => ?_)
    · have h := gI_neg h c
      refine lv_aload_n X.1 X.2.1 (dck_at da_X12_item 10 rfl) rfl (lv_at hl 0 rfl) ?_
      refine lv_iload_n X.1 X.2.1 (dck_at da_X12_item 11 rfl) rfl (lv_at hl 1 rfl) ?_
      refine lv_iload_n X.1 X.2.1 (dck_at da_X12_item 12 rfl) rfl (lv_at hl 2 rfl) ?_
      refine lv_iload_n X.1 X.2.1 (dck_at da_X12_item 13 rfl) rfl (lv_at hl 3 rfl) ?_
      refine lv_iconst X.1 X.2.1 (dck_at da_X12_item 14 rfl) ki_1 ?_
      obtain ⟨r4, s4, hc, h⟩ := gB2_some h
      refine gr_backi Y (gr_runV (as := [.int a1, .int a2, .int a3, .int (1 : Int32)]) (rest := []) X G Y (ok_m_why hc) cv_RX12_334 clM_0 ⟨Nat.le_of_ble_eq_true rfl, Nat.le_of_ble_eq_true rfl⟩ rfl hl.1 (Nat.le_of_ble_eq_true rfl) (dck_at da_X12_item 15 rfl)) (fun H locs Y => ?_)
      refine lv_istore (lv' := [(6, .int r4), (0, .ref (ad 0)), (1, .int a1), (2, .int a2), (3, .int a3), (4, .long a4)]) X.1 X.2.1 (dck_at da_X12_item 16 rfl) hl (by decide) rfl (fun ls hl => ?_)
      refine lv_iload X.1 X.2.1 (dck_at da_X12_item 17 rfl) (lv_at hl 0 rfl) ?_
      refine lv_if_ge (tgt := 42) X.1 X.2.1 (dck_at da_X12_item 18 rfl) rfl (fun c => ?_) (fun c => ?_)
      · have h := gI_pos h c
        refine lv_aload_n X.1 X.2.1 (dck_at da_X12_item 23 rfl) rfl (lv_at hl 1 rfl) ?_
        refine lv_iload_n X.1 X.2.1 (dck_at da_X12_item 24 rfl) rfl (lv_at hl 2 rfl) ?_
        refine lv_iload_n X.1 X.2.1 (dck_at da_X12_item 25 rfl) rfl (lv_at hl 4 rfl) ?_
        refine lv_lload X.1 X.2.1 (dck_at da_X12_item 26 rfl) (lv_at hl 5 rfl) ?_
        obtain ⟨s5, hc, h⟩ := gB_some h
        refine gr_backv Y (gr_runV (as := [.int a1, .int a3, .long a4]) (rest := []) X G Y (ok_m_puts hc) cv_RX12_338 clM_0 ⟨Nat.le_of_ble_eq_true rfl, Nat.le_of_ble_eq_true rfl⟩ rfl hl.1 (Nat.le_of_ble_eq_true rfl) (dck_at da_X12_item 27 rfl)) (fun H locs Y => ?_)
        refine lv_iconst X.1 X.2.1 (dck_at da_X12_item 28 rfl) ki_1 ?_
        exact gr_iretO X Y h hr rfl hlk (dck_at da_X12_item 29 rfl)
      · have h := gI_neg h c
        refine lv_aload_n X.1 X.2.1 (dck_at da_X12_item 19 rfl) rfl (lv_at hl 1 rfl) ?_
        refine lv_iload X.1 X.2.1 (dck_at da_X12_item 20 rfl) (lv_at hl 0 rfl) ?_
        obtain ⟨r6, s6, hc, h⟩ := gB2_some h
        refine gr_backi Y (gr_runV (as := [.int r4]) (rest := []) X G Y (ok_m_tells hc) cv_RX12_130 clM_0 ⟨Nat.le_of_ble_eq_true rfl, Nat.le_of_ble_eq_true rfl⟩ rfl hl.1 (Nat.le_of_ble_eq_true rfl) (dck_at da_X12_item 21 rfl)) (fun H locs Y => ?_)
        exact gr_iretO X Y h hr rfl hlk (dck_at da_X12_item 22 rfl)
    · have h := gI_pos h c
      exact b14 s3 _ _ _ h Y (lv_sub hl [0] rfl)
set_option maxRecDepth 100000 in
set_option maxHeartbeats 4000000 in
theorem ok_m_copy {l : Launch} {D : va_G} {cy : Nat → ClassId} {ad sa : Nat → Nat} {A : Nat → Prop} {F : Nat} {a1 : Int32} {a2 : Int32} {a3 : Int32} {a4 : Int32} {a5 : Int32} {s0 : St} {ρ : Int32} {σ' : St} (h : m_copy F a1 a2 a3 a4 a5 s0 = some (ρ, σ')) : gMi l shM D cy ad sa A yX12_copy cX12_copy 7 (some .int) 3 [.ref (ad 0), .int a1, .int a2, .int a3, .int a4, .int a5] s0 ρ σ' := by
  refine gM_of (by decide) (Nat.le_of_ble_eq_true rfl) ?_
  intro p e s m args below meth c ls X G Y hr hlk hl
  have hl : lv_has ls 7 [(0, .ref (ad 0)), (1, .int a1), (2, .int a2), (3, .int a3), (4, .int a4), (5, .int a5)] := hl
  have b14 : ∀  (s0 : St) (H : Heap) (locs : List Loc) (ls : Array Slot), m_copy_J14 F  s0 = some (ρ, σ') → gY shM D cy ad A s0 s H locs → lv_has ls 7 [(0, .ref (ad 0))] → W p l e (grm 3) s m args below meth c H locs 0 0 (MQ below (va_Qi (fun (q : Int32) (_ : Unit) => q = ρ) (fun _ t => va_P D vwCl (gWl shM cy ad σ') t.heap) A) args s 0 0 A) (F0 m 14 ls []) := by
    intro s0 H locs ls h Y hl
    unfold m_copy_J14 at h
    refine lv_aload_n X.1 X.2.1 (dck_at da_X12_copy 6 rfl) rfl (lv_at hl 0 rfl) ?_
    refine lv_iconst X.1 X.2.1 (dck_at da_X12_copy 7 rfl) ki_m1 ?_
    obtain ⟨r1, s1, hc, h⟩ := gB2_some h
    refine gr_backi Y (gr_runV (as := [.int (-1 : Int32)]) (rest := []) X G Y (ok_m_tells hc) cv_RX12_130 clM_0 ⟨Nat.le_of_ble_eq_true rfl, Nat.le_of_ble_eq_true rfl⟩ rfl hl.1 (Nat.le_of_ble_eq_true rfl) (dck_at da_X12_copy 8 rfl)) (fun H locs Y => ?_)
    exact gr_iretO X Y h hr rfl hlk (dck_at da_X12_copy 9 rfl)
  have b38 : ∀  (s0 : St) (H : Heap) (locs : List Loc) (ls : Array Slot), m_copy_J38 F  s0 = some (ρ, σ') → gY shM D cy ad A s0 s H locs → lv_has ls 7 [(0, .ref (ad 0))] → W p l e (grm 3) s m args below meth c H locs 0 0 (MQ below (va_Qi (fun (q : Int32) (_ : Unit) => q = ρ) (fun _ t => va_P D vwCl (gWl shM cy ad σ') t.heap) A) args s 0 0 A) (F0 m 38 ls []) := by
    intro s0 H locs ls h Y hl
    unfold m_copy_J38 at h
    refine lv_aload_n X.1 X.2.1 (dck_at da_X12_copy 20 rfl) rfl (lv_at hl 0 rfl) ?_
    refine lv_bipush X.1 X.2.1 (dck_at da_X12_copy 21 rfl) kb_m11 ?_
    obtain ⟨r2, s2, hc, h⟩ := gB2_some h
    refine gr_backi Y (gr_runV (as := [.int (-11 : Int32)]) (rest := []) X G Y (ok_m_tells hc) cv_RX12_130 clM_0 ⟨Nat.le_of_ble_eq_true rfl, Nat.le_of_ble_eq_true rfl⟩ rfl hl.1 (Nat.le_of_ble_eq_true rfl) (dck_at da_X12_copy 22 rfl)) (fun H locs Y => ?_)
    exact gr_iretO X Y h hr rfl hlk (dck_at da_X12_copy 23 rfl)
  have b107 : ∀  (s0 : St) (H : Heap) (locs : List Loc) (ls : Array Slot), m_copy_J107 F  s0 = some (ρ, σ') → gY shM D cy ad A s0 s H locs → lv_has ls 7 [(0, .ref (ad 0))] → W p l e (grm 3) s m args below meth c H locs 0 0 (MQ below (va_Qi (fun (q : Int32) (_ : Unit) => q = ρ) (fun _ t => va_P D vwCl (gWl shM cy ad σ') t.heap) A) args s 0 0 A) (F0 m 107 ls []) := by
    intro s0 H locs ls h Y hl
    unfold m_copy_J107 at h
    refine lv_aload_n X.1 X.2.1 (dck_at da_X12_copy 59 rfl) rfl (lv_at hl 0 rfl) ?_
    refine lv_bipush X.1 X.2.1 (dck_at da_X12_copy 60 rfl) kb_m13 ?_
    obtain ⟨r3, s3, hc, h⟩ := gB2_some h
    refine gr_backi Y (gr_runV (as := [.int (-13 : Int32)]) (rest := []) X G Y (ok_m_tells hc) cv_RX12_130 clM_0 ⟨Nat.le_of_ble_eq_true rfl, Nat.le_of_ble_eq_true rfl⟩ rfl hl.1 (Nat.le_of_ble_eq_true rfl) (dck_at da_X12_copy 61 rfl)) (fun H locs Y => ?_)
    exact gr_iretO X Y h hr rfl hlk (dck_at da_X12_copy 62 rfl)
  have b154 : ∀ n : Nat, ∀ (x3 : Int32) (x4 : Int32) (x5 : Int32) (x6 : Int32) (s0 : St) (H : Heap) (locs : List Loc) (ls : Array Slot), m_copy_L154 F  n x3 x4 x5 x6 s0 = some (ρ, σ') → gY shM D cy ad A s0 s H locs → lv_has ls 7 [(0, .ref (ad 0)), (3, .int x3), (4, .int x4), (5, .int x5), (6, .int x6)] → W p l e (grm 3) s m args below meth c H locs 0 0 (MQ below (va_Qi (fun (q : Int32) (_ : Unit) => q = ρ) (fun _ t => va_P D vwCl (gWl shM cy ad σ') t.heap) A) args s 0 0 A) (F0 m 154 ls []) := by
    intro n
    induction n with
    | zero => intro x3 x4 x5 x6 s0 H locs ls h Y hl; exact (gnone h).elim
    | succ n hk154 =>
      have e : m_copy_L154 F  (n + 1) = m_copy_L154b F  (m_copy_L154 F  n) := rfl
      rw [e]; clear e
      generalize m_copy_L154 F  n = k154 at hk154 ⊢
      intro x3 x4 x5 x6 s0 H locs ls h Y hl
      unfold m_copy_L154b at h
      refine lv_iload X.1 X.2.1 (dck_at da_X12_copy 86 rfl) (lv_at hl 4 rfl) ?_
      refine lv_iload X.1 X.2.1 (dck_at da_X12_copy 87 rfl) (lv_at hl 3 rfl) ?_
      refine lv_icmp_ge (tgt := 189) X.1 X.2.1 (dck_at da_X12_copy 88 rfl) rfl (fun c => ?_) (fun c => ?_)
      · have h := gI_pos h c
        refine lv_iload X.1 X.2.1 (dck_at da_X12_copy 105 rfl) (lv_at hl 3 rfl) ?_
        exact gr_iretO X Y h hr rfl hlk (dck_at da_X12_copy 106 rfl)
      · have h := gI_neg h c
        refine lv_aload_n X.1 X.2.1 (dck_at da_X12_copy 89 rfl) rfl (lv_at hl 0 rfl) ?_
        refine gr_getR X G Y fk_RX12_101 clM_0 rfl (dck_at da_X12_copy 90 rfl) ?_
        refine lv_bipush X.1 X.2.1 (dck_at da_X12_copy 91 rfl) kb_24 ?_
        refine lv_iload_n X.1 X.2.1 (dck_at da_X12_copy 92 rfl) rfl (lv_at hl 1 rfl) ?_
        refine lv_imul X.1 X.2.1 (dck_at da_X12_copy 93 rfl) ?_
        refine lv_iload X.1 X.2.1 (dck_at da_X12_copy 94 rfl) (lv_at hl 2 rfl) ?_
        refine lv_iadd X.1 X.2.1 (dck_at da_X12_copy 95 rfl) ?_
        refine lv_iload X.1 X.2.1 (dck_at da_X12_copy 96 rfl) (lv_at hl 4 rfl) ?_
        refine lv_iadd X.1 X.2.1 (dck_at da_X12_copy 97 rfl) ?_
        refine lv_aload_n X.1 X.2.1 (dck_at da_X12_copy 98 rfl) rfl (lv_at hl 0 rfl) ?_
        refine gr_getR X G Y fk_RX12_104 clM_0 rfl (dck_at da_X12_copy 99 rfl) ?_
        refine lv_iload X.1 X.2.1 (dck_at da_X12_copy 100 rfl) (lv_at hl 4 rfl) ?_
        obtain ⟨hin, h⟩ := gI_if h
        refine gr_lald X G Y clM_32 hin (dck_at da_X12_copy 101 rfl) ?_
        obtain ⟨hin, h⟩ := gI_if h
        refine gr_last X G Y clM_31 hin (dck_at da_X12_copy 102 rfl) (fun H locs Y => ?_)
        refine lv_iinc (v := x6 + (1 : Int32)) (lv' := [(6, .int (x6 + (1 : Int32))), (0, .ref (ad 0)), (3, .int x3), (4, .int x4), (5, .int x5)]) X.1 X.2.1 (dck_at da_X12_copy 103 rfl) hl (k := 4) rfl (congrArg (HAdd.hAdd _) ki_1) (by decide) rfl (fun ls hl => ?_)
        refine lv_goto (tgt := 154) X.1 X.2.1 (dck_at da_X12_copy 104 rfl) rfl ?_
        exact hk154 x3 x4 x5 (x6 + (1 : Int32)) (sJ s0 31 ((((24 : Int32) * x3) + x4) + x6).toNatClampNeg (s0.2 32 (x6).toNatClampNeg)) _ _ _ h Y (lv_sub hl [1, 2, 3, 4, 0] rfl)
  have b117 : ∀ n : Nat, ∀ (x1 : Int32) (x2 : Int32) (x3 : Int32) (x4 : Int32) (x5 : Int32) (x6 : Int32) (s0 : St) (H : Heap) (locs : List Loc) (ls : Array Slot), m_copy_L117 F  n x1 x2 x3 x4 x5 x6 s0 = some (ρ, σ') → gY shM D cy ad A s0 s H locs → lv_has ls 7 [(0, .ref (ad 0)), (1, .int x1), (2, .int x2), (3, .int x3), (4, .int x4), (5, .int x5), (6, .int x6)] → W p l e (grm 3) s m args below meth c H locs 0 0 (MQ below (va_Qi (fun (q : Int32) (_ : Unit) => q = ρ) (fun _ t => va_P D vwCl (gWl shM cy ad σ') t.heap) A) args s 0 0 A) (F0 m 117 ls []) := by
    intro n
    induction n with
    | zero => intro x1 x2 x3 x4 x5 x6 s0 H locs ls h Y hl; exact (gnone h).elim
    | succ n hk117 =>
      have e : m_copy_L117 F  (n + 1) = m_copy_L117b F  (m_copy_L117 F  n) := rfl
      rw [e]; clear e
      generalize m_copy_L117 F  n = k117 at hk117 ⊢
      intro x1 x2 x3 x4 x5 x6 s0 H locs ls h Y hl
      unfold m_copy_L117b at h
      refine lv_iload X.1 X.2.1 (dck_at da_X12_copy 65 rfl) (lv_at hl 6 rfl) ?_
      refine lv_iload X.1 X.2.1 (dck_at da_X12_copy 66 rfl) (lv_at hl 5 rfl) ?_
      refine lv_icmp_ge (tgt := 151) X.1 X.2.1 (dck_at da_X12_copy 67 rfl) rfl (fun c => ?_) (fun c => ?_)
      · have h := gI_pos h c
        refine lv_iconst X.1 X.2.1 (dck_at da_X12_copy 84 rfl) ki_0 ?_
        refine lv_istore (lv' := [(6, .int (0 : Int32)), (0, .ref (ad 0)), (1, .int x1), (2, .int x2), (3, .int x3), (4, .int x4), (5, .int x5)]) X.1 X.2.1 (dck_at da_X12_copy 85 rfl) hl (by decide) rfl (fun ls hl => ?_)
        exact b154 F x3 x4 x5 (0 : Int32) s0 _ _ _ h Y (lv_sub hl [1, 4, 5, 6, 0] rfl)
      · have h := gI_neg h c
        refine lv_aload_n X.1 X.2.1 (dck_at da_X12_copy 68 rfl) rfl (lv_at hl 0 rfl) ?_
        refine gr_getR X G Y fk_RX12_104 clM_0 rfl (dck_at da_X12_copy 69 rfl) ?_
        refine lv_iload X.1 X.2.1 (dck_at da_X12_copy 70 rfl) (lv_at hl 6 rfl) ?_
        refine lv_aload_n X.1 X.2.1 (dck_at da_X12_copy 71 rfl) rfl (lv_at hl 0 rfl) ?_
        refine gr_getR X G Y fk_RX12_101 clM_0 rfl (dck_at da_X12_copy 72 rfl) ?_
        refine lv_bipush X.1 X.2.1 (dck_at da_X12_copy 73 rfl) kb_24 ?_
        refine lv_iload_n X.1 X.2.1 (dck_at da_X12_copy 74 rfl) rfl (lv_at hl 1 rfl) ?_
        refine lv_imul X.1 X.2.1 (dck_at da_X12_copy 75 rfl) ?_
        refine lv_iload_n X.1 X.2.1 (dck_at da_X12_copy 76 rfl) rfl (lv_at hl 2 rfl) ?_
        refine lv_iadd X.1 X.2.1 (dck_at da_X12_copy 77 rfl) ?_
        refine lv_iload X.1 X.2.1 (dck_at da_X12_copy 78 rfl) (lv_at hl 6 rfl) ?_
        refine lv_iadd X.1 X.2.1 (dck_at da_X12_copy 79 rfl) ?_
        obtain ⟨hin, h⟩ := gI_if h
        refine gr_lald X G Y clM_31 hin (dck_at da_X12_copy 80 rfl) ?_
        obtain ⟨hin, h⟩ := gI_if h
        refine gr_last X G Y clM_32 hin (dck_at da_X12_copy 81 rfl) (fun H locs Y => ?_)
        refine lv_iinc (v := x6 + (1 : Int32)) (lv' := [(6, .int (x6 + (1 : Int32))), (0, .ref (ad 0)), (1, .int x1), (2, .int x2), (3, .int x3), (4, .int x4), (5, .int x5)]) X.1 X.2.1 (dck_at da_X12_copy 82 rfl) hl (k := 6) rfl (congrArg (HAdd.hAdd _) ki_1) (by decide) rfl (fun ls hl => ?_)
        refine lv_goto (tgt := 117) X.1 X.2.1 (dck_at da_X12_copy 83 rfl) rfl ?_
        exact hk117 x1 x2 x3 x4 x5 (x6 + (1 : Int32)) (sJ s0 32 (x6).toNatClampNeg (s0.2 31 ((((24 : Int32) * x1) + x2) + x6).toNatClampNeg)) _ _ _ h Y (lv_sub hl [1, 2, 3, 4, 5, 6, 0] rfl)
  unfold m_copy at h
  refine lv_iload_n X.1 X.2.1 (dck_at da_X12_copy 0 rfl) rfl (lv_at hl 1 rfl) ?_
  obtain ⟨r4, s4, hc, h⟩ := gB2_some h
  refine gr_backi Y (gr_runS (as := [.int a1]) (rest := []) X G Y (ok_m_isSheet hc) cs_RX12_328 ⟨Nat.le_of_ble_eq_true rfl, Nat.le_of_ble_eq_true rfl⟩ rfl hl.1 (Nat.le_of_ble_eq_true rfl) (dck_at da_X12_copy 1 rfl)) (fun H locs Y => ?_)
  refine lv_if_eq (tgt := 14) X.1 X.2.1 (dck_at da_X12_copy 2 rfl) rfl (fun c => ?_) (fun c => ?_)
  · have h := gI_pos h c
    exact b14 s4 _ _ _ h Y (lv_sub hl [0] rfl)
  · have h := gI_neg h c
    refine lv_iload_n X.1 X.2.1 (dck_at da_X12_copy 3 rfl) rfl (lv_at hl 3 rfl) ?_
    obtain ⟨r5, s5, hc, h⟩ := gB2_some h
    refine gr_backi Y (gr_runS (as := [.int a3]) (rest := []) X G Y (ok_m_isSheet hc) cs_RX12_328 ⟨Nat.le_of_ble_eq_true rfl, Nat.le_of_ble_eq_true rfl⟩ rfl hl.1 (Nat.le_of_ble_eq_true rfl) (dck_at da_X12_copy 4 rfl)) (fun H locs Y => ?_)
    refine lv_if_ne (tgt := 20) X.1 X.2.1 (dck_at da_X12_copy 5 rfl) rfl (fun c => ?_) (fun c => ?_)
    · have h := gI_neg h c
      refine lv_aload_n X.1 X.2.1 (dck_at da_X12_copy 10 rfl) rfl (lv_at hl 0 rfl) ?_
      refine gr_getR X G Y fk_RX12_95 clM_0 rfl (dck_at da_X12_copy 11 rfl) ?_
      refine lv_iload_n X.1 X.2.1 (dck_at da_X12_copy 12 rfl) rfl (lv_at hl 1 rfl) ?_
      obtain ⟨hin, h⟩ := gI_if h
      refine gr_iald X G Y clM_29 hin (dck_at da_X12_copy 13 rfl) ?_
      refine lv_if_lt (tgt := 38) X.1 X.2.1 (dck_at da_X12_copy 14 rfl) rfl (fun c => ?_) (fun c => ?_)
      · have h := gI_pos h c
        exact b38 s5 _ _ _ h Y (lv_sub hl [0] rfl)
      · have h := gI_neg h c
        refine lv_aload_n X.1 X.2.1 (dck_at da_X12_copy 15 rfl) rfl (lv_at hl 0 rfl) ?_
        refine gr_getR X G Y fk_RX12_95 clM_0 rfl (dck_at da_X12_copy 16 rfl) ?_
        refine lv_iload_n X.1 X.2.1 (dck_at da_X12_copy 17 rfl) rfl (lv_at hl 3 rfl) ?_
        obtain ⟨hin, h⟩ := gI_if h
        refine gr_iald X G Y clM_29 hin (dck_at da_X12_copy 18 rfl) ?_
        refine lv_if_ge (tgt := 45) X.1 X.2.1 (dck_at da_X12_copy 19 rfl) rfl (fun c => ?_) (fun c => ?_)
        · have h := gI_pos h c
          refine lv_aload_n X.1 X.2.1 (dck_at da_X12_copy 24 rfl) rfl (lv_at hl 0 rfl) ?_
          refine gr_getR X G Y fk_RX12_95 clM_0 rfl (dck_at da_X12_copy 25 rfl) ?_
          refine lv_iload_n X.1 X.2.1 (dck_at da_X12_copy 26 rfl) rfl (lv_at hl 1 rfl) ?_
          obtain ⟨hin, h⟩ := gI_if h
          refine gr_iald X G Y clM_29 hin (dck_at da_X12_copy 27 rfl) ?_
          refine lv_aload_n X.1 X.2.1 (dck_at da_X12_copy 28 rfl) rfl (lv_at hl 0 rfl) ?_
          refine gr_getR X G Y fk_RX12_95 clM_0 rfl (dck_at da_X12_copy 29 rfl) ?_
          refine lv_iload_n X.1 X.2.1 (dck_at da_X12_copy 30 rfl) rfl (lv_at hl 3 rfl) ?_
          obtain ⟨hin, h⟩ := gI_if h
          refine gr_iald X G Y clM_29 hin (dck_at da_X12_copy 31 rfl) ?_
          refine lv_icmp_eq (tgt := 67) X.1 X.2.1 (dck_at da_X12_copy 32 rfl) rfl (fun c => ?_) (fun c => ?_)
          · have h := gI_pos h c
            refine lv_iload X.1 X.2.1 (dck_at da_X12_copy 37 rfl) (lv_at hl 5 rfl) ?_
            refine lv_if_lt (tgt := 107) X.1 X.2.1 (dck_at da_X12_copy 38 rfl) rfl (fun c => ?_) (fun c => ?_)
            · have h := gI_pos h c
              exact b107 s5 _ _ _ h Y (lv_sub hl [0] rfl)
            · have h := gI_neg h c
              refine lv_aload_n X.1 X.2.1 (dck_at da_X12_copy 39 rfl) rfl (lv_at hl 0 rfl) ?_
              refine lv_iload_n X.1 X.2.1 (dck_at da_X12_copy 40 rfl) rfl (lv_at hl 1 rfl) ?_
              refine lv_aload_n X.1 X.2.1 (dck_at da_X12_copy 41 rfl) rfl (lv_at hl 0 rfl) ?_
              refine gr_getR X G Y fk_RX12_95 clM_0 rfl (dck_at da_X12_copy 42 rfl) ?_
              refine lv_iload_n X.1 X.2.1 (dck_at da_X12_copy 43 rfl) rfl (lv_at hl 1 rfl) ?_
              obtain ⟨hin, h⟩ := gI_if h
              refine gr_iald X G Y clM_29 hin (dck_at da_X12_copy 44 rfl) ?_
              refine lv_iload_n X.1 X.2.1 (dck_at da_X12_copy 45 rfl) rfl (lv_at hl 2 rfl) ?_
              refine lv_iload X.1 X.2.1 (dck_at da_X12_copy 46 rfl) (lv_at hl 5 rfl) ?_
              obtain ⟨r6, s6, hc, h⟩ := gB2_some h
              refine gr_backi Y (gr_runV (as := [.int a1, .int (s5.1 29 (a1).toNatClampNeg), .int a2, .int a5]) (rest := []) X G Y (ok_m_why hc) cv_RX12_334 clM_0 ⟨Nat.le_of_ble_eq_true rfl, Nat.le_of_ble_eq_true rfl⟩ rfl hl.1 (Nat.le_of_ble_eq_true rfl) (dck_at da_X12_copy 47 rfl)) (fun H locs Y => ?_)
              refine lv_if_lt (tgt := 107) X.1 X.2.1 (dck_at da_X12_copy 48 rfl) rfl (fun c => ?_) (fun c => ?_)
              · have h := gI_pos h c
                exact b107 s6 _ _ _ h Y (lv_sub hl [0] rfl)
              · have h := gI_neg h c
                refine lv_aload_n X.1 X.2.1 (dck_at da_X12_copy 49 rfl) rfl (lv_at hl 0 rfl) ?_
                refine lv_iload_n X.1 X.2.1 (dck_at da_X12_copy 50 rfl) rfl (lv_at hl 3 rfl) ?_
                refine lv_aload_n X.1 X.2.1 (dck_at da_X12_copy 51 rfl) rfl (lv_at hl 0 rfl) ?_
                refine gr_getR X G Y fk_RX12_95 clM_0 rfl (dck_at da_X12_copy 52 rfl) ?_
                refine lv_iload_n X.1 X.2.1 (dck_at da_X12_copy 53 rfl) rfl (lv_at hl 3 rfl) ?_
                obtain ⟨hin, h⟩ := gI_if h
                refine gr_iald X G Y clM_29 hin (dck_at da_X12_copy 54 rfl) ?_
                refine lv_iload X.1 X.2.1 (dck_at da_X12_copy 55 rfl) (lv_at hl 4 rfl) ?_
                refine lv_iload X.1 X.2.1 (dck_at da_X12_copy 56 rfl) (lv_at hl 5 rfl) ?_
                obtain ⟨r7, s7, hc, h⟩ := gB2_some h
                refine gr_backi Y (gr_runV (as := [.int a3, .int (s6.1 29 (a3).toNatClampNeg), .int a4, .int a5]) (rest := []) X G Y (ok_m_why hc) cv_RX12_334 clM_0 ⟨Nat.le_of_ble_eq_true rfl, Nat.le_of_ble_eq_true rfl⟩ rfl hl.1 (Nat.le_of_ble_eq_true rfl) (dck_at da_X12_copy 57 rfl)) (fun H locs Y => ?_)
                refine lv_if_ge (tgt := 114) X.1 X.2.1 (dck_at da_X12_copy 58 rfl) rfl (fun c => ?_) (fun c => ?_)
                · have h := gI_pos h c
                  refine lv_iconst X.1 X.2.1 (dck_at da_X12_copy 63 rfl) ki_0 ?_
                  refine lv_istore (lv' := [(6, .int (0 : Int32)), (0, .ref (ad 0)), (1, .int a1), (2, .int a2), (3, .int a3), (4, .int a4), (5, .int a5)]) X.1 X.2.1 (dck_at da_X12_copy 64 rfl) hl (by decide) rfl (fun ls hl => ?_)
                  exact b117 F a1 a2 a3 a4 a5 (0 : Int32) s7 _ _ _ h Y (lv_sub hl [1, 2, 3, 4, 5, 6, 0] rfl)
                · have h := gI_neg h c
                  exact b107 s7 _ _ _ h Y (lv_sub hl [0] rfl)
          · have h := gI_neg h c
            refine lv_aload_n X.1 X.2.1 (dck_at da_X12_copy 33 rfl) rfl (lv_at hl 0 rfl) ?_
            refine lv_bipush X.1 X.2.1 (dck_at da_X12_copy 34 rfl) kb_m12 ?_
            obtain ⟨r8, s8, hc, h⟩ := gB2_some h
            refine gr_backi Y (gr_runV (as := [.int (-12 : Int32)]) (rest := []) X G Y (ok_m_tells hc) cv_RX12_130 clM_0 ⟨Nat.le_of_ble_eq_true rfl, Nat.le_of_ble_eq_true rfl⟩ rfl hl.1 (Nat.le_of_ble_eq_true rfl) (dck_at da_X12_copy 35 rfl)) (fun H locs Y => ?_)
            exact gr_iretO X Y h hr rfl hlk (dck_at da_X12_copy 36 rfl)
        · have h := gI_neg h c
          exact b38 s5 _ _ _ h Y (lv_sub hl [0] rfl)
    · have h := gI_pos h c
      exact b14 s5 _ _ _ h Y (lv_sub hl [0] rfl)
