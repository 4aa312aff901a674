/-! each method does what its mirror says -/
set_option maxRecDepth 100000 in
set_option maxHeartbeats 4000000 in
theorem ok_m_turns {l : Launch} {D : va_G} {cy : Nat → ClassId} {ad sa : Nat → Nat} {A : Nat → Prop} {F : Nat} {a1 : Int32} {s0 : St} {ρ : Int32} {σ' : St} (h : m_turns F a1 s0 = some (ρ, σ')) : gMi l shM D cy ad sa A yX12_turns cX12_turns 7 (some .boolean) 1 [.ref (ad 0), .int a1] s0 ρ σ' := by
  refine gM_of (by decide) (Nat.le_of_ble_eq_true rfl) ?_
  intro p e s m args below meth c ls X G Y hr hlk hl
  have hl : lv_has ls 7 [(0, .ref (ad 0)), (1, .int a1)] := hl
  have b100 : ∀ n : Nat, ∀ (x5 : Int32) (x6 : Int32) (s0 : St) (H : Heap) (locs : List Loc) (ls : Array Slot), m_turns_L100 F  n x5 x6 s0 = some (ρ, σ') → gY shM D cy ad A s0 s H locs → lv_has ls 7 [(0, .ref (ad 0)), (5, .int x5), (6, .int x6)] → W p l e (grm 1) s m args below meth c H locs 0 0 (MQ below (va_Qi (fun (q : Int32) (_ : Unit) => q = ρ) (fun _ t => va_P D vwCl (gWl shM cy ad σ') t.heap) A) args s 0 0 A) (F0 m 100 ls []) := by
    intro n
    induction n with
    | zero => intro x5 x6 s0 H locs ls h Y hl; exact (gnone h).elim
    | succ n hk100 =>
      have e : m_turns_L100 F  (n + 1) = m_turns_L100b F  (m_turns_L100 F  n) := rfl
      rw [e]; clear e
      generalize m_turns_L100 F  n = k100 at hk100 ⊢
      intro x5 x6 s0 H locs ls h Y hl
      unfold m_turns_L100b at h
      refine lv_iload X.1 X.2.1 (dck_at da_X12_turns 64 rfl) (lv_at hl 1 rfl) ?_
      refine lv_iload X.1 X.2.1 (dck_at da_X12_turns 65 rfl) (lv_at hl 2 rfl) ?_
      refine lv_icmp_ge (tgt := 148) X.1 X.2.1 (dck_at da_X12_turns 66 rfl) rfl (fun c => ?_) (fun c => ?_)
      · have h := gI_pos h c
        refine lv_iconst X.1 X.2.1 (dck_at da_X12_turns 88 rfl) ki_1 ?_
        exact gr_iretO X Y h hr rfl hlk (dck_at da_X12_turns 89 rfl)
      · have h := gI_neg h c
        refine lv_aload_n X.1 X.2.1 (dck_at da_X12_turns 67 rfl) rfl (lv_at hl 0 rfl) ?_
        refine gr_getR X G Y fk_RX12_65 clM_0 rfl (dck_at da_X12_turns 68 rfl) ?_
        refine lv_iload X.1 X.2.1 (dck_at da_X12_turns 69 rfl) (lv_at hl 1 rfl) ?_
        obtain ⟨hin, h⟩ := gI_if h
        refine gr_iald X G Y clM_19 hin (dck_at da_X12_turns 70 rfl) ?_
        refine lv_istore (lv' := [(4, .int (s0.1 19 (x5).toNatClampNeg)), (0, .ref (ad 0)), (5, .int x5), (6, .int x6)]) X.1 X.2.1 (dck_at da_X12_turns 71 rfl) hl (by decide) rfl (fun ls hl => ?_)
        refine lv_aload_n X.1 X.2.1 (dck_at da_X12_turns 72 rfl) rfl (lv_at hl 1 rfl) ?_
        refine gr_getR X G Y fk_RX12_65 clM_0 rfl (dck_at da_X12_turns 73 rfl) ?_
        refine lv_iload X.1 X.2.1 (dck_at da_X12_turns 74 rfl) (lv_at hl 2 rfl) ?_
        refine lv_aload_n X.1 X.2.1 (dck_at da_X12_turns 75 rfl) rfl (lv_at hl 1 rfl) ?_
        refine gr_getR X G Y fk_RX12_65 clM_0 rfl (dck_at da_X12_turns 76 rfl) ?_
        refine lv_iload X.1 X.2.1 (dck_at da_X12_turns 77 rfl) (lv_at hl 3 rfl) ?_
        obtain ⟨hin, h⟩ := gI_if h
        refine gr_iald X G Y clM_19 hin (dck_at da_X12_turns 78 rfl) ?_
        obtain ⟨hin, h⟩ := gI_if h
        refine gr_iast X G Y clM_19 hin (dck_at da_X12_turns 79 rfl) (fun H locs Y => ?_)
        refine lv_aload_n X.1 X.2.1 (dck_at da_X12_turns 80 rfl) rfl (lv_at hl 1 rfl) ?_
        refine gr_getR X G Y fk_RX12_65 clM_0 rfl (dck_at da_X12_turns 81 rfl) ?_
        refine lv_iload X.1 X.2.1 (dck_at da_X12_turns 82 rfl) (lv_at hl 3 rfl) ?_
        refine lv_iload X.1 X.2.1 (dck_at da_X12_turns 83 rfl) (lv_at hl 0 rfl) ?_
        obtain ⟨hin, h⟩ := gI_if h
        refine gr_iast X G Y clM_19 hin (dck_at da_X12_turns 84 rfl) (fun H locs Y => ?_)
        refine lv_iinc (v := x5 + (1 : Int32)) (lv' := [(5, .int (x5 + (1 : Int32))), (4, .int (s0.1 19 (x5).toNatClampNeg)), (0, .ref (ad 0)), (6, .int x6)]) X.1 X.2.1 (dck_at da_X12_turns 85 rfl) hl (k := 2) rfl (congrArg (HAdd.hAdd _) ki_1) (by decide) rfl (fun ls hl => ?_)
        refine lv_iinc (v := x6 + (-1 : Int32)) (lv' := [(6, .int (x6 + (-1 : Int32))), (5, .int (x5 + (1 : Int32))), (4, .int (s0.1 19 (x5).toNatClampNeg)), (0, .ref (ad 0))]) X.1 X.2.1 (dck_at da_X12_turns 86 rfl) hl (k := 3) rfl (congrArg (HAdd.hAdd _) ki_m1) (by decide) rfl (fun ls hl => ?_)
        refine lv_goto (tgt := 100) X.1 X.2.1 (dck_at da_X12_turns 87 rfl) rfl ?_
        exact hk100 (x5 + (1 : Int32)) (x6 + (-1 : Int32)) (sI (sI s0 19 (x5).toNatClampNeg (s0.1 19 (x6).toNatClampNeg)) 19 (x6).toNatClampNeg (s0.1 19 (x5).toNatClampNeg)) _ _ _ h Y (lv_sub hl [3, 1, 0] rfl)
  have b41 : ∀ n : Nat, ∀ (x1 : Int32) (x2 : Int32) (x3 : Int32) (s0 : St) (H : Heap) (locs : List Loc) (ls : Array Slot), m_turns_L41 F  n x1 x2 x3 s0 = some (ρ, σ') → gY shM D cy ad A s0 s H locs → lv_has ls 7 [(0, .ref (ad 0)), (1, .int x1), (2, .int x2), (3, .int x3)] → W p l e (grm 1) s m args below meth c H locs 0 0 (MQ below (va_Qi (fun (q : Int32) (_ : Unit) => q = ρ) (fun _ t => va_P D vwCl (gWl shM cy ad σ') t.heap) A) args s 0 0 A) (F0 m 41 ls []) := by
    intro n
    induction n with
    | zero => intro x1 x2 x3 s0 H locs ls h Y hl; exact (gnone h).elim
    | succ n hk41 =>
      have e : m_turns_L41 F  (n + 1) = m_turns_L41b F  (m_turns_L41 F  n) := rfl
      rw [e]; clear e
      generalize m_turns_L41 F  n = k41 at hk41 ⊢
      intro x1 x2 x3 s0 H locs ls h Y hl
      unfold m_turns_L41b at h
      refine lv_aload_n X.1 X.2.1 (dck_at da_X12_turns 27 rfl) rfl (lv_at hl 0 rfl) ?_
      refine gr_getR X G Y fk_RX12_65 clM_0 rfl (dck_at da_X12_turns 28 rfl) ?_
      refine lv_iload_n X.1 X.2.1 (dck_at da_X12_turns 29 rfl) rfl (lv_at hl 3 rfl) ?_
      obtain ⟨hin, h⟩ := gI_if h
      refine gr_iald X G Y clM_19 hin (dck_at da_X12_turns 30 rfl) ?_
      refine lv_aload_n X.1 X.2.1 (dck_at da_X12_turns 31 rfl) rfl (lv_at hl 0 rfl) ?_
      refine gr_getR X G Y fk_RX12_65 clM_0 rfl (dck_at da_X12_turns 32 rfl) ?_
      refine lv_iload_n X.1 X.2.1 (dck_at da_X12_turns 33 rfl) rfl (lv_at hl 2 rfl) ?_
      obtain ⟨hin, h⟩ := gI_if h
      refine gr_iald X G Y clM_19 hin (dck_at da_X12_turns 34 rfl) ?_
      refine lv_icmp_ge (tgt := 62) X.1 X.2.1 (dck_at da_X12_turns 35 rfl) rfl (fun c => ?_) (fun c => ?_)
      · have h := gI_pos h c
        refine lv_aload_n X.1 X.2.1 (dck_at da_X12_turns 38 rfl) rfl (lv_at hl 0 rfl) ?_
        refine gr_getR X G Y fk_RX12_65 clM_0 rfl (dck_at da_X12_turns 39 rfl) ?_
        refine lv_iload_n X.1 X.2.1 (dck_at da_X12_turns 40 rfl) rfl (lv_at hl 2 rfl) ?_
        obtain ⟨hin, h⟩ := gI_if h
        refine gr_iald X G Y clM_19 hin (dck_at da_X12_turns 41 rfl) ?_
        refine lv_istore (lv' := [(4, .int (s0.1 19 (x2).toNatClampNeg)), (0, .ref (ad 0)), (1, .int x1), (2, .int x2), (3, .int x3)]) X.1 X.2.1 (dck_at da_X12_turns 42 rfl) hl (by decide) rfl (fun ls hl => ?_)
        refine lv_aload_n X.1 X.2.1 (dck_at da_X12_turns 43 rfl) rfl (lv_at hl 1 rfl) ?_
        refine gr_getR X G Y fk_RX12_65 clM_0 rfl (dck_at da_X12_turns 44 rfl) ?_
        refine lv_iload_n X.1 X.2.1 (dck_at da_X12_turns 45 rfl) rfl (lv_at hl 3 rfl) ?_
        refine lv_aload_n X.1 X.2.1 (dck_at da_X12_turns 46 rfl) rfl (lv_at hl 1 rfl) ?_
        refine gr_getR X G Y fk_RX12_65 clM_0 rfl (dck_at da_X12_turns 47 rfl) ?_
        refine lv_iload_n X.1 X.2.1 (dck_at da_X12_turns 48 rfl) rfl (lv_at hl 4 rfl) ?_
        obtain ⟨hin, h⟩ := gI_if h
        refine gr_iald X G Y clM_19 hin (dck_at da_X12_turns 49 rfl) ?_
        obtain ⟨hin, h⟩ := gI_if h
        refine gr_iast X G Y clM_19 hin (dck_at da_X12_turns 50 rfl) (fun H locs Y => ?_)
        refine lv_aload_n X.1 X.2.1 (dck_at da_X12_turns 51 rfl) rfl (lv_at hl 1 rfl) ?_
        refine gr_getR X G Y fk_RX12_65 clM_0 rfl (dck_at da_X12_turns 52 rfl) ?_
        refine lv_iload_n X.1 X.2.1 (dck_at da_X12_turns 53 rfl) rfl (lv_at hl 4 rfl) ?_
        refine lv_iload X.1 X.2.1 (dck_at da_X12_turns 54 rfl) (lv_at hl 0 rfl) ?_
        obtain ⟨hin, h⟩ := gI_if h
        refine gr_iast X G Y clM_19 hin (dck_at da_X12_turns 55 rfl) (fun H locs Y => ?_)
        refine lv_iload_n X.1 X.2.1 (dck_at da_X12_turns 56 rfl) rfl (lv_at hl 3 rfl) ?_
        refine lv_iconst X.1 X.2.1 (dck_at da_X12_turns 57 rfl) ki_1 ?_
        refine lv_iadd X.1 X.2.1 (dck_at da_X12_turns 58 rfl) ?_
        refine lv_istore (lv' := [(5, .int (x2 + (1 : Int32))), (4, .int (s0.1 19 (x2).toNatClampNeg)), (0, .ref (ad 0)), (1, .int x1), (2, .int x2), (3, .int x3)]) X.1 X.2.1 (dck_at da_X12_turns 59 rfl) hl (by decide) rfl (fun ls hl => ?_)
        refine lv_iload_n X.1 X.2.1 (dck_at da_X12_turns 60 rfl) rfl (lv_at hl 3 rfl) ?_
        refine lv_iconst X.1 X.2.1 (dck_at da_X12_turns 61 rfl) ki_1 ?_
        refine lv_isub X.1 X.2.1 (dck_at da_X12_turns 62 rfl) ?_
        refine lv_istore (lv' := [(6, .int (x1 - (1 : Int32))), (5, .int (x2 + (1 : Int32))), (4, .int (s0.1 19 (x2).toNatClampNeg)), (0, .ref (ad 0)), (1, .int x1), (2, .int x2), (3, .int x3)]) X.1 X.2.1 (dck_at da_X12_turns 63 rfl) hl (by decide) rfl (fun ls hl => ?_)
        exact b100 F (x2 + (1 : Int32)) (x1 - (1 : Int32)) (sI (sI s0 19 (x2).toNatClampNeg (s0.1 19 (x3).toNatClampNeg)) 19 (x3).toNatClampNeg (s0.1 19 (x2).toNatClampNeg)) _ _ _ h Y (lv_sub hl [3, 1, 0] rfl)
      · have h := gI_neg h c
        refine lv_iinc (v := x3 + (-1 : Int32)) (lv' := [(3, .int (x3 + (-1 : Int32))), (0, .ref (ad 0)), (1, .int x1), (2, .int x2)]) X.1 X.2.1 (dck_at da_X12_turns 36 rfl) hl (k := 3) rfl (congrArg (HAdd.hAdd _) ki_m1) (by decide) rfl (fun ls hl => ?_)
        refine lv_goto (tgt := 41) X.1 X.2.1 (dck_at da_X12_turns 37 rfl) rfl ?_
        exact hk41 x1 x2 (x3 + (-1 : Int32)) s0 _ _ _ h Y (lv_sub hl [1, 2, 3, 0] rfl)
  have b31 : ∀ (x1 : Int32) (x2 : Int32) (s0 : St) (H : Heap) (locs : List Loc) (ls : Array Slot), m_turns_J31 F  x1 x2 s0 = some (ρ, σ') → gY shM D cy ad A s0 s H locs → lv_has ls 7 [(0, .ref (ad 0)), (1, .int x1), (2, .int x2)] → W p l e (grm 1) s m args below meth c H locs 0 0 (MQ below (va_Qi (fun (q : Int32) (_ : Unit) => q = ρ) (fun _ t => va_P D vwCl (gWl shM cy ad σ') t.heap) A) args s 0 0 A) (F0 m 31 ls []) := by
    intro x1 x2 s0 H locs ls h Y hl
    unfold m_turns_J31 at h
    refine lv_iload_n X.1 X.2.1 (dck_at da_X12_turns 19 rfl) rfl (lv_at hl 2 rfl) ?_
    refine lv_if_ge (tgt := 37) X.1 X.2.1 (dck_at da_X12_turns 20 rfl) rfl (fun c => ?_) (fun c => ?_)
    · have h := gI_pos h c
      refine lv_iload_n X.1 X.2.1 (dck_at da_X12_turns 23 rfl) rfl (lv_at hl 1 rfl) ?_
      refine lv_iconst X.1 X.2.1 (dck_at da_X12_turns 24 rfl) ki_1 ?_
      refine lv_isub X.1 X.2.1 (dck_at da_X12_turns 25 rfl) ?_
      refine lv_istore_n (lv' := [(3, .int (x1 - (1 : Int32))), (0, .ref (ad 0)), (1, .int x1), (2, .int x2)]) X.1 X.2.1 (dck_at da_X12_turns 26 rfl) rfl hl (by decide) rfl (fun ls hl => ?_)
      exact b41 F x1 x2 (x1 - (1 : Int32)) s0 _ _ _ h Y (lv_sub hl [1, 2, 3, 0] rfl)
    · have h := gI_neg h c
      refine lv_iconst X.1 X.2.1 (dck_at da_X12_turns 21 rfl) ki_0 ?_
      exact gr_iretO X Y h hr rfl hlk (dck_at da_X12_turns 22 rfl)
  have b4 : ∀ n : Nat, ∀ (x1 : Int32) (x2 : Int32) (s0 : St) (H : Heap) (locs : List Loc) (ls : Array Slot), m_turns_L4 F  n x1 x2 s0 = some (ρ, σ') → gY shM D cy ad A s0 s H locs → lv_has ls 7 [(0, .ref (ad 0)), (1, .int x1), (2, .int x2)] → W p l e (grm 1) s m args below meth c H locs 0 0 (MQ below (va_Qi (fun (q : Int32) (_ : Unit) => q = ρ) (fun _ t => va_P D vwCl (gWl shM cy ad σ') t.heap) A) args s 0 0 A) (F0 m 4 ls []) := by
    intro n
    induction n with
    | zero => intro x1 x2 s0 H locs ls h Y hl; exact (gnone h).elim
    | succ n hk4 =>
      have e : m_turns_L4 F  (n + 1) = m_turns_L4b F  (m_turns_L4 F  n) := rfl
      rw [e]; clear e
      generalize m_turns_L4 F  n = k4 at hk4 ⊢
      intro x1 x2 s0 H locs ls h Y hl
      unfold m_turns_L4b at h
      refine lv_iload_n X.1 X.2.1 (dck_at da_X12_turns 4 rfl) rfl (lv_at hl 2 rfl) ?_
      refine lv_if_lt (tgt := 31) X.1 X.2.1 (dck_at da_X12_turns 5 rfl) rfl (fun c => ?_) (fun c => ?_)
      · have h := gI_pos h c
        exact b31 x1 x2 s0 _ _ _ h Y (lv_sub hl [0, 1, 2] rfl)
      · have h := gI_neg h c
        refine lv_aload_n X.1 X.2.1 (dck_at da_X12_turns 6 rfl) rfl (lv_at hl 0 rfl) ?_
        refine gr_getR X G Y fk_RX12_65 clM_0 rfl (dck_at da_X12_turns 7 rfl) ?_
        refine lv_iload_n X.1 X.2.1 (dck_at da_X12_turns 8 rfl) rfl (lv_at hl 2 rfl) ?_
        obtain ⟨hin, h⟩ := gI_if h
        refine gr_iald X G Y clM_19 hin (dck_at da_X12_turns 9 rfl) ?_
        refine lv_aload_n X.1 X.2.1 (dck_at da_X12_turns 10 rfl) rfl (lv_at hl 0 rfl) ?_
        refine gr_getR X G Y fk_RX12_65 clM_0 rfl (dck_at da_X12_turns 11 rfl) ?_
        refine lv_iload_n X.1 X.2.1 (dck_at da_X12_turns 12 rfl) rfl (lv_at hl 2 rfl) ?_
        refine lv_iconst X.1 X.2.1 (dck_at da_X12_turns 13 rfl) ki_1 ?_
        refine lv_iadd X.1 X.2.1 (dck_at da_X12_turns 14 rfl) ?_
        obtain ⟨hin, h⟩ := gI_if h
        refine gr_iald X G Y clM_19 hin (dck_at da_X12_turns 15 rfl) ?_
        refine lv_icmp_le (tgt := 31) X.1 X.2.1 (dck_at da_X12_turns 16 rfl) rfl (fun c => ?_) (fun c => ?_)
        · have h := gI_pos h c
          exact b31 x1 x2 s0 _ _ _ h Y (lv_sub hl [0, 1, 2] rfl)
        · have h := gI_neg h c
          refine lv_iinc (v := x2 + (-1 : Int32)) (lv' := [(2, .int (x2 + (-1 : Int32))), (0, .ref (ad 0)), (1, .int x1)]) X.1 X.2.1 (dck_at da_X12_turns 17 rfl) hl (k := 2) rfl (congrArg (HAdd.hAdd _) ki_m1) (by decide) rfl (fun ls hl => ?_)
          refine lv_goto (tgt := 4) X.1 X.2.1 (dck_at da_X12_turns 18 rfl) rfl ?_
          exact hk4 x1 (x2 + (-1 : Int32)) s0 _ _ _ h Y (lv_sub hl [1, 2, 0] rfl)
  unfold m_turns at h
  refine lv_iload_n X.1 X.2.1 (dck_at da_X12_turns 0 rfl) rfl (lv_at hl 1 rfl) ?_
  refine lv_iconst X.1 X.2.1 (dck_at da_X12_turns 1 rfl) ki_2 ?_
  refine lv_isub X.1 X.2.1 (dck_at da_X12_turns 2 rfl) ?_
  refine lv_istore_n (lv' := [(2, .int (a1 - (2 : Int32))), (0, .ref (ad 0)), (1, .int a1)]) X.1 X.2.1 (dck_at da_X12_turns 3 rfl) rfl hl (by decide) rfl (fun ls hl => ?_)
  exact b4 F a1 (a1 - (2 : Int32)) s0 _ _ _ h Y (lv_sub hl [1, 2, 0] rfl)
set_option maxRecDepth 100000 in
set_option maxHeartbeats 4000000 in
theorem ok_m_order {l : Launch} {D : va_G} {cy : Nat → ClassId} {ad sa : Nat → Nat} {A : Nat → Prop} {F : Nat} {a1 : Int32} {s0 : St} {ρ : Int64} {σ' : St} (h : m_order F a1 s0 = some (ρ, σ')) : gMl l shM D cy ad sa A yX12_order cX12_order 10 (some .long) 4 [.ref (ad 0), .int a1] s0 ρ σ' := by
  refine gM_of (by decide) (Nat.le_of_ble_eq_true rfl) ?_
  intro p e s m args below meth c ls X G Y hr hlk hl
  have hl : lv_has ls 10 [(0, .ref (ad 0)), (1, .int a1)] := hl
  have b52 : ∀  (s0 : St) (H : Heap) (locs : List Loc) (ls : Array Slot), m_order_J52 F  s0 = some (ρ, σ') → gY shM D cy ad A s0 s H locs → lv_has ls 10 [(0, .ref (ad 0))] → W p l e (grm 4) s m args below meth c H locs 0 0 (MQ below (va_Ql (fun (q : Int64) (_ : Unit) => q = ρ) (fun _ t => va_P D vwCl (gWl shM cy ad σ') t.heap) A) args s 0 0 A) (F0 m 52 ls []) := by
    intro s0 H locs ls h Y hl
    unfold m_order_J52 at h
    refine lv_aload_n X.1 X.2.1 (dck_at da_X12_order 24 rfl) rfl (lv_at hl 0 rfl) ?_
    refine lv_ldc2 X.1 X.2.1 X.2.2.2.1 (X.2.2.2.2 _ wm_1408) (dck_at da_X12_order 25 rfl) ?_
    obtain ⟨r1, s1, hc, h⟩ := gB2_some h
    refine gr_backl Y (gr_runV (as := [.long (-4 : Int64)]) (rest := []) X G Y (ok_m_says hc) cv_RX12_120 clM_0 ⟨Nat.le_of_ble_eq_true rfl, Nat.le_of_ble_eq_true rfl⟩ rfl hl.1 (Nat.le_of_ble_eq_true rfl) (dck_at da_X12_order 26 rfl)) (fun H locs Y => ?_)
    exact gr_lretO X Y h hr hlk (dck_at da_X12_order 27 rfl)
  have b90 : ∀ n : Nat, ∀ (x1 : Int32) (x2 : Int64) (x4 : Int32) (s0 : St) (H : Heap) (locs : List Loc) (ls : Array Slot), m_order_L90 F  n x1 x2 x4 s0 = some (ρ, σ') → gY shM D cy ad A s0 s H locs → lv_has ls 10 [(0, .ref (ad 0)), (1, .int x1), (2, .long x2), (4, .int x4)] → W p l e (grm 4) s m args below meth c H locs 0 0 (MQ below (va_Ql (fun (q : Int64) (_ : Unit) => q = ρ) (fun _ t => va_P D vwCl (gWl shM cy ad σ') t.heap) A) args s 0 0 A) (F0 m 90 ls []) := by
    intro n
    induction n with
    | zero => intro x1 x2 x4 s0 H locs ls h Y hl; exact (gnone h).elim
    | succ n hk90 =>
      have e : m_order_L90 F  (n + 1) = m_order_L90b F  (m_order_L90 F  n) := rfl
      rw [e]; clear e
      generalize m_order_L90 F  n = k90 at hk90 ⊢
      have b236 : ∀ (x1 : Int32) (y0 : Int64) (s0 : St) (H : Heap) (locs : List Loc) (ls : Array Slot), m_order_J236 F k90 x1 y0 s0 = some (ρ, σ') → gY shM D cy ad A s0 s H locs → lv_has ls 10 [(0, .ref (ad 0)), (1, .int x1)] → W p l e (grm 4) s m args below meth c H locs 0 0 (MQ below (va_Ql (fun (q : Int64) (_ : Unit) => q = ρ) (fun _ t => va_P D vwCl (gWl shM cy ad σ') t.heap) A) args s 0 0 A) (F0 m 236 ls [.long y0]) := by
        intro x1 y0 s0 H locs ls h Y hl
        unfold m_order_J236 at h
        refine lv_lstore_n (lv' := [(2, .long y0), (0, .ref (ad 0)), (1, .int x1)]) X.1 X.2.1 (dck_at da_X12_order 123 rfl) rfl hl (by decide) rfl (fun ls hl => ?_)
        refine lv_aload_n X.1 X.2.1 (dck_at da_X12_order 124 rfl) rfl (lv_at hl 1 rfl) ?_
        refine lv_aload_n X.1 X.2.1 (dck_at da_X12_order 125 rfl) rfl (lv_at hl 1 rfl) ?_
        refine gr_getI X G Y fk_RX12_234 clM_0 rfl (dck_at da_X12_order 126 rfl) ?_
        obtain ⟨r2, s2, hc, h⟩ := gB2_some h
        refine gr_backi Y (gr_runV (as := [.int (s0.1 0 21)]) (rest := []) X G Y (ok_m_turns hc) cv_RX12_290 clM_0 ⟨Nat.le_of_ble_eq_true rfl, Nat.le_of_ble_eq_true rfl⟩ rfl hl.1 (Nat.le_of_ble_eq_true rfl) (dck_at da_X12_order 127 rfl)) (fun H locs Y => ?_)
        refine lv_istore (lv' := [(4, .int r2), (2, .long y0), (0, .ref (ad 0)), (1, .int x1)]) X.1 X.2.1 (dck_at da_X12_order 128 rfl) hl (by decide) rfl (fun ls hl => ?_)
        refine lv_goto (tgt := 90) X.1 X.2.1 (dck_at da_X12_order 129 rfl) rfl ?_
        exact hk90 x1 y0 r2 s2 _ _ _ h Y (lv_sub hl [2, 3, 1, 0] rfl)
      have b223 : ∀ (x1 : Int32) (x2 : Int64) (x6 : Int64) (s0 : St) (H : Heap) (locs : List Loc) (ls : Array Slot), m_order_J223 F k90 x1 x2 x6 s0 = some (ρ, σ') → gY shM D cy ad A s0 s H locs → lv_has ls 10 [(0, .ref (ad 0)), (1, .int x1), (2, .long x2), (6, .long x6)] → W p l e (grm 4) s m args below meth c H locs 0 0 (MQ below (va_Ql (fun (q : Int64) (_ : Unit) => q = ρ) (fun _ t => va_P D vwCl (gWl shM cy ad σ') t.heap) A) args s 0 0 A) (F0 m 223 ls []) := by
        intro x1 x2 x6 s0 H locs ls h Y hl
        unfold m_order_J223 at h
        refine lv_lload X.1 X.2.1 (dck_at da_X12_order 116 rfl) (lv_at hl 3 rfl) ?_
        refine lv_lload_n X.1 X.2.1 (dck_at da_X12_order 117 rfl) rfl (lv_at hl 2 rfl) ?_
        refine W.lcmp X.1 X.2.1 (dck_at da_X12_order 118 rfl) ?_
        refine lv_if_le (tgt := 235) X.1 X.2.1 (dck_at da_X12_order 119 rfl) rfl (fun c => ?_) (fun c => ?_)
        · have h := gI_pos h c
          refine lv_lload_n X.1 X.2.1 (dck_at da_X12_order 122 rfl) rfl (lv_at hl 2 rfl) ?_
          exact b236 x1 x2 s0 _ _ _ h Y (lv_sub hl [0, 1] rfl)
        · have h := gI_neg h c
          refine lv_lload X.1 X.2.1 (dck_at da_X12_order 120 rfl) (lv_at hl 3 rfl) ?_
          refine lv_goto (tgt := 236) X.1 X.2.1 (dck_at da_X12_order 121 rfl) rfl ?_
          exact b236 x1 x6 s0 _ _ _ h Y (lv_sub hl [0, 1] rfl)
      have b187 : ∀ n : Nat, ∀ (x1 : Int32) (x2 : Int64) (x6 : Int64) (x8 : Int32) (s0 : St) (H : Heap) (locs : List Loc) (ls : Array Slot), m_order_L187 F k90 n x1 x2 x6 x8 s0 = some (ρ, σ') → gY shM D cy ad A s0 s H locs → lv_has ls 10 [(0, .ref (ad 0)), (1, .int x1), (2, .long x2), (6, .long x6), (8, .int x8)] → W p l e (grm 4) s m args below meth c H locs 0 0 (MQ below (va_Ql (fun (q : Int64) (_ : Unit) => q = ρ) (fun _ t => va_P D vwCl (gWl shM cy ad σ') t.heap) A) args s 0 0 A) (F0 m 187 ls []) := by
        intro n
        induction n with
        | zero => intro x1 x2 x6 x8 s0 H locs ls h Y hl; exact (gnone h).elim
        | succ n hk187 =>
          have e : m_order_L187 F k90 (n + 1) = m_order_L187b F k90 (m_order_L187 F k90 n) := rfl
          rw [e]; clear e
          generalize m_order_L187 F k90 n = k187 at hk187 ⊢
          intro x1 x2 x6 x8 s0 H locs ls h Y hl
          unfold m_order_L187b at h
          refine lv_iload X.1 X.2.1 (dck_at da_X12_order 98 rfl) (lv_at hl 4 rfl) ?_
          refine lv_aload_n X.1 X.2.1 (dck_at da_X12_order 99 rfl) rfl (lv_at hl 0 rfl) ?_
          refine gr_getI X G Y fk_RX12_234 clM_0 rfl (dck_at da_X12_order 100 rfl) ?_
          refine lv_icmp_ge (tgt := 223) X.1 X.2.1 (dck_at da_X12_order 101 rfl) rfl (fun c => ?_) (fun c => ?_)
          · have h := gI_pos h c
            exact b223 x1 x2 x6 s0 _ _ _ h Y (lv_sub hl [0, 1, 2, 3] rfl)
          · have h := gI_neg h c
            refine lv_lload X.1 X.2.1 (dck_at da_X12_order 102 rfl) (lv_at hl 3 rfl) ?_
            refine lv_lload_n X.1 X.2.1 (dck_at da_X12_order 103 rfl) rfl (lv_at hl 2 rfl) ?_
            refine W.lcmp X.1 X.2.1 (dck_at da_X12_order 104 rfl) ?_
            refine lv_if_le (tgt := 223) X.1 X.2.1 (dck_at da_X12_order 105 rfl) rfl (fun c => ?_) (fun c => ?_)
            · have h := gI_pos h c
              exact b223 x1 x2 x6 s0 _ _ _ h Y (lv_sub hl [0, 1, 2, 3] rfl)
            · have h := gI_neg h c
              refine lv_aload_n X.1 X.2.1 (dck_at da_X12_order 106 rfl) rfl (lv_at hl 0 rfl) ?_
              refine gr_getR X G Y fk_RX12_68 clM_0 rfl (dck_at da_X12_order 107 rfl) ?_
              refine lv_iload X.1 X.2.1 (dck_at da_X12_order 108 rfl) (lv_at hl 4 rfl) ?_
              refine lv_aload_n X.1 X.2.1 (dck_at da_X12_order 109 rfl) rfl (lv_at hl 0 rfl) ?_
              refine gr_getR X G Y fk_RX12_65 clM_0 rfl (dck_at da_X12_order 110 rfl) ?_
              refine lv_iload X.1 X.2.1 (dck_at da_X12_order 111 rfl) (lv_at hl 4 rfl) ?_
              obtain ⟨hin, h⟩ := gI_if h
              refine gr_iald X G Y clM_19 hin (dck_at da_X12_order 112 rfl) ?_
              obtain ⟨hin, h⟩ := gI_if h
              refine gr_iast X G Y clM_20 hin (dck_at da_X12_order 113 rfl) (fun H locs Y => ?_)
              refine lv_iinc (v := x8 + (1 : Int32)) (lv' := [(8, .int (x8 + (1 : Int32))), (0, .ref (ad 0)), (1, .int x1), (2, .long x2), (6, .long x6)]) X.1 X.2.1 (dck_at da_X12_order 114 rfl) hl (k := 4) rfl (congrArg (HAdd.hAdd _) ki_1) (by decide) rfl (fun ls hl => ?_)
              refine lv_goto (tgt := 187) X.1 X.2.1 (dck_at da_X12_order 115 rfl) rfl ?_
              exact hk187 x1 x2 x6 (x8 + (1 : Int32)) (sI s0 20 (x8).toNatClampNeg (s0.1 19 (x8).toNatClampNeg)) _ _ _ h Y (lv_sub hl [1, 2, 3, 4, 0] rfl)
      have b107 : ∀ n : Nat, ∀ (x1 : Int32) (x2 : Int64) (x5 : Int32) (x6 : Int64) (x8 : Int32) (s0 : St) (H : Heap) (locs : List Loc) (ls : Array Slot), m_order_L107 F k90 n x1 x2 x5 x6 x8 s0 = some (ρ, σ') → gY shM D cy ad A s0 s H locs → lv_has ls 10 [(0, .ref (ad 0)), (1, .int x1), (2, .long x2), (5, .int x5), (6, .long x6), (8, .int x8)] → W p l e (grm 4) s m args below meth c H locs 0 0 (MQ below (va_Ql (fun (q : Int64) (_ : Unit) => q = ρ) (fun _ t => va_P D vwCl (gWl shM cy ad σ') t.heap) A) args s 0 0 A) (F0 m 107 ls []) := by
        intro n
        induction n with
        | zero => intro x1 x2 x5 x6 x8 s0 H locs ls h Y hl; exact (gnone h).elim
        | succ n hk107 =>
          have e : m_order_L107 F k90 (n + 1) = m_order_L107b F k90 (m_order_L107 F k90 n) := rfl
          rw [e]; clear e
          generalize m_order_L107 F k90 n = k107 at hk107 ⊢
          intro x1 x2 x5 x6 x8 s0 H locs ls h Y hl
          unfold m_order_L107b at h
          refine lv_iload X.1 X.2.1 (dck_at da_X12_order 54 rfl) (lv_at hl 5 rfl) ?_
          refine lv_aload_n X.1 X.2.1 (dck_at da_X12_order 55 rfl) rfl (lv_at hl 0 rfl) ?_
          refine gr_getI X G Y fk_RX12_234 clM_0 rfl (dck_at da_X12_order 56 rfl) ?_
          refine lv_icmp_ge (tgt := 184) X.1 X.2.1 (dck_at da_X12_order 57 rfl) rfl (fun c => ?_) (fun c => ?_)
          · have h := gI_pos h c
            refine lv_iconst X.1 X.2.1 (dck_at da_X12_order 96 rfl) ki_0 ?_
            refine lv_istore (lv' := [(8, .int (0 : Int32)), (0, .ref (ad 0)), (1, .int x1), (2, .long x2), (5, .int x5), (6, .long x6)]) X.1 X.2.1 (dck_at da_X12_order 97 rfl) hl (by decide) rfl (fun ls hl => ?_)
            exact b187 F x1 x2 x6 (0 : Int32) s0 _ _ _ h Y (lv_sub hl [1, 2, 3, 5, 0] rfl)
          · have h := gI_neg h c
            refine lv_aload_n X.1 X.2.1 (dck_at da_X12_order 58 rfl) rfl (lv_at hl 0 rfl) ?_
            refine gr_getR X G Y fk_RX12_65 clM_0 rfl (dck_at da_X12_order 59 rfl) ?_
            refine lv_iload X.1 X.2.1 (dck_at da_X12_order 60 rfl) (lv_at hl 5 rfl) ?_
            obtain ⟨hin, h⟩ := gI_if h
            refine gr_iald X G Y clM_19 hin (dck_at da_X12_order 61 rfl) ?_
            refine lv_istore (lv' := [(9, .int (s0.1 19 (x8).toNatClampNeg)), (0, .ref (ad 0)), (1, .int x1), (2, .long x2), (5, .int x5), (6, .long x6), (8, .int x8)]) X.1 X.2.1 (dck_at da_X12_order 62 rfl) hl (by decide) rfl (fun ls hl => ?_)
            refine lv_lload X.1 X.2.1 (dck_at da_X12_order 63 rfl) (lv_at hl 5 rfl) ?_
            refine lv_aload_n X.1 X.2.1 (dck_at da_X12_order 64 rfl) rfl (lv_at hl 1 rfl) ?_
            refine lv_aload_n X.1 X.2.1 (dck_at da_X12_order 65 rfl) rfl (lv_at hl 1 rfl) ?_
            refine gr_getR X G Y fk_RX12_59 clM_0 rfl (dck_at da_X12_order 66 rfl) ?_
            refine lv_iload X.1 X.2.1 (dck_at da_X12_order 67 rfl) (lv_at hl 0 rfl) ?_
            obtain ⟨hin, h⟩ := gI_if h
            refine gr_iald X G Y clM_17 hin (dck_at da_X12_order 68 rfl) ?_
            refine lv_aload_n X.1 X.2.1 (dck_at da_X12_order 69 rfl) rfl (lv_at hl 1 rfl) ?_
            refine gr_getR X G Y fk_RX12_56 clM_0 rfl (dck_at da_X12_order 70 rfl) ?_
            refine lv_iload X.1 X.2.1 (dck_at da_X12_order 71 rfl) (lv_at hl 0 rfl) ?_
            obtain ⟨hin, h⟩ := gI_if h
            refine gr_iald X G Y clM_16 hin (dck_at da_X12_order 72 rfl) ?_
            refine lv_iload X.1 X.2.1 (dck_at da_X12_order 73 rfl) (lv_at hl 4 rfl) ?_
            obtain ⟨r3, s3, hc, h⟩ := gB2_some h
            refine gr_backl Y (gr_runV (as := [.int (s0.1 17 (s0.1 19 (x8).toNatClampNeg).toNatClampNeg), .int (s0.1 16 (s0.1 19 (x8).toNatClampNeg).toNatClampNeg), .int x5]) (rest := [.long x6]) X G Y (ok_m_seen hc) cv_RX12_266 clM_0 ⟨Nat.le_of_ble_eq_true rfl, Nat.le_of_ble_eq_true rfl⟩ rfl hl.1 (Nat.le_of_ble_eq_true rfl) (dck_at da_X12_order 74 rfl)) (fun H locs Y => ?_)
            refine lv_aload_n X.1 X.2.1 (dck_at da_X12_order 75 rfl) rfl (lv_at hl 1 rfl) ?_
            refine lv_iload X.1 X.2.1 (dck_at da_X12_order 76 rfl) (lv_at hl 4 rfl) ?_
            refine lv_aload_n X.1 X.2.1 (dck_at da_X12_order 77 rfl) rfl (lv_at hl 1 rfl) ?_
            refine gr_getR X G Y fk_RX12_62 clM_0 rfl (dck_at da_X12_order 78 rfl) ?_
            refine lv_iload X.1 X.2.1 (dck_at da_X12_order 79 rfl) (lv_at hl 0 rfl) ?_
            obtain ⟨hin, h⟩ := gI_if h
            refine gr_iald X G Y clM_18 hin (dck_at da_X12_order 80 rfl) ?_
            refine lv_iadd X.1 X.2.1 (dck_at da_X12_order 81 rfl) ?_
            obtain ⟨r4, s4, hc, h⟩ := gB2_some h
            refine gr_backi Y (gr_runV (as := [.int (x5 + (s3.1 18 (s0.1 19 (x8).toNatClampNeg).toNatClampNeg))]) (rest := [.long r3, .long x6]) X G Y (ok_m_aliveAt hc) cv_RX12_260 clM_0 ⟨Nat.le_of_ble_eq_true rfl, Nat.le_of_ble_eq_true rfl⟩ rfl hl.1 (Nat.le_of_ble_eq_true rfl) (dck_at da_X12_order 82 rfl)) (fun H locs Y => ?_)
            refine lv_i2l (v := (r4).toInt64) X.1 X.2.1 (dck_at da_X12_order 83 rfl) rfl ?_
            refine lv_lmul X.1 X.2.1 (dck_at da_X12_order 84 rfl) ?_
            refine lv_ladd X.1 X.2.1 (dck_at da_X12_order 85 rfl) ?_
            refine lv_lstore (lv' := [(6, .long (x6 + (r3 * ((r4).toInt64)))), (9, .int (s0.1 19 (x8).toNatClampNeg)), (0, .ref (ad 0)), (1, .int x1), (2, .long x2), (5, .int x5), (8, .int x8)]) X.1 X.2.1 (dck_at da_X12_order 86 rfl) hl (by decide) rfl (fun ls hl => ?_)
            refine lv_iload X.1 X.2.1 (dck_at da_X12_order 87 rfl) (lv_at hl 5 rfl) ?_
            refine lv_aload_n X.1 X.2.1 (dck_at da_X12_order 88 rfl) rfl (lv_at hl 2 rfl) ?_
            refine gr_getR X G Y fk_RX12_62 clM_0 rfl (dck_at da_X12_order 89 rfl) ?_
            refine lv_iload X.1 X.2.1 (dck_at da_X12_order 90 rfl) (lv_at hl 1 rfl) ?_
            obtain ⟨hin, h⟩ := gI_if h
            refine gr_iald X G Y clM_18 hin (dck_at da_X12_order 91 rfl) ?_
            refine lv_iadd X.1 X.2.1 (dck_at da_X12_order 92 rfl) ?_
            refine lv_istore (lv' := [(5, .int (x5 + (s4.1 18 (s0.1 19 (x8).toNatClampNeg).toNatClampNeg))), (6, .long (x6 + (r3 * ((r4).toInt64)))), (9, .int (s0.1 19 (x8).toNatClampNeg)), (0, .ref (ad 0)), (1, .int x1), (2, .long x2), (8, .int x8)]) X.1 X.2.1 (dck_at da_X12_order 93 rfl) hl (by decide) rfl (fun ls hl => ?_)
            refine lv_iinc (v := x8 + (1 : Int32)) (lv' := [(8, .int (x8 + (1 : Int32))), (5, .int (x5 + (s4.1 18 (s0.1 19 (x8).toNatClampNeg).toNatClampNeg))), (6, .long (x6 + (r3 * ((r4).toInt64)))), (9, .int (s0.1 19 (x8).toNatClampNeg)), (0, .ref (ad 0)), (1, .int x1), (2, .long x2)]) X.1 X.2.1 (dck_at da_X12_order 94 rfl) hl (k := 6) rfl (congrArg (HAdd.hAdd _) ki_1) (by decide) rfl (fun ls hl => ?_)
            refine lv_goto (tgt := 107) X.1 X.2.1 (dck_at da_X12_order 95 rfl) rfl ?_
            exact hk107 x1 x2 (x5 + (s4.1 18 (s0.1 19 (x8).toNatClampNeg).toNatClampNeg)) (x6 + (r3 * ((r4).toInt64))) (x8 + (1 : Int32)) s4 _ _ _ h Y (lv_sub hl [4, 5, 6, 1, 2, 0] rfl)
      intro x1 x2 x4 s0 H locs ls h Y hl
      unfold m_order_L90b at h
      refine lv_iload X.1 X.2.1 (dck_at da_X12_order 45 rfl) (lv_at hl 3 rfl) ?_
      refine lv_if_eq (tgt := 250) X.1 X.2.1 (dck_at da_X12_order 46 rfl) rfl (fun c => ?_) (fun c => ?_)
      · have h := gI_pos h c
        refine lv_iload_n X.1 X.2.1 (dck_at da_X12_order 130 rfl) rfl (lv_at hl 1 rfl) ?_
        refine lv_if_ge (tgt := 258) X.1 X.2.1 (dck_at da_X12_order 131 rfl) rfl (fun c => ?_) (fun c => ?_)
        · have h := gI_pos h c
          refine lv_aload_n X.1 X.2.1 (dck_at da_X12_order 134 rfl) rfl (lv_at hl 0 rfl) ?_
          refine gr_getR X G Y fk_RX12_68 clM_0 rfl (dck_at da_X12_order 135 rfl) ?_
          refine lv_iload_n X.1 X.2.1 (dck_at da_X12_order 136 rfl) rfl (lv_at hl 1 rfl) ?_
          obtain ⟨hin, h⟩ := gI_if h
          refine gr_iald X G Y clM_20 hin (dck_at da_X12_order 137 rfl) ?_
          refine lv_i2l (v := (s0.1 20 (x1).toNatClampNeg).toInt64) X.1 X.2.1 (dck_at da_X12_order 138 rfl) rfl ?_
          exact gr_lretO X Y h hr hlk (dck_at da_X12_order 139 rfl)
        · have h := gI_neg h c
          refine lv_lload_n X.1 X.2.1 (dck_at da_X12_order 132 rfl) rfl (lv_at hl 2 rfl) ?_
          refine lv_goto (tgt := 265) X.1 X.2.1 (dck_at da_X12_order 133 rfl) rfl ?_
          exact gr_lretO X Y h hr hlk (dck_at da_X12_order 139 rfl)
      · have h := gI_neg h c
        refine lv_aload_n X.1 X.2.1 (dck_at da_X12_order 47 rfl) rfl (lv_at hl 0 rfl) ?_
        refine gr_getI X G Y fk_RX12_107 clM_0 rfl (dck_at da_X12_order 48 rfl) ?_
        refine lv_istore (lv' := [(5, .int (s0.1 0 13)), (0, .ref (ad 0)), (1, .int x1), (2, .long x2), (4, .int x4)]) X.1 X.2.1 (dck_at da_X12_order 49 rfl) hl (by decide) rfl (fun ls hl => ?_)
        refine lv_lconst (v := 0) X.1 X.2.1 (dck_at da_X12_order 50 rfl) rfl ?_
        refine lv_lstore (lv' := [(6, .long (0 : Int64)), (5, .int (s0.1 0 13)), (0, .ref (ad 0)), (1, .int x1), (2, .long x2), (4, .int x4)]) X.1 X.2.1 (dck_at da_X12_order 51 rfl) hl (by decide) rfl (fun ls hl => ?_)
        refine lv_iconst X.1 X.2.1 (dck_at da_X12_order 52 rfl) ki_0 ?_
        refine lv_istore (lv' := [(8, .int (0 : Int32)), (6, .long (0 : Int64)), (5, .int (s0.1 0 13)), (0, .ref (ad 0)), (1, .int x1), (2, .long x2), (4, .int x4)]) X.1 X.2.1 (dck_at da_X12_order 53 rfl) hl (by decide) rfl (fun ls hl => ?_)
        exact b107 F x1 x2 (s0.1 0 13) (0 : Int64) (0 : Int32) s0 _ _ _ h Y (lv_sub hl [3, 4, 5, 2, 1, 0] rfl)
  have b62 : ∀ n : Nat, ∀ (x1 : Int32) (x2 : Int32) (s0 : St) (H : Heap) (locs : List Loc) (ls : Array Slot), m_order_L62 F  n x1 x2 s0 = some (ρ, σ') → gY shM D cy ad A s0 s H locs → lv_has ls 10 [(0, .ref (ad 0)), (1, .int x1), (2, .int x2)] → W p l e (grm 4) s m args below meth c H locs 0 0 (MQ below (va_Ql (fun (q : Int64) (_ : Unit) => q = ρ) (fun _ t => va_P D vwCl (gWl shM cy ad σ') t.heap) A) args s 0 0 A) (F0 m 62 ls []) := by
    intro n
    induction n with
    | zero => intro x1 x2 s0 H locs ls h Y hl; exact (gnone h).elim
    | succ n hk62 =>
      have e : m_order_L62 F  (n + 1) = m_order_L62b F  (m_order_L62 F  n) := rfl
      rw [e]; clear e
      generalize m_order_L62 F  n = k62 at hk62 ⊢
      intro x1 x2 s0 H locs ls h Y hl
      unfold m_order_L62b at h
      refine lv_iload_n X.1 X.2.1 (dck_at da_X12_order 30 rfl) rfl (lv_at hl 2 rfl) ?_
      refine lv_aload_n X.1 X.2.1 (dck_at da_X12_order 31 rfl) rfl (lv_at hl 0 rfl) ?_
      refine gr_getI X G Y fk_RX12_234 clM_0 rfl (dck_at da_X12_order 32 rfl) ?_
      refine lv_icmp_ge (tgt := 83) X.1 X.2.1 (dck_at da_X12_order 33 rfl) rfl (fun c => ?_) (fun c => ?_)
      · have h := gI_pos h c
        refine lv_ldc2 X.1 X.2.1 X.2.2.2.1 (X.2.2.2.2 _ wm_1295) (dck_at da_X12_order 41 rfl) ?_
        refine lv_lstore_n (lv' := [(2, .long (-1 : Int64)), (0, .ref (ad 0)), (1, .int x1)]) X.1 X.2.1 (dck_at da_X12_order 42 rfl) rfl hl (by decide) rfl (fun ls hl => ?_)
        refine lv_iconst X.1 X.2.1 (dck_at da_X12_order 43 rfl) ki_1 ?_
        refine lv_istore (lv' := [(4, .int (1 : Int32)), (2, .long (-1 : Int64)), (0, .ref (ad 0)), (1, .int x1)]) X.1 X.2.1 (dck_at da_X12_order 44 rfl) hl (by decide) rfl (fun ls hl => ?_)
        exact b90 F x1 (-1 : Int64) (1 : Int32) s0 _ _ _ h Y (lv_sub hl [2, 3, 1, 0] rfl)
      · have h := gI_neg h c
        refine lv_aload_n X.1 X.2.1 (dck_at da_X12_order 34 rfl) rfl (lv_at hl 0 rfl) ?_
        refine gr_getR X G Y fk_RX12_65 clM_0 rfl (dck_at da_X12_order 35 rfl) ?_
        refine lv_iload_n X.1 X.2.1 (dck_at da_X12_order 36 rfl) rfl (lv_at hl 2 rfl) ?_
        refine lv_iload_n X.1 X.2.1 (dck_at da_X12_order 37 rfl) rfl (lv_at hl 2 rfl) ?_
        obtain ⟨hin, h⟩ := gI_if h
        refine gr_iast X G Y clM_19 hin (dck_at da_X12_order 38 rfl) (fun H locs Y => ?_)
        refine lv_iinc (v := x2 + (1 : Int32)) (lv' := [(2, .int (x2 + (1 : Int32))), (0, .ref (ad 0)), (1, .int x1)]) X.1 X.2.1 (dck_at da_X12_order 39 rfl) hl (k := 2) rfl (congrArg (HAdd.hAdd _) ki_1) (by decide) rfl (fun ls hl => ?_)
        refine lv_goto (tgt := 62) X.1 X.2.1 (dck_at da_X12_order 40 rfl) rfl ?_
        exact hk62 x1 (x2 + (1 : Int32)) (sI s0 19 (x2).toNatClampNeg x2) _ _ _ h Y (lv_sub hl [1, 2, 0] rfl)
  unfold m_order at h
  refine lv_iload_n X.1 X.2.1 (dck_at da_X12_order 0 rfl) rfl (lv_at hl 1 rfl) ?_
  refine lv_i2l (v := (a1).toInt64) X.1 X.2.1 (dck_at da_X12_order 1 rfl) rfl ?_
  refine lv_ldc2 X.1 X.2.1 X.2.2.2.1 (X.2.2.2.2 _ wm_1295) (dck_at da_X12_order 2 rfl) ?_
  refine lv_ldc2 X.1 X.2.1 X.2.2.2.1 (X.2.2.2.2 _ wm_1395) (dck_at da_X12_order 3 rfl) ?_
  obtain ⟨r5, s5, hc, h⟩ := gB2_some h
  refine gr_backi Y (gr_runS (as := [.long ((a1).toInt64), .long (-1 : Int64), .long (5 : Int64)]) (rest := []) X G Y (ok_m_in hc) cs_RX12_126 ⟨Nat.le_of_ble_eq_true rfl, Nat.le_of_ble_eq_true rfl⟩ rfl hl.1 (Nat.le_of_ble_eq_true rfl) (dck_at da_X12_order 4 rfl)) (fun H locs Y => ?_)
  refine lv_if_ne (tgt := 22) X.1 X.2.1 (dck_at da_X12_order 5 rfl) rfl (fun c => ?_) (fun c => ?_)
  · have h := gI_neg h c
    refine lv_aload_n X.1 X.2.1 (dck_at da_X12_order 10 rfl) rfl (lv_at hl 0 rfl) ?_
    refine gr_getI X G Y fk_RX12_107 clM_0 rfl (dck_at da_X12_order 11 rfl) ?_
    refine lv_if_ge (tgt := 37) X.1 X.2.1 (dck_at da_X12_order 12 rfl) rfl (fun c => ?_) (fun c => ?_)
    · have h := gI_pos h c
      refine lv_aload_n X.1 X.2.1 (dck_at da_X12_order 17 rfl) rfl (lv_at hl 0 rfl) ?_
      refine gr_getI X G Y fk_RX12_234 clM_0 rfl (dck_at da_X12_order 18 rfl) ?_
      refine lv_if_eq (tgt := 52) X.1 X.2.1 (dck_at da_X12_order 19 rfl) rfl (fun c => ?_) (fun c => ?_)
      · have h := gI_pos h c
        exact b52 s5 _ _ _ h Y (lv_sub hl [0] rfl)
      · have h := gI_neg h c
        refine lv_iload_n X.1 X.2.1 (dck_at da_X12_order 20 rfl) rfl (lv_at hl 1 rfl) ?_
        refine lv_aload_n X.1 X.2.1 (dck_at da_X12_order 21 rfl) rfl (lv_at hl 0 rfl) ?_
        refine gr_getI X G Y fk_RX12_234 clM_0 rfl (dck_at da_X12_order 22 rfl) ?_
        refine lv_icmp_lt (tgt := 60) X.1 X.2.1 (dck_at da_X12_order 23 rfl) rfl (fun c => ?_) (fun c => ?_)
        · have h := gI_pos h c
          refine lv_iconst X.1 X.2.1 (dck_at da_X12_order 28 rfl) ki_0 ?_
          refine lv_istore_n (lv' := [(2, .int (0 : Int32)), (0, .ref (ad 0)), (1, .int a1)]) X.1 X.2.1 (dck_at da_X12_order 29 rfl) rfl hl (by decide) rfl (fun ls hl => ?_)
          exact b62 F a1 (0 : Int32) s5 _ _ _ h Y (lv_sub hl [1, 2, 0] rfl)
        · have h := gI_neg h c
          exact b52 s5 _ _ _ h Y (lv_sub hl [0] rfl)
    · have h := gI_neg h c
      refine lv_aload_n X.1 X.2.1 (dck_at da_X12_order 13 rfl) rfl (lv_at hl 0 rfl) ?_
      refine lv_ldc2 X.1 X.2.1 X.2.2.2.1 (X.2.2.2.2 _ wm_1464) (dck_at da_X12_order 14 rfl) ?_
      obtain ⟨r6, s6, hc, h⟩ := gB2_some h
      refine gr_backl Y (gr_runV (as := [.long (-2 : Int64)]) (rest := []) X G Y (ok_m_says hc) cv_RX12_120 clM_0 ⟨Nat.le_of_ble_eq_true rfl, Nat.le_of_ble_eq_true rfl⟩ rfl hl.1 (Nat.le_of_ble_eq_true rfl) (dck_at da_X12_order 15 rfl)) (fun H locs Y => ?_)
      exact gr_lretO X Y h hr hlk (dck_at da_X12_order 16 rfl)
  · have h := gI_pos h c
    refine lv_aload_n X.1 X.2.1 (dck_at da_X12_order 6 rfl) rfl (lv_at hl 0 rfl) ?_
    refine lv_ldc2 X.1 X.2.1 X.2.2.2.1 (X.2.2.2.2 _ wm_1295) (dck_at da_X12_order 7 rfl) ?_
    obtain ⟨r7, s7, hc, h⟩ := gB2_some h
    refine gr_backl Y (gr_runV (as := [.long (-1 : Int64)]) (rest := []) X G Y (ok_m_says hc) cv_RX12_120 clM_0 ⟨Nat.le_of_ble_eq_true rfl, Nat.le_of_ble_eq_true rfl⟩ rfl hl.1 (Nat.le_of_ble_eq_true rfl) (dck_at da_X12_order 8 rfl)) (fun H locs Y => ?_)
    exact gr_lretO X Y h hr hlk (dck_at da_X12_order 9 rfl)
set_option maxRecDepth 100000 in
set_option maxHeartbeats 4000000 in
theorem ok_m_isFound {l : Launch} {D : va_G} {cy : Nat → ClassId} {ad sa : Nat → Nat} {A : Nat → Prop} {F : Nat} {a0 : Int64} {a2 : Int64} {a4 : Int64} {s0 : St} {ρ : Int32} {σ' : St} (h : m_isFound F a0 a2 a4 s0 = some (ρ, σ')) : gMi l shM D cy ad sa A yX12_isFound cX12_isFound 6 (some .boolean) 2 [.long a0, .long a2, .long a4] s0 ρ σ' := by
  refine gM_of (by decide) (Nat.le_of_ble_eq_true rfl) ?_
  intro p e s m args below meth c ls X G Y hr hlk hl
  have hl : lv_has ls 6 [(0, .long a0), (2, .long a2), (4, .long a4)] := hl
  have b38 : ∀  (s0 : St) (H : Heap) (locs : List Loc) (ls : Array Slot), m_isFound_J38 F  s0 = some (ρ, σ') → gY shM D cy ad A s0 s H locs → lv_has ls 6 [] → W p l e (grm 2) s m args below meth c H locs 0 0 (MQ below (va_Qi (fun (q : Int32) (_ : Unit) => q = ρ) (fun _ t => va_P D vwCl (gWl shM cy ad σ') t.heap) A) args s 0 0 A) (F0 m 38 ls []) := by
    intro s0 H locs ls h Y hl
    unfold m_isFound_J38 at h
    refine lv_iconst X.1 X.2.1 (dck_at da_X12_isFound 17 rfl) ki_0 ?_
    exact gr_iretO X Y h hr rfl hlk (dck_at da_X12_isFound 18 rfl)
  unfold m_isFound at h
  refine lv_lload_n X.1 X.2.1 (dck_at da_X12_isFound 0 rfl) rfl (lv_at hl 0 rfl) ?_
  refine lv_lconst (v := 0) X.1 X.2.1 (dck_at da_X12_isFound 1 rfl) rfl ?_
  refine lv_ldc2 X.1 X.2.1 X.2.2.2.1 (X.2.2.2.2 _ wm_1323) (dck_at da_X12_isFound 2 rfl) ?_
  obtain ⟨r1, s1, hc, h⟩ := gB2_some h
  refine gr_backi Y (gr_runS (as := [.long a0, .long (0 : Int64), .long (3 : Int64)]) (rest := []) X G Y (ok_m_in hc) cs_RX12_126 ⟨Nat.le_of_ble_eq_true rfl, Nat.le_of_ble_eq_true rfl⟩ rfl hl.1 (Nat.le_of_ble_eq_true rfl) (dck_at da_X12_isFound 3 rfl)) (fun H locs Y => ?_)
  refine lv_if_eq (tgt := 38) X.1 X.2.1 (dck_at da_X12_isFound 4 rfl) rfl (fun c => ?_) (fun c => ?_)
  · have h := gI_pos h c
    exact b38 s1 _ _ _ h Y (lv_sub hl [] rfl)
  · have h := gI_neg h c
    refine lv_lload_n X.1 X.2.1 (dck_at da_X12_isFound 5 rfl) rfl (lv_at hl 1 rfl) ?_
    refine lv_lconst (v := 0) X.1 X.2.1 (dck_at da_X12_isFound 6 rfl) rfl ?_
    refine lv_ldc2 X.1 X.2.1 X.2.2.2.1 (X.2.2.2.2 _ wm_1523) (dck_at da_X12_isFound 7 rfl) ?_
    obtain ⟨r2, s2, hc, h⟩ := gB2_some h
    refine gr_backi Y (gr_runS (as := [.long a2, .long (0 : Int64), .long (99 : Int64)]) (rest := []) X G Y (ok_m_in hc) cs_RX12_126 ⟨Nat.le_of_ble_eq_true rfl, Nat.le_of_ble_eq_true rfl⟩ rfl hl.1 (Nat.le_of_ble_eq_true rfl) (dck_at da_X12_isFound 8 rfl)) (fun H locs Y => ?_)
    refine lv_if_eq (tgt := 38) X.1 X.2.1 (dck_at da_X12_isFound 9 rfl) rfl (fun c => ?_) (fun c => ?_)
    · have h := gI_pos h c
      exact b38 s2 _ _ _ h Y (lv_sub hl [] rfl)
    · have h := gI_neg h c
      refine lv_lload X.1 X.2.1 (dck_at da_X12_isFound 10 rfl) (lv_at hl 2 rfl) ?_
      refine lv_lconst (v := 0) X.1 X.2.1 (dck_at da_X12_isFound 11 rfl) rfl ?_
      refine lv_ldc2 X.1 X.2.1 X.2.2.2.1 (X.2.2.2.2 _ wm_1308) (dck_at da_X12_isFound 12 rfl) ?_
      obtain ⟨r3, s3, hc, h⟩ := gB2_some h
      refine gr_backi Y (gr_runS (as := [.long a4, .long (0 : Int64), .long (7 : Int64)]) (rest := []) X G Y (ok_m_in hc) cs_RX12_126 ⟨Nat.le_of_ble_eq_true rfl, Nat.le_of_ble_eq_true rfl⟩ rfl hl.1 (Nat.le_of_ble_eq_true rfl) (dck_at da_X12_isFound 13 rfl)) (fun H locs Y => ?_)
      refine lv_if_eq (tgt := 38) X.1 X.2.1 (dck_at da_X12_isFound 14 rfl) rfl (fun c => ?_) (fun c => ?_)
      · have h := gI_pos h c
        exact b38 s3 _ _ _ h Y (lv_sub hl [] rfl)
      · have h := gI_neg h c
        refine lv_iconst X.1 X.2.1 (dck_at da_X12_isFound 15 rfl) ki_1 ?_
        refine lv_goto (tgt := 39) X.1 X.2.1 (dck_at da_X12_isFound 16 rfl) rfl ?_
        exact gr_iretO X Y h hr rfl hlk (dck_at da_X12_isFound 18 rfl)
set_option maxRecDepth 100000 in
set_option maxHeartbeats 4000000 in
theorem ok_m_writes {l : Launch} {D : va_G} {cy : Nat → ClassId} {ad sa : Nat → Nat} {A : Nat → Prop} {F : Nat} {a1 : Int32} {a2 : Int32} {a3 : Int32} {s0 : St} {σ' : St} (h : m_writes F a1 a2 a3 s0 = some σ') : gMv l shM D cy ad sa A yX12_writes cX12_writes 4 none 1 [.ref (ad 0), .int a1, .int a2, .int a3] s0 σ' := by
  refine gM_of (by decide) (Nat.le_of_ble_eq_true rfl) ?_
  intro p e s m args below meth c ls X G Y hr hlk hl
  have hl : lv_has ls 4 [(0, .ref (ad 0)), (1, .int a1), (2, .int a2), (3, .int a3)] := hl
  unfold m_writes at h
  refine lv_aload_n X.1 X.2.1 (dck_at da_X12_writes 0 rfl) rfl (lv_at hl 0 rfl) ?_
  refine gr_getR X G Y fk_RX12_71 clM_0 rfl (dck_at da_X12_writes 1 rfl) ?_
  refine lv_aload_n X.1 X.2.1 (dck_at da_X12_writes 2 rfl) rfl (lv_at hl 0 rfl) ?_
  refine gr_getI X G Y fk_RX12_237 clM_0 rfl (dck_at da_X12_writes 3 rfl) ?_
  refine lv_iload_n X.1 X.2.1 (dck_at da_X12_writes 4 rfl) rfl (lv_at hl 1 rfl) ?_
  obtain ⟨hin, h⟩ := gI_if h
  refine gr_iast X G Y clM_21 hin (dck_at da_X12_writes 5 rfl) (fun H locs Y => ?_)
  refine lv_aload_n X.1 X.2.1 (dck_at da_X12_writes 6 rfl) rfl (lv_at hl 0 rfl) ?_
  refine gr_getR X G Y fk_RX12_74 clM_0 rfl (dck_at da_X12_writes 7 rfl) ?_
  refine lv_aload_n X.1 X.2.1 (dck_at da_X12_writes 8 rfl) rfl (lv_at hl 0 rfl) ?_
  refine gr_getI X G Y fk_RX12_237 clM_0 rfl (dck_at da_X12_writes 9 rfl) ?_
  refine lv_iload_n X.1 X.2.1 (dck_at da_X12_writes 10 rfl) rfl (lv_at hl 2 rfl) ?_
  obtain ⟨hin, h⟩ := gI_if h
  refine gr_iast X G Y clM_22 hin (dck_at da_X12_writes 11 rfl) (fun H locs Y => ?_)
  refine lv_aload_n X.1 X.2.1 (dck_at da_X12_writes 12 rfl) rfl (lv_at hl 0 rfl) ?_
  refine gr_getR X G Y fk_RX12_77 clM_0 rfl (dck_at da_X12_writes 13 rfl) ?_
  refine lv_aload_n X.1 X.2.1 (dck_at da_X12_writes 14 rfl) rfl (lv_at hl 0 rfl) ?_
  refine gr_getI X G Y fk_RX12_237 clM_0 rfl (dck_at da_X12_writes 15 rfl) ?_
  refine lv_iload_n X.1 X.2.1 (dck_at da_X12_writes 16 rfl) rfl (lv_at hl 3 rfl) ?_
  obtain ⟨hin, h⟩ := gI_if h
  refine gr_iast X G Y clM_23 hin (dck_at da_X12_writes 17 rfl) (fun H locs Y => ?_)
  refine lv_aload_n X.1 X.2.1 (dck_at da_X12_writes 18 rfl) rfl (lv_at hl 0 rfl) ?_
  refine lv_dup X.1 X.2.1 (dck_at da_X12_writes 19 rfl) rfl ?_
  refine gr_getI X G Y fk_RX12_237 clM_0 rfl (dck_at da_X12_writes 20 rfl) ?_
  refine lv_iconst X.1 X.2.1 (dck_at da_X12_writes 21 rfl) ki_1 ?_
  refine lv_iadd X.1 X.2.1 (dck_at da_X12_writes 22 rfl) ?_
  refine gr_putI X G Y fp_RX12_237 clM_0 rfl (dck_at da_X12_writes 23 rfl) (fun H locs Y => ?_)
  exact gr_vretO X Y h hr hlk (dck_at da_X12_writes 24 rfl)
set_option maxRecDepth 100000 in
set_option maxHeartbeats 4000000 in
theorem ok_m_found {l : Launch} {D : va_G} {cy : Nat → ClassId} {ad sa : Nat → Nat} {A : Nat → Prop} {F : Nat} {a1 : Int32} {a2 : Int32} {a3 : Int32} {s0 : St} {ρ : Int32} {σ' : St} (h : m_found F a1 a2 a3 s0 = some (ρ, σ')) : gMi l shM D cy ad sa A yX12_found cX12_found 4 (some .int) 3 [.ref (ad 0), .int a1, .int a2, .int a3] s0 ρ σ' := by
  refine gM_of (by decide) (Nat.le_of_ble_eq_true rfl) ?_
  intro p e s m args below meth c ls X G Y hr hlk hl
  have hl : lv_has ls 4 [(0, .ref (ad 0)), (1, .int a1), (2, .int a2), (3, .int a3)] := hl
  unfold m_found at h
  refine lv_iload_n X.1 X.2.1 (dck_at da_X12_found 0 rfl) rfl (lv_at hl 1 rfl) ?_
  refine lv_i2l (v := (a1).toInt64) X.1 X.2.1 (dck_at da_X12_found 1 rfl) rfl ?_
  refine lv_iload_n X.1 X.2.1 (dck_at da_X12_found 2 rfl) rfl (lv_at hl 2 rfl) ?_
  refine lv_i2l (v := (a2).toInt64) X.1 X.2.1 (dck_at da_X12_found 3 rfl) rfl ?_
  refine lv_iload_n X.1 X.2.1 (dck_at da_X12_found 4 rfl) rfl (lv_at hl 3 rfl) ?_
  refine lv_i2l (v := (a3).toInt64) X.1 X.2.1 (dck_at da_X12_found 5 rfl) rfl ?_
  obtain ⟨r1, s1, hc, h⟩ := gB2_some h
  refine gr_backi Y (gr_runS (as := [.long ((a1).toInt64), .long ((a2).toInt64), .long ((a3).toInt64)]) (rest := []) X G Y (ok_m_isFound hc) cs_RX12_295 ⟨Nat.le_of_ble_eq_true rfl, Nat.le_of_ble_eq_true rfl⟩ rfl hl.1 (Nat.le_of_ble_eq_true rfl) (dck_at da_X12_found 6 rfl)) (fun H locs Y => ?_)
  refine lv_if_ne (tgt := 18) X.1 X.2.1 (dck_at da_X12_found 7 rfl) rfl (fun c => ?_) (fun c => ?_)
  · have h := gI_neg h c
    refine lv_aload_n X.1 X.2.1 (dck_at da_X12_found 12 rfl) rfl (lv_at hl 0 rfl) ?_
    refine gr_getI X G Y fk_RX12_237 clM_0 rfl (dck_at da_X12_found 13 rfl) ?_
    refine lv_bipush X.1 X.2.1 (dck_at da_X12_found 14 rfl) kb_60 ?_
    refine lv_icmp_ne (tgt := 34) X.1 X.2.1 (dck_at da_X12_found 15 rfl) rfl (fun c => ?_) (fun c => ?_)
    · have h := gI_neg h c
      refine lv_aload_n X.1 X.2.1 (dck_at da_X12_found 20 rfl) rfl (lv_at hl 0 rfl) ?_
      refine lv_iload_n X.1 X.2.1 (dck_at da_X12_found 21 rfl) rfl (lv_at hl 1 rfl) ?_
      refine lv_iload_n X.1 X.2.1 (dck_at da_X12_found 22 rfl) rfl (lv_at hl 2 rfl) ?_
      refine lv_iload_n X.1 X.2.1 (dck_at da_X12_found 23 rfl) rfl (lv_at hl 3 rfl) ?_
      obtain ⟨s2, hc, h⟩ := gB_some h
      refine gr_backv Y (gr_runV (as := [.int a1, .int a2, .int a3]) (rest := []) X G Y (ok_m_writes hc) cv_RX12_298 clM_0 ⟨Nat.le_of_ble_eq_true rfl, Nat.le_of_ble_eq_true rfl⟩ rfl hl.1 (Nat.le_of_ble_eq_true rfl) (dck_at da_X12_found 24 rfl)) (fun H locs Y => ?_)
      refine lv_aload_n X.1 X.2.1 (dck_at da_X12_found 25 rfl) rfl (lv_at hl 0 rfl) ?_
      refine gr_getI X G Y fk_RX12_237 clM_0 rfl (dck_at da_X12_found 26 rfl) ?_
      exact gr_iretO X Y h hr rfl hlk (dck_at da_X12_found 27 rfl)
    · have h := gI_pos h c
      refine lv_aload_n X.1 X.2.1 (dck_at da_X12_found 16 rfl) rfl (lv_at hl 0 rfl) ?_
      refine lv_bipush X.1 X.2.1 (dck_at da_X12_found 17 rfl) kb_m3 ?_
      obtain ⟨r3, s3, hc, h⟩ := gB2_some h
      refine gr_backi Y (gr_runV (as := [.int (-3 : Int32)]) (rest := []) X G Y (ok_m_tells hc) cv_RX12_130 clM_0 ⟨Nat.le_of_ble_eq_true rfl, Nat.le_of_ble_eq_true rfl⟩ rfl hl.1 (Nat.le_of_ble_eq_true rfl) (dck_at da_X12_found 18 rfl)) (fun H locs Y => ?_)
      exact gr_iretO X Y h hr rfl hlk (dck_at da_X12_found 19 rfl)
  · have h := gI_pos h c
    refine lv_aload_n X.1 X.2.1 (dck_at da_X12_found 8 rfl) rfl (lv_at hl 0 rfl) ?_
    refine lv_iconst X.1 X.2.1 (dck_at da_X12_found 9 rfl) ki_m1 ?_
    obtain ⟨r4, s4, hc, h⟩ := gB2_some h
    refine gr_backi Y (gr_runV (as := [.int (-1 : Int32)]) (rest := []) X G Y (ok_m_tells hc) cv_RX12_130 clM_0 ⟨Nat.le_of_ble_eq_true rfl, Nat.le_of_ble_eq_true rfl⟩ rfl hl.1 (Nat.le_of_ble_eq_true rfl) (dck_at da_X12_found 10 rfl)) (fun H locs Y => ?_)
    exact gr_iretO X Y h hr rfl hlk (dck_at da_X12_found 11 rfl)
set_option maxRecDepth 100000 in
set_option maxHeartbeats 4000000 in
theorem ok_m_share {l : Launch} {D : va_G} {cy : Nat → ClassId} {ad sa : Nat → Nat} {A : Nat → Prop} {F : Nat} {a1 : Int32} {a2 : Int32} {s0 : St} {ρ : Int32} {σ' : St} (h : m_share F a1 a2 s0 = some (ρ, σ')) : gMi l shM D cy ad sa A yX12_share cX12_share 5 (some .int) 3 [.ref (ad 0), .int a1, .int a2] s0 ρ σ' := by
  refine gM_of (by decide) (Nat.le_of_ble_eq_true rfl) ?_
  intro p e s m args below meth c ls X G Y hr hlk hl
  have hl : lv_has ls 5 [(0, .ref (ad 0)), (1, .int a1), (2, .int a2)] := hl
  have b17 : ∀  (s0 : St) (H : Heap) (locs : List Loc) (ls : Array Slot), m_share_J17 F  s0 = some (ρ, σ') → gY shM D cy ad A s0 s H locs → lv_has ls 5 [(0, .ref (ad 0))] → W p l e (grm 3) s m args below meth c H locs 0 0 (MQ below (va_Qi (fun (q : Int32) (_ : Unit) => q = ρ) (fun _ t => va_P D vwCl (gWl shM cy ad σ') t.heap) A) args s 0 0 A) (F0 m 17 ls []) := by
    intro s0 H locs ls h Y hl
    unfold m_share_J17 at h
    refine lv_aload_n X.1 X.2.1 (dck_at da_X12_share 9 rfl) rfl (lv_at hl 0 rfl) ?_
    refine lv_iconst X.1 X.2.1 (dck_at da_X12_share 10 rfl) ki_m1 ?_
    obtain ⟨r1, s1, hc, h⟩ := gB2_some h
    refine gr_backi Y (gr_runV (as := [.int (-1 : Int32)]) (rest := []) X G Y (ok_m_tells hc) cv_RX12_130 clM_0 ⟨Nat.le_of_ble_eq_true rfl, Nat.le_of_ble_eq_true rfl⟩ rfl hl.1 (Nat.le_of_ble_eq_true rfl) (dck_at da_X12_share 11 rfl)) (fun H locs Y => ?_)
    exact gr_iretO X Y h hr rfl hlk (dck_at da_X12_share 12 rfl)
  have b28 : ∀ n : Nat, ∀ (x1 : Int32) (x2 : Int32) (x3 : Int32) (x4 : Int32) (s0 : St) (H : Heap) (locs : List Loc) (ls : Array Slot), m_share_L28 F  n x1 x2 x3 x4 s0 = some (ρ, σ') → gY shM D cy ad A s0 s H locs → lv_has ls 5 [(0, .ref (ad 0)), (1, .int x1), (2, .int x2), (3, .int x3), (4, .int x4)] → W p l e (grm 3) s m args below meth c H locs 0 0 (MQ below (va_Qi (fun (q : Int32) (_ : Unit) => q = ρ) (fun _ t => va_P D vwCl (gWl shM cy ad σ') t.heap) A) args s 0 0 A) (F0 m 28 ls []) := by
    intro n
    induction n with
    | zero => intro x1 x2 x3 x4 s0 H locs ls h Y hl; exact (gnone h).elim
    | succ n hk28 =>
      have e : m_share_L28 F  (n + 1) = m_share_L28b F  (m_share_L28 F  n) := rfl
      rw [e]; clear e
      generalize m_share_L28 F  n = k28 at hk28 ⊢
      have b54 : ∀ (x1 : Int32) (x2 : Int32) (x4 : Int32) (y0 : Int32) (y1 : Int32) (s0 : St) (H : Heap) (locs : List Loc) (ls : Array Slot), m_share_J54 F k28 x1 x2 x4 y0 y1 s0 = some (ρ, σ') → gY shM D cy ad A s0 s H locs → lv_has ls 5 [(0, .ref (ad 0)), (1, .int x1), (2, .int x2), (4, .int x4)] → W p l e (grm 3) s m args below meth c H locs 0 0 (MQ below (va_Qi (fun (q : Int32) (_ : Unit) => q = ρ) (fun _ t => va_P D vwCl (gWl shM cy ad σ') t.heap) A) args s 0 0 A) (F0 m 54 ls [.int y1, .int y0]) := by
        intro x1 x2 x4 y0 y1 s0 H locs ls h Y hl
        unfold m_share_J54 at h
        refine lv_iadd X.1 X.2.1 (dck_at da_X12_share 31 rfl) ?_
        refine lv_istore_n (lv' := [(3, .int (y0 + y1)), (0, .ref (ad 0)), (1, .int x1), (2, .int x2), (4, .int x4)]) X.1 X.2.1 (dck_at da_X12_share 32 rfl) rfl hl (by decide) rfl (fun ls hl => ?_)
        refine lv_iinc (v := x4 + (1 : Int32)) (lv' := [(4, .int (x4 + (1 : Int32))), (3, .int (y0 + y1)), (0, .ref (ad 0)), (1, .int x1), (2, .int x2)]) X.1 X.2.1 (dck_at da_X12_share 33 rfl) hl (k := 4) rfl (congrArg (HAdd.hAdd _) ki_1) (by decide) rfl (fun ls hl => ?_)
        refine lv_goto (tgt := 28) X.1 X.2.1 (dck_at da_X12_share 34 rfl) rfl ?_
        exact hk28 x1 x2 (y0 + y1) (x4 + (1 : Int32)) s0 _ _ _ h Y (lv_sub hl [2, 3, 4, 1, 0] rfl)
      intro x1 x2 x3 x4 s0 H locs ls h Y hl
      unfold m_share_L28b at h
      refine lv_iload X.1 X.2.1 (dck_at da_X12_share 17 rfl) (lv_at hl 4 rfl) ?_
      refine lv_aload_n X.1 X.2.1 (dck_at da_X12_share 18 rfl) rfl (lv_at hl 0 rfl) ?_
      refine gr_getI X G Y fk_RX12_237 clM_0 rfl (dck_at da_X12_share 19 rfl) ?_
      refine lv_icmp_ge (tgt := 62) X.1 X.2.1 (dck_at da_X12_share 20 rfl) rfl (fun c => ?_) (fun c => ?_)
      · have h := gI_pos h c
        refine lv_iload_n X.1 X.2.1 (dck_at da_X12_share 35 rfl) rfl (lv_at hl 3 rfl) ?_
        refine lv_i2l (v := (x3).toInt64) X.1 X.2.1 (dck_at da_X12_share 36 rfl) rfl ?_
        refine lv_aload_n X.1 X.2.1 (dck_at da_X12_share 37 rfl) rfl (lv_at hl 0 rfl) ?_
        refine gr_getI X G Y fk_RX12_237 clM_0 rfl (dck_at da_X12_share 38 rfl) ?_
        refine lv_bipush X.1 X.2.1 (dck_at da_X12_share 39 rfl) kb_8 ?_
        refine lv_iadd X.1 X.2.1 (dck_at da_X12_share 40 rfl) ?_
        refine lv_i2l (v := ((s0.1 0 27) + (8 : Int32)).toInt64) X.1 X.2.1 (dck_at da_X12_share 41 rfl) rfl ?_
        refine lv_iload_n X.1 X.2.1 (dck_at da_X12_share 42 rfl) rfl (lv_at hl 2 rfl) ?_
        obtain ⟨r2, s2, hc, h⟩ := gB2_some h
        refine gr_backl Y (gr_runS (as := [.long ((x3).toInt64), .long (((s0.1 0 27) + (8 : Int32)).toInt64), .int x2]) (rest := []) X G Y (ok_m_lowest hc) cs_RX12_224 ⟨Nat.le_of_ble_eq_true rfl, Nat.le_of_ble_eq_true rfl⟩ rfl hl.1 (Nat.le_of_ble_eq_true rfl) (dck_at da_X12_share 43 rfl)) (fun H locs Y => ?_)
        refine lv_l2i (v := (r2).toInt32) X.1 X.2.1 (dck_at da_X12_share 44 rfl) rfl ?_
        exact gr_iretO X Y h hr rfl hlk (dck_at da_X12_share 45 rfl)
      · have h := gI_neg h c
        refine lv_iload_n X.1 X.2.1 (dck_at da_X12_share 21 rfl) rfl (lv_at hl 3 rfl) ?_
        refine lv_aload_n X.1 X.2.1 (dck_at da_X12_share 22 rfl) rfl (lv_at hl 0 rfl) ?_
        refine gr_getR X G Y fk_RX12_77 clM_0 rfl (dck_at da_X12_share 23 rfl) ?_
        refine lv_iload X.1 X.2.1 (dck_at da_X12_share 24 rfl) (lv_at hl 4 rfl) ?_
        obtain ⟨hin, h⟩ := gI_if h
        refine gr_iald X G Y clM_23 hin (dck_at da_X12_share 25 rfl) ?_
        refine lv_iload_n X.1 X.2.1 (dck_at da_X12_share 26 rfl) rfl (lv_at hl 1 rfl) ?_
        refine lv_icmp_ne (tgt := 53) X.1 X.2.1 (dck_at da_X12_share 27 rfl) rfl (fun c => ?_) (fun c => ?_)
        · have h := gI_neg h c
          refine lv_iconst X.1 X.2.1 (dck_at da_X12_share 30 rfl) ki_0 ?_
          exact b54 x1 x2 x4 x3 (0 : Int32) s0 _ _ _ h Y (lv_sub hl [0, 1, 2, 4] rfl)
        · have h := gI_pos h c
          refine lv_iconst X.1 X.2.1 (dck_at da_X12_share 28 rfl) ki_1 ?_
          refine lv_goto (tgt := 54) X.1 X.2.1 (dck_at da_X12_share 29 rfl) rfl ?_
          exact b54 x1 x2 x4 x3 (1 : Int32) s0 _ _ _ h Y (lv_sub hl [0, 1, 2, 4] rfl)
  unfold m_share at h
  refine lv_iload_n X.1 X.2.1 (dck_at da_X12_share 0 rfl) rfl (lv_at hl 1 rfl) ?_
  obtain ⟨r3, s3, hc, h⟩ := gB2_some h
  refine gr_backi Y (gr_runS (as := [.int a1]) (rest := []) X G Y (ok_m_isKind hc) cs_RX12_142 ⟨Nat.le_of_ble_eq_true rfl, Nat.le_of_ble_eq_true rfl⟩ rfl hl.1 (Nat.le_of_ble_eq_true rfl) (dck_at da_X12_share 1 rfl)) (fun H locs Y => ?_)
  refine lv_if_eq (tgt := 17) X.1 X.2.1 (dck_at da_X12_share 2 rfl) rfl (fun c => ?_) (fun c => ?_)
  · have h := gI_pos h c
    exact b17 s3 _ _ _ h Y (lv_sub hl [0] rfl)
  · have h := gI_neg h c
    refine lv_iload_n X.1 X.2.1 (dck_at da_X12_share 3 rfl) rfl (lv_at hl 2 rfl) ?_
    refine lv_i2l (v := (a2).toInt64) X.1 X.2.1 (dck_at da_X12_share 4 rfl) rfl ?_
    refine lv_lconst (v := 0) X.1 X.2.1 (dck_at da_X12_share 5 rfl) rfl ?_
    refine lv_lconst (v := 1) X.1 X.2.1 (dck_at da_X12_share 6 rfl) rfl ?_
    obtain ⟨r4, s4, hc, h⟩ := gB2_some h
    refine gr_backi Y (gr_runS (as := [.long ((a2).toInt64), .long (0 : Int64), .long (1 : Int64)]) (rest := []) X G Y (ok_m_in hc) cs_RX12_126 ⟨Nat.le_of_ble_eq_true rfl, Nat.le_of_ble_eq_true rfl⟩ rfl hl.1 (Nat.le_of_ble_eq_true rfl) (dck_at da_X12_share 7 rfl)) (fun H locs Y => ?_)
    refine lv_if_ne (tgt := 23) X.1 X.2.1 (dck_at da_X12_share 8 rfl) rfl (fun c => ?_) (fun c => ?_)
    · have h := gI_neg h c
      refine lv_iconst X.1 X.2.1 (dck_at da_X12_share 13 rfl) ki_1 ?_
      refine lv_istore_n (lv' := [(3, .int (1 : Int32)), (0, .ref (ad 0)), (1, .int a1), (2, .int a2)]) X.1 X.2.1 (dck_at da_X12_share 14 rfl) rfl hl (by decide) rfl (fun ls hl => ?_)
      refine lv_iconst X.1 X.2.1 (dck_at da_X12_share 15 rfl) ki_0 ?_
      refine lv_istore (lv' := [(4, .int (0 : Int32)), (3, .int (1 : Int32)), (0, .ref (ad 0)), (1, .int a1), (2, .int a2)]) X.1 X.2.1 (dck_at da_X12_share 16 rfl) hl (by decide) rfl (fun ls hl => ?_)
      exact b28 F a1 a2 (1 : Int32) (0 : Int32) s4 _ _ _ h Y (lv_sub hl [2, 3, 4, 1, 0] rfl)
    · have h := gI_pos h c
      exact b17 s4 _ _ _ h Y (lv_sub hl [0] rfl)
set_option maxRecDepth 100000 in
set_option maxHeartbeats 4000000 in
theorem ok_m_spanOf {l : Launch} {D : va_G} {cy : Nat → ClassId} {ad sa : Nat → Nat} {A : Nat → Prop} {F : Nat} {a1 : Int32} {a2 : Int32} {a3 : Int32} {s0 : St} {ρ : Int32} {σ' : St} (h : m_spanOf F a1 a2 a3 s0 = some (ρ, σ')) : gMi l shM D cy ad sa A yX12_spanOf cX12_spanOf 9 (some .int) 1 [.ref (ad 0), .int a1, .int a2, .int a3] s0 ρ σ' := by
  refine gM_of (by decide) (Nat.le_of_ble_eq_true rfl) ?_
  intro p e s m args below meth c ls X G Y hr hlk hl
  have hl : lv_has ls 9 [(0, .ref (ad 0)), (1, .int a1), (2, .int a2), (3, .int a3)] := hl
  have b72 : ∀ n : Nat, ∀ (x1 : Int32) (x3 : Int32) (x5 : Int32) (x6 : Int32) (x7 : Int32) (s0 : St) (H : Heap) (locs : List Loc) (ls : Array Slot), m_spanOf_L72 F  n x1 x3 x5 x6 x7 s0 = some (ρ, σ') → gY shM D cy ad A s0 s H locs → lv_has ls 9 [(0, .ref (ad 0)), (1, .int x1), (3, .int x3), (5, .int x5), (6, .int x6), (7, .int x7)] → W p l e (grm 1) s m args below meth c H locs 0 0 (MQ below (va_Qi (fun (q : Int32) (_ : Unit) => q = ρ) (fun _ t => va_P D vwCl (gWl shM cy ad σ') t.heap) A) args s 0 0 A) (F0 m 72 ls []) := by
    intro n
    induction n with
    | zero => intro x1 x3 x5 x6 x7 s0 H locs ls h Y hl; exact (gnone h).elim
    | succ n hk72 =>
      have e : m_spanOf_L72 F  (n + 1) = m_spanOf_L72b F  (m_spanOf_L72 F  n) := rfl
      rw [e]; clear e
      generalize m_spanOf_L72 F  n = k72 at hk72 ⊢
      have b88 : ∀ n : Nat, ∀ (x1 : Int32) (x3 : Int32) (x5 : Int32) (x6 : Int32) (x7 : Int32) (x8 : Int32) (s0 : St) (H : Heap) (locs : List Loc) (ls : Array Slot), m_spanOf_L88 F k72 n x1 x3 x5 x6 x7 x8 s0 = some (ρ, σ') → gY shM D cy ad A s0 s H locs → lv_has ls 9 [(0, .ref (ad 0)), (1, .int x1), (3, .int x3), (5, .int x5), (6, .int x6), (7, .int x7), (8, .int x8)] → W p l e (grm 1) s m args below meth c H locs 0 0 (MQ below (va_Qi (fun (q : Int32) (_ : Unit) => q = ρ) (fun _ t => va_P D vwCl (gWl shM cy ad σ') t.heap) A) args s 0 0 A) (F0 m 88 ls []) := by
        intro n
        induction n with
        | zero => intro x1 x3 x5 x6 x7 x8 s0 H locs ls h Y hl; exact (gnone h).elim
        | succ n hk88 =>
          have e : m_spanOf_L88 F k72 (n + 1) = m_spanOf_L88b F k72 (m_spanOf_L88 F k72 n) := rfl
          rw [e]; clear e
          generalize m_spanOf_L88 F k72 n = k88 at hk88 ⊢
          have b133 : ∀ (x1 : Int32) (x3 : Int32) (x5 : Int32) (x6 : Int32) (x8 : Int32) (y0 : Int32) (y1 : Int32) (s0 : St) (H : Heap) (locs : List Loc) (ls : Array Slot), m_spanOf_J133 F k72 k88 x1 x3 x5 x6 x8 y0 y1 s0 = some (ρ, σ') → gY shM D cy ad A s0 s H locs → lv_has ls 9 [(0, .ref (ad 0)), (1, .int x1), (3, .int x3), (5, .int x5), (6, .int x6), (8, .int x8)] → W p l e (grm 1) s m args below meth c H locs 0 0 (MQ below (va_Qi (fun (q : Int32) (_ : Unit) => q = ρ) (fun _ t => va_P D vwCl (gWl shM cy ad σ') t.heap) A) args s 0 0 A) (F0 m 133 ls [.int y1, .int y0]) := by
            intro x1 x3 x5 x6 x8 y0 y1 s0 H locs ls h Y hl
            unfold m_spanOf_J133 at h
            refine lv_iadd X.1 X.2.1 (dck_at da_X12_spanOf 72 rfl) ?_
            refine lv_istore (lv' := [(7, .int (y0 + y1)), (0, .ref (ad 0)), (1, .int x1), (3, .int x3), (5, .int x5), (6, .int x6), (8, .int x8)]) X.1 X.2.1 (dck_at da_X12_spanOf 73 rfl) hl (by decide) rfl (fun ls hl => ?_)
            refine lv_iinc (v := x8 + (1 : Int32)) (lv' := [(8, .int (x8 + (1 : Int32))), (7, .int (y0 + y1)), (0, .ref (ad 0)), (1, .int x1), (3, .int x3), (5, .int x5), (6, .int x6)]) X.1 X.2.1 (dck_at da_X12_spanOf 74 rfl) hl (k := 6) rfl (congrArg (HAdd.hAdd _) ki_1) (by decide) rfl (fun ls hl => ?_)
            refine lv_goto (tgt := 88) X.1 X.2.1 (dck_at da_X12_spanOf 75 rfl) rfl ?_
            exact hk88 x1 x3 x5 x6 (y0 + y1) (x8 + (1 : Int32)) s0 _ _ _ h Y (lv_sub hl [2, 3, 4, 5, 6, 1, 0] rfl)
          have b132 : ∀ (x1 : Int32) (x3 : Int32) (x5 : Int32) (x6 : Int32) (x8 : Int32) (y0 : Int32) (s0 : St) (H : Heap) (locs : List Loc) (ls : Array Slot), m_spanOf_J132 F k72 k88 x1 x3 x5 x6 x8 y0 s0 = some (ρ, σ') → gY shM D cy ad A s0 s H locs → lv_has ls 9 [(0, .ref (ad 0)), (1, .int x1), (3, .int x3), (5, .int x5), (6, .int x6), (8, .int x8)] → W p l e (grm 1) s m args below meth c H locs 0 0 (MQ below (va_Qi (fun (q : Int32) (_ : Unit) => q = ρ) (fun _ t => va_P D vwCl (gWl shM cy ad σ') t.heap) A) args s 0 0 A) (F0 m 132 ls [.int y0]) := by
            intro x1 x3 x5 x6 x8 y0 s0 H locs ls h Y hl
            unfold m_spanOf_J132 at h
            refine lv_iconst X.1 X.2.1 (dck_at da_X12_spanOf 71 rfl) ki_0 ?_
            exact b133 x1 x3 x5 x6 x8 y0 (0 : Int32) s0 _ _ _ h Y (lv_sub hl [0, 1, 2, 3, 4, 5] rfl)
          intro x1 x3 x5 x6 x7 x8 s0 H locs ls h Y hl
          unfold m_spanOf_L88b at h
          refine lv_iload X.1 X.2.1 (dck_at da_X12_spanOf 49 rfl) (lv_at hl 6 rfl) ?_
          refine lv_aload_n X.1 X.2.1 (dck_at da_X12_spanOf 50 rfl) rfl (lv_at hl 0 rfl) ?_
          refine gr_getI X G Y fk_RX12_237 clM_0 rfl (dck_at da_X12_spanOf 51 rfl) ?_
          refine lv_icmp_ge (tgt := 142) X.1 X.2.1 (dck_at da_X12_spanOf 52 rfl) rfl (fun c => ?_) (fun c => ?_)
          · have h := gI_pos h c
            refine lv_goto (tgt := 72) X.1 X.2.1 (dck_at da_X12_spanOf 76 rfl) rfl ?_
            exact hk72 x1 x3 x5 x6 x7 s0 _ _ _ h Y (lv_sub hl [0, 1, 2, 3, 4, 5] rfl)
          · have h := gI_neg h c
            refine lv_iload X.1 X.2.1 (dck_at da_X12_spanOf 53 rfl) (lv_at hl 5 rfl) ?_
            refine lv_aload_n X.1 X.2.1 (dck_at da_X12_spanOf 54 rfl) rfl (lv_at hl 0 rfl) ?_
            refine gr_getR X G Y fk_RX12_71 clM_0 rfl (dck_at da_X12_spanOf 55 rfl) ?_
            refine lv_iload X.1 X.2.1 (dck_at da_X12_spanOf 56 rfl) (lv_at hl 6 rfl) ?_
            obtain ⟨hin, h⟩ := gI_if h
            refine gr_iald X G Y clM_21 hin (dck_at da_X12_spanOf 57 rfl) ?_
            refine lv_iload_n X.1 X.2.1 (dck_at da_X12_spanOf 58 rfl) rfl (lv_at hl 1 rfl) ?_
            refine lv_icmp_ne (tgt := 132) X.1 X.2.1 (dck_at da_X12_spanOf 59 rfl) rfl (fun c => ?_) (fun c => ?_)
            · have h := gI_neg h c
              exact b132 x1 x3 x5 x6 x8 x7 s0 _ _ _ h Y (lv_sub hl [0, 1, 2, 3, 4, 6] rfl)
            · have h := gI_pos h c
              refine lv_iload X.1 X.2.1 (dck_at da_X12_spanOf 60 rfl) (lv_at hl 6 rfl) ?_
              refine lv_iload_n X.1 X.2.1 (dck_at da_X12_spanOf 61 rfl) rfl (lv_at hl 2 rfl) ?_
              refine lv_icmp_eq (tgt := 132) X.1 X.2.1 (dck_at da_X12_spanOf 62 rfl) rfl (fun c => ?_) (fun c => ?_)
              · have h := gI_pos h c
                exact b132 x1 x3 x5 x6 x8 x7 s0 _ _ _ h Y (lv_sub hl [0, 1, 2, 3, 4, 6] rfl)
              · have h := gI_neg h c
                refine lv_aload_n X.1 X.2.1 (dck_at da_X12_spanOf 63 rfl) rfl (lv_at hl 0 rfl) ?_
                refine gr_getR X G Y fk_RX12_74 clM_0 rfl (dck_at da_X12_spanOf 64 rfl) ?_
                refine lv_iload X.1 X.2.1 (dck_at da_X12_spanOf 65 rfl) (lv_at hl 6 rfl) ?_
                obtain ⟨hin, h⟩ := gI_if h
                refine gr_iald X G Y clM_22 hin (dck_at da_X12_spanOf 66 rfl) ?_
                refine lv_iload X.1 X.2.1 (dck_at da_X12_spanOf 67 rfl) (lv_at hl 4 rfl) ?_
                refine lv_icmp_gt (tgt := 132) X.1 X.2.1 (dck_at da_X12_spanOf 68 rfl) rfl (fun c => ?_) (fun c => ?_)
                · have h := gI_pos h c
                  exact b132 x1 x3 x5 x6 x8 x7 s0 _ _ _ h Y (lv_sub hl [0, 1, 2, 3, 4, 6] rfl)
                · have h := gI_neg h c
                  refine lv_iconst X.1 X.2.1 (dck_at da_X12_spanOf 69 rfl) ki_1 ?_
                  refine lv_goto (tgt := 133) X.1 X.2.1 (dck_at da_X12_spanOf 70 rfl) rfl ?_
                  exact b133 x1 x3 x5 x6 x8 x7 (1 : Int32) s0 _ _ _ h Y (lv_sub hl [0, 1, 2, 3, 4, 6] rfl)
      intro x1 x3 x5 x6 x7 s0 H locs ls h Y hl
      unfold m_spanOf_L72b at h
      refine lv_iload X.1 X.2.1 (dck_at da_X12_spanOf 41 rfl) (lv_at hl 5 rfl) ?_
      refine lv_iload X.1 X.2.1 (dck_at da_X12_spanOf 42 rfl) (lv_at hl 3 rfl) ?_
      refine lv_icmp_ge (tgt := 145) X.1 X.2.1 (dck_at da_X12_spanOf 43 rfl) rfl (fun c => ?_) (fun c => ?_)
      · have h := gI_pos h c
        refine lv_iload X.1 X.2.1 (dck_at da_X12_spanOf 77 rfl) (lv_at hl 4 rfl) ?_
        exact gr_iretO X Y h hr rfl hlk (dck_at da_X12_spanOf 78 rfl)
      · have h := gI_neg h c
        refine lv_iinc (v := x6 + (1 : Int32)) (lv' := [(6, .int (x6 + (1 : Int32))), (0, .ref (ad 0)), (1, .int x1), (3, .int x3), (5, .int x5), (7, .int x7)]) X.1 X.2.1 (dck_at da_X12_spanOf 44 rfl) hl (k := 4) rfl (congrArg (HAdd.hAdd _) ki_1) (by decide) rfl (fun ls hl => ?_)
        refine lv_iconst X.1 X.2.1 (dck_at da_X12_spanOf 45 rfl) ki_0 ?_
        refine lv_istore (lv' := [(7, .int (0 : Int32)), (6, .int (x6 + (1 : Int32))), (0, .ref (ad 0)), (1, .int x1), (3, .int x3), (5, .int x5)]) X.1 X.2.1 (dck_at da_X12_spanOf 46 rfl) hl (by decide) rfl (fun ls hl => ?_)
        refine lv_iconst X.1 X.2.1 (dck_at da_X12_spanOf 47 rfl) ki_0 ?_
        refine lv_istore (lv' := [(8, .int (0 : Int32)), (7, .int (0 : Int32)), (6, .int (x6 + (1 : Int32))), (0, .ref (ad 0)), (1, .int x1), (3, .int x3), (5, .int x5)]) X.1 X.2.1 (dck_at da_X12_spanOf 48 rfl) hl (by decide) rfl (fun ls hl => ?_)
        exact b88 F x1 x3 x5 (x6 + (1 : Int32)) (0 : Int32) (0 : Int32) s0 _ _ _ h Y (lv_sub hl [3, 4, 5, 6, 2, 1, 0] rfl)
  have b6 : ∀ n : Nat, ∀ (x1 : Int32) (x2 : Int32) (x3 : Int32) (x4 : Int32) (x5 : Int32) (s0 : St) (H : Heap) (locs : List Loc) (ls : Array Slot), m_spanOf_L6 F  n x1 x2 x3 x4 x5 s0 = some (ρ, σ') → gY shM D cy ad A s0 s H locs → lv_has ls 9 [(0, .ref (ad 0)), (1, .int x1), (2, .int x2), (3, .int x3), (4, .int x4), (5, .int x5)] → W p l e (grm 1) s m args below meth c H locs 0 0 (MQ below (va_Qi (fun (q : Int32) (_ : Unit) => q = ρ) (fun _ t => va_P D vwCl (gWl shM cy ad σ') t.heap) A) args s 0 0 A) (F0 m 6 ls []) := by
    intro n
    induction n with
    | zero => intro x1 x2 x3 x4 x5 s0 H locs ls h Y hl; exact (gnone h).elim
    | succ n hk6 =>
      have e : m_spanOf_L6 F  (n + 1) = m_spanOf_L6b F  (m_spanOf_L6 F  n) := rfl
      rw [e]; clear e
      generalize m_spanOf_L6 F  n = k6 at hk6 ⊢
      have b39 : ∀ (x1 : Int32) (x2 : Int32) (x3 : Int32) (x5 : Int32) (y0 : Int32) (y1 : Int32) (s0 : St) (H : Heap) (locs : List Loc) (ls : Array Slot), m_spanOf_J39 F k6 x1 x2 x3 x5 y0 y1 s0 = some (ρ, σ') → gY shM D cy ad A s0 s H locs → lv_has ls 9 [(0, .ref (ad 0)), (1, .int x1), (2, .int x2), (3, .int x3), (5, .int x5)] → W p l e (grm 1) s m args below meth c H locs 0 0 (MQ below (va_Qi (fun (q : Int32) (_ : Unit) => q = ρ) (fun _ t => va_P D vwCl (gWl shM cy ad σ') t.heap) A) args s 0 0 A) (F0 m 39 ls [.int y1, .int y0]) := by
        intro x1 x2 x3 x5 y0 y1 s0 H locs ls h Y hl
        unfold m_spanOf_J39 at h
        refine lv_iadd X.1 X.2.1 (dck_at da_X12_spanOf 21 rfl) ?_
        refine lv_istore (lv' := [(4, .int (y0 + y1)), (0, .ref (ad 0)), (1, .int x1), (2, .int x2), (3, .int x3), (5, .int x5)]) X.1 X.2.1 (dck_at da_X12_spanOf 22 rfl) hl (by decide) rfl (fun ls hl => ?_)
        refine lv_iinc (v := x5 + (1 : Int32)) (lv' := [(5, .int (x5 + (1 : Int32))), (4, .int (y0 + y1)), (0, .ref (ad 0)), (1, .int x1), (2, .int x2), (3, .int x3)]) X.1 X.2.1 (dck_at da_X12_spanOf 23 rfl) hl (k := 5) rfl (congrArg (HAdd.hAdd _) ki_1) (by decide) rfl (fun ls hl => ?_)
        refine lv_goto (tgt := 6) X.1 X.2.1 (dck_at da_X12_spanOf 24 rfl) rfl ?_
        exact hk6 x1 x2 x3 (y0 + y1) (x5 + (1 : Int32)) s0 _ _ _ h Y (lv_sub hl [2, 3, 4, 5, 1, 0] rfl)
      have b38 : ∀ (x1 : Int32) (x2 : Int32) (x3 : Int32) (x5 : Int32) (y0 : Int32) (s0 : St) (H : Heap) (locs : List Loc) (ls : Array Slot), m_spanOf_J38 F k6 x1 x2 x3 x5 y0 s0 = some (ρ, σ') → gY shM D cy ad A s0 s H locs → lv_has ls 9 [(0, .ref (ad 0)), (1, .int x1), (2, .int x2), (3, .int x3), (5, .int x5)] → W p l e (grm 1) s m args below meth c H locs 0 0 (MQ below (va_Qi (fun (q : Int32) (_ : Unit) => q = ρ) (fun _ t => va_P D vwCl (gWl shM cy ad σ') t.heap) A) args s 0 0 A) (F0 m 38 ls [.int y0]) := by
        intro x1 x2 x3 x5 y0 s0 H locs ls h Y hl
        unfold m_spanOf_J38 at h
        refine lv_iconst X.1 X.2.1 (dck_at da_X12_spanOf 20 rfl) ki_0 ?_
        exact b39 x1 x2 x3 x5 y0 (0 : Int32) s0 _ _ _ h Y (lv_sub hl [0, 1, 2, 3, 4] rfl)
      intro x1 x2 x3 x4 x5 s0 H locs ls h Y hl
      unfold m_spanOf_L6b at h
      refine lv_iload X.1 X.2.1 (dck_at da_X12_spanOf 4 rfl) (lv_at hl 5 rfl) ?_
      refine lv_aload_n X.1 X.2.1 (dck_at da_X12_spanOf 5 rfl) rfl (lv_at hl 0 rfl) ?_
      refine gr_getI X G Y fk_RX12_237 clM_0 rfl (dck_at da_X12_spanOf 6 rfl) ?_
      refine lv_icmp_ge (tgt := 48) X.1 X.2.1 (dck_at da_X12_spanOf 7 rfl) rfl (fun c => ?_) (fun c => ?_)
      · have h := gI_pos h c
        refine lv_iload X.1 X.2.1 (dck_at da_X12_spanOf 25 rfl) (lv_at hl 4 rfl) ?_
        refine lv_if_ne (tgt := 56) X.1 X.2.1 (dck_at da_X12_spanOf 26 rfl) rfl (fun c => ?_) (fun c => ?_)
        · have h := gI_neg h c
          refine lv_iload_n X.1 X.2.1 (dck_at da_X12_spanOf 29 rfl) rfl (lv_at hl 2 rfl) ?_
          refine lv_iload X.1 X.2.1 (dck_at da_X12_spanOf 30 rfl) (lv_at hl 4 rfl) ?_
          refine lv_imul X.1 X.2.1 (dck_at da_X12_spanOf 31 rfl) ?_
          refine lv_iconst X.1 X.2.1 (dck_at da_X12_spanOf 32 rfl) ki_3 ?_
          refine lv_iadd X.1 X.2.1 (dck_at da_X12_spanOf 33 rfl) ?_
          refine lv_iconst X.1 X.2.1 (dck_at da_X12_spanOf 34 rfl) ki_4 ?_
          refine lv_idiv X.1 X.2.1 (dck_at da_X12_spanOf 35 rfl) (by decide) ?_
          refine lv_istore (lv' := [(5, .int (((x2 * x4) + (3 : Int32)) / (4 : Int32))), (0, .ref (ad 0)), (1, .int x1), (2, .int x2), (3, .int x3), (4, .int x4)]) X.1 X.2.1 (dck_at da_X12_spanOf 36 rfl) hl (by decide) rfl (fun ls hl => ?_)
          refine lv_iconst X.1 X.2.1 (dck_at da_X12_spanOf 37 rfl) ki_m1 ?_
          refine lv_istore (lv' := [(6, .int (-1 : Int32)), (5, .int (((x2 * x4) + (3 : Int32)) / (4 : Int32))), (0, .ref (ad 0)), (1, .int x1), (2, .int x2), (3, .int x3), (4, .int x4)]) X.1 X.2.1 (dck_at da_X12_spanOf 38 rfl) hl (by decide) rfl (fun ls hl => ?_)
          refine lv_iconst X.1 X.2.1 (dck_at da_X12_spanOf 39 rfl) ki_0 ?_
          refine lv_istore (lv' := [(7, .int (0 : Int32)), (6, .int (-1 : Int32)), (5, .int (((x2 * x4) + (3 : Int32)) / (4 : Int32))), (0, .ref (ad 0)), (1, .int x1), (2, .int x2), (3, .int x3), (4, .int x4)]) X.1 X.2.1 (dck_at da_X12_spanOf 40 rfl) hl (by decide) rfl (fun ls hl => ?_)
          exact b72 F x1 x3 (((x2 * x4) + (3 : Int32)) / (4 : Int32)) (-1 : Int32) (0 : Int32) s0 _ _ _ h Y (lv_sub hl [3, 4, 6, 2, 1, 0] rfl)
        · have h := gI_pos h c
          refine lv_bipush X.1 X.2.1 (dck_at da_X12_spanOf 27 rfl) kb_m4 ?_
          exact gr_iretO X Y h hr rfl hlk (dck_at da_X12_spanOf 28 rfl)
      · have h := gI_neg h c
        refine lv_iload X.1 X.2.1 (dck_at da_X12_spanOf 8 rfl) (lv_at hl 4 rfl) ?_
        refine lv_aload_n X.1 X.2.1 (dck_at da_X12_spanOf 9 rfl) rfl (lv_at hl 0 rfl) ?_
        refine gr_getR X G Y fk_RX12_71 clM_0 rfl (dck_at da_X12_spanOf 10 rfl) ?_
        refine lv_iload X.1 X.2.1 (dck_at da_X12_spanOf 11 rfl) (lv_at hl 5 rfl) ?_
        obtain ⟨hin, h⟩ := gI_if h
        refine gr_iald X G Y clM_21 hin (dck_at da_X12_spanOf 12 rfl) ?_
        refine lv_iload_n X.1 X.2.1 (dck_at da_X12_spanOf 13 rfl) rfl (lv_at hl 1 rfl) ?_
        refine lv_icmp_ne (tgt := 38) X.1 X.2.1 (dck_at da_X12_spanOf 14 rfl) rfl (fun c => ?_) (fun c => ?_)
        · have h := gI_neg h c
          exact b38 x1 x2 x3 x5 x4 s0 _ _ _ h Y (lv_sub hl [0, 1, 2, 3, 5] rfl)
        · have h := gI_pos h c
          refine lv_iload X.1 X.2.1 (dck_at da_X12_spanOf 15 rfl) (lv_at hl 5 rfl) ?_
          refine lv_iload_n X.1 X.2.1 (dck_at da_X12_spanOf 16 rfl) rfl (lv_at hl 3 rfl) ?_
          refine lv_icmp_eq (tgt := 38) X.1 X.2.1 (dck_at da_X12_spanOf 17 rfl) rfl (fun c => ?_) (fun c => ?_)
          · have h := gI_pos h c
            exact b38 x1 x2 x3 x5 x4 s0 _ _ _ h Y (lv_sub hl [0, 1, 2, 3, 5] rfl)
          · have h := gI_neg h c
            refine lv_iconst X.1 X.2.1 (dck_at da_X12_spanOf 18 rfl) ki_1 ?_
            refine lv_goto (tgt := 39) X.1 X.2.1 (dck_at da_X12_spanOf 19 rfl) rfl ?_
            exact b39 x1 x2 x3 x5 x4 (1 : Int32) s0 _ _ _ h Y (lv_sub hl [0, 1, 2, 3, 5] rfl)
  unfold m_spanOf at h
  refine lv_iconst X.1 X.2.1 (dck_at da_X12_spanOf 0 rfl) ki_0 ?_
  refine lv_istore (lv' := [(4, .int (0 : Int32)), (0, .ref (ad 0)), (1, .int a1), (2, .int a2), (3, .int a3)]) X.1 X.2.1 (dck_at da_X12_spanOf 1 rfl) hl (by decide) rfl (fun ls hl => ?_)
  refine lv_iconst X.1 X.2.1 (dck_at da_X12_spanOf 2 rfl) ki_0 ?_
  refine lv_istore (lv' := [(5, .int (0 : Int32)), (4, .int (0 : Int32)), (0, .ref (ad 0)), (1, .int a1), (2, .int a2), (3, .int a3)]) X.1 X.2.1 (dck_at da_X12_spanOf 3 rfl) hl (by decide) rfl (fun ls hl => ?_)
  exact b6 F a1 a2 a3 (0 : Int32) (0 : Int32) s0 _ _ _ h Y (lv_sub hl [2, 3, 4, 5, 1, 0] rfl)
set_option maxRecDepth 100000 in
set_option maxHeartbeats 4000000 in
theorem ok_m_span {l : Launch} {D : va_G} {cy : Nat → ClassId} {ad sa : Nat → Nat} {A : Nat → Prop} {F : Nat} {a1 : Int32} {a2 : Int32} {s0 : St} {ρ : Int32} {σ' : St} (h : m_span F a1 a2 s0 = some (ρ, σ')) : gMi l shM D cy ad sa A yX12_span cX12_span 3 (some .int) 3 [.ref (ad 0), .int a1, .int a2] s0 ρ σ' := by
  refine gM_of (by decide) (Nat.le_of_ble_eq_true rfl) ?_
  intro p e s m args below meth c ls X G Y hr hlk hl
  have hl : lv_has ls 3 [(0, .ref (ad 0)), (1, .int a1), (2, .int a2)] := hl
  have b39 : ∀  (s0 : St) (H : Heap) (locs : List Loc) (ls : Array Slot), m_span_J39 F  s0 = some (ρ, σ') → gY shM D cy ad A s0 s H locs → lv_has ls 3 [(0, .ref (ad 0))] → W p l e (grm 3) s m args below meth c H locs 0 0 (MQ below (va_Qi (fun (q : Int32) (_ : Unit) => q = ρ) (fun _ t => va_P D vwCl (gWl shM cy ad σ') t.heap) A) args s 0 0 A) (F0 m 39 ls []) := by
    intro s0 H locs ls h Y hl
    unfold m_span_J39 at h
    refine lv_aload_n X.1 X.2.1 (dck_at da_X12_span 20 rfl) rfl (lv_at hl 0 rfl) ?_
    refine lv_iconst X.1 X.2.1 (dck_at da_X12_span 21 rfl) ki_m1 ?_
    obtain ⟨r1, s1, hc, h⟩ := gB2_some h
    refine gr_backi Y (gr_runV (as := [.int (-1 : Int32)]) (rest := []) X G Y (ok_m_tells hc) cv_RX12_130 clM_0 ⟨Nat.le_of_ble_eq_true rfl, Nat.le_of_ble_eq_true rfl⟩ rfl hl.1 (Nat.le_of_ble_eq_true rfl) (dck_at da_X12_span 22 rfl)) (fun H locs Y => ?_)
    exact gr_iretO X Y h hr rfl hlk (dck_at da_X12_span 23 rfl)
  unfold m_span at h
  refine lv_iload_n X.1 X.2.1 (dck_at da_X12_span 0 rfl) rfl (lv_at hl 1 rfl) ?_
  refine lv_i2l (v := (a1).toInt64) X.1 X.2.1 (dck_at da_X12_span 1 rfl) rfl ?_
  refine lv_lconst (v := 0) X.1 X.2.1 (dck_at da_X12_span 2 rfl) rfl ?_
  refine lv_ldc2 X.1 X.2.1 X.2.2.2.1 (X.2.2.2.2 _ wm_1323) (dck_at da_X12_span 3 rfl) ?_
  obtain ⟨r2, s2, hc, h⟩ := gB2_some h
  refine gr_backi Y (gr_runS (as := [.long ((a1).toInt64), .long (0 : Int64), .long (3 : Int64)]) (rest := []) X G Y (ok_m_in hc) cs_RX12_126 ⟨Nat.le_of_ble_eq_true rfl, Nat.le_of_ble_eq_true rfl⟩ rfl hl.1 (Nat.le_of_ble_eq_true rfl) (dck_at da_X12_span 4 rfl)) (fun H locs Y => ?_)
  refine lv_if_eq (tgt := 39) X.1 X.2.1 (dck_at da_X12_span 5 rfl) rfl (fun c => ?_) (fun c => ?_)
  · have h := gI_pos h c
    exact b39 s2 _ _ _ h Y (lv_sub hl [0] rfl)
  · have h := gI_neg h c
    refine lv_iload_n X.1 X.2.1 (dck_at da_X12_span 6 rfl) rfl (lv_at hl 2 rfl) ?_
    refine lv_i2l (v := (a2).toInt64) X.1 X.2.1 (dck_at da_X12_span 7 rfl) rfl ?_
    refine lv_lconst (v := 1) X.1 X.2.1 (dck_at da_X12_span 8 rfl) rfl ?_
    refine lv_ldc2 X.1 X.2.1 X.2.2.2.1 (X.2.2.2.2 _ wm_1536) (dck_at da_X12_span 9 rfl) ?_
    obtain ⟨r3, s3, hc, h⟩ := gB2_some h
    refine gr_backi Y (gr_runS (as := [.long ((a2).toInt64), .long (1 : Int64), .long (4 : Int64)]) (rest := []) X G Y (ok_m_in hc) cs_RX12_126 ⟨Nat.le_of_ble_eq_true rfl, Nat.le_of_ble_eq_true rfl⟩ rfl hl.1 (Nat.le_of_ble_eq_true rfl) (dck_at da_X12_span 10 rfl)) (fun H locs Y => ?_)
    refine lv_if_eq (tgt := 39) X.1 X.2.1 (dck_at da_X12_span 11 rfl) rfl (fun c => ?_) (fun c => ?_)
    · have h := gI_pos h c
      exact b39 s3 _ _ _ h Y (lv_sub hl [0] rfl)
    · have h := gI_neg h c
      refine lv_aload_n X.1 X.2.1 (dck_at da_X12_span 12 rfl) rfl (lv_at hl 0 rfl) ?_
      refine lv_aload_n X.1 X.2.1 (dck_at da_X12_span 13 rfl) rfl (lv_at hl 0 rfl) ?_
      refine lv_iload_n X.1 X.2.1 (dck_at da_X12_span 14 rfl) rfl (lv_at hl 1 rfl) ?_
      refine lv_iload_n X.1 X.2.1 (dck_at da_X12_span 15 rfl) rfl (lv_at hl 2 rfl) ?_
      refine lv_bipush X.1 X.2.1 (dck_at da_X12_span 16 rfl) kb_m4 ?_
      obtain ⟨r4, s4, hc, h⟩ := gB2_some h
      refine gr_backi Y (gr_runV (as := [.int a1, .int a2, .int (-4 : Int32)]) (rest := [.ref (ad 0)]) X G Y (ok_m_spanOf hc) cv_RX12_304 clM_0 ⟨Nat.le_of_ble_eq_true rfl, Nat.le_of_ble_eq_true rfl⟩ rfl hl.1 (Nat.le_of_ble_eq_true rfl) (dck_at da_X12_span 17 rfl)) (fun H locs Y => ?_)
      obtain ⟨r5, s5, hc, h⟩ := gB2_some h
      refine gr_backi Y (gr_runV (as := [.int r4]) (rest := []) X G Y (ok_m_tells hc) cv_RX12_130 clM_0 ⟨Nat.le_of_ble_eq_true rfl, Nat.le_of_ble_eq_true rfl⟩ rfl hl.1 (Nat.le_of_ble_eq_true rfl) (dck_at da_X12_span 18 rfl)) (fun H locs Y => ?_)
      refine lv_goto (tgt := 44) X.1 X.2.1 (dck_at da_X12_span 19 rfl) rfl ?_
      exact gr_iretO X Y h hr rfl hlk (dck_at da_X12_span 23 rfl)
set_option maxRecDepth 100000 in
set_option maxHeartbeats 4000000 in
theorem ok_m_held {l : Launch} {D : va_G} {cy : Nat → ClassId} {ad sa : Nat → Nat} {A : Nat → Prop} {F : Nat}  {s0 : St} {ρ : Int32} {σ' : St} (h : m_held F s0 = some (ρ, σ')) : gMi l shM D cy ad sa A yX12_held cX12_held 3 (some .int) 2 [.ref (ad 0)] s0 ρ σ' := by
  refine gM_of (by decide) (Nat.le_of_ble_eq_true rfl) ?_
  intro p e s m args below meth c ls X G Y hr hlk hl
  have hl : lv_has ls 3 [(0, .ref (ad 0))] := hl
  have b4 : ∀ n : Nat, ∀ (x1 : Int32) (x2 : Int32) (s0 : St) (H : Heap) (locs : List Loc) (ls : Array Slot), m_held_L4 F  n x1 x2 s0 = some (ρ, σ') → gY shM D cy ad A s0 s H locs → lv_has ls 3 [(0, .ref (ad 0)), (1, .int x1), (2, .int x2)] → W p l e (grm 2) s m args below meth c H locs 0 0 (MQ below (va_Qi (fun (q : Int32) (_ : Unit) => q = ρ) (fun _ t => va_P D vwCl (gWl shM cy ad σ') t.heap) A) args s 0 0 A) (F0 m 4 ls []) := by
    intro n
    induction n with
    | zero => intro x1 x2 s0 H locs ls h Y hl; exact (gnone h).elim
    | succ n hk4 =>
      have e : m_held_L4 F  (n + 1) = m_held_L4b F  (m_held_L4 F  n) := rfl
      rw [e]; clear e
      generalize m_held_L4 F  n = k4 at hk4 ⊢
      have b39 : ∀ (x2 : Int32) (y0 : Int32) (y1 : Int32) (s0 : St) (H : Heap) (locs : List Loc) (ls : Array Slot), m_held_J39 F k4 x2 y0 y1 s0 = some (ρ, σ') → gY shM D cy ad A s0 s H locs → lv_has ls 3 [(0, .ref (ad 0)), (2, .int x2)] → W p l e (grm 2) s m args below meth c H locs 0 0 (MQ below (va_Qi (fun (q : Int32) (_ : Unit) => q = ρ) (fun _ t => va_P D vwCl (gWl shM cy ad σ') t.heap) A) args s 0 0 A) (F0 m 39 ls [.int y1, .int y0]) := by
        intro x2 y0 y1 s0 H locs ls h Y hl
        unfold m_held_J39 at h
        refine lv_iadd X.1 X.2.1 (dck_at da_X12_held 25 rfl) ?_
        refine lv_istore_n (lv' := [(1, .int (y0 + y1)), (0, .ref (ad 0)), (2, .int x2)]) X.1 X.2.1 (dck_at da_X12_held 26 rfl) rfl hl (by decide) rfl (fun ls hl => ?_)
        refine lv_iinc (v := x2 + (1 : Int32)) (lv' := [(2, .int (x2 + (1 : Int32))), (1, .int (y0 + y1)), (0, .ref (ad 0))]) X.1 X.2.1 (dck_at da_X12_held 27 rfl) hl (k := 2) rfl (congrArg (HAdd.hAdd _) ki_1) (by decide) rfl (fun ls hl => ?_)
        refine lv_goto (tgt := 4) X.1 X.2.1 (dck_at da_X12_held 28 rfl) rfl ?_
        exact hk4 (y0 + y1) (x2 + (1 : Int32)) s0 _ _ _ h Y (lv_sub hl [2, 1, 0] rfl)
      intro x1 x2 s0 H locs ls h Y hl
      unfold m_held_L4b at h
      refine lv_iload_n X.1 X.2.1 (dck_at da_X12_held 4 rfl) rfl (lv_at hl 2 rfl) ?_
      refine lv_aload_n X.1 X.2.1 (dck_at da_X12_held 5 rfl) rfl (lv_at hl 0 rfl) ?_
      refine gr_getI X G Y fk_RX12_237 clM_0 rfl (dck_at da_X12_held 6 rfl) ?_
      refine lv_icmp_ge (tgt := 47) X.1 X.2.1 (dck_at da_X12_held 7 rfl) rfl (fun c => ?_) (fun c => ?_)
      · have h := gI_pos h c
        refine lv_iload_n X.1 X.2.1 (dck_at da_X12_held 29 rfl) rfl (lv_at hl 1 rfl) ?_
        exact gr_iretO X Y h hr rfl hlk (dck_at da_X12_held 30 rfl)
      · have h := gI_neg h c
        refine lv_iload_n X.1 X.2.1 (dck_at da_X12_held 8 rfl) rfl (lv_at hl 1 rfl) ?_
        refine lv_aload_n X.1 X.2.1 (dck_at da_X12_held 9 rfl) rfl (lv_at hl 0 rfl) ?_
        refine gr_getR X G Y fk_RX12_74 clM_0 rfl (dck_at da_X12_held 10 rfl) ?_
        refine lv_iload_n X.1 X.2.1 (dck_at da_X12_held 11 rfl) rfl (lv_at hl 2 rfl) ?_
        obtain ⟨hin, h⟩ := gI_if h
        refine gr_iald X G Y clM_22 hin (dck_at da_X12_held 12 rfl) ?_
        refine lv_aload_n X.1 X.2.1 (dck_at da_X12_held 13 rfl) rfl (lv_at hl 0 rfl) ?_
        refine lv_aload_n X.1 X.2.1 (dck_at da_X12_held 14 rfl) rfl (lv_at hl 0 rfl) ?_
        refine gr_getR X G Y fk_RX12_71 clM_0 rfl (dck_at da_X12_held 15 rfl) ?_
        refine lv_iload_n X.1 X.2.1 (dck_at da_X12_held 16 rfl) rfl (lv_at hl 2 rfl) ?_
        obtain ⟨hin, h⟩ := gI_if h
        refine gr_iald X G Y clM_21 hin (dck_at da_X12_held 17 rfl) ?_
        refine lv_iconst X.1 X.2.1 (dck_at da_X12_held 18 rfl) ki_3 ?_
        refine lv_iload_n X.1 X.2.1 (dck_at da_X12_held 19 rfl) rfl (lv_at hl 2 rfl) ?_
        obtain ⟨r1, s1, hc, h⟩ := gB2_some h
        refine gr_backi Y (gr_runV (as := [.int (s0.1 21 (x2).toNatClampNeg), .int (3 : Int32), .int x2]) (rest := [.int (s0.1 22 (x2).toNatClampNeg), .int x1]) X G Y (ok_m_spanOf hc) cv_RX12_304 clM_0 ⟨Nat.le_of_ble_eq_true rfl, Nat.le_of_ble_eq_true rfl⟩ rfl hl.1 (Nat.le_of_ble_eq_true rfl) (dck_at da_X12_held 20 rfl)) (fun H locs Y => ?_)
        refine lv_icmp_gt (tgt := 38) X.1 X.2.1 (dck_at da_X12_held 21 rfl) rfl (fun c => ?_) (fun c => ?_)
        · have h := gI_pos h c
          refine lv_iconst X.1 X.2.1 (dck_at da_X12_held 24 rfl) ki_0 ?_
          exact b39 x2 x1 (0 : Int32) s1 _ _ _ h Y (lv_sub hl [0, 2] rfl)
        · have h := gI_neg h c
          refine lv_iconst X.1 X.2.1 (dck_at da_X12_held 22 rfl) ki_1 ?_
          refine lv_goto (tgt := 39) X.1 X.2.1 (dck_at da_X12_held 23 rfl) rfl ?_
          exact b39 x2 x1 (1 : Int32) s1 _ _ _ h Y (lv_sub hl [0, 2] rfl)
  unfold m_held at h
  refine lv_iconst X.1 X.2.1 (dck_at da_X12_held 0 rfl) ki_0 ?_
  refine lv_istore_n (lv' := [(1, .int (0 : Int32)), (0, .ref (ad 0))]) X.1 X.2.1 (dck_at da_X12_held 1 rfl) rfl hl (by decide) rfl (fun ls hl => ?_)
  refine lv_iconst X.1 X.2.1 (dck_at da_X12_held 2 rfl) ki_0 ?_
  refine lv_istore_n (lv' := [(2, .int (0 : Int32)), (1, .int (0 : Int32)), (0, .ref (ad 0))]) X.1 X.2.1 (dck_at da_X12_held 3 rfl) rfl hl (by decide) rfl (fun ls hl => ?_)
  exact b4 F (0 : Int32) (0 : Int32) s0 _ _ _ h Y (lv_sub hl [2, 1, 0] rfl)
set_option maxRecDepth 100000 in
set_option maxHeartbeats 4000000 in
theorem ok_m_measure {l : Launch} {D : va_G} {cy : Nat → ClassId} {ad sa : Nat → Nat} {A : Nat → Prop} {F : Nat} {a1 : Int32} {a2 : Int32} {s0 : St} {ρ : Int32} {σ' : St} (h : m_measure F a1 a2 s0 = some (ρ, σ')) : gMi l shM D cy ad sa A yX12_measure cX12_measure 3 (some .int) 3 [.ref (ad 0), .int a1, .int a2] s0 ρ σ' := by
  refine gM_of (by decide) (Nat.le_of_ble_eq_true rfl) ?_
  intro p e s m args below meth c ls X G Y hr hlk hl
  have hl : lv_has ls 3 [(0, .ref (ad 0)), (1, .int a1), (2, .int a2)] := hl
  have b24 : ∀  (s0 : St) (H : Heap) (locs : List Loc) (ls : Array Slot), m_measure_J24 F  s0 = some (ρ, σ') → gY shM D cy ad A s0 s H locs → lv_has ls 3 [(0, .ref (ad 0))] → W p l e (grm 3) s m args below meth c H locs 0 0 (MQ below (va_Qi (fun (q : Int32) (_ : Unit) => q = ρ) (fun _ t => va_P D vwCl (gWl shM cy ad σ') t.heap) A) args s 0 0 A) (F0 m 24 ls []) := by
    intro s0 H locs ls h Y hl
    unfold m_measure_J24 at h
    refine lv_aload_n X.1 X.2.1 (dck_at da_X12_measure 12 rfl) rfl (lv_at hl 0 rfl) ?_
    refine lv_iconst X.1 X.2.1 (dck_at da_X12_measure 13 rfl) ki_m1 ?_
    obtain ⟨r1, s1, hc, h⟩ := gB2_some h
    refine gr_backi Y (gr_runV (as := [.int (-1 : Int32)]) (rest := []) X G Y (ok_m_tells hc) cv_RX12_130 clM_0 ⟨Nat.le_of_ble_eq_true rfl, Nat.le_of_ble_eq_true rfl⟩ rfl hl.1 (Nat.le_of_ble_eq_true rfl) (dck_at da_X12_measure 14 rfl)) (fun H locs Y => ?_)
    exact gr_iretO X Y h hr rfl hlk (dck_at da_X12_measure 15 rfl)
  unfold m_measure at h
  refine lv_iload_n X.1 X.2.1 (dck_at da_X12_measure 0 rfl) rfl (lv_at hl 1 rfl) ?_
  refine lv_i2l (v := (a1).toInt64) X.1 X.2.1 (dck_at da_X12_measure 1 rfl) rfl ?_
  refine lv_lconst (v := 0) X.1 X.2.1 (dck_at da_X12_measure 2 rfl) rfl ?_
  refine lv_ldc2 X.1 X.2.1 X.2.2.2.1 (X.2.2.2.2 _ wm_1495) (dck_at da_X12_measure 3 rfl) ?_
  obtain ⟨r2, s2, hc, h⟩ := gB2_some h
  refine gr_backi Y (gr_runS (as := [.long ((a1).toInt64), .long (0 : Int64), .long (15 : Int64)]) (rest := []) X G Y (ok_m_in hc) cs_RX12_126 ⟨Nat.le_of_ble_eq_true rfl, Nat.le_of_ble_eq_true rfl⟩ rfl hl.1 (Nat.le_of_ble_eq_true rfl) (dck_at da_X12_measure 4 rfl)) (fun H locs Y => ?_)
  refine lv_if_eq (tgt := 24) X.1 X.2.1 (dck_at da_X12_measure 5 rfl) rfl (fun c => ?_) (fun c => ?_)
  · have h := gI_pos h c
    exact b24 s2 _ _ _ h Y (lv_sub hl [0] rfl)
  · have h := gI_neg h c
    refine lv_iload_n X.1 X.2.1 (dck_at da_X12_measure 6 rfl) rfl (lv_at hl 2 rfl) ?_
    refine lv_i2l (v := (a2).toInt64) X.1 X.2.1 (dck_at da_X12_measure 7 rfl) rfl ?_
    refine lv_lconst (v := 0) X.1 X.2.1 (dck_at da_X12_measure 8 rfl) rfl ?_
    refine lv_ldc2 X.1 X.2.1 X.2.2.2.1 (X.2.2.2.2 _ wm_1495) (dck_at da_X12_measure 9 rfl) ?_
    obtain ⟨r3, s3, hc, h⟩ := gB2_some h
    refine gr_backi Y (gr_runS (as := [.long ((a2).toInt64), .long (0 : Int64), .long (15 : Int64)]) (rest := []) X G Y (ok_m_in hc) cs_RX12_126 ⟨Nat.le_of_ble_eq_true rfl, Nat.le_of_ble_eq_true rfl⟩ rfl hl.1 (Nat.le_of_ble_eq_true rfl) (dck_at da_X12_measure 10 rfl)) (fun H locs Y => ?_)
    refine lv_if_ne (tgt := 30) X.1 X.2.1 (dck_at da_X12_measure 11 rfl) rfl (fun c => ?_) (fun c => ?_)
    · have h := gI_neg h c
      refine lv_aload_n X.1 X.2.1 (dck_at da_X12_measure 16 rfl) rfl (lv_at hl 0 rfl) ?_
      refine gr_getI X G Y fk_RX12_240 clM_0 rfl (dck_at da_X12_measure 17 rfl) ?_
      refine lv_bipush X.1 X.2.1 (dck_at da_X12_measure 18 rfl) kb_8 ?_
      refine lv_icmp_ne (tgt := 46) X.1 X.2.1 (dck_at da_X12_measure 19 rfl) rfl (fun c => ?_) (fun c => ?_)
      · have h := gI_neg h c
        refine lv_aload_n X.1 X.2.1 (dck_at da_X12_measure 24 rfl) rfl (lv_at hl 0 rfl) ?_
        refine gr_getR X G Y fk_RX12_80 clM_0 rfl (dck_at da_X12_measure 25 rfl) ?_
        refine lv_aload_n X.1 X.2.1 (dck_at da_X12_measure 26 rfl) rfl (lv_at hl 0 rfl) ?_
        refine gr_getI X G Y fk_RX12_240 clM_0 rfl (dck_at da_X12_measure 27 rfl) ?_
        refine lv_iload_n X.1 X.2.1 (dck_at da_X12_measure 28 rfl) rfl (lv_at hl 1 rfl) ?_
        obtain ⟨hin, h⟩ := gI_if h
        refine gr_iast X G Y clM_24 hin (dck_at da_X12_measure 29 rfl) (fun H locs Y => ?_)
        refine lv_aload_n X.1 X.2.1 (dck_at da_X12_measure 30 rfl) rfl (lv_at hl 0 rfl) ?_
        refine gr_getR X G Y fk_RX12_83 clM_0 rfl (dck_at da_X12_measure 31 rfl) ?_
        refine lv_aload_n X.1 X.2.1 (dck_at da_X12_measure 32 rfl) rfl (lv_at hl 0 rfl) ?_
        refine gr_getI X G Y fk_RX12_240 clM_0 rfl (dck_at da_X12_measure 33 rfl) ?_
        refine lv_iload_n X.1 X.2.1 (dck_at da_X12_measure 34 rfl) rfl (lv_at hl 2 rfl) ?_
        obtain ⟨hin, h⟩ := gI_if h
        refine gr_iast X G Y clM_25 hin (dck_at da_X12_measure 35 rfl) (fun H locs Y => ?_)
        refine lv_aload_n X.1 X.2.1 (dck_at da_X12_measure 36 rfl) rfl (lv_at hl 0 rfl) ?_
        refine lv_dup X.1 X.2.1 (dck_at da_X12_measure 37 rfl) rfl ?_
        refine gr_getI X G Y fk_RX12_240 clM_0 rfl (dck_at da_X12_measure 38 rfl) ?_
        refine lv_iconst X.1 X.2.1 (dck_at da_X12_measure 39 rfl) ki_1 ?_
        refine lv_iadd X.1 X.2.1 (dck_at da_X12_measure 40 rfl) ?_
        refine gr_putI X G Y fp_RX12_240 clM_0 rfl (dck_at da_X12_measure 41 rfl) (fun H locs Y => ?_)
        refine lv_aload_n X.1 X.2.1 (dck_at da_X12_measure 42 rfl) rfl (lv_at hl 0 rfl) ?_
        refine gr_getI X G Y fk_RX12_240 clM_0 rfl (dck_at da_X12_measure 43 rfl) ?_
        refine lv_iconst X.1 X.2.1 (dck_at da_X12_measure 44 rfl) ki_1 ?_
        refine lv_isub X.1 X.2.1 (dck_at da_X12_measure 45 rfl) ?_
        exact gr_iretO X Y h hr rfl hlk (dck_at da_X12_measure 46 rfl)
      · have h := gI_pos h c
        refine lv_aload_n X.1 X.2.1 (dck_at da_X12_measure 20 rfl) rfl (lv_at hl 0 rfl) ?_
        refine lv_bipush X.1 X.2.1 (dck_at da_X12_measure 21 rfl) kb_m3 ?_
        obtain ⟨r4, s4, hc, h⟩ := gB2_some h
        refine gr_backi Y (gr_runV (as := [.int (-3 : Int32)]) (rest := []) X G Y (ok_m_tells hc) cv_RX12_130 clM_0 ⟨Nat.le_of_ble_eq_true rfl, Nat.le_of_ble_eq_true rfl⟩ rfl hl.1 (Nat.le_of_ble_eq_true rfl) (dck_at da_X12_measure 22 rfl)) (fun H locs Y => ?_)
        exact gr_iretO X Y h hr rfl hlk (dck_at da_X12_measure 23 rfl)
    · have h := gI_pos h c
      exact b24 s3 _ _ _ h Y (lv_sub hl [0] rfl)
set_option maxRecDepth 100000 in
set_option maxHeartbeats 4000000 in
theorem ok_m_leavesOf {l : Launch} {D : va_G} {cy : Nat → ClassId} {ad sa : Nat → Nat} {A : Nat → Prop} {F : Nat} {a1 : Int32} {s0 : St} {ρ : Int64} {σ' : St} (h : m_leavesOf F a1 s0 = some (ρ, σ')) : gMl l shM D cy ad sa A yX12_leavesOf cX12_leavesOf 5 (some .long) 1 [.ref (ad 0), .int a1] s0 ρ σ' := by
  refine gM_of (by decide) (Nat.le_of_ble_eq_true rfl) ?_
  intro p e s m args below meth c ls X G Y hr hlk hl
  have hl : lv_has ls 5 [(0, .ref (ad 0)), (1, .int a1)] := hl
  have b5 : ∀ n : Nat, ∀ (x1 : Int32) (x2 : Int64) (x4 : Int32) (s0 : St) (H : Heap) (locs : List Loc) (ls : Array Slot), m_leavesOf_L5 F  n x1 x2 x4 s0 = some (ρ, σ') → gY shM D cy ad A s0 s H locs → lv_has ls 5 [(0, .ref (ad 0)), (1, .int x1), (2, .long x2), (4, .int x4)] → W p l e (grm 1) s m args below meth c H locs 0 0 (MQ below (va_Ql (fun (q : Int64) (_ : Unit) => q = ρ) (fun _ t => va_P D vwCl (gWl shM cy ad σ') t.heap) A) args s 0 0 A) (F0 m 5 ls []) := by
    intro n
    induction n with
    | zero => intro x1 x2 x4 s0 H locs ls h Y hl; exact (gnone h).elim
    | succ n hk5 =>
      have e : m_leavesOf_L5 F  (n + 1) = m_leavesOf_L5b F  (m_leavesOf_L5 F  n) := rfl
      rw [e]; clear e
      generalize m_leavesOf_L5 F  n = k5 at hk5 ⊢
      have b42 : ∀ (x1 : Int32) (x4 : Int32) (y0 : Int64) (y1 : Int64) (s0 : St) (H : Heap) (locs : List Loc) (ls : Array Slot), m_leavesOf_J42 F k5 x1 x4 y0 y1 s0 = some (ρ, σ') → gY shM D cy ad A s0 s H locs → lv_has ls 5 [(0, .ref (ad 0)), (1, .int x1), (4, .int x4)] → W p l e (grm 1) s m args below meth c H locs 0 0 (MQ below (va_Ql (fun (q : Int64) (_ : Unit) => q = ρ) (fun _ t => va_P D vwCl (gWl shM cy ad σ') t.heap) A) args s 0 0 A) (F0 m 42 ls [.long y1, .long y0]) := by
        intro x1 x4 y0 y1 s0 H locs ls h Y hl
        unfold m_leavesOf_J42 at h
        refine lv_lmul X.1 X.2.1 (dck_at da_X12_leavesOf 25 rfl) ?_
        refine lv_lstore_n (lv' := [(2, .long (y0 * y1)), (0, .ref (ad 0)), (1, .int x1), (4, .int x4)]) X.1 X.2.1 (dck_at da_X12_leavesOf 26 rfl) rfl hl (by decide) rfl (fun ls hl => ?_)
        refine lv_iinc (v := x4 + (1 : Int32)) (lv' := [(4, .int (x4 + (1 : Int32))), (2, .long (y0 * y1)), (0, .ref (ad 0)), (1, .int x1)]) X.1 X.2.1 (dck_at da_X12_leavesOf 27 rfl) hl (k := 3) rfl (congrArg (HAdd.hAdd _) ki_1) (by decide) rfl (fun ls hl => ?_)
        refine lv_goto (tgt := 5) X.1 X.2.1 (dck_at da_X12_leavesOf 28 rfl) rfl ?_
        exact hk5 x1 (y0 * y1) (x4 + (1 : Int32)) s0 _ _ _ h Y (lv_sub hl [2, 3, 1, 0] rfl)
      intro x1 x2 x4 s0 H locs ls h Y hl
      unfold m_leavesOf_L5b at h
      refine lv_iload X.1 X.2.1 (dck_at da_X12_leavesOf 4 rfl) (lv_at hl 3 rfl) ?_
      refine lv_aload_n X.1 X.2.1 (dck_at da_X12_leavesOf 5 rfl) rfl (lv_at hl 0 rfl) ?_
      refine gr_getI X G Y fk_RX12_240 clM_0 rfl (dck_at da_X12_leavesOf 6 rfl) ?_
      refine lv_icmp_ge (tgt := 50) X.1 X.2.1 (dck_at da_X12_leavesOf 7 rfl) rfl (fun c => ?_) (fun c => ?_)
      · have h := gI_pos h c
        refine lv_lload_n X.1 X.2.1 (dck_at da_X12_leavesOf 29 rfl) rfl (lv_at hl 2 rfl) ?_
        exact gr_lretO X Y h hr hlk (dck_at da_X12_leavesOf 30 rfl)
      · have h := gI_neg h c
        refine lv_lload_n X.1 X.2.1 (dck_at da_X12_leavesOf 8 rfl) rfl (lv_at hl 2 rfl) ?_
        refine lv_iload_n X.1 X.2.1 (dck_at da_X12_leavesOf 9 rfl) rfl (lv_at hl 1 rfl) ?_
        refine lv_iload X.1 X.2.1 (dck_at da_X12_leavesOf 10 rfl) (lv_at hl 3 rfl) ?_
        refine lv_ishr X.1 X.2.1 (dck_at da_X12_leavesOf 11 rfl) ?_
        refine lv_iconst X.1 X.2.1 (dck_at da_X12_leavesOf 12 rfl) ki_1 ?_
        refine lv_iand X.1 X.2.1 (dck_at da_X12_leavesOf 13 rfl) ?_
        refine lv_iconst X.1 X.2.1 (dck_at da_X12_leavesOf 14 rfl) ki_1 ?_
        refine lv_icmp_ne (tgt := 39) X.1 X.2.1 (dck_at da_X12_leavesOf 15 rfl) rfl (fun c => ?_) (fun c => ?_)
        · have h := gI_neg h c
          refine lv_ldc2 X.1 X.2.1 X.2.2.2.1 (X.2.2.2.2 _ wm_1442) (dck_at da_X12_leavesOf 24 rfl) ?_
          exact b42 x1 x4 x2 (16 : Int64) s0 _ _ _ h Y (lv_sub hl [0, 1, 3] rfl)
        · have h := gI_pos h c
          refine lv_bipush X.1 X.2.1 (dck_at da_X12_leavesOf 16 rfl) kb_16 ?_
          refine lv_aload_n X.1 X.2.1 (dck_at da_X12_leavesOf 17 rfl) rfl (lv_at hl 0 rfl) ?_
          refine gr_getR X G Y fk_RX12_80 clM_0 rfl (dck_at da_X12_leavesOf 18 rfl) ?_
          refine lv_iload X.1 X.2.1 (dck_at da_X12_leavesOf 19 rfl) (lv_at hl 3 rfl) ?_
          obtain ⟨hin, h⟩ := gI_if h
          refine gr_iald X G Y clM_24 hin (dck_at da_X12_leavesOf 20 rfl) ?_
          refine lv_isub X.1 X.2.1 (dck_at da_X12_leavesOf 21 rfl) ?_
          refine lv_i2l (v := ((16 : Int32) - (s0.1 24 (x4).toNatClampNeg)).toInt64) X.1 X.2.1 (dck_at da_X12_leavesOf 22 rfl) rfl ?_
          refine lv_goto (tgt := 42) X.1 X.2.1 (dck_at da_X12_leavesOf 23 rfl) rfl ?_
          exact b42 x1 x4 x2 (((16 : Int32) - (s0.1 24 (x4).toNatClampNeg)).toInt64) s0 _ _ _ h Y (lv_sub hl [0, 1, 3] rfl)
  unfold m_leavesOf at h
  refine lv_lconst (v := 1) X.1 X.2.1 (dck_at da_X12_leavesOf 0 rfl) rfl ?_
  refine lv_lstore_n (lv' := [(2, .long (1 : Int64)), (0, .ref (ad 0)), (1, .int a1)]) X.1 X.2.1 (dck_at da_X12_leavesOf 1 rfl) rfl hl (by decide) rfl (fun ls hl => ?_)
  refine lv_iconst X.1 X.2.1 (dck_at da_X12_leavesOf 2 rfl) ki_0 ?_
  refine lv_istore (lv' := [(4, .int (0 : Int32)), (2, .long (1 : Int64)), (0, .ref (ad 0)), (1, .int a1)]) X.1 X.2.1 (dck_at da_X12_leavesOf 3 rfl) hl (by decide) rfl (fun ls hl => ?_)
  exact b5 F a1 (1 : Int64) (0 : Int32) s0 _ _ _ h Y (lv_sub hl [2, 3, 1, 0] rfl)
set_option maxRecDepth 100000 in
set_option maxHeartbeats 4000000 in
theorem ok_m_leaves {l : Launch} {D : va_G} {cy : Nat → ClassId} {ad sa : Nat → Nat} {A : Nat → Prop} {F : Nat} {a1 : Int32} {a2 : Int32} {s0 : St} {ρ : Int64} {σ' : St} (h : m_leaves F a1 a2 s0 = some (ρ, σ')) : gMl l shM D cy ad sa A yX12_leaves cX12_leaves 3 (some .long) 2 [.ref (ad 0), .int a1, .int a2] s0 ρ σ' := by
  refine gM_of (by decide) (Nat.le_of_ble_eq_true rfl) ?_
  intro p e s m args below meth c ls X G Y hr hlk hl
  have hl : lv_has ls 3 [(0, .ref (ad 0)), (1, .int a1), (2, .int a2)] := hl
  have b28 : ∀  (s0 : St) (H : Heap) (locs : List Loc) (ls : Array Slot), m_leaves_J28 F  s0 = some (ρ, σ') → gY shM D cy ad A s0 s H locs → lv_has ls 3 [(0, .ref (ad 0))] → W p l e (grm 2) s m args below meth c H locs 0 0 (MQ below (va_Ql (fun (q : Int64) (_ : Unit) => q = ρ) (fun _ t => va_P D vwCl (gWl shM cy ad σ') t.heap) A) args s 0 0 A) (F0 m 28 ls []) := by
    intro s0 H locs ls h Y hl
    unfold m_leaves_J28 at h
    refine lv_aload_n X.1 X.2.1 (dck_at da_X12_leaves 18 rfl) rfl (lv_at hl 0 rfl) ?_
    refine lv_ldc2 X.1 X.2.1 X.2.2.2.1 (X.2.2.2.2 _ wm_1295) (dck_at da_X12_leaves 19 rfl) ?_
    obtain ⟨r1, s1, hc, h⟩ := gB2_some h
    refine gr_backl Y (gr_runV (as := [.long (-1 : Int64)]) (rest := []) X G Y (ok_m_says hc) cv_RX12_120 clM_0 ⟨Nat.le_of_ble_eq_true rfl, Nat.le_of_ble_eq_true rfl⟩ rfl hl.1 (Nat.le_of_ble_eq_true rfl) (dck_at da_X12_leaves 20 rfl)) (fun H locs Y => ?_)
    exact gr_lretO X Y h hr hlk (dck_at da_X12_leaves 21 rfl)
  unfold m_leaves at h
  refine lv_iload_n X.1 X.2.1 (dck_at da_X12_leaves 0 rfl) rfl (lv_at hl 1 rfl) ?_
  refine lv_i2l (v := (a1).toInt64) X.1 X.2.1 (dck_at da_X12_leaves 1 rfl) rfl ?_
  refine lv_lconst (v := 0) X.1 X.2.1 (dck_at da_X12_leaves 2 rfl) rfl ?_
  refine lv_iconst X.1 X.2.1 (dck_at da_X12_leaves 3 rfl) ki_1 ?_
  refine lv_aload_n X.1 X.2.1 (dck_at da_X12_leaves 4 rfl) rfl (lv_at hl 0 rfl) ?_
  refine gr_getI X G Y fk_RX12_240 clM_0 rfl (dck_at da_X12_leaves 5 rfl) ?_
  refine lv_ishl X.1 X.2.1 (dck_at da_X12_leaves 6 rfl) ?_
  refine lv_iconst X.1 X.2.1 (dck_at da_X12_leaves 7 rfl) ki_1 ?_
  refine lv_isub X.1 X.2.1 (dck_at da_X12_leaves 8 rfl) ?_
  refine lv_i2l (v := (((1 : Int32) <<< ((s0.1 0 31) &&& 31)) - (1 : Int32)).toInt64) X.1 X.2.1 (dck_at da_X12_leaves 9 rfl) rfl ?_
  obtain ⟨r2, s2, hc, h⟩ := gB2_some h
  refine gr_backi Y (gr_runS (as := [.long ((a1).toInt64), .long (0 : Int64), .long ((((1 : Int32) <<< ((s0.1 0 31) &&& 31)) - (1 : Int32)).toInt64)]) (rest := []) X G Y (ok_m_in hc) cs_RX12_126 ⟨Nat.le_of_ble_eq_true rfl, Nat.le_of_ble_eq_true rfl⟩ rfl hl.1 (Nat.le_of_ble_eq_true rfl) (dck_at da_X12_leaves 10 rfl)) (fun H locs Y => ?_)
  refine lv_if_eq (tgt := 28) X.1 X.2.1 (dck_at da_X12_leaves 11 rfl) rfl (fun c => ?_) (fun c => ?_)
  · have h := gI_pos h c
    exact b28 s2 _ _ _ h Y (lv_sub hl [0] rfl)
  · have h := gI_neg h c
    refine lv_iload_n X.1 X.2.1 (dck_at da_X12_leaves 12 rfl) rfl (lv_at hl 2 rfl) ?_
    refine lv_i2l (v := (a2).toInt64) X.1 X.2.1 (dck_at da_X12_leaves 13 rfl) rfl ?_
    refine lv_lconst (v := 0) X.1 X.2.1 (dck_at da_X12_leaves 14 rfl) rfl ?_
    refine lv_lconst (v := 1) X.1 X.2.1 (dck_at da_X12_leaves 15 rfl) rfl ?_
    obtain ⟨r3, s3, hc, h⟩ := gB2_some h
    refine gr_backi Y (gr_runS (as := [.long ((a2).toInt64), .long (0 : Int64), .long (1 : Int64)]) (rest := []) X G Y (ok_m_in hc) cs_RX12_126 ⟨Nat.le_of_ble_eq_true rfl, Nat.le_of_ble_eq_true rfl⟩ rfl hl.1 (Nat.le_of_ble_eq_true rfl) (dck_at da_X12_leaves 16 rfl)) (fun H locs Y => ?_)
    refine lv_if_ne (tgt := 36) X.1 X.2.1 (dck_at da_X12_leaves 17 rfl) rfl (fun c => ?_) (fun c => ?_)
    · have h := gI_neg h c
      refine lv_aload_n X.1 X.2.1 (dck_at da_X12_leaves 22 rfl) rfl (lv_at hl 0 rfl) ?_
      refine lv_iload_n X.1 X.2.1 (dck_at da_X12_leaves 23 rfl) rfl (lv_at hl 1 rfl) ?_
      obtain ⟨r4, s4, hc, h⟩ := gB2_some h
      refine gr_backl Y (gr_runV (as := [.int a1]) (rest := []) X G Y (ok_m_leavesOf hc) cv_RX12_307 clM_0 ⟨Nat.le_of_ble_eq_true rfl, Nat.le_of_ble_eq_true rfl⟩ rfl hl.1 (Nat.le_of_ble_eq_true rfl) (dck_at da_X12_leaves 24 rfl)) (fun H locs Y => ?_)
      refine lv_lconst (v := 1) X.1 X.2.1 (dck_at da_X12_leaves 25 rfl) rfl ?_
      refine lv_iconst X.1 X.2.1 (dck_at da_X12_leaves 26 rfl) ki_4 ?_
      refine lv_aload_n X.1 X.2.1 (dck_at da_X12_leaves 27 rfl) rfl (lv_at hl 0 rfl) ?_
      refine gr_getI X G Y fk_RX12_240 clM_0 rfl (dck_at da_X12_leaves 28 rfl) ?_
      refine lv_imul X.1 X.2.1 (dck_at da_X12_leaves 29 rfl) ?_
      refine lv_lshl (v := ((1 : Int64)) <<< (((4 : Int32) * (s4.1 0 31)).toInt64 &&& 63)) X.1 X.2.1 (dck_at da_X12_leaves 30 rfl) rfl ?_
      refine lv_iload_n X.1 X.2.1 (dck_at da_X12_leaves 31 rfl) rfl (lv_at hl 2 rfl) ?_
      obtain ⟨r5, s5, hc, h⟩ := gB2_some h
      refine gr_backl Y (gr_runS (as := [.long r4, .long (((1 : Int64)) <<< (((4 : Int32) * (s4.1 0 31)).toInt64 &&& 63)), .int a2]) (rest := []) X G Y (ok_m_lowest hc) cs_RX12_224 ⟨Nat.le_of_ble_eq_true rfl, Nat.le_of_ble_eq_true rfl⟩ rfl hl.1 (Nat.le_of_ble_eq_true rfl) (dck_at da_X12_leaves 32 rfl)) (fun H locs Y => ?_)
      exact gr_lretO X Y h hr hlk (dck_at da_X12_leaves 33 rfl)
    · have h := gI_pos h c
      exact b28 s3 _ _ _ h Y (lv_sub hl [0] rfl)
set_option maxRecDepth 100000 in
set_option maxHeartbeats 4000000 in
theorem ok_m_least {l : Launch} {D : va_G} {cy : Nat → ClassId} {ad sa : Nat → Nat} {A : Nat → Prop} {F : Nat} {a1 : Int32} {a2 : Int32} {s0 : St} {ρ : Int32} {σ' : St} (h : m_least F a1 a2 s0 = some (ρ, σ')) : gMi l shM D cy ad sa A yX12_least cX12_least 8 (some .int) 3 [.ref (ad 0), .int a1, .int a2] s0 ρ σ' := by
  refine gM_of (by decide) (Nat.le_of_ble_eq_true rfl) ?_
  intro p e s m args below meth c ls X G Y hr hlk hl
  have hl : lv_has ls 8 [(0, .ref (ad 0)), (1, .int a1), (2, .int a2)] := hl
  have b22 : ∀  (s0 : St) (H : Heap) (locs : List Loc) (ls : Array Slot), m_least_J22 F  s0 = some (ρ, σ') → gY shM D cy ad A s0 s H locs → lv_has ls 8 [(0, .ref (ad 0))] → W p l e (grm 3) s m args below meth c H locs 0 0 (MQ below (va_Qi (fun (q : Int32) (_ : Unit) => q = ρ) (fun _ t => va_P D vwCl (gWl shM cy ad σ') t.heap) A) args s 0 0 A) (F0 m 22 ls []) := by
    intro s0 H locs ls h Y hl
    unfold m_least_J22 at h
    refine lv_aload_n X.1 X.2.1 (dck_at da_X12_least 12 rfl) rfl (lv_at hl 0 rfl) ?_
    refine lv_iconst X.1 X.2.1 (dck_at da_X12_least 13 rfl) ki_m1 ?_
    obtain ⟨r1, s1, hc, h⟩ := gB2_some h
    refine gr_backi Y (gr_runV (as := [.int (-1 : Int32)]) (rest := []) X G Y (ok_m_tells hc) cv_RX12_130 clM_0 ⟨Nat.le_of_ble_eq_true rfl, Nat.le_of_ble_eq_true rfl⟩ rfl hl.1 (Nat.le_of_ble_eq_true rfl) (dck_at da_X12_least 14 rfl)) (fun H locs Y => ?_)
    exact gr_iretO X Y h hr rfl hlk (dck_at da_X12_least 15 rfl)
  have b37 : ∀ n : Nat, ∀ (x1 : Int32) (x2 : Int32) (x3 : Int32) (x4 : Int32) (x5 : Int32) (s0 : St) (H : Heap) (locs : List Loc) (ls : Array Slot), m_least_L37 F  n x1 x2 x3 x4 x5 s0 = some (ρ, σ') → gY shM D cy ad A s0 s H locs → lv_has ls 8 [(0, .ref (ad 0)), (1, .int x1), (2, .int x2), (3, .int x3), (4, .int x4), (5, .int x5)] → W p l e (grm 3) s m args below meth c H locs 0 0 (MQ below (va_Qi (fun (q : Int32) (_ : Unit) => q = ρ) (fun _ t => va_P D vwCl (gWl shM cy ad σ') t.heap) A) args s 0 0 A) (F0 m 37 ls []) := by
    intro n
    induction n with
    | zero => intro x1 x2 x3 x4 x5 s0 H locs ls h Y hl; exact (gnone h).elim
    | succ n hk37 =>
      have e : m_least_L37 F  (n + 1) = m_least_L37b F  (m_least_L37 F  n) := rfl
      rw [e]; clear e
      generalize m_least_L37 F  n = k37 at hk37 ⊢
      have b156 : ∀ (x1 : Int32) (x2 : Int32) (x3 : Int32) (x5 : Int32) (y0 : Int32) (s0 : St) (H : Heap) (locs : List Loc) (ls : Array Slot), m_least_J156 F k37 x1 x2 x3 x5 y0 s0 = some (ρ, σ') → gY shM D cy ad A s0 s H locs → lv_has ls 8 [(0, .ref (ad 0)), (1, .int x1), (2, .int x2), (3, .int x3), (5, .int x5)] → W p l e (grm 3) s m args below meth c H locs 0 0 (MQ below (va_Qi (fun (q : Int32) (_ : Unit) => q = ρ) (fun _ t => va_P D vwCl (gWl shM cy ad σ') t.heap) A) args s 0 0 A) (F0 m 156 ls [.int y0]) := by
        intro x1 x2 x3 x5 y0 s0 H locs ls h Y hl
        unfold m_least_J156 at h
        refine lv_istore (lv' := [(4, .int y0), (0, .ref (ad 0)), (1, .int x1), (2, .int x2), (3, .int x3), (5, .int x5)]) X.1 X.2.1 (dck_at da_X12_least 87 rfl) hl (by decide) rfl (fun ls hl => ?_)
        refine lv_iinc (v := x5 + (1 : Int32)) (lv' := [(5, .int (x5 + (1 : Int32))), (4, .int y0), (0, .ref (ad 0)), (1, .int x1), (2, .int x2), (3, .int x3)]) X.1 X.2.1 (dck_at da_X12_least 88 rfl) hl (k := 5) rfl (congrArg (HAdd.hAdd _) ki_1) (by decide) rfl (fun ls hl => ?_)
        refine lv_goto (tgt := 37) X.1 X.2.1 (dck_at da_X12_least 89 rfl) rfl ?_
        exact hk37 x1 x2 x3 y0 (x5 + (1 : Int32)) s0 _ _ _ h Y (lv_sub hl [2, 3, 4, 5, 1, 0] rfl)
      have b143 : ∀ (x1 : Int32) (x2 : Int32) (x4 : Int32) (x5 : Int32) (x6 : Int32) (x7 : Int32) (y0 : Int32) (s0 : St) (H : Heap) (locs : List Loc) (ls : Array Slot), m_least_J143 F k37 x1 x2 x4 x5 x6 x7 y0 s0 = some (ρ, σ') → gY shM D cy ad A s0 s H locs → lv_has ls 8 [(0, .ref (ad 0)), (1, .int x1), (2, .int x2), (4, .int x4), (5, .int x5), (6, .int x6), (7, .int x7)] → W p l e (grm 3) s m args below meth c H locs 0 0 (MQ below (va_Qi (fun (q : Int32) (_ : Unit) => q = ρ) (fun _ t => va_P D vwCl (gWl shM cy ad σ') t.heap) A) args s 0 0 A) (F0 m 143 ls [.int y0]) := by
        intro x1 x2 x4 x5 x6 x7 y0 s0 H locs ls h Y hl
        unfold m_least_J143 at h
        refine lv_istore_n (lv' := [(3, .int y0), (0, .ref (ad 0)), (1, .int x1), (2, .int x2), (4, .int x4), (5, .int x5), (6, .int x6), (7, .int x7)]) X.1 X.2.1 (dck_at da_X12_least 81 rfl) rfl hl (by decide) rfl (fun ls hl => ?_)
        refine lv_iload X.1 X.2.1 (dck_at da_X12_least 82 rfl) (lv_at hl 7 rfl) ?_
        refine lv_if_eq (tgt := 154) X.1 X.2.1 (dck_at da_X12_least 83 rfl) rfl (fun c => ?_) (fun c => ?_)
        · have h := gI_pos h c
          refine lv_iload X.1 X.2.1 (dck_at da_X12_least 86 rfl) (lv_at hl 4 rfl) ?_
          exact b156 x1 x2 y0 x5 x4 s0 _ _ _ h Y (lv_sub hl [1, 2, 3, 0, 5] rfl)
        · have h := gI_neg h c
          refine lv_iload X.1 X.2.1 (dck_at da_X12_least 84 rfl) (lv_at hl 6 rfl) ?_
          refine lv_goto (tgt := 156) X.1 X.2.1 (dck_at da_X12_least 85 rfl) rfl ?_
          exact b156 x1 x2 y0 x5 x6 s0 _ _ _ h Y (lv_sub hl [1, 2, 3, 0, 5] rfl)
      have b130 : ∀ (x1 : Int32) (x2 : Int32) (x3 : Int32) (x4 : Int32) (x5 : Int32) (x6 : Int32) (y0 : Int32) (s0 : St) (H : Heap) (locs : List Loc) (ls : Array Slot), m_least_J130 F k37 x1 x2 x3 x4 x5 x6 y0 s0 = some (ρ, σ') → gY shM D cy ad A s0 s H locs → lv_has ls 8 [(0, .ref (ad 0)), (1, .int x1), (2, .int x2), (3, .int x3), (4, .int x4), (5, .int x5), (6, .int x6)] → W p l e (grm 3) s m args below meth c H locs 0 0 (MQ below (va_Qi (fun (q : Int32) (_ : Unit) => q = ρ) (fun _ t => va_P D vwCl (gWl shM cy ad σ') t.heap) A) args s 0 0 A) (F0 m 130 ls [.int y0]) := by
        intro x1 x2 x3 x4 x5 x6 y0 s0 H locs ls h Y hl
        unfold m_least_J130 at h
        refine lv_istore (lv' := [(7, .int y0), (0, .ref (ad 0)), (1, .int x1), (2, .int x2), (3, .int x3), (4, .int x4), (5, .int x5), (6, .int x6)]) X.1 X.2.1 (dck_at da_X12_least 75 rfl) hl (by decide) rfl (fun ls hl => ?_)
        refine lv_iload X.1 X.2.1 (dck_at da_X12_least 76 rfl) (lv_at hl 0 rfl) ?_
        refine lv_if_eq (tgt := 142) X.1 X.2.1 (dck_at da_X12_least 77 rfl) rfl (fun c => ?_) (fun c => ?_)
        · have h := gI_pos h c
          refine lv_iload_n X.1 X.2.1 (dck_at da_X12_least 80 rfl) rfl (lv_at hl 4 rfl) ?_
          exact b143 x1 x2 x4 x5 x6 y0 x3 s0 _ _ _ h Y (lv_sub hl [1, 2, 3, 5, 6, 7, 0] rfl)
        · have h := gI_neg h c
          refine lv_iload X.1 X.2.1 (dck_at da_X12_least 78 rfl) (lv_at hl 6 rfl) ?_
          refine lv_goto (tgt := 143) X.1 X.2.1 (dck_at da_X12_least 79 rfl) rfl ?_
          exact b143 x1 x2 x4 x5 x6 y0 x5 s0 _ _ _ h Y (lv_sub hl [1, 2, 3, 5, 6, 7, 0] rfl)
      have b129 : ∀ (x1 : Int32) (x2 : Int32) (x3 : Int32) (x4 : Int32) (x5 : Int32) (x6 : Int32) (s0 : St) (H : Heap) (locs : List Loc) (ls : Array Slot), m_least_J129 F k37 x1 x2 x3 x4 x5 x6 s0 = some (ρ, σ') → gY shM D cy ad A s0 s H locs → lv_has ls 8 [(0, .ref (ad 0)), (1, .int x1), (2, .int x2), (3, .int x3), (4, .int x4), (5, .int x5), (6, .int x6)] → W p l e (grm 3) s m args below meth c H locs 0 0 (MQ below (va_Qi (fun (q : Int32) (_ : Unit) => q = ρ) (fun _ t => va_P D vwCl (gWl shM cy ad σ') t.heap) A) args s 0 0 A) (F0 m 129 ls []) := by
        intro x1 x2 x3 x4 x5 x6 s0 H locs ls h Y hl
        unfold m_least_J129 at h
        refine lv_iconst X.1 X.2.1 (dck_at da_X12_least 74 rfl) ki_0 ?_
        exact b130 x1 x2 x3 x4 x5 x6 (0 : Int32) s0 _ _ _ h Y (lv_sub hl [0, 1, 2, 3, 4, 5, 6] rfl)
      have b125 : ∀ (x1 : Int32) (x2 : Int32) (x3 : Int32) (x4 : Int32) (x5 : Int32) (x6 : Int32) (s0 : St) (H : Heap) (locs : List Loc) (ls : Array Slot), m_least_J125 F k37 x1 x2 x3 x4 x5 x6 s0 = some (ρ, σ') → gY shM D cy ad A s0 s H locs → lv_has ls 8 [(0, .ref (ad 0)), (1, .int x1), (2, .int x2), (3, .int x3), (4, .int x4), (5, .int x5), (6, .int x6)] → W p l e (grm 3) s m args below meth c H locs 0 0 (MQ below (va_Qi (fun (q : Int32) (_ : Unit) => q = ρ) (fun _ t => va_P D vwCl (gWl shM cy ad σ') t.heap) A) args s 0 0 A) (F0 m 125 ls []) := by
        intro x1 x2 x3 x4 x5 x6 s0 H locs ls h Y hl
        unfold m_least_J125 at h
        refine lv_iconst X.1 X.2.1 (dck_at da_X12_least 72 rfl) ki_1 ?_
        refine lv_goto (tgt := 130) X.1 X.2.1 (dck_at da_X12_least 73 rfl) rfl ?_
        exact b130 x1 x2 x3 x4 x5 x6 (1 : Int32) s0 _ _ _ h Y (lv_sub hl [0, 1, 2, 3, 4, 5, 6] rfl)
      have b54 : ∀ n : Nat, ∀ (x1 : Int32) (x2 : Int32) (x3 : Int32) (x4 : Int32) (x5 : Int32) (x6 : Int32) (x7 : Int32) (s0 : St) (H : Heap) (locs : List Loc) (ls : Array Slot), m_least_L54 F k37 n x1 x2 x3 x4 x5 x6 x7 s0 = some (ρ, σ') → gY shM D cy ad A s0 s H locs → lv_has ls 8 [(0, .ref (ad 0)), (1, .int x1), (2, .int x2), (3, .int x3), (4, .int x4), (5, .int x5), (6, .int x6), (7, .int x7)] → W p l e (grm 3) s m args below meth c H locs 0 0 (MQ below (va_Qi (fun (q : Int32) (_ : Unit) => q = ρ) (fun _ t => va_P D vwCl (gWl shM cy ad σ') t.heap) A) args s 0 0 A) (F0 m 54 ls []) := by
        intro n
        induction n with
        | zero => intro x1 x2 x3 x4 x5 x6 x7 s0 H locs ls h Y hl; exact (gnone h).elim
        | succ n hk54 =>
          have e : m_least_L54 F k37 (n + 1) = m_least_L54b F k37 (m_least_L54 F k37 n) := rfl
          rw [e]; clear e
          generalize m_least_L54 F k37 n = k54 at hk54 ⊢
          intro x1 x2 x3 x4 x5 x6 x7 s0 H locs ls h Y hl
          unfold m_least_L54b at h
          refine lv_iload X.1 X.2.1 (dck_at da_X12_least 32 rfl) (lv_at hl 7 rfl) ?_
          refine lv_aload_n X.1 X.2.1 (dck_at da_X12_least 33 rfl) rfl (lv_at hl 0 rfl) ?_
          refine gr_getI X G Y fk_RX12_240 clM_0 rfl (dck_at da_X12_least 34 rfl) ?_
          refine lv_icmp_ge (tgt := 89) X.1 X.2.1 (dck_at da_X12_least 35 rfl) rfl (fun c => ?_) (fun c => ?_)
          · have h := gI_pos h c
            refine lv_aload_n X.1 X.2.1 (dck_at da_X12_least 51 rfl) rfl (lv_at hl 0 rfl) ?_
            refine lv_iload X.1 X.2.1 (dck_at da_X12_least 52 rfl) (lv_at hl 5 rfl) ?_
            obtain ⟨r2, s2, hc, h⟩ := gB2_some h
            refine gr_backl Y (gr_runV (as := [.int x5]) (rest := []) X G Y (ok_m_leavesOf hc) cv_RX12_307 clM_0 ⟨Nat.le_of_ble_eq_true rfl, Nat.le_of_ble_eq_true rfl⟩ rfl hl.1 (Nat.le_of_ble_eq_true rfl) (dck_at da_X12_least 53 rfl)) (fun H locs Y => ?_)
            refine lv_ldc2 X.1 X.2.1 X.2.2.2.1 (X.2.2.2.2 _ wm_1442) (dck_at da_X12_least 54 rfl) ?_
            refine lv_lmul X.1 X.2.1 (dck_at da_X12_least 55 rfl) ?_
            refine lv_iload_n X.1 X.2.1 (dck_at da_X12_least 56 rfl) rfl (lv_at hl 1 rfl) ?_
            refine lv_i2l (v := (x1).toInt64) X.1 X.2.1 (dck_at da_X12_least 57 rfl) rfl ?_
            refine lv_lconst (v := 1) X.1 X.2.1 (dck_at da_X12_least 58 rfl) rfl ?_
            refine lv_iconst X.1 X.2.1 (dck_at da_X12_least 59 rfl) ki_4 ?_
            refine lv_aload_n X.1 X.2.1 (dck_at da_X12_least 60 rfl) rfl (lv_at hl 0 rfl) ?_
            refine gr_getI X G Y fk_RX12_240 clM_0 rfl (dck_at da_X12_least 61 rfl) ?_
            refine lv_imul X.1 X.2.1 (dck_at da_X12_least 62 rfl) ?_
            refine lv_lshl (v := ((1 : Int64)) <<< (((4 : Int32) * (s2.1 0 31)).toInt64 &&& 63)) X.1 X.2.1 (dck_at da_X12_least 63 rfl) rfl ?_
            refine lv_lmul X.1 X.2.1 (dck_at da_X12_least 64 rfl) ?_
            refine W.lcmp X.1 X.2.1 (dck_at da_X12_least 65 rfl) ?_
            refine lv_if_gt (tgt := 129) X.1 X.2.1 (dck_at da_X12_least 66 rfl) rfl (fun c => ?_) (fun c => ?_)
            · have h := gI_pos h c
              exact b129 x1 x2 x3 x4 x5 x6 s2 _ _ _ h Y (lv_sub hl [0, 1, 2, 3, 4, 5, 6] rfl)
            · have h := gI_neg h c
              refine lv_iload_n X.1 X.2.1 (dck_at da_X12_least 67 rfl) rfl (lv_at hl 3 rfl) ?_
              refine lv_if_lt (tgt := 125) X.1 X.2.1 (dck_at da_X12_least 68 rfl) rfl (fun c => ?_) (fun c => ?_)
              · have h := gI_pos h c
                exact b125 x1 x2 x3 x4 x5 x6 s2 _ _ _ h Y (lv_sub hl [0, 1, 2, 3, 4, 5, 6] rfl)
              · have h := gI_neg h c
                refine lv_iload X.1 X.2.1 (dck_at da_X12_least 69 rfl) (lv_at hl 6 rfl) ?_
                refine lv_iload X.1 X.2.1 (dck_at da_X12_least 70 rfl) (lv_at hl 4 rfl) ?_
                refine lv_icmp_ge (tgt := 129) X.1 X.2.1 (dck_at da_X12_least 71 rfl) rfl (fun c => ?_) (fun c => ?_)
                · have h := gI_pos h c
                  exact b129 x1 x2 x3 x4 x5 x6 s2 _ _ _ h Y (lv_sub hl [0, 1, 2, 3, 4, 5, 6] rfl)
                · have h := gI_neg h c
                  exact b125 x1 x2 x3 x4 x5 x6 s2 _ _ _ h Y (lv_sub hl [0, 1, 2, 3, 4, 5, 6] rfl)
          · have h := gI_neg h c
            refine lv_iload X.1 X.2.1 (dck_at da_X12_least 36 rfl) (lv_at hl 6 rfl) ?_
            refine lv_iload X.1 X.2.1 (dck_at da_X12_least 37 rfl) (lv_at hl 5 rfl) ?_
            refine lv_iload X.1 X.2.1 (dck_at da_X12_least 38 rfl) (lv_at hl 7 rfl) ?_
            refine lv_ishr X.1 X.2.1 (dck_at da_X12_least 39 rfl) ?_
            refine lv_iconst X.1 X.2.1 (dck_at da_X12_least 40 rfl) ki_1 ?_
            refine lv_iand X.1 X.2.1 (dck_at da_X12_least 41 rfl) ?_
            refine lv_aload_n X.1 X.2.1 (dck_at da_X12_least 42 rfl) rfl (lv_at hl 0 rfl) ?_
            refine gr_getR X G Y fk_RX12_83 clM_0 rfl (dck_at da_X12_least 43 rfl) ?_
            refine lv_iload X.1 X.2.1 (dck_at da_X12_least 44 rfl) (lv_at hl 7 rfl) ?_
            obtain ⟨hin, h⟩ := gI_if h
            refine gr_iald X G Y clM_25 hin (dck_at da_X12_least 45 rfl) ?_
            refine lv_imul X.1 X.2.1 (dck_at da_X12_least 46 rfl) ?_
            refine lv_iadd X.1 X.2.1 (dck_at da_X12_least 47 rfl) ?_
            refine lv_istore (lv' := [(6, .int (x6 + (((x5 >>> (x7 &&& 31)) &&& (1 : Int32)) * (s0.1 25 (x7).toNatClampNeg)))), (0, .ref (ad 0)), (1, .int x1), (2, .int x2), (3, .int x3), (4, .int x4), (5, .int x5), (7, .int x7)]) X.1 X.2.1 (dck_at da_X12_least 48 rfl) hl (by decide) rfl (fun ls hl => ?_)
            refine lv_iinc (v := x7 + (1 : Int32)) (lv' := [(7, .int (x7 + (1 : Int32))), (6, .int (x6 + (((x5 >>> (x7 &&& 31)) &&& (1 : Int32)) * (s0.1 25 (x7).toNatClampNeg)))), (0, .ref (ad 0)), (1, .int x1), (2, .int x2), (3, .int x3), (4, .int x4), (5, .int x5)]) X.1 X.2.1 (dck_at da_X12_least 49 rfl) hl (k := 7) rfl (congrArg (HAdd.hAdd _) ki_1) (by decide) rfl (fun ls hl => ?_)
            refine lv_goto (tgt := 54) X.1 X.2.1 (dck_at da_X12_least 50 rfl) rfl ?_
            exact hk54 x1 x2 x3 x4 x5 (x6 + (((x5 >>> (x7 &&& 31)) &&& (1 : Int32)) * (s0.1 25 (x7).toNatClampNeg))) (x7 + (1 : Int32)) s0 _ _ _ h Y (lv_sub hl [2, 3, 4, 5, 6, 7, 1, 0] rfl)
      intro x1 x2 x3 x4 x5 s0 H locs ls h Y hl
      unfold m_least_L37b at h
      refine lv_iload X.1 X.2.1 (dck_at da_X12_least 22 rfl) (lv_at hl 5 rfl) ?_
      refine lv_iconst X.1 X.2.1 (dck_at da_X12_least 23 rfl) ki_1 ?_
      refine lv_aload_n X.1 X.2.1 (dck_at da_X12_least 24 rfl) rfl (lv_at hl 0 rfl) ?_
      refine gr_getI X G Y fk_RX12_240 clM_0 rfl (dck_at da_X12_least 25 rfl) ?_
      refine lv_ishl X.1 X.2.1 (dck_at da_X12_least 26 rfl) ?_
      refine lv_icmp_ge (tgt := 164) X.1 X.2.1 (dck_at da_X12_least 27 rfl) rfl (fun c => ?_) (fun c => ?_)
      · have h := gI_pos h c
        refine lv_iload_n X.1 X.2.1 (dck_at da_X12_least 90 rfl) rfl (lv_at hl 3 rfl) ?_
        refine lv_if_ge (tgt := 177) X.1 X.2.1 (dck_at da_X12_least 91 rfl) rfl (fun c => ?_) (fun c => ?_)
        · have h := gI_pos h c
          refine lv_iload_n X.1 X.2.1 (dck_at da_X12_least 96 rfl) rfl (lv_at hl 2 rfl) ?_
          refine lv_if_ne (tgt := 185) X.1 X.2.1 (dck_at da_X12_least 97 rfl) rfl (fun c => ?_) (fun c => ?_)
          · have h := gI_neg h c
            refine lv_iload X.1 X.2.1 (dck_at da_X12_least 100 rfl) (lv_at hl 4 rfl) ?_
            exact gr_iretO X Y h hr rfl hlk (dck_at da_X12_least 101 rfl)
          · have h := gI_pos h c
            refine lv_iload_n X.1 X.2.1 (dck_at da_X12_least 98 rfl) rfl (lv_at hl 3 rfl) ?_
            refine lv_goto (tgt := 187) X.1 X.2.1 (dck_at da_X12_least 99 rfl) rfl ?_
            exact gr_iretO X Y h hr rfl hlk (dck_at da_X12_least 101 rfl)
        · have h := gI_neg h c
          refine lv_aload_n X.1 X.2.1 (dck_at da_X12_least 92 rfl) rfl (lv_at hl 0 rfl) ?_
          refine lv_bipush X.1 X.2.1 (dck_at da_X12_least 93 rfl) kb_m4 ?_
          obtain ⟨r3, s3, hc, h⟩ := gB2_some h
          refine gr_backi Y (gr_runV (as := [.int (-4 : Int32)]) (rest := []) X G Y (ok_m_tells hc) cv_RX12_130 clM_0 ⟨Nat.le_of_ble_eq_true rfl, Nat.le_of_ble_eq_true rfl⟩ rfl hl.1 (Nat.le_of_ble_eq_true rfl) (dck_at da_X12_least 94 rfl)) (fun H locs Y => ?_)
          refine lv_goto (tgt := 187) X.1 X.2.1 (dck_at da_X12_least 95 rfl) rfl ?_
          exact gr_iretO X Y h hr rfl hlk (dck_at da_X12_least 101 rfl)
      · have h := gI_neg h c
        refine lv_iconst X.1 X.2.1 (dck_at da_X12_least 28 rfl) ki_0 ?_
        refine lv_istore (lv' := [(6, .int (0 : Int32)), (0, .ref (ad 0)), (1, .int x1), (2, .int x2), (3, .int x3), (4, .int x4), (5, .int x5)]) X.1 X.2.1 (dck_at da_X12_least 29 rfl) hl (by decide) rfl (fun ls hl => ?_)
        refine lv_iconst X.1 X.2.1 (dck_at da_X12_least 30 rfl) ki_0 ?_
        refine lv_istore (lv' := [(7, .int (0 : Int32)), (6, .int (0 : Int32)), (0, .ref (ad 0)), (1, .int x1), (2, .int x2), (3, .int x3), (4, .int x4), (5, .int x5)]) X.1 X.2.1 (dck_at da_X12_least 31 rfl) hl (by decide) rfl (fun ls hl => ?_)
        exact b54 F x1 x2 x3 x4 x5 (0 : Int32) (0 : Int32) s0 _ _ _ h Y (lv_sub hl [2, 3, 4, 5, 6, 7, 1, 0] rfl)
  unfold m_least at h
  refine lv_iload_n X.1 X.2.1 (dck_at da_X12_least 0 rfl) rfl (lv_at hl 1 rfl) ?_
  refine lv_i2l (v := (a1).toInt64) X.1 X.2.1 (dck_at da_X12_least 1 rfl) rfl ?_
  refine lv_lconst (v := 0) X.1 X.2.1 (dck_at da_X12_least 2 rfl) rfl ?_
  refine lv_ldc2 X.1 X.2.1 X.2.2.2.1 (X.2.2.2.2 _ wm_1442) (dck_at da_X12_least 3 rfl) ?_
  obtain ⟨r4, s4, hc, h⟩ := gB2_some h
  refine gr_backi Y (gr_runS (as := [.long ((a1).toInt64), .long (0 : Int64), .long (16 : Int64)]) (rest := []) X G Y (ok_m_in hc) cs_RX12_126 ⟨Nat.le_of_ble_eq_true rfl, Nat.le_of_ble_eq_true rfl⟩ rfl hl.1 (Nat.le_of_ble_eq_true rfl) (dck_at da_X12_least 4 rfl)) (fun H locs Y => ?_)
  refine lv_if_eq (tgt := 22) X.1 X.2.1 (dck_at da_X12_least 5 rfl) rfl (fun c => ?_) (fun c => ?_)
  · have h := gI_pos h c
    exact b22 s4 _ _ _ h Y (lv_sub hl [0] rfl)
  · have h := gI_neg h c
    refine lv_iload_n X.1 X.2.1 (dck_at da_X12_least 6 rfl) rfl (lv_at hl 2 rfl) ?_
    refine lv_i2l (v := (a2).toInt64) X.1 X.2.1 (dck_at da_X12_least 7 rfl) rfl ?_
    refine lv_lconst (v := 0) X.1 X.2.1 (dck_at da_X12_least 8 rfl) rfl ?_
    refine lv_lconst (v := 1) X.1 X.2.1 (dck_at da_X12_least 9 rfl) rfl ?_
    obtain ⟨r5, s5, hc, h⟩ := gB2_some h
    refine gr_backi Y (gr_runS (as := [.long ((a2).toInt64), .long (0 : Int64), .long (1 : Int64)]) (rest := []) X G Y (ok_m_in hc) cs_RX12_126 ⟨Nat.le_of_ble_eq_true rfl, Nat.le_of_ble_eq_true rfl⟩ rfl hl.1 (Nat.le_of_ble_eq_true rfl) (dck_at da_X12_least 10 rfl)) (fun H locs Y => ?_)
    refine lv_if_ne (tgt := 28) X.1 X.2.1 (dck_at da_X12_least 11 rfl) rfl (fun c => ?_) (fun c => ?_)
    · have h := gI_neg h c
      refine lv_bipush X.1 X.2.1 (dck_at da_X12_least 16 rfl) kb_m4 ?_
      refine lv_istore_n (lv' := [(3, .int (-4 : Int32)), (0, .ref (ad 0)), (1, .int a1), (2, .int a2)]) X.1 X.2.1 (dck_at da_X12_least 17 rfl) rfl hl (by decide) rfl (fun ls hl => ?_)
      refine lv_iconst X.1 X.2.1 (dck_at da_X12_least 18 rfl) ki_0 ?_
      refine lv_istore (lv' := [(4, .int (0 : Int32)), (3, .int (-4 : Int32)), (0, .ref (ad 0)), (1, .int a1), (2, .int a2)]) X.1 X.2.1 (dck_at da_X12_least 19 rfl) hl (by decide) rfl (fun ls hl => ?_)
      refine lv_iconst X.1 X.2.1 (dck_at da_X12_least 20 rfl) ki_0 ?_
      refine lv_istore (lv' := [(5, .int (0 : Int32)), (4, .int (0 : Int32)), (3, .int (-4 : Int32)), (0, .ref (ad 0)), (1, .int a1), (2, .int a2)]) X.1 X.2.1 (dck_at da_X12_least 21 rfl) hl (by decide) rfl (fun ls hl => ?_)
      exact b37 F a1 a2 (-4 : Int32) (0 : Int32) (0 : Int32) s5 _ _ _ h Y (lv_sub hl [3, 4, 5, 2, 1, 0] rfl)
    · have h := gI_pos h c
      exact b22 s5 _ _ _ h Y (lv_sub hl [0] rfl)
set_option maxRecDepth 100000 in
set_option maxHeartbeats 4000000 in
theorem ok_m_netOf {l : Launch} {D : va_G} {cy : Nat → ClassId} {ad sa : Nat → Nat} {A : Nat → Prop} {F : Nat} {a1 : Int32} {a2 : Int32} {s0 : St} {ρ : Int64} {σ' : St} (h : m_netOf F a1 a2 s0 = some (ρ, σ')) : gMl l shM D cy ad sa A yX12_netOf cX12_netOf 8 (some .long) 3 [.ref (ad 0), .int a1, .int a2] s0 ρ σ' := by
  refine gM_of (by decide) (Nat.le_of_ble_eq_true rfl) ?_
  intro p e s m args below meth c ls X G Y hr hlk hl
  have hl : lv_has ls 8 [(0, .ref (ad 0)), (1, .int a1), (2, .int a2)] := hl
  have b5 : ∀ n : Nat, ∀ (x1 : Int32) (x2 : Int32) (x3 : Int64) (x5 : Int32) (s0 : St) (H : Heap) (locs : List Loc) (ls : Array Slot), m_netOf_L5 F  n x1 x2 x3 x5 s0 = some (ρ, σ') → gY shM D cy ad A s0 s H locs → lv_has ls 8 [(0, .ref (ad 0)), (1, .int x1), (2, .int x2), (3, .long x3), (5, .int x5)] → W p l e (grm 3) s m args below meth c H locs 0 0 (MQ below (va_Ql (fun (q : Int64) (_ : Unit) => q = ρ) (fun _ t => va_P D vwCl (gWl shM cy ad σ') t.heap) A) args s 0 0 A) (F0 m 5 ls []) := by
    intro n
    induction n with
    | zero => intro x1 x2 x3 x5 s0 H locs ls h Y hl; exact (gnone h).elim
    | succ n hk5 =>
      have e : m_netOf_L5 F  (n + 1) = m_netOf_L5b F  (m_netOf_L5 F  n) := rfl
      rw [e]; clear e
      generalize m_netOf_L5 F  n = k5 at hk5 ⊢
      have b85 : ∀ (x1 : Int32) (x2 : Int32) (x5 : Int32) (y0 : Int64) (y1 : Int64) (s0 : St) (H : Heap) (locs : List Loc) (ls : Array Slot), m_netOf_J85 F k5 x1 x2 x5 y0 y1 s0 = some (ρ, σ') → gY shM D cy ad A s0 s H locs → lv_has ls 8 [(0, .ref (ad 0)), (1, .int x1), (2, .int x2), (5, .int x5)] → W p l e (grm 3) s m args below meth c H locs 0 0 (MQ below (va_Ql (fun (q : Int64) (_ : Unit) => q = ρ) (fun _ t => va_P D vwCl (gWl shM cy ad σ') t.heap) A) args s 0 0 A) (F0 m 85 ls [.long y1, .long y0]) := by
        intro x1 x2 x5 y0 y1 s0 H locs ls h Y hl
        unfold m_netOf_J85 at h
        refine lv_ladd X.1 X.2.1 (dck_at da_X12_netOf 45 rfl) ?_
        refine lv_lstore_n (lv' := [(3, .long (y0 + y1)), (0, .ref (ad 0)), (1, .int x1), (2, .int x2), (5, .int x5)]) X.1 X.2.1 (dck_at da_X12_netOf 46 rfl) rfl hl (by decide) rfl (fun ls hl => ?_)
        refine lv_iinc (v := x5 + (1 : Int32)) (lv' := [(5, .int (x5 + (1 : Int32))), (3, .long (y0 + y1)), (0, .ref (ad 0)), (1, .int x1), (2, .int x2)]) X.1 X.2.1 (dck_at da_X12_netOf 47 rfl) hl (k := 4) rfl (congrArg (HAdd.hAdd _) ki_1) (by decide) rfl (fun ls hl => ?_)
        refine lv_goto (tgt := 5) X.1 X.2.1 (dck_at da_X12_netOf 48 rfl) rfl ?_
        exact hk5 x1 x2 (y0 + y1) (x5 + (1 : Int32)) s0 _ _ _ h Y (lv_sub hl [2, 3, 4, 1, 0] rfl)
      have b69 : ∀ (x1 : Int32) (x2 : Int32) (x3 : Int64) (x5 : Int32) (x6 : Int32) (s0 : St) (H : Heap) (locs : List Loc) (ls : Array Slot), m_netOf_J69 F k5 x1 x2 x3 x5 x6 s0 = some (ρ, σ') → gY shM D cy ad A s0 s H locs → lv_has ls 8 [(0, .ref (ad 0)), (1, .int x1), (2, .int x2), (3, .long x3), (5, .int x5), (6, .int x6)] → W p l e (grm 3) s m args below meth c H locs 0 0 (MQ below (va_Ql (fun (q : Int64) (_ : Unit) => q = ρ) (fun _ t => va_P D vwCl (gWl shM cy ad σ') t.heap) A) args s 0 0 A) (F0 m 69 ls []) := by
        intro x1 x2 x3 x5 x6 s0 H locs ls h Y hl
        unfold m_netOf_J69 at h
        refine lv_lload_n X.1 X.2.1 (dck_at da_X12_netOf 37 rfl) rfl (lv_at hl 3 rfl) ?_
        refine lv_iload X.1 X.2.1 (dck_at da_X12_netOf 38 rfl) (lv_at hl 5 rfl) ?_
        refine lv_if_eq (tgt := 84) X.1 X.2.1 (dck_at da_X12_netOf 39 rfl) rfl (fun c => ?_) (fun c => ?_)
        · have h := gI_pos h c
          refine lv_lconst (v := 0) X.1 X.2.1 (dck_at da_X12_netOf 44 rfl) rfl ?_
          exact b85 x1 x2 x5 x3 (0 : Int64) s0 _ _ _ h Y (lv_sub hl [0, 1, 2, 4] rfl)
        · have h := gI_neg h c
          refine lv_aload_n X.1 X.2.1 (dck_at da_X12_netOf 40 rfl) rfl (lv_at hl 0 rfl) ?_
          refine lv_iload X.1 X.2.1 (dck_at da_X12_netOf 41 rfl) (lv_at hl 4 rfl) ?_
          obtain ⟨r1, s1, hc, h⟩ := gB2_some h
          refine gr_backl Y (gr_runV (as := [.int x5]) (rest := [.long x3]) X G Y (ok_m_partsOf hc) cv_RX12_214 clM_0 ⟨Nat.le_of_ble_eq_true rfl, Nat.le_of_ble_eq_true rfl⟩ rfl hl.1 (Nat.le_of_ble_eq_true rfl) (dck_at da_X12_netOf 42 rfl)) (fun H locs Y => ?_)
          refine lv_goto (tgt := 85) X.1 X.2.1 (dck_at da_X12_netOf 43 rfl) rfl ?_
          exact b85 x1 x2 x5 x3 r1 s1 _ _ _ h Y (lv_sub hl [0, 1, 2, 4] rfl)
      have b19 : ∀ n : Nat, ∀ (x1 : Int32) (x2 : Int32) (x3 : Int64) (x5 : Int32) (x6 : Int32) (x7 : Int32) (s0 : St) (H : Heap) (locs : List Loc) (ls : Array Slot), m_netOf_L19 F k5 n x1 x2 x3 x5 x6 x7 s0 = some (ρ, σ') → gY shM D cy ad A s0 s H locs → lv_has ls 8 [(0, .ref (ad 0)), (1, .int x1), (2, .int x2), (3, .long x3), (5, .int x5), (6, .int x6), (7, .int x7)] → W p l e (grm 3) s m args below meth c H locs 0 0 (MQ below (va_Ql (fun (q : Int64) (_ : Unit) => q = ρ) (fun _ t => va_P D vwCl (gWl shM cy ad σ') t.heap) A) args s 0 0 A) (F0 m 19 ls []) := by
        intro n
        induction n with
        | zero => intro x1 x2 x3 x5 x6 x7 s0 H locs ls h Y hl; exact (gnone h).elim
        | succ n hk19 =>
          have e : m_netOf_L19 F k5 (n + 1) = m_netOf_L19b F k5 (m_netOf_L19 F k5 n) := rfl
          rw [e]; clear e
          generalize m_netOf_L19 F k5 n = k19 at hk19 ⊢
          have b61 : ∀ (x1 : Int32) (x2 : Int32) (x3 : Int64) (x5 : Int32) (x7 : Int32) (y0 : Int32) (s0 : St) (H : Heap) (locs : List Loc) (ls : Array Slot), m_netOf_J61 F k5 k19 x1 x2 x3 x5 x7 y0 s0 = some (ρ, σ') → gY shM D cy ad A s0 s H locs → lv_has ls 8 [(0, .ref (ad 0)), (1, .int x1), (2, .int x2), (3, .long x3), (5, .int x5), (7, .int x7)] → W p l e (grm 3) s m args below meth c H locs 0 0 (MQ below (va_Ql (fun (q : Int64) (_ : Unit) => q = ρ) (fun _ t => va_P D vwCl (gWl shM cy ad σ') t.heap) A) args s 0 0 A) (F0 m 61 ls [.int y0]) := by
            intro x1 x2 x3 x5 x7 y0 s0 H locs ls h Y hl
            unfold m_netOf_J61 at h
            refine lv_istore (lv' := [(6, .int y0), (0, .ref (ad 0)), (1, .int x1), (2, .int x2), (3, .long x3), (5, .int x5), (7, .int x7)]) X.1 X.2.1 (dck_at da_X12_netOf 34 rfl) hl (by decide) rfl (fun ls hl => ?_)
            refine lv_iinc (v := x7 + (1 : Int32)) (lv' := [(7, .int (x7 + (1 : Int32))), (6, .int y0), (0, .ref (ad 0)), (1, .int x1), (2, .int x2), (3, .long x3), (5, .int x5)]) X.1 X.2.1 (dck_at da_X12_netOf 35 rfl) hl (k := 6) rfl (congrArg (HAdd.hAdd _) ki_1) (by decide) rfl (fun ls hl => ?_)
            refine lv_goto (tgt := 19) X.1 X.2.1 (dck_at da_X12_netOf 36 rfl) rfl ?_
            exact hk19 x1 x2 x3 x5 y0 (x7 + (1 : Int32)) s0 _ _ _ h Y (lv_sub hl [2, 3, 4, 5, 6, 1, 0] rfl)
          have b60 : ∀ (x1 : Int32) (x2 : Int32) (x3 : Int64) (x5 : Int32) (x7 : Int32) (s0 : St) (H : Heap) (locs : List Loc) (ls : Array Slot), m_netOf_J60 F k5 k19 x1 x2 x3 x5 x7 s0 = some (ρ, σ') → gY shM D cy ad A s0 s H locs → lv_has ls 8 [(0, .ref (ad 0)), (1, .int x1), (2, .int x2), (3, .long x3), (5, .int x5), (7, .int x7)] → W p l e (grm 3) s m args below meth c H locs 0 0 (MQ below (va_Ql (fun (q : Int64) (_ : Unit) => q = ρ) (fun _ t => va_P D vwCl (gWl shM cy ad σ') t.heap) A) args s 0 0 A) (F0 m 60 ls []) := by
            intro x1 x2 x3 x5 x7 s0 H locs ls h Y hl
            unfold m_netOf_J60 at h
            refine lv_iconst X.1 X.2.1 (dck_at da_X12_netOf 33 rfl) ki_0 ?_
            exact b61 x1 x2 x3 x5 x7 (0 : Int32) s0 _ _ _ h Y (lv_sub hl [0, 1, 2, 3, 4, 5] rfl)
          intro x1 x2 x3 x5 x6 x7 s0 H locs ls h Y hl
          unfold m_netOf_L19b at h
          refine lv_iload X.1 X.2.1 (dck_at da_X12_netOf 11 rfl) (lv_at hl 6 rfl) ?_
          refine lv_iload_n X.1 X.2.1 (dck_at da_X12_netOf 12 rfl) rfl (lv_at hl 2 rfl) ?_
          refine lv_icmp_ge (tgt := 69) X.1 X.2.1 (dck_at da_X12_netOf 13 rfl) rfl (fun c => ?_) (fun c => ?_)
          · have h := gI_pos h c
            exact b69 x1 x2 x3 x5 x6 s0 _ _ _ h Y (lv_sub hl [0, 1, 2, 3, 4, 5] rfl)
          · have h := gI_neg h c
            refine lv_iload X.1 X.2.1 (dck_at da_X12_netOf 14 rfl) (lv_at hl 5 rfl) ?_
            refine lv_if_ne (tgt := 69) X.1 X.2.1 (dck_at da_X12_netOf 15 rfl) rfl (fun c => ?_) (fun c => ?_)
            · have h := gI_neg h c
              exact b69 x1 x2 x3 x5 x6 s0 _ _ _ h Y (lv_sub hl [0, 1, 2, 3, 4, 5] rfl)
            · have h := gI_pos h c
              refine lv_iload_n X.1 X.2.1 (dck_at da_X12_netOf 16 rfl) rfl (lv_at hl 1 rfl) ?_
              refine lv_iload X.1 X.2.1 (dck_at da_X12_netOf 17 rfl) (lv_at hl 6 rfl) ?_
              refine lv_ishr X.1 X.2.1 (dck_at da_X12_netOf 18 rfl) ?_
              refine lv_iconst X.1 X.2.1 (dck_at da_X12_netOf 19 rfl) ki_1 ?_
              refine lv_iand X.1 X.2.1 (dck_at da_X12_netOf 20 rfl) ?_
              refine lv_iconst X.1 X.2.1 (dck_at da_X12_netOf 21 rfl) ki_1 ?_
              refine lv_icmp_ne (tgt := 60) X.1 X.2.1 (dck_at da_X12_netOf 22 rfl) rfl (fun c => ?_) (fun c => ?_)
              · have h := gI_neg h c
                exact b60 x1 x2 x3 x5 x7 s0 _ _ _ h Y (lv_sub hl [0, 1, 2, 3, 4, 6] rfl)
              · have h := gI_pos h c
                refine lv_iload X.1 X.2.1 (dck_at da_X12_netOf 23 rfl) (lv_at hl 4 rfl) ?_
                refine lv_aload_n X.1 X.2.1 (dck_at da_X12_netOf 24 rfl) rfl (lv_at hl 0 rfl) ?_
                refine gr_getR X G Y fk_RX12_86 clM_0 rfl (dck_at da_X12_netOf 25 rfl) ?_
                refine lv_iload X.1 X.2.1 (dck_at da_X12_netOf 26 rfl) (lv_at hl 6 rfl) ?_
                obtain ⟨hin, h⟩ := gI_if h
                refine gr_iald X G Y clM_26 hin (dck_at da_X12_netOf 27 rfl) ?_
                obtain ⟨r2, s2, hc, h⟩ := gB2_some h
                refine gr_backi Y (gr_runS (as := [.int x5, .int (s0.1 26 (x7).toNatClampNeg)]) (rest := []) X G Y (ok_m_apart hc) cs_RX12_285 ⟨Nat.le_of_ble_eq_true rfl, Nat.le_of_ble_eq_true rfl⟩ rfl hl.1 (Nat.le_of_ble_eq_true rfl) (dck_at da_X12_netOf 28 rfl)) (fun H locs Y => ?_)
                refine lv_iconst X.1 X.2.1 (dck_at da_X12_netOf 29 rfl) ki_2 ?_
                refine lv_icmp_ge (tgt := 60) X.1 X.2.1 (dck_at da_X12_netOf 30 rfl) rfl (fun c => ?_) (fun c => ?_)
                · have h := gI_pos h c
                  exact b60 x1 x2 x3 x5 x7 s2 _ _ _ h Y (lv_sub hl [0, 1, 2, 3, 4, 6] rfl)
                · have h := gI_neg h c
                  refine lv_iconst X.1 X.2.1 (dck_at da_X12_netOf 31 rfl) ki_1 ?_
                  refine lv_goto (tgt := 61) X.1 X.2.1 (dck_at da_X12_netOf 32 rfl) rfl ?_
                  exact b61 x1 x2 x3 x5 x7 (1 : Int32) s2 _ _ _ h Y (lv_sub hl [0, 1, 2, 3, 4, 6] rfl)
      intro x1 x2 x3 x5 s0 H locs ls h Y hl
      unfold m_netOf_L5b at h
      refine lv_iload X.1 X.2.1 (dck_at da_X12_netOf 4 rfl) (lv_at hl 4 rfl) ?_
      refine lv_sipush X.1 X.2.1 (dck_at da_X12_netOf 5 rfl) ks_144 ?_
      refine lv_icmp_ge (tgt := 93) X.1 X.2.1 (dck_at da_X12_netOf 6 rfl) rfl (fun c => ?_) (fun c => ?_)
      · have h := gI_pos h c
        refine lv_lload_n X.1 X.2.1 (dck_at da_X12_netOf 49 rfl) rfl (lv_at hl 3 rfl) ?_
        exact gr_lretO X Y h hr hlk (dck_at da_X12_netOf 50 rfl)
      · have h := gI_neg h c
        refine lv_iconst X.1 X.2.1 (dck_at da_X12_netOf 7 rfl) ki_0 ?_
        refine lv_istore (lv' := [(6, .int (0 : Int32)), (0, .ref (ad 0)), (1, .int x1), (2, .int x2), (3, .long x3), (5, .int x5)]) X.1 X.2.1 (dck_at da_X12_netOf 8 rfl) hl (by decide) rfl (fun ls hl => ?_)
        refine lv_iconst X.1 X.2.1 (dck_at da_X12_netOf 9 rfl) ki_0 ?_
        refine lv_istore (lv' := [(7, .int (0 : Int32)), (6, .int (0 : Int32)), (0, .ref (ad 0)), (1, .int x1), (2, .int x2), (3, .long x3), (5, .int x5)]) X.1 X.2.1 (dck_at da_X12_netOf 10 rfl) hl (by decide) rfl (fun ls hl => ?_)
        exact b19 F x1 x2 x3 x5 (0 : Int32) (0 : Int32) s0 _ _ _ h Y (lv_sub hl [2, 3, 4, 5, 6, 1, 0] rfl)
  unfold m_netOf at h
  refine lv_lconst (v := 0) X.1 X.2.1 (dck_at da_X12_netOf 0 rfl) rfl ?_
  refine lv_lstore_n (lv' := [(3, .long (0 : Int64)), (0, .ref (ad 0)), (1, .int a1), (2, .int a2)]) X.1 X.2.1 (dck_at da_X12_netOf 1 rfl) rfl hl (by decide) rfl (fun ls hl => ?_)
  refine lv_iconst X.1 X.2.1 (dck_at da_X12_netOf 2 rfl) ki_0 ?_
  refine lv_istore (lv' := [(5, .int (0 : Int32)), (3, .long (0 : Int64)), (0, .ref (ad 0)), (1, .int a1), (2, .int a2)]) X.1 X.2.1 (dck_at da_X12_netOf 3 rfl) hl (by decide) rfl (fun ls hl => ?_)
  exact b5 F a1 a2 (0 : Int64) (0 : Int32) s0 _ _ _ h Y (lv_sub hl [2, 3, 4, 1, 0] rfl)
set_option maxRecDepth 100000 in
set_option maxHeartbeats 4000000 in
theorem ok_m_isAhead {l : Launch} {D : va_G} {cy : Nat → ClassId} {ad sa : Nat → Nat} {A : Nat → Prop} {F : Nat} {a0 : Int32} {a1 : Int32} {s0 : St} {ρ : Int32} {σ' : St} (h : m_isAhead F a0 a1 s0 = some (ρ, σ')) : gMi l shM D cy ad sa A yX12_isAhead cX12_isAhead 3 (some .boolean) 1 [.int a0, .int a1] s0 ρ σ' := by
  refine gM_of (by decide) (Nat.le_of_ble_eq_true rfl) ?_
  intro p e s m args below meth c ls X G Y hr hlk hl
  have hl : lv_has ls 3 [(0, .int a0), (1, .int a1)] := hl
  unfold m_isAhead at h
  refine lv_iload_n X.1 X.2.1 (dck_at da_X12_isAhead 0 rfl) rfl (lv_at hl 0 rfl) ?_
  refine lv_iload_n X.1 X.2.1 (dck_at da_X12_isAhead 1 rfl) rfl (lv_at hl 1 rfl) ?_
  refine lv_ixor X.1 X.2.1 (dck_at da_X12_isAhead 2 rfl) ?_
  refine lv_istore_n (lv' := [(2, .int (a0 ^^^ a1)), (0, .int a0), (1, .int a1)]) X.1 X.2.1 (dck_at da_X12_isAhead 3 rfl) rfl hl (by decide) rfl (fun ls hl => ?_)
  refine lv_iload_n X.1 X.2.1 (dck_at da_X12_isAhead 4 rfl) rfl (lv_at hl 1 rfl) ?_
  refine lv_iload_n X.1 X.2.1 (dck_at da_X12_isAhead 5 rfl) rfl (lv_at hl 0 rfl) ?_
  refine lv_iand X.1 X.2.1 (dck_at da_X12_isAhead 6 rfl) ?_
  refine lv_iload_n X.1 X.2.1 (dck_at da_X12_isAhead 7 rfl) rfl (lv_at hl 0 rfl) ?_
  refine lv_ineg X.1 X.2.1 (dck_at da_X12_isAhead 8 rfl) ?_
  refine lv_iand X.1 X.2.1 (dck_at da_X12_isAhead 9 rfl) ?_
  refine lv_if_eq (tgt := 17) X.1 X.2.1 (dck_at da_X12_isAhead 10 rfl) rfl (fun c => ?_) (fun c => ?_)
  · have h := gI_pos h c
    refine lv_iconst X.1 X.2.1 (dck_at da_X12_isAhead 13 rfl) ki_0 ?_
    exact gr_iretO X Y h hr rfl hlk (dck_at da_X12_isAhead 14 rfl)
  · have h := gI_neg h c
    refine lv_iconst X.1 X.2.1 (dck_at da_X12_isAhead 11 rfl) ki_1 ?_
    refine lv_goto (tgt := 18) X.1 X.2.1 (dck_at da_X12_isAhead 12 rfl) rfl ?_
    exact gr_iretO X Y h hr rfl hlk (dck_at da_X12_isAhead 14 rfl)
set_option maxRecDepth 100000 in
set_option maxHeartbeats 4000000 in
theorem ok_m_net {l : Launch} {D : va_G} {cy : Nat → ClassId} {ad sa : Nat → Nat} {A : Nat → Prop} {F : Nat} {a1 : Int32} {a2 : Int32} {s0 : St} {ρ : Int64} {σ' : St} (h : m_net F a1 a2 s0 = some (ρ, σ')) : gMl l shM D cy ad sa A yX12_net cX12_net 12 (some .long) 4 [.ref (ad 0), .int a1, .int a2] s0 ρ σ' := by
  refine gM_of (by decide) (Nat.le_of_ble_eq_true rfl) ?_
  intro p e s m args below meth c ls X G Y hr hlk hl
  have hl : lv_has ls 12 [(0, .ref (ad 0)), (1, .int a1), (2, .int a2)] := hl
  have b27 : ∀  (s0 : St) (H : Heap) (locs : List Loc) (ls : Array Slot), m_net_J27 F  s0 = some (ρ, σ') → gY shM D cy ad A s0 s H locs → lv_has ls 12 [(0, .ref (ad 0))] → W p l e (grm 4) s m args below meth c H locs 0 0 (MQ below (va_Ql (fun (q : Int64) (_ : Unit) => q = ρ) (fun _ t => va_P D vwCl (gWl shM cy ad σ') t.heap) A) args s 0 0 A) (F0 m 27 ls []) := by
    intro s0 H locs ls h Y hl
    unfold m_net_J27 at h
    refine lv_aload_n X.1 X.2.1 (dck_at da_X12_net 15 rfl) rfl (lv_at hl 0 rfl) ?_
    refine lv_ldc2 X.1 X.2.1 X.2.2.2.1 (X.2.2.2.2 _ wm_1295) (dck_at da_X12_net 16 rfl) ?_
    obtain ⟨r1, s1, hc, h⟩ := gB2_some h
    refine gr_backl Y (gr_runV (as := [.long (-1 : Int64)]) (rest := []) X G Y (ok_m_says hc) cv_RX12_120 clM_0 ⟨Nat.le_of_ble_eq_true rfl, Nat.le_of_ble_eq_true rfl⟩ rfl hl.1 (Nat.le_of_ble_eq_true rfl) (dck_at da_X12_net 17 rfl)) (fun H locs Y => ?_)
    exact gr_lretO X Y h hr hlk (dck_at da_X12_net 18 rfl)
  have b258 : ∀ n : Nat, ∀ (x2 : Int32) (x5 : Int64) (x7 : Int32) (x8 : Int32) (s0 : St) (H : Heap) (locs : List Loc) (ls : Array Slot), m_net_L258 F  n x2 x5 x7 x8 s0 = some (ρ, σ') → gY shM D cy ad A s0 s H locs → lv_has ls 12 [(0, .ref (ad 0)), (2, .int x2), (5, .long x5), (7, .int x7), (8, .int x8)] → W p l e (grm 4) s m args below meth c H locs 0 0 (MQ below (va_Ql (fun (q : Int64) (_ : Unit) => q = ρ) (fun _ t => va_P D vwCl (gWl shM cy ad σ') t.heap) A) args s 0 0 A) (F0 m 258 ls []) := by
    intro n
    induction n with
    | zero => intro x2 x5 x7 x8 s0 H locs ls h Y hl; exact (gnone h).elim
    | succ n hk258 =>
      have e : m_net_L258 F  (n + 1) = m_net_L258b F  (m_net_L258 F  n) := rfl
      rw [e]; clear e
      generalize m_net_L258 F  n = k258 at hk258 ⊢
      intro x2 x5 x7 x8 s0 H locs ls h Y hl
      unfold m_net_L258b at h
      refine lv_iload X.1 X.2.1 (dck_at da_X12_net 133 rfl) (lv_at hl 3 rfl) ?_
      refine lv_iload X.1 X.2.1 (dck_at da_X12_net 134 rfl) (lv_at hl 4 rfl) ?_
      refine lv_ishr X.1 X.2.1 (dck_at da_X12_net 135 rfl) ?_
      refine lv_iconst X.1 X.2.1 (dck_at da_X12_net 136 rfl) ki_1 ?_
      refine lv_iand X.1 X.2.1 (dck_at da_X12_net 137 rfl) ?_
      refine lv_if_ne (tgt := 274) X.1 X.2.1 (dck_at da_X12_net 138 rfl) rfl (fun c => ?_) (fun c => ?_)
      · have h := gI_neg h c
        refine lv_iload_n X.1 X.2.1 (dck_at da_X12_net 141 rfl) rfl (lv_at hl 1 rfl) ?_
        refine lv_if_ge (tgt := 283) X.1 X.2.1 (dck_at da_X12_net 142 rfl) rfl (fun c => ?_) (fun c => ?_)
        · have h := gI_pos h c
          refine lv_aload_n X.1 X.2.1 (dck_at da_X12_net 145 rfl) rfl (lv_at hl 0 rfl) ?_
          refine gr_getR X G Y fk_RX12_86 clM_0 rfl (dck_at da_X12_net 146 rfl) ?_
          refine lv_iload X.1 X.2.1 (dck_at da_X12_net 147 rfl) (lv_at hl 4 rfl) ?_
          obtain ⟨hin, h⟩ := gI_if h
          refine gr_iald X G Y clM_26 hin (dck_at da_X12_net 148 rfl) ?_
          refine lv_i2l (v := (s0.1 26 (x8).toNatClampNeg).toInt64) X.1 X.2.1 (dck_at da_X12_net 149 rfl) rfl ?_
          exact gr_lretO X Y h hr hlk (dck_at da_X12_net 150 rfl)
        · have h := gI_neg h c
          refine lv_lload X.1 X.2.1 (dck_at da_X12_net 143 rfl) (lv_at hl 2 rfl) ?_
          refine lv_goto (tgt := 291) X.1 X.2.1 (dck_at da_X12_net 144 rfl) rfl ?_
          exact gr_lretO X Y h hr hlk (dck_at da_X12_net 150 rfl)
      · have h := gI_pos h c
        refine lv_iinc (v := x8 + (1 : Int32)) (lv' := [(8, .int (x8 + (1 : Int32))), (0, .ref (ad 0)), (2, .int x2), (5, .long x5), (7, .int x7)]) X.1 X.2.1 (dck_at da_X12_net 139 rfl) hl (k := 4) rfl (congrArg (HAdd.hAdd _) ki_1) (by decide) rfl (fun ls hl => ?_)
        refine lv_goto (tgt := 258) X.1 X.2.1 (dck_at da_X12_net 140 rfl) rfl ?_
        exact hk258 x2 x5 x7 (x8 + (1 : Int32)) s0 _ _ _ h Y (lv_sub hl [1, 2, 3, 4, 0] rfl)
  have b234 : ∀ n : Nat, ∀ (x2 : Int32) (x5 : Int64) (x7 : Int32) (x8 : Int32) (s0 : St) (H : Heap) (locs : List Loc) (ls : Array Slot), m_net_L234 F  n x2 x5 x7 x8 s0 = some (ρ, σ') → gY shM D cy ad A s0 s H locs → lv_has ls 12 [(0, .ref (ad 0)), (2, .int x2), (5, .long x5), (7, .int x7), (8, .int x8)] → W p l e (grm 4) s m args below meth c H locs 0 0 (MQ below (va_Ql (fun (q : Int64) (_ : Unit) => q = ρ) (fun _ t => va_P D vwCl (gWl shM cy ad σ') t.heap) A) args s 0 0 A) (F0 m 234 ls []) := by
    intro n
    induction n with
    | zero => intro x2 x5 x7 x8 s0 H locs ls h Y hl; exact (gnone h).elim
    | succ n hk234 =>
      have e : m_net_L234 F  (n + 1) = m_net_L234b F  (m_net_L234 F  n) := rfl
      rw [e]; clear e
      generalize m_net_L234 F  n = k234 at hk234 ⊢
      intro x2 x5 x7 x8 s0 H locs ls h Y hl
      unfold m_net_L234b at h
      refine lv_iload X.1 X.2.1 (dck_at da_X12_net 120 rfl) (lv_at hl 4 rfl) ?_
      refine lv_iload_n X.1 X.2.1 (dck_at da_X12_net 121 rfl) rfl (lv_at hl 1 rfl) ?_
      refine lv_icmp_ge (tgt := 255) X.1 X.2.1 (dck_at da_X12_net 122 rfl) rfl (fun c => ?_) (fun c => ?_)
      · have h := gI_pos h c
        refine lv_iconst X.1 X.2.1 (dck_at da_X12_net 131 rfl) ki_0 ?_
        refine lv_istore (lv' := [(8, .int (0 : Int32)), (0, .ref (ad 0)), (2, .int x2), (5, .long x5), (7, .int x7)]) X.1 X.2.1 (dck_at da_X12_net 132 rfl) hl (by decide) rfl (fun ls hl => ?_)
        exact b258 F x2 x5 x7 (0 : Int32) s0 _ _ _ h Y (lv_sub hl [1, 2, 3, 4, 0] rfl)
      · have h := gI_neg h c
        refine lv_iload X.1 X.2.1 (dck_at da_X12_net 123 rfl) (lv_at hl 3 rfl) ?_
        refine lv_iload X.1 X.2.1 (dck_at da_X12_net 124 rfl) (lv_at hl 3 rfl) ?_
        refine lv_iconst X.1 X.2.1 (dck_at da_X12_net 125 rfl) ki_1 ?_
        refine lv_isub X.1 X.2.1 (dck_at da_X12_net 126 rfl) ?_
        refine lv_iand X.1 X.2.1 (dck_at da_X12_net 127 rfl) ?_
        refine lv_istore (lv' := [(7, .int (x7 &&& (x7 - (1 : Int32)))), (0, .ref (ad 0)), (2, .int x2), (5, .long x5), (8, .int x8)]) X.1 X.2.1 (dck_at da_X12_net 128 rfl) hl (by decide) rfl (fun ls hl => ?_)
        refine lv_iinc (v := x8 + (1 : Int32)) (lv' := [(8, .int (x8 + (1 : Int32))), (7, .int (x7 &&& (x7 - (1 : Int32)))), (0, .ref (ad 0)), (2, .int x2), (5, .long x5)]) X.1 X.2.1 (dck_at da_X12_net 129 rfl) hl (k := 4) rfl (congrArg (HAdd.hAdd _) ki_1) (by decide) rfl (fun ls hl => ?_)
        refine lv_goto (tgt := 234) X.1 X.2.1 (dck_at da_X12_net 130 rfl) rfl ?_
        exact hk234 x2 x5 (x7 &&& (x7 - (1 : Int32))) (x8 + (1 : Int32)) s0 _ _ _ h Y (lv_sub hl [2, 3, 4, 1, 0] rfl)
  have b107 : ∀ n : Nat, ∀ (x1 : Int32) (x2 : Int32) (x3 : Int32) (x4 : Int32) (x5 : Int64) (x7 : Int32) (s0 : St) (H : Heap) (locs : List Loc) (ls : Array Slot), m_net_L107 F  n x1 x2 x3 x4 x5 x7 s0 = some (ρ, σ') → gY shM D cy ad A s0 s H locs → lv_has ls 12 [(0, .ref (ad 0)), (1, .int x1), (2, .int x2), (3, .int x3), (4, .int x4), (5, .long x5), (7, .int x7)] → W p l e (grm 4) s m args below meth c H locs 0 0 (MQ below (va_Ql (fun (q : Int64) (_ : Unit) => q = ρ) (fun _ t => va_P D vwCl (gWl shM cy ad σ') t.heap) A) args s 0 0 A) (F0 m 107 ls []) := by
    intro n
    induction n with
    | zero => intro x1 x2 x3 x4 x5 x7 s0 H locs ls h Y hl; exact (gnone h).elim
    | succ n hk107 =>
      have e : m_net_L107 F  (n + 1) = m_net_L107b F  (m_net_L107 F  n) := rfl
      rw [e]; clear e
      generalize m_net_L107 F  n = k107 at hk107 ⊢
      have b221 : ∀ (x1 : Int32) (x2 : Int32) (x3 : Int32) (x4 : Int32) (x5 : Int64) (x7 : Int32) (s0 : St) (H : Heap) (locs : List Loc) (ls : Array Slot), m_net_J221 F k107 x1 x2 x3 x4 x5 x7 s0 = some (ρ, σ') → gY shM D cy ad A s0 s H locs → lv_has ls 12 [(0, .ref (ad 0)), (1, .int x1), (2, .int x2), (3, .int x3), (4, .int x4), (5, .long x5), (7, .int x7)] → W p l e (grm 4) s m args below meth c H locs 0 0 (MQ below (va_Ql (fun (q : Int64) (_ : Unit) => q = ρ) (fun _ t => va_P D vwCl (gWl shM cy ad σ') t.heap) A) args s 0 0 A) (F0 m 221 ls []) := by
        intro x1 x2 x3 x4 x5 x7 s0 H locs ls h Y hl
        unfold m_net_J221 at h
        refine lv_iinc (v := x7 + (1 : Int32)) (lv' := [(7, .int (x7 + (1 : Int32))), (0, .ref (ad 0)), (1, .int x1), (2, .int x2), (3, .int x3), (4, .int x4), (5, .long x5)]) X.1 X.2.1 (dck_at da_X12_net 114 rfl) hl (k := 6) rfl (congrArg (HAdd.hAdd _) ki_1) (by decide) rfl (fun ls hl => ?_)
        refine lv_goto (tgt := 107) X.1 X.2.1 (dck_at da_X12_net 115 rfl) rfl ?_
        exact hk107 x1 x2 x3 x4 x5 (x7 + (1 : Int32)) s0 _ _ _ h Y (lv_sub hl [1, 2, 3, 4, 5, 6, 0] rfl)
      have b219 : ∀ (x1 : Int32) (x2 : Int32) (x3 : Int32) (x4 : Int32) (x7 : Int32) (y0 : Int64) (s0 : St) (H : Heap) (locs : List Loc) (ls : Array Slot), m_net_J219 F k107 x1 x2 x3 x4 x7 y0 s0 = some (ρ, σ') → gY shM D cy ad A s0 s H locs → lv_has ls 12 [(0, .ref (ad 0)), (1, .int x1), (2, .int x2), (3, .int x3), (4, .int x4), (7, .int x7)] → W p l e (grm 4) s m args below meth c H locs 0 0 (MQ below (va_Ql (fun (q : Int64) (_ : Unit) => q = ρ) (fun _ t => va_P D vwCl (gWl shM cy ad σ') t.heap) A) args s 0 0 A) (F0 m 219 ls [.long y0]) := by
        intro x1 x2 x3 x4 x7 y0 s0 H locs ls h Y hl
        unfold m_net_J219 at h
        refine lv_lstore (lv' := [(5, .long y0), (0, .ref (ad 0)), (1, .int x1), (2, .int x2), (3, .int x3), (4, .int x4), (7, .int x7)]) X.1 X.2.1 (dck_at da_X12_net 113 rfl) hl (by decide) rfl (fun ls hl => ?_)
        exact b221 x1 x2 x3 x4 y0 x7 s0 _ _ _ h Y (lv_sub hl [1, 2, 3, 4, 5, 0, 6] rfl)
      have b205 : ∀ (x1 : Int32) (x2 : Int32) (x3 : Int32) (x5 : Int64) (x7 : Int32) (x9 : Int64) (x11 : Int32) (y0 : Int32) (s0 : St) (H : Heap) (locs : List Loc) (ls : Array Slot), m_net_J205 F k107 x1 x2 x3 x5 x7 x9 x11 y0 s0 = some (ρ, σ') → gY shM D cy ad A s0 s H locs → lv_has ls 12 [(0, .ref (ad 0)), (1, .int x1), (2, .int x2), (3, .int x3), (5, .long x5), (7, .int x7), (9, .long x9), (11, .int x11)] → W p l e (grm 4) s m args below meth c H locs 0 0 (MQ below (va_Ql (fun (q : Int64) (_ : Unit) => q = ρ) (fun _ t => va_P D vwCl (gWl shM cy ad σ') t.heap) A) args s 0 0 A) (F0 m 205 ls [.int y0]) := by
        intro x1 x2 x3 x5 x7 x9 x11 y0 s0 H locs ls h Y hl
        unfold m_net_J205 at h
        refine lv_istore (lv' := [(4, .int y0), (0, .ref (ad 0)), (1, .int x1), (2, .int x2), (3, .int x3), (5, .long x5), (7, .int x7), (9, .long x9), (11, .int x11)]) X.1 X.2.1 (dck_at da_X12_net 107 rfl) hl (by decide) rfl (fun ls hl => ?_)
        refine lv_iload X.1 X.2.1 (dck_at da_X12_net 108 rfl) (lv_at hl 8 rfl) ?_
        refine lv_if_eq (tgt := 217) X.1 X.2.1 (dck_at da_X12_net 109 rfl) rfl (fun c => ?_) (fun c => ?_)
        · have h := gI_pos h c
          refine lv_lload X.1 X.2.1 (dck_at da_X12_net 112 rfl) (lv_at hl 5 rfl) ?_
          exact b219 x1 x2 x3 y0 x7 x5 s0 _ _ _ h Y (lv_sub hl [1, 2, 3, 4, 0, 6] rfl)
        · have h := gI_neg h c
          refine lv_lload X.1 X.2.1 (dck_at da_X12_net 110 rfl) (lv_at hl 7 rfl) ?_
          refine lv_goto (tgt := 219) X.1 X.2.1 (dck_at da_X12_net 111 rfl) rfl ?_
          exact b219 x1 x2 x3 y0 x7 x9 s0 _ _ _ h Y (lv_sub hl [1, 2, 3, 4, 0, 6] rfl)
      have b191 : ∀ (x1 : Int32) (x2 : Int32) (x3 : Int32) (x4 : Int32) (x5 : Int64) (x7 : Int32) (x9 : Int64) (y0 : Int32) (s0 : St) (H : Heap) (locs : List Loc) (ls : Array Slot), m_net_J191 F k107 x1 x2 x3 x4 x5 x7 x9 y0 s0 = some (ρ, σ') → gY shM D cy ad A s0 s H locs → lv_has ls 12 [(0, .ref (ad 0)), (1, .int x1), (2, .int x2), (3, .int x3), (4, .int x4), (5, .long x5), (7, .int x7), (9, .long x9)] → W p l e (grm 4) s m args below meth c H locs 0 0 (MQ below (va_Ql (fun (q : Int64) (_ : Unit) => q = ρ) (fun _ t => va_P D vwCl (gWl shM cy ad σ') t.heap) A) args s 0 0 A) (F0 m 191 ls [.int y0]) := by
        intro x1 x2 x3 x4 x5 x7 x9 y0 s0 H locs ls h Y hl
        unfold m_net_J191 at h
        refine lv_istore (lv' := [(11, .int y0), (0, .ref (ad 0)), (1, .int x1), (2, .int x2), (3, .int x3), (4, .int x4), (5, .long x5), (7, .int x7), (9, .long x9)]) X.1 X.2.1 (dck_at da_X12_net 101 rfl) hl (by decide) rfl (fun ls hl => ?_)
        refine lv_iload X.1 X.2.1 (dck_at da_X12_net 102 rfl) (lv_at hl 0 rfl) ?_
        refine lv_if_eq (tgt := 203) X.1 X.2.1 (dck_at da_X12_net 103 rfl) rfl (fun c => ?_) (fun c => ?_)
        · have h := gI_pos h c
          refine lv_iload X.1 X.2.1 (dck_at da_X12_net 106 rfl) (lv_at hl 5 rfl) ?_
          exact b205 x1 x2 x3 x5 x7 x9 y0 x4 s0 _ _ _ h Y (lv_sub hl [1, 2, 3, 4, 6, 7, 8, 0] rfl)
        · have h := gI_neg h c
          refine lv_iload X.1 X.2.1 (dck_at da_X12_net 104 rfl) (lv_at hl 7 rfl) ?_
          refine lv_goto (tgt := 205) X.1 X.2.1 (dck_at da_X12_net 105 rfl) rfl ?_
          exact b205 x1 x2 x3 x5 x7 x9 y0 x7 s0 _ _ _ h Y (lv_sub hl [1, 2, 3, 4, 6, 7, 8, 0] rfl)
      have b186 : ∀ (x1 : Int32) (x2 : Int32) (x3 : Int32) (x4 : Int32) (x5 : Int64) (x7 : Int32) (x9 : Int64) (s0 : St) (H : Heap) (locs : List Loc) (ls : Array Slot), m_net_J186 F k107 x1 x2 x3 x4 x5 x7 x9 s0 = some (ρ, σ') → gY shM D cy ad A s0 s H locs → lv_has ls 12 [(0, .ref (ad 0)), (1, .int x1), (2, .int x2), (3, .int x3), (4, .int x4), (5, .long x5), (7, .int x7), (9, .long x9)] → W p l e (grm 4) s m args below meth c H locs 0 0 (MQ below (va_Ql (fun (q : Int64) (_ : Unit) => q = ρ) (fun _ t => va_P D vwCl (gWl shM cy ad σ') t.heap) A) args s 0 0 A) (F0 m 186 ls []) := by
        intro x1 x2 x3 x4 x5 x7 x9 s0 H locs ls h Y hl
        unfold m_net_J186 at h
        refine lv_iconst X.1 X.2.1 (dck_at da_X12_net 98 rfl) ki_1 ?_
        refine lv_goto (tgt := 191) X.1 X.2.1 (dck_at da_X12_net 99 rfl) rfl ?_
        exact b191 x1 x2 x3 x4 x5 x7 x9 (1 : Int32) s0 _ _ _ h Y (lv_sub hl [0, 1, 2, 3, 4, 5, 6, 7] rfl)
      have b190 : ∀ (x1 : Int32) (x2 : Int32) (x3 : Int32) (x4 : Int32) (x5 : Int64) (x7 : Int32) (x9 : Int64) (s0 : St) (H : Heap) (locs : List Loc) (ls : Array Slot), m_net_J190 F k107 x1 x2 x3 x4 x5 x7 x9 s0 = some (ρ, σ') → gY shM D cy ad A s0 s H locs → lv_has ls 12 [(0, .ref (ad 0)), (1, .int x1), (2, .int x2), (3, .int x3), (4, .int x4), (5, .long x5), (7, .int x7), (9, .long x9)] → W p l e (grm 4) s m args below meth c H locs 0 0 (MQ below (va_Ql (fun (q : Int64) (_ : Unit) => q = ρ) (fun _ t => va_P D vwCl (gWl shM cy ad σ') t.heap) A) args s 0 0 A) (F0 m 190 ls []) := by
        intro x1 x2 x3 x4 x5 x7 x9 s0 H locs ls h Y hl
        unfold m_net_J190 at h
        refine lv_iconst X.1 X.2.1 (dck_at da_X12_net 100 rfl) ki_0 ?_
        exact b191 x1 x2 x3 x4 x5 x7 x9 (0 : Int32) s0 _ _ _ h Y (lv_sub hl [0, 1, 2, 3, 4, 5, 6, 7] rfl)
      have b121 : ∀ n : Nat, ∀ (x1 : Int32) (x2 : Int32) (x3 : Int32) (x4 : Int32) (x5 : Int64) (x7 : Int32) (x8 : Int32) (x9 : Int32) (s0 : St) (H : Heap) (locs : List Loc) (ls : Array Slot), m_net_L121 F k107 n x1 x2 x3 x4 x5 x7 x8 x9 s0 = some (ρ, σ') → gY shM D cy ad A s0 s H locs → lv_has ls 12 [(0, .ref (ad 0)), (1, .int x1), (2, .int x2), (3, .int x3), (4, .int x4), (5, .long x5), (7, .int x7), (8, .int x8), (9, .int x9)] → W p l e (grm 4) s m args below meth c H locs 0 0 (MQ below (va_Ql (fun (q : Int64) (_ : Unit) => q = ρ) (fun _ t => va_P D vwCl (gWl shM cy ad σ') t.heap) A) args s 0 0 A) (F0 m 121 ls []) := by
        intro n
        induction n with
        | zero => intro x1 x2 x3 x4 x5 x7 x8 x9 s0 H locs ls h Y hl; exact (gnone h).elim
        | succ n hk121 =>
          have e : m_net_L121 F k107 (n + 1) = m_net_L121b F k107 (m_net_L121 F k107 n) := rfl
          rw [e]; clear e
          generalize m_net_L121 F k107 n = k121 at hk121 ⊢
          intro x1 x2 x3 x4 x5 x7 x8 x9 s0 H locs ls h Y hl
          unfold m_net_L121b at h
          refine lv_iload X.1 X.2.1 (dck_at da_X12_net 65 rfl) (lv_at hl 8 rfl) ?_
          refine lv_iload_n X.1 X.2.1 (dck_at da_X12_net 66 rfl) rfl (lv_at hl 3 rfl) ?_
          refine lv_icmp_ge (tgt := 145) X.1 X.2.1 (dck_at da_X12_net 67 rfl) rfl (fun c => ?_) (fun c => ?_)
          · have h := gI_pos h c
            refine lv_iload X.1 X.2.1 (dck_at da_X12_net 78 rfl) (lv_at hl 7 rfl) ?_
            refine lv_iload_n X.1 X.2.1 (dck_at da_X12_net 79 rfl) rfl (lv_at hl 1 rfl) ?_
            refine lv_icmp_ne (tgt := 221) X.1 X.2.1 (dck_at da_X12_net 80 rfl) rfl (fun c => ?_) (fun c => ?_)
            · have h := gI_neg h c
              exact b221 x1 x2 x3 x4 x5 x7 s0 _ _ _ h Y (lv_sub hl [0, 1, 2, 3, 4, 5, 6] rfl)
            · have h := gI_pos h c
              refine lv_aload_n X.1 X.2.1 (dck_at da_X12_net 81 rfl) rfl (lv_at hl 0 rfl) ?_
              refine lv_iload X.1 X.2.1 (dck_at da_X12_net 82 rfl) (lv_at hl 6 rfl) ?_
              refine lv_iload_n X.1 X.2.1 (dck_at da_X12_net 83 rfl) rfl (lv_at hl 3 rfl) ?_
              obtain ⟨r2, s2, hc, h⟩ := gB2_some h
              refine gr_backl Y (gr_runV (as := [.int x7, .int x3]) (rest := []) X G Y (ok_m_netOf hc) cv_RX12_310 clM_0 ⟨Nat.le_of_ble_eq_true rfl, Nat.le_of_ble_eq_true rfl⟩ rfl hl.1 (Nat.le_of_ble_eq_true rfl) (dck_at da_X12_net 84 rfl)) (fun H locs Y => ?_)
              refine lv_lstore (lv' := [(9, .long r2), (0, .ref (ad 0)), (1, .int x1), (2, .int x2), (3, .int x3), (4, .int x4), (5, .long x5), (7, .int x7), (8, .int x8)]) X.1 X.2.1 (dck_at da_X12_net 85 rfl) hl (by decide) rfl (fun ls hl => ?_)
              refine lv_lload X.1 X.2.1 (dck_at da_X12_net 86 rfl) (lv_at hl 0 rfl) ?_
              refine lv_lload X.1 X.2.1 (dck_at da_X12_net 87 rfl) (lv_at hl 6 rfl) ?_
              refine W.lcmp X.1 X.2.1 (dck_at da_X12_net 88 rfl) ?_
              refine lv_if_gt (tgt := 186) X.1 X.2.1 (dck_at da_X12_net 89 rfl) rfl (fun c => ?_) (fun c => ?_)
              · have h := gI_pos h c
                exact b186 x1 x2 x3 x4 x5 x7 r2 s2 _ _ _ h Y (lv_sub hl [1, 2, 3, 4, 5, 6, 7, 0] rfl)
              · have h := gI_neg h c
                refine lv_lload X.1 X.2.1 (dck_at da_X12_net 90 rfl) (lv_at hl 0 rfl) ?_
                refine lv_lload X.1 X.2.1 (dck_at da_X12_net 91 rfl) (lv_at hl 6 rfl) ?_
                refine W.lcmp X.1 X.2.1 (dck_at da_X12_net 92 rfl) ?_
                refine lv_if_ne (tgt := 190) X.1 X.2.1 (dck_at da_X12_net 93 rfl) rfl (fun c => ?_) (fun c => ?_)
                · have h := gI_neg h c
                  exact b190 x1 x2 x3 x4 x5 x7 r2 s2 _ _ _ h Y (lv_sub hl [1, 2, 3, 4, 5, 6, 7, 0] rfl)
                · have h := gI_pos h c
                  refine lv_iload X.1 X.2.1 (dck_at da_X12_net 94 rfl) (lv_at hl 7 rfl) ?_
                  refine lv_iload X.1 X.2.1 (dck_at da_X12_net 95 rfl) (lv_at hl 5 rfl) ?_
                  obtain ⟨r3, s3, hc, h⟩ := gB2_some h
                  refine gr_backi Y (gr_runS (as := [.int x7, .int x4]) (rest := []) X G Y (ok_m_isAhead hc) cs_RX12_313 ⟨Nat.le_of_ble_eq_true rfl, Nat.le_of_ble_eq_true rfl⟩ rfl hl.1 (Nat.le_of_ble_eq_true rfl) (dck_at da_X12_net 96 rfl)) (fun H locs Y => ?_)
                  refine lv_if_eq (tgt := 190) X.1 X.2.1 (dck_at da_X12_net 97 rfl) rfl (fun c => ?_) (fun c => ?_)
                  · have h := gI_pos h c
                    exact b190 x1 x2 x3 x4 x5 x7 r2 s3 _ _ _ h Y (lv_sub hl [1, 2, 3, 4, 5, 6, 7, 0] rfl)
                  · have h := gI_neg h c
                    exact b186 x1 x2 x3 x4 x5 x7 r2 s3 _ _ _ h Y (lv_sub hl [1, 2, 3, 4, 5, 6, 7, 0] rfl)
          · have h := gI_neg h c
            refine lv_iload X.1 X.2.1 (dck_at da_X12_net 68 rfl) (lv_at hl 7 rfl) ?_
            refine lv_iload X.1 X.2.1 (dck_at da_X12_net 69 rfl) (lv_at hl 6 rfl) ?_
            refine lv_iload X.1 X.2.1 (dck_at da_X12_net 70 rfl) (lv_at hl 8 rfl) ?_
            refine lv_ishr X.1 X.2.1 (dck_at da_X12_net 71 rfl) ?_
            refine lv_iconst X.1 X.2.1 (dck_at da_X12_net 72 rfl) ki_1 ?_
            refine lv_iand X.1 X.2.1 (dck_at da_X12_net 73 rfl) ?_
            refine lv_iadd X.1 X.2.1 (dck_at da_X12_net 74 rfl) ?_
            refine lv_istore (lv' := [(8, .int (x8 + ((x7 >>> (x9 &&& 31)) &&& (1 : Int32)))), (0, .ref (ad 0)), (1, .int x1), (2, .int x2), (3, .int x3), (4, .int x4), (5, .long x5), (7, .int x7), (9, .int x9)]) X.1 X.2.1 (dck_at da_X12_net 75 rfl) hl (by decide) rfl (fun ls hl => ?_)
            refine lv_iinc (v := x9 + (1 : Int32)) (lv' := [(9, .int (x9 + (1 : Int32))), (8, .int (x8 + ((x7 >>> (x9 &&& 31)) &&& (1 : Int32)))), (0, .ref (ad 0)), (1, .int x1), (2, .int x2), (3, .int x3), (4, .int x4), (5, .long x5), (7, .int x7)]) X.1 X.2.1 (dck_at da_X12_net 76 rfl) hl (k := 8) rfl (congrArg (HAdd.hAdd _) ki_1) (by decide) rfl (fun ls hl => ?_)
            refine lv_goto (tgt := 121) X.1 X.2.1 (dck_at da_X12_net 77 rfl) rfl ?_
            exact hk121 x1 x2 x3 x4 x5 x7 (x8 + ((x7 >>> (x9 &&& 31)) &&& (1 : Int32))) (x9 + (1 : Int32)) s0 _ _ _ h Y (lv_sub hl [2, 3, 4, 5, 6, 7, 8, 1, 0] rfl)
      intro x1 x2 x3 x4 x5 x7 s0 H locs ls h Y hl
      unfold m_net_L107b at h
      refine lv_iload X.1 X.2.1 (dck_at da_X12_net 56 rfl) (lv_at hl 6 rfl) ?_
      refine lv_iconst X.1 X.2.1 (dck_at da_X12_net 57 rfl) ki_1 ?_
      refine lv_iload_n X.1 X.2.1 (dck_at da_X12_net 58 rfl) rfl (lv_at hl 3 rfl) ?_
      refine lv_ishl X.1 X.2.1 (dck_at da_X12_net 59 rfl) ?_
      refine lv_icmp_ge (tgt := 227) X.1 X.2.1 (dck_at da_X12_net 60 rfl) rfl (fun c => ?_) (fun c => ?_)
      · have h := gI_pos h c
        refine lv_iload X.1 X.2.1 (dck_at da_X12_net 116 rfl) (lv_at hl 4 rfl) ?_
        refine lv_istore (lv' := [(7, .int x4), (0, .ref (ad 0)), (1, .int x1), (2, .int x2), (3, .int x3), (4, .int x4), (5, .long x5)]) X.1 X.2.1 (dck_at da_X12_net 117 rfl) hl (by decide) rfl (fun ls hl => ?_)
        refine lv_iconst X.1 X.2.1 (dck_at da_X12_net 118 rfl) ki_0 ?_
        refine lv_istore (lv' := [(8, .int (0 : Int32)), (7, .int x4), (0, .ref (ad 0)), (1, .int x1), (2, .int x2), (3, .int x3), (4, .int x4), (5, .long x5)]) X.1 X.2.1 (dck_at da_X12_net 119 rfl) hl (by decide) rfl (fun ls hl => ?_)
        exact b234 F x2 x5 x4 (0 : Int32) s0 _ _ _ h Y (lv_sub hl [2, 4, 7, 1, 0] rfl)
      · have h := gI_neg h c
        refine lv_iconst X.1 X.2.1 (dck_at da_X12_net 61 rfl) ki_0 ?_
        refine lv_istore (lv' := [(8, .int (0 : Int32)), (0, .ref (ad 0)), (1, .int x1), (2, .int x2), (3, .int x3), (4, .int x4), (5, .long x5), (7, .int x7)]) X.1 X.2.1 (dck_at da_X12_net 62 rfl) hl (by decide) rfl (fun ls hl => ?_)
        refine lv_iconst X.1 X.2.1 (dck_at da_X12_net 63 rfl) ki_0 ?_
        refine lv_istore (lv' := [(9, .int (0 : Int32)), (8, .int (0 : Int32)), (0, .ref (ad 0)), (1, .int x1), (2, .int x2), (3, .int x3), (4, .int x4), (5, .long x5), (7, .int x7)]) X.1 X.2.1 (dck_at da_X12_net 64 rfl) hl (by decide) rfl (fun ls hl => ?_)
        exact b121 F x1 x2 x3 x4 x5 x7 (0 : Int32) (0 : Int32) s0 _ _ _ h Y (lv_sub hl [2, 3, 4, 5, 6, 7, 8, 1, 0] rfl)
  have b40 : ∀ n : Nat, ∀ (x1 : Int32) (x2 : Int32) (x3 : Int32) (x4 : Int32) (s0 : St) (H : Heap) (locs : List Loc) (ls : Array Slot), m_net_L40 F  n x1 x2 x3 x4 s0 = some (ρ, σ') → gY shM D cy ad A s0 s H locs → lv_has ls 12 [(0, .ref (ad 0)), (1, .int x1), (2, .int x2), (3, .int x3), (4, .int x4)] → W p l e (grm 4) s m args below meth c H locs 0 0 (MQ below (va_Ql (fun (q : Int64) (_ : Unit) => q = ρ) (fun _ t => va_P D vwCl (gWl shM cy ad σ') t.heap) A) args s 0 0 A) (F0 m 40 ls []) := by
    intro n
    induction n with
    | zero => intro x1 x2 x3 x4 s0 H locs ls h Y hl; exact (gnone h).elim
    | succ n hk40 =>
      have e : m_net_L40 F  (n + 1) = m_net_L40b F  (m_net_L40 F  n) := rfl
      rw [e]; clear e
      generalize m_net_L40 F  n = k40 at hk40 ⊢
      have b77 : ∀ (x1 : Int32) (x2 : Int32) (x3 : Int32) (x4 : Int32) (s0 : St) (H : Heap) (locs : List Loc) (ls : Array Slot), m_net_J77 F k40 x1 x2 x3 x4 s0 = some (ρ, σ') → gY shM D cy ad A s0 s H locs → lv_has ls 12 [(0, .ref (ad 0)), (1, .int x1), (2, .int x2), (3, .int x3), (4, .int x4)] → W p l e (grm 4) s m args below meth c H locs 0 0 (MQ below (va_Ql (fun (q : Int64) (_ : Unit) => q = ρ) (fun _ t => va_P D vwCl (gWl shM cy ad σ') t.heap) A) args s 0 0 A) (F0 m 77 ls []) := by
        intro x1 x2 x3 x4 s0 H locs ls h Y hl
        unfold m_net_J77 at h
        refine lv_iinc (v := x4 + (1 : Int32)) (lv' := [(4, .int (x4 + (1 : Int32))), (0, .ref (ad 0)), (1, .int x1), (2, .int x2), (3, .int x3)]) X.1 X.2.1 (dck_at da_X12_net 41 rfl) hl (k := 4) rfl (congrArg (HAdd.hAdd _) ki_1) (by decide) rfl (fun ls hl => ?_)
        refine lv_goto (tgt := 40) X.1 X.2.1 (dck_at da_X12_net 42 rfl) rfl ?_
        exact hk40 x1 x2 x3 (x4 + (1 : Int32)) s0 _ _ _ h Y (lv_sub hl [1, 2, 3, 4, 0] rfl)
      intro x1 x2 x3 x4 s0 H locs ls h Y hl
      unfold m_net_L40b at h
      refine lv_iload X.1 X.2.1 (dck_at da_X12_net 23 rfl) (lv_at hl 4 rfl) ?_
      refine lv_sipush X.1 X.2.1 (dck_at da_X12_net 24 rfl) ks_144 ?_
      refine lv_icmp_ge (tgt := 83) X.1 X.2.1 (dck_at da_X12_net 25 rfl) rfl (fun c => ?_) (fun c => ?_)
      · have h := gI_pos h c
        refine lv_iload_n X.1 X.2.1 (dck_at da_X12_net 43 rfl) rfl (lv_at hl 3 rfl) ?_
        refine lv_iload_n X.1 X.2.1 (dck_at da_X12_net 44 rfl) rfl (lv_at hl 1 rfl) ?_
        refine lv_icmp_ge (tgt := 96) X.1 X.2.1 (dck_at da_X12_net 45 rfl) rfl (fun c => ?_) (fun c => ?_)
        · have h := gI_pos h c
          refine lv_iconst X.1 X.2.1 (dck_at da_X12_net 50 rfl) ki_0 ?_
          refine lv_istore (lv' := [(4, .int (0 : Int32)), (0, .ref (ad 0)), (1, .int x1), (2, .int x2), (3, .int x3)]) X.1 X.2.1 (dck_at da_X12_net 51 rfl) hl (by decide) rfl (fun ls hl => ?_)
          refine lv_ldc2 X.1 X.2.1 X.2.2.2.1 (X.2.2.2.2 _ wm_1295) (dck_at da_X12_net 52 rfl) ?_
          refine lv_lstore (lv' := [(5, .long (-1 : Int64)), (4, .int (0 : Int32)), (0, .ref (ad 0)), (1, .int x1), (2, .int x2), (3, .int x3)]) X.1 X.2.1 (dck_at da_X12_net 53 rfl) hl (by decide) rfl (fun ls hl => ?_)
          refine lv_iconst X.1 X.2.1 (dck_at da_X12_net 54 rfl) ki_1 ?_
          refine lv_istore (lv' := [(7, .int (1 : Int32)), (5, .long (-1 : Int64)), (4, .int (0 : Int32)), (0, .ref (ad 0)), (1, .int x1), (2, .int x2), (3, .int x3)]) X.1 X.2.1 (dck_at da_X12_net 55 rfl) hl (by decide) rfl (fun ls hl => ?_)
          exact b107 F x1 x2 x3 (0 : Int32) (-1 : Int64) (1 : Int32) s0 _ _ _ h Y (lv_sub hl [3, 4, 5, 6, 2, 1, 0] rfl)
        · have h := gI_neg h c
          refine lv_aload_n X.1 X.2.1 (dck_at da_X12_net 46 rfl) rfl (lv_at hl 0 rfl) ?_
          refine lv_ldc2 X.1 X.2.1 X.2.2.2.1 (X.2.2.2.2 _ wm_1408) (dck_at da_X12_net 47 rfl) ?_
          obtain ⟨r4, s4, hc, h⟩ := gB2_some h
          refine gr_backl Y (gr_runV (as := [.long (-4 : Int64)]) (rest := []) X G Y (ok_m_says hc) cv_RX12_120 clM_0 ⟨Nat.le_of_ble_eq_true rfl, Nat.le_of_ble_eq_true rfl⟩ rfl hl.1 (Nat.le_of_ble_eq_true rfl) (dck_at da_X12_net 48 rfl)) (fun H locs Y => ?_)
          exact gr_lretO X Y h hr hlk (dck_at da_X12_net 49 rfl)
      · have h := gI_neg h c
        refine lv_aload_n X.1 X.2.1 (dck_at da_X12_net 26 rfl) rfl (lv_at hl 0 rfl) ?_
        refine gr_getR X G Y fk_RX12_13 clM_0 rfl (dck_at da_X12_net 27 rfl) ?_
        refine lv_iload X.1 X.2.1 (dck_at da_X12_net 28 rfl) (lv_at hl 4 rfl) ?_
        obtain ⟨hin, h⟩ := gI_if h
        refine gr_iald X G Y clM_2 hin (dck_at da_X12_net 29 rfl) ?_
        refine lv_bipush X.1 X.2.1 (dck_at da_X12_net 30 rfl) kb_7 ?_
        refine lv_icmp_ne (tgt := 77) X.1 X.2.1 (dck_at da_X12_net 31 rfl) rfl (fun c => ?_) (fun c => ?_)
        · have h := gI_neg h c
          exact b77 x1 x2 x3 x4 s0 _ _ _ h Y (lv_sub hl [0, 1, 2, 3, 4] rfl)
        · have h := gI_pos h c
          refine lv_iload_n X.1 X.2.1 (dck_at da_X12_net 32 rfl) rfl (lv_at hl 3 rfl) ?_
          refine lv_bipush X.1 X.2.1 (dck_at da_X12_net 33 rfl) kb_10 ?_
          refine lv_icmp_ge (tgt := 77) X.1 X.2.1 (dck_at da_X12_net 34 rfl) rfl (fun c => ?_) (fun c => ?_)
          · have h := gI_pos h c
            exact b77 x1 x2 x3 x4 s0 _ _ _ h Y (lv_sub hl [0, 1, 2, 3, 4] rfl)
          · have h := gI_neg h c
            refine lv_aload_n X.1 X.2.1 (dck_at da_X12_net 35 rfl) rfl (lv_at hl 0 rfl) ?_
            refine gr_getR X G Y fk_RX12_86 clM_0 rfl (dck_at da_X12_net 36 rfl) ?_
            refine lv_iload_n X.1 X.2.1 (dck_at da_X12_net 37 rfl) rfl (lv_at hl 3 rfl) ?_
            refine lv_iload X.1 X.2.1 (dck_at da_X12_net 38 rfl) (lv_at hl 4 rfl) ?_
            obtain ⟨hin, h⟩ := gI_if h
            refine gr_iast X G Y clM_26 hin (dck_at da_X12_net 39 rfl) (fun H locs Y => ?_)
            refine lv_iinc (v := x3 + (1 : Int32)) (lv' := [(3, .int (x3 + (1 : Int32))), (0, .ref (ad 0)), (1, .int x1), (2, .int x2), (4, .int x4)]) X.1 X.2.1 (dck_at da_X12_net 40 rfl) hl (k := 3) rfl (congrArg (HAdd.hAdd _) ki_1) (by decide) rfl (fun ls hl => ?_)
            exact b77 x1 x2 (x3 + (1 : Int32)) x4 (sI s0 26 (x3).toNatClampNeg x4) _ _ _ h Y (lv_sub hl [1, 2, 3, 0, 4] rfl)
  unfold m_net at h
  refine lv_iload_n X.1 X.2.1 (dck_at da_X12_net 0 rfl) rfl (lv_at hl 1 rfl) ?_
  refine lv_i2l (v := (a1).toInt64) X.1 X.2.1 (dck_at da_X12_net 1 rfl) rfl ?_
  refine lv_lconst (v := 1) X.1 X.2.1 (dck_at da_X12_net 2 rfl) rfl ?_
  refine lv_ldc2 X.1 X.2.1 X.2.2.2.1 (X.2.2.2.2 _ wm_1536) (dck_at da_X12_net 3 rfl) ?_
  obtain ⟨r5, s5, hc, h⟩ := gB2_some h
  refine gr_backi Y (gr_runS (as := [.long ((a1).toInt64), .long (1 : Int64), .long (4 : Int64)]) (rest := []) X G Y (ok_m_in hc) cs_RX12_126 ⟨Nat.le_of_ble_eq_true rfl, Nat.le_of_ble_eq_true rfl⟩ rfl hl.1 (Nat.le_of_ble_eq_true rfl) (dck_at da_X12_net 4 rfl)) (fun H locs Y => ?_)
  refine lv_if_eq (tgt := 27) X.1 X.2.1 (dck_at da_X12_net 5 rfl) rfl (fun c => ?_) (fun c => ?_)
  · have h := gI_pos h c
    exact b27 s5 _ _ _ h Y (lv_sub hl [0] rfl)
  · have h := gI_neg h c
    refine lv_iload_n X.1 X.2.1 (dck_at da_X12_net 6 rfl) rfl (lv_at hl 2 rfl) ?_
    refine lv_i2l (v := (a2).toInt64) X.1 X.2.1 (dck_at da_X12_net 7 rfl) rfl ?_
    refine lv_ldc2 X.1 X.2.1 X.2.2.2.1 (X.2.2.2.2 _ wm_1295) (dck_at da_X12_net 8 rfl) ?_
    refine lv_iload_n X.1 X.2.1 (dck_at da_X12_net 9 rfl) rfl (lv_at hl 1 rfl) ?_
    refine lv_iconst X.1 X.2.1 (dck_at da_X12_net 10 rfl) ki_1 ?_
    refine lv_isub X.1 X.2.1 (dck_at da_X12_net 11 rfl) ?_
    refine lv_i2l (v := (a1 - (1 : Int32)).toInt64) X.1 X.2.1 (dck_at da_X12_net 12 rfl) rfl ?_
    obtain ⟨r6, s6, hc, h⟩ := gB2_some h
    refine gr_backi Y (gr_runS (as := [.long ((a2).toInt64), .long (-1 : Int64), .long ((a1 - (1 : Int32)).toInt64)]) (rest := []) X G Y (ok_m_in hc) cs_RX12_126 ⟨Nat.le_of_ble_eq_true rfl, Nat.le_of_ble_eq_true rfl⟩ rfl hl.1 (Nat.le_of_ble_eq_true rfl) (dck_at da_X12_net 13 rfl)) (fun H locs Y => ?_)
    refine lv_if_ne (tgt := 35) X.1 X.2.1 (dck_at da_X12_net 14 rfl) rfl (fun c => ?_) (fun c => ?_)
    · have h := gI_neg h c
      refine lv_iconst X.1 X.2.1 (dck_at da_X12_net 19 rfl) ki_0 ?_
      refine lv_istore_n (lv' := [(3, .int (0 : Int32)), (0, .ref (ad 0)), (1, .int a1), (2, .int a2)]) X.1 X.2.1 (dck_at da_X12_net 20 rfl) rfl hl (by decide) rfl (fun ls hl => ?_)
      refine lv_iconst X.1 X.2.1 (dck_at da_X12_net 21 rfl) ki_0 ?_
      refine lv_istore (lv' := [(4, .int (0 : Int32)), (3, .int (0 : Int32)), (0, .ref (ad 0)), (1, .int a1), (2, .int a2)]) X.1 X.2.1 (dck_at da_X12_net 22 rfl) hl (by decide) rfl (fun ls hl => ?_)
      exact b40 F a1 a2 (0 : Int32) (0 : Int32) s6 _ _ _ h Y (lv_sub hl [2, 3, 4, 1, 0] rfl)
    · have h := gI_pos h c
      exact b27 s6 _ _ _ h Y (lv_sub hl [0] rfl)
set_option maxRecDepth 100000 in
set_option maxHeartbeats 4000000 in
theorem ok_m_clear {l : Launch} {D : va_G} {cy : Nat → ClassId} {ad sa : Nat → Nat} {A : Nat → Prop} {F : Nat}  {s0 : St} {ρ : Int32} {σ' : St} (h : m_clear F s0 = some (ρ, σ')) : gMi l shM D cy ad sa A yX12_clear cX12_clear 2 (some .int) 1 [.ref (ad 0)] s0 ρ σ' := by
  refine gM_of (by decide) (Nat.le_of_ble_eq_true rfl) ?_
  intro p e s m args below meth c ls X G Y hr hlk hl
  have hl : lv_has ls 2 [(0, .ref (ad 0))] := hl
  unfold m_clear at h
  refine lv_aload_n X.1 X.2.1 (dck_at da_X12_clear 0 rfl) rfl (lv_at hl 0 rfl) ?_
  refine gr_getI X G Y fk_RX12_228 clM_0 rfl (dck_at da_X12_clear 1 rfl) ?_
  refine lv_aload_n X.1 X.2.1 (dck_at da_X12_clear 2 rfl) rfl (lv_at hl 0 rfl) ?_
  refine gr_getI X G Y fk_RX12_231 clM_0 rfl (dck_at da_X12_clear 3 rfl) ?_
  refine lv_iadd X.1 X.2.1 (dck_at da_X12_clear 4 rfl) ?_
  refine lv_aload_n X.1 X.2.1 (dck_at da_X12_clear 5 rfl) rfl (lv_at hl 0 rfl) ?_
  refine gr_getI X G Y fk_RX12_234 clM_0 rfl (dck_at da_X12_clear 6 rfl) ?_
  refine lv_iadd X.1 X.2.1 (dck_at da_X12_clear 7 rfl) ?_
  refine lv_aload_n X.1 X.2.1 (dck_at da_X12_clear 8 rfl) rfl (lv_at hl 0 rfl) ?_
  refine gr_getI X G Y fk_RX12_240 clM_0 rfl (dck_at da_X12_clear 9 rfl) ?_
  refine lv_iadd X.1 X.2.1 (dck_at da_X12_clear 10 rfl) ?_
  refine lv_aload_n X.1 X.2.1 (dck_at da_X12_clear 11 rfl) rfl (lv_at hl 0 rfl) ?_
  refine gr_getI X G Y fk_RX12_237 clM_0 rfl (dck_at da_X12_clear 12 rfl) ?_
  refine lv_iadd X.1 X.2.1 (dck_at da_X12_clear 13 rfl) ?_
  refine lv_istore_n (lv' := [(1, .int (((((s0.1 0 14) + (s0.1 0 18)) + (s0.1 0 21)) + (s0.1 0 31)) + (s0.1 0 27))), (0, .ref (ad 0))]) X.1 X.2.1 (dck_at da_X12_clear 14 rfl) rfl hl (by decide) rfl (fun ls hl => ?_)
  refine lv_aload_n X.1 X.2.1 (dck_at da_X12_clear 15 rfl) rfl (lv_at hl 1 rfl) ?_
  refine lv_iconst X.1 X.2.1 (dck_at da_X12_clear 16 rfl) ki_0 ?_
  refine gr_putI X G Y fp_RX12_228 clM_0 rfl (dck_at da_X12_clear 17 rfl) (fun H locs Y => ?_)
  refine lv_aload_n X.1 X.2.1 (dck_at da_X12_clear 18 rfl) rfl (lv_at hl 1 rfl) ?_
  refine lv_iconst X.1 X.2.1 (dck_at da_X12_clear 19 rfl) ki_0 ?_
  refine gr_putI X G Y fp_RX12_231 clM_0 rfl (dck_at da_X12_clear 20 rfl) (fun H locs Y => ?_)
  refine lv_aload_n X.1 X.2.1 (dck_at da_X12_clear 21 rfl) rfl (lv_at hl 1 rfl) ?_
  refine lv_iconst X.1 X.2.1 (dck_at da_X12_clear 22 rfl) ki_0 ?_
  refine gr_putI X G Y fp_RX12_234 clM_0 rfl (dck_at da_X12_clear 23 rfl) (fun H locs Y => ?_)
  refine lv_aload_n X.1 X.2.1 (dck_at da_X12_clear 24 rfl) rfl (lv_at hl 1 rfl) ?_
  refine lv_iconst X.1 X.2.1 (dck_at da_X12_clear 25 rfl) ki_0 ?_
  refine gr_putI X G Y fp_RX12_240 clM_0 rfl (dck_at da_X12_clear 26 rfl) (fun H locs Y => ?_)
  refine lv_aload_n X.1 X.2.1 (dck_at da_X12_clear 27 rfl) rfl (lv_at hl 1 rfl) ?_
  refine lv_iconst X.1 X.2.1 (dck_at da_X12_clear 28 rfl) ki_0 ?_
  refine gr_putI X G Y fp_RX12_237 clM_0 rfl (dck_at da_X12_clear 29 rfl) (fun H locs Y => ?_)
  refine lv_iload_n X.1 X.2.1 (dck_at da_X12_clear 30 rfl) rfl (lv_at hl 0 rfl) ?_
  exact gr_iretO X Y h hr rfl hlk (dck_at da_X12_clear 31 rfl)
set_option maxRecDepth 100000 in
set_option maxHeartbeats 4000000 in
theorem ok_m_lay {l : Launch} {D : va_G} {cy : Nat → ClassId} {ad sa : Nat → Nat} {A : Nat → Prop} {F : Nat} {a2 : Int32} {s0 : St} {ρ : Int32} {σ' : St} (h : m_lay F a2 s0 = some (ρ, σ')) : gMi l shM D cy ad sa A yX12_lay cX12_lay 4 (some .int) 1 [.ref (ad 0), .ref (ad 2), .int a2] s0 ρ σ' := by
  refine gM_of (by decide) (Nat.le_of_ble_eq_true rfl) ?_
  intro p e s m args below meth c ls X G Y hr hlk hl
  have hl : lv_has ls 4 [(0, .ref (ad 0)), (1, .ref (ad 2)), (2, .int a2)] := hl
  have b2 : ∀ n : Nat, ∀ (x2 : Int32) (x3 : Int32) (s0 : St) (H : Heap) (locs : List Loc) (ls : Array Slot), m_lay_L2 F  n x2 x3 s0 = some (ρ, σ') → gY shM D cy ad A s0 s H locs → lv_has ls 4 [(0, .ref (ad 0)), (1, .ref (ad 2)), (2, .int x2), (3, .int x3)] → W p l e (grm 1) s m args below meth c H locs 0 0 (MQ below (va_Qi (fun (q : Int32) (_ : Unit) => q = ρ) (fun _ t => va_P D vwCl (gWl shM cy ad σ') t.heap) A) args s 0 0 A) (F0 m 2 ls []) := by
    intro n
    induction n with
    | zero => intro x2 x3 s0 H locs ls h Y hl; exact (gnone h).elim
    | succ n hk2 =>
      have e : m_lay_L2 F  (n + 1) = m_lay_L2b F  (m_lay_L2 F  n) := rfl
      rw [e]; clear e
      generalize m_lay_L2 F  n = k2 at hk2 ⊢
      intro x2 x3 s0 H locs ls h Y hl
      unfold m_lay_L2b at h
      refine lv_iload_n X.1 X.2.1 (dck_at da_X12_lay 2 rfl) rfl (lv_at hl 3 rfl) ?_
      refine lv_aload_n X.1 X.2.1 (dck_at da_X12_lay 3 rfl) rfl (lv_at hl 1 rfl) ?_
      refine gr_alen (v := 144) X G Y clM_2 (by decide) rfl (dck_at da_X12_lay 4 rfl) ?_
      refine lv_icmp_ge (tgt := 25) X.1 X.2.1 (dck_at da_X12_lay 5 rfl) rfl (fun c => ?_) (fun c => ?_)
      · have h := gI_pos h c
        refine lv_iload_n X.1 X.2.1 (dck_at da_X12_lay 17 rfl) rfl (lv_at hl 2 rfl) ?_
        refine lv_aload_n X.1 X.2.1 (dck_at da_X12_lay 18 rfl) rfl (lv_at hl 1 rfl) ?_
        refine gr_alen (v := 144) X G Y clM_2 (by decide) rfl (dck_at da_X12_lay 19 rfl) ?_
        refine lv_iadd X.1 X.2.1 (dck_at da_X12_lay 20 rfl) ?_
        exact gr_iretO X Y h hr rfl hlk (dck_at da_X12_lay 21 rfl)
      · have h := gI_neg h c
        refine lv_aload_n X.1 X.2.1 (dck_at da_X12_lay 6 rfl) rfl (lv_at hl 0 rfl) ?_
        refine gr_getR X G Y fk_RX12_89 clM_0 rfl (dck_at da_X12_lay 7 rfl) ?_
        refine lv_iload_n X.1 X.2.1 (dck_at da_X12_lay 8 rfl) rfl (lv_at hl 2 rfl) ?_
        refine lv_iload_n X.1 X.2.1 (dck_at da_X12_lay 9 rfl) rfl (lv_at hl 3 rfl) ?_
        refine lv_iadd X.1 X.2.1 (dck_at da_X12_lay 10 rfl) ?_
        refine lv_aload_n X.1 X.2.1 (dck_at da_X12_lay 11 rfl) rfl (lv_at hl 1 rfl) ?_
        refine lv_iload_n X.1 X.2.1 (dck_at da_X12_lay 12 rfl) rfl (lv_at hl 3 rfl) ?_
        obtain ⟨hin, h⟩ := gI_if h
        refine gr_iald X G Y clM_2 hin (dck_at da_X12_lay 13 rfl) ?_
        obtain ⟨hin, h⟩ := gI_if h
        refine gr_iast X G Y clM_27 hin (dck_at da_X12_lay 14 rfl) (fun H locs Y => ?_)
        refine lv_iinc (v := x3 + (1 : Int32)) (lv' := [(3, .int (x3 + (1 : Int32))), (0, .ref (ad 0)), (1, .ref (ad 2)), (2, .int x2)]) X.1 X.2.1 (dck_at da_X12_lay 15 rfl) hl (k := 3) rfl (congrArg (HAdd.hAdd _) ki_1) (by decide) rfl (fun ls hl => ?_)
        refine lv_goto (tgt := 2) X.1 X.2.1 (dck_at da_X12_lay 16 rfl) rfl ?_
        exact hk2 x2 (x3 + (1 : Int32)) (sI s0 27 (x2 + x3).toNatClampNeg (s0.1 2 (x3).toNatClampNeg)) _ _ _ h Y (lv_sub hl [1, 2, 3, 0] rfl)
  unfold m_lay at h
  refine lv_iconst X.1 X.2.1 (dck_at da_X12_lay 0 rfl) ki_0 ?_
  refine lv_istore_n (lv' := [(3, .int (0 : Int32)), (0, .ref (ad 0)), (1, .ref (ad 2)), (2, .int a2)]) X.1 X.2.1 (dck_at da_X12_lay 1 rfl) rfl hl (by decide) rfl (fun ls hl => ?_)
  exact b2 F a2 (0 : Int32) s0 _ _ _ h Y (lv_sub hl [1, 2, 3, 0] rfl)
set_option maxRecDepth 100000 in
set_option maxHeartbeats 4000000 in
theorem ok_m_lay_v1 {l : Launch} {D : va_G} {cy : Nat → ClassId} {ad sa : Nat → Nat} {A : Nat → Prop} {F : Nat} {a2 : Int32} {s0 : St} {ρ : Int32} {σ' : St} (h : m_lay_v1 F a2 s0 = some (ρ, σ')) : gMi l shM D cy ad sa A yX12_lay cX12_lay 4 (some .int) 1 [.ref (ad 0), .ref (ad 3), .int a2] s0 ρ σ' := by
  refine gM_of (by decide) (Nat.le_of_ble_eq_true rfl) ?_
  intro p e s m args below meth c ls X G Y hr hlk hl
  have hl : lv_has ls 4 [(0, .ref (ad 0)), (1, .ref (ad 3)), (2, .int a2)] := hl
  have b2 : ∀ n : Nat, ∀ (x2 : Int32) (x3 : Int32) (s0 : St) (H : Heap) (locs : List Loc) (ls : Array Slot), m_lay_v1_L2 F  n x2 x3 s0 = some (ρ, σ') → gY shM D cy ad A s0 s H locs → lv_has ls 4 [(0, .ref (ad 0)), (1, .ref (ad 3)), (2, .int x2), (3, .int x3)] → W p l e (grm 1) s m args below meth c H locs 0 0 (MQ below (va_Qi (fun (q : Int32) (_ : Unit) => q = ρ) (fun _ t => va_P D vwCl (gWl shM cy ad σ') t.heap) A) args s 0 0 A) (F0 m 2 ls []) := by
    intro n
    induction n with
    | zero => intro x2 x3 s0 H locs ls h Y hl; exact (gnone h).elim
    | succ n hk2 =>
      have e : m_lay_v1_L2 F  (n + 1) = m_lay_v1_L2b F  (m_lay_v1_L2 F  n) := rfl
      rw [e]; clear e
      generalize m_lay_v1_L2 F  n = k2 at hk2 ⊢
      intro x2 x3 s0 H locs ls h Y hl
      unfold m_lay_v1_L2b at h
      refine lv_iload_n X.1 X.2.1 (dck_at da_X12_lay 2 rfl) rfl (lv_at hl 3 rfl) ?_
      refine lv_aload_n X.1 X.2.1 (dck_at da_X12_lay 3 rfl) rfl (lv_at hl 1 rfl) ?_
      refine gr_alen (v := 144) X G Y clM_3 (by decide) rfl (dck_at da_X12_lay 4 rfl) ?_
      refine lv_icmp_ge (tgt := 25) X.1 X.2.1 (dck_at da_X12_lay 5 rfl) rfl (fun c => ?_) (fun c => ?_)
      · have h := gI_pos h c
        refine lv_iload_n X.1 X.2.1 (dck_at da_X12_lay 17 rfl) rfl (lv_at hl 2 rfl) ?_
        refine lv_aload_n X.1 X.2.1 (dck_at da_X12_lay 18 rfl) rfl (lv_at hl 1 rfl) ?_
        refine gr_alen (v := 144) X G Y clM_3 (by decide) rfl (dck_at da_X12_lay 19 rfl) ?_
        refine lv_iadd X.1 X.2.1 (dck_at da_X12_lay 20 rfl) ?_
        exact gr_iretO X Y h hr rfl hlk (dck_at da_X12_lay 21 rfl)
      · have h := gI_neg h c
        refine lv_aload_n X.1 X.2.1 (dck_at da_X12_lay 6 rfl) rfl (lv_at hl 0 rfl) ?_
        refine gr_getR X G Y fk_RX12_89 clM_0 rfl (dck_at da_X12_lay 7 rfl) ?_
        refine lv_iload_n X.1 X.2.1 (dck_at da_X12_lay 8 rfl) rfl (lv_at hl 2 rfl) ?_
        refine lv_iload_n X.1 X.2.1 (dck_at da_X12_lay 9 rfl) rfl (lv_at hl 3 rfl) ?_
        refine lv_iadd X.1 X.2.1 (dck_at da_X12_lay 10 rfl) ?_
        refine lv_aload_n X.1 X.2.1 (dck_at da_X12_lay 11 rfl) rfl (lv_at hl 1 rfl) ?_
        refine lv_iload_n X.1 X.2.1 (dck_at da_X12_lay 12 rfl) rfl (lv_at hl 3 rfl) ?_
        obtain ⟨hin, h⟩ := gI_if h
        refine gr_iald X G Y clM_3 hin (dck_at da_X12_lay 13 rfl) ?_
        obtain ⟨hin, h⟩ := gI_if h
        refine gr_iast X G Y clM_27 hin (dck_at da_X12_lay 14 rfl) (fun H locs Y => ?_)
        refine lv_iinc (v := x3 + (1 : Int32)) (lv' := [(3, .int (x3 + (1 : Int32))), (0, .ref (ad 0)), (1, .ref (ad 3)), (2, .int x2)]) X.1 X.2.1 (dck_at da_X12_lay 15 rfl) hl (k := 3) rfl (congrArg (HAdd.hAdd _) ki_1) (by decide) rfl (fun ls hl => ?_)
        refine lv_goto (tgt := 2) X.1 X.2.1 (dck_at da_X12_lay 16 rfl) rfl ?_
        exact hk2 x2 (x3 + (1 : Int32)) (sI s0 27 (x2 + x3).toNatClampNeg (s0.1 3 (x3).toNatClampNeg)) _ _ _ h Y (lv_sub hl [1, 2, 3, 0] rfl)
  unfold m_lay_v1 at h
  refine lv_iconst X.1 X.2.1 (dck_at da_X12_lay 0 rfl) ki_0 ?_
  refine lv_istore_n (lv' := [(3, .int (0 : Int32)), (0, .ref (ad 0)), (1, .ref (ad 3)), (2, .int a2)]) X.1 X.2.1 (dck_at da_X12_lay 1 rfl) rfl hl (by decide) rfl (fun ls hl => ?_)
  exact b2 F a2 (0 : Int32) s0 _ _ _ h Y (lv_sub hl [1, 2, 3, 0] rfl)
set_option maxRecDepth 100000 in
set_option maxHeartbeats 4000000 in
theorem ok_m_lay_v2 {l : Launch} {D : va_G} {cy : Nat → ClassId} {ad sa : Nat → Nat} {A : Nat → Prop} {F : Nat} {a2 : Int32} {s0 : St} {ρ : Int32} {σ' : St} (h : m_lay_v2 F a2 s0 = some (ρ, σ')) : gMi l shM D cy ad sa A yX12_lay cX12_lay 4 (some .int) 1 [.ref (ad 0), .ref (ad 4), .int a2] s0 ρ σ' := by
  refine gM_of (by decide) (Nat.le_of_ble_eq_true rfl) ?_
  intro p e s m args below meth c ls X G Y hr hlk hl
  have hl : lv_has ls 4 [(0, .ref (ad 0)), (1, .ref (ad 4)), (2, .int a2)] := hl
  have b2 : ∀ n : Nat, ∀ (x2 : Int32) (x3 : Int32) (s0 : St) (H : Heap) (locs : List Loc) (ls : Array Slot), m_lay_v2_L2 F  n x2 x3 s0 = some (ρ, σ') → gY shM D cy ad A s0 s H locs → lv_has ls 4 [(0, .ref (ad 0)), (1, .ref (ad 4)), (2, .int x2), (3, .int x3)] → W p l e (grm 1) s m args below meth c H locs 0 0 (MQ below (va_Qi (fun (q : Int32) (_ : Unit) => q = ρ) (fun _ t => va_P D vwCl (gWl shM cy ad σ') t.heap) A) args s 0 0 A) (F0 m 2 ls []) := by
    intro n
    induction n with
    | zero => intro x2 x3 s0 H locs ls h Y hl; exact (gnone h).elim
    | succ n hk2 =>
      have e : m_lay_v2_L2 F  (n + 1) = m_lay_v2_L2b F  (m_lay_v2_L2 F  n) := rfl
      rw [e]; clear e
      generalize m_lay_v2_L2 F  n = k2 at hk2 ⊢
      intro x2 x3 s0 H locs ls h Y hl
      unfold m_lay_v2_L2b at h
      refine lv_iload_n X.1 X.2.1 (dck_at da_X12_lay 2 rfl) rfl (lv_at hl 3 rfl) ?_
      refine lv_aload_n X.1 X.2.1 (dck_at da_X12_lay 3 rfl) rfl (lv_at hl 1 rfl) ?_
      refine gr_alen (v := 144) X G Y clM_4 (by decide) rfl (dck_at da_X12_lay 4 rfl) ?_
      refine lv_icmp_ge (tgt := 25) X.1 X.2.1 (dck_at da_X12_lay 5 rfl) rfl (fun c => ?_) (fun c => ?_)
      · have h := gI_pos h c
        refine lv_iload_n X.1 X.2.1 (dck_at da_X12_lay 17 rfl) rfl (lv_at hl 2 rfl) ?_
        refine lv_aload_n X.1 X.2.1 (dck_at da_X12_lay 18 rfl) rfl (lv_at hl 1 rfl) ?_
        refine gr_alen (v := 144) X G Y clM_4 (by decide) rfl (dck_at da_X12_lay 19 rfl) ?_
        refine lv_iadd X.1 X.2.1 (dck_at da_X12_lay 20 rfl) ?_
        exact gr_iretO X Y h hr rfl hlk (dck_at da_X12_lay 21 rfl)
      · have h := gI_neg h c
        refine lv_aload_n X.1 X.2.1 (dck_at da_X12_lay 6 rfl) rfl (lv_at hl 0 rfl) ?_
        refine gr_getR X G Y fk_RX12_89 clM_0 rfl (dck_at da_X12_lay 7 rfl) ?_
        refine lv_iload_n X.1 X.2.1 (dck_at da_X12_lay 8 rfl) rfl (lv_at hl 2 rfl) ?_
        refine lv_iload_n X.1 X.2.1 (dck_at da_X12_lay 9 rfl) rfl (lv_at hl 3 rfl) ?_
        refine lv_iadd X.1 X.2.1 (dck_at da_X12_lay 10 rfl) ?_
        refine lv_aload_n X.1 X.2.1 (dck_at da_X12_lay 11 rfl) rfl (lv_at hl 1 rfl) ?_
        refine lv_iload_n X.1 X.2.1 (dck_at da_X12_lay 12 rfl) rfl (lv_at hl 3 rfl) ?_
        obtain ⟨hin, h⟩ := gI_if h
        refine gr_iald X G Y clM_4 hin (dck_at da_X12_lay 13 rfl) ?_
        obtain ⟨hin, h⟩ := gI_if h
        refine gr_iast X G Y clM_27 hin (dck_at da_X12_lay 14 rfl) (fun H locs Y => ?_)
        refine lv_iinc (v := x3 + (1 : Int32)) (lv' := [(3, .int (x3 + (1 : Int32))), (0, .ref (ad 0)), (1, .ref (ad 4)), (2, .int x2)]) X.1 X.2.1 (dck_at da_X12_lay 15 rfl) hl (k := 3) rfl (congrArg (HAdd.hAdd _) ki_1) (by decide) rfl (fun ls hl => ?_)
        refine lv_goto (tgt := 2) X.1 X.2.1 (dck_at da_X12_lay 16 rfl) rfl ?_
        exact hk2 x2 (x3 + (1 : Int32)) (sI s0 27 (x2 + x3).toNatClampNeg (s0.1 4 (x3).toNatClampNeg)) _ _ _ h Y (lv_sub hl [1, 2, 3, 0] rfl)
  unfold m_lay_v2 at h
  refine lv_iconst X.1 X.2.1 (dck_at da_X12_lay 0 rfl) ki_0 ?_
  refine lv_istore_n (lv' := [(3, .int (0 : Int32)), (0, .ref (ad 0)), (1, .ref (ad 4)), (2, .int a2)]) X.1 X.2.1 (dck_at da_X12_lay 1 rfl) rfl hl (by decide) rfl (fun ls hl => ?_)
  exact b2 F a2 (0 : Int32) s0 _ _ _ h Y (lv_sub hl [1, 2, 3, 0] rfl)
set_option maxRecDepth 100000 in
set_option maxHeartbeats 4000000 in
theorem ok_m_lay_v3 {l : Launch} {D : va_G} {cy : Nat → ClassId} {ad sa : Nat → Nat} {A : Nat → Prop} {F : Nat} {a2 : Int32} {s0 : St} {ρ : Int32} {σ' : St} (h : m_lay_v3 F a2 s0 = some (ρ, σ')) : gMi l shM D cy ad sa A yX12_lay cX12_lay 4 (some .int) 1 [.ref (ad 0), .ref (ad 5), .int a2] s0 ρ σ' := by
  refine gM_of (by decide) (Nat.le_of_ble_eq_true rfl) ?_
  intro p e s m args below meth c ls X G Y hr hlk hl
  have hl : lv_has ls 4 [(0, .ref (ad 0)), (1, .ref (ad 5)), (2, .int a2)] := hl
  have b2 : ∀ n : Nat, ∀ (x2 : Int32) (x3 : Int32) (s0 : St) (H : Heap) (locs : List Loc) (ls : Array Slot), m_lay_v3_L2 F  n x2 x3 s0 = some (ρ, σ') → gY shM D cy ad A s0 s H locs → lv_has ls 4 [(0, .ref (ad 0)), (1, .ref (ad 5)), (2, .int x2), (3, .int x3)] → W p l e (grm 1) s m args below meth c H locs 0 0 (MQ below (va_Qi (fun (q : Int32) (_ : Unit) => q = ρ) (fun _ t => va_P D vwCl (gWl shM cy ad σ') t.heap) A) args s 0 0 A) (F0 m 2 ls []) := by
    intro n
    induction n with
    | zero => intro x2 x3 s0 H locs ls h Y hl; exact (gnone h).elim
    | succ n hk2 =>
      have e : m_lay_v3_L2 F  (n + 1) = m_lay_v3_L2b F  (m_lay_v3_L2 F  n) := rfl
      rw [e]; clear e
      generalize m_lay_v3_L2 F  n = k2 at hk2 ⊢
      intro x2 x3 s0 H locs ls h Y hl
      unfold m_lay_v3_L2b at h
      refine lv_iload_n X.1 X.2.1 (dck_at da_X12_lay 2 rfl) rfl (lv_at hl 3 rfl) ?_
      refine lv_aload_n X.1 X.2.1 (dck_at da_X12_lay 3 rfl) rfl (lv_at hl 1 rfl) ?_
      refine gr_alen (v := 10) X G Y clM_5 (by decide) rfl (dck_at da_X12_lay 4 rfl) ?_
      refine lv_icmp_ge (tgt := 25) X.1 X.2.1 (dck_at da_X12_lay 5 rfl) rfl (fun c => ?_) (fun c => ?_)
      · have h := gI_pos h c
        refine lv_iload_n X.1 X.2.1 (dck_at da_X12_lay 17 rfl) rfl (lv_at hl 2 rfl) ?_
        refine lv_aload_n X.1 X.2.1 (dck_at da_X12_lay 18 rfl) rfl (lv_at hl 1 rfl) ?_
        refine gr_alen (v := 10) X G Y clM_5 (by decide) rfl (dck_at da_X12_lay 19 rfl) ?_
        refine lv_iadd X.1 X.2.1 (dck_at da_X12_lay 20 rfl) ?_
        exact gr_iretO X Y h hr rfl hlk (dck_at da_X12_lay 21 rfl)
      · have h := gI_neg h c
        refine lv_aload_n X.1 X.2.1 (dck_at da_X12_lay 6 rfl) rfl (lv_at hl 0 rfl) ?_
        refine gr_getR X G Y fk_RX12_89 clM_0 rfl (dck_at da_X12_lay 7 rfl) ?_
        refine lv_iload_n X.1 X.2.1 (dck_at da_X12_lay 8 rfl) rfl (lv_at hl 2 rfl) ?_
        refine lv_iload_n X.1 X.2.1 (dck_at da_X12_lay 9 rfl) rfl (lv_at hl 3 rfl) ?_
        refine lv_iadd X.1 X.2.1 (dck_at da_X12_lay 10 rfl) ?_
        refine lv_aload_n X.1 X.2.1 (dck_at da_X12_lay 11 rfl) rfl (lv_at hl 1 rfl) ?_
        refine lv_iload_n X.1 X.2.1 (dck_at da_X12_lay 12 rfl) rfl (lv_at hl 3 rfl) ?_
        obtain ⟨hin, h⟩ := gI_if h
        refine gr_iald X G Y clM_5 hin (dck_at da_X12_lay 13 rfl) ?_
        obtain ⟨hin, h⟩ := gI_if h
        refine gr_iast X G Y clM_27 hin (dck_at da_X12_lay 14 rfl) (fun H locs Y => ?_)
        refine lv_iinc (v := x3 + (1 : Int32)) (lv' := [(3, .int (x3 + (1 : Int32))), (0, .ref (ad 0)), (1, .ref (ad 5)), (2, .int x2)]) X.1 X.2.1 (dck_at da_X12_lay 15 rfl) hl (k := 3) rfl (congrArg (HAdd.hAdd _) ki_1) (by decide) rfl (fun ls hl => ?_)
        refine lv_goto (tgt := 2) X.1 X.2.1 (dck_at da_X12_lay 16 rfl) rfl ?_
        exact hk2 x2 (x3 + (1 : Int32)) (sI s0 27 (x2 + x3).toNatClampNeg (s0.1 5 (x3).toNatClampNeg)) _ _ _ h Y (lv_sub hl [1, 2, 3, 0] rfl)
  unfold m_lay_v3 at h
  refine lv_iconst X.1 X.2.1 (dck_at da_X12_lay 0 rfl) ki_0 ?_
  refine lv_istore_n (lv' := [(3, .int (0 : Int32)), (0, .ref (ad 0)), (1, .ref (ad 5)), (2, .int a2)]) X.1 X.2.1 (dck_at da_X12_lay 1 rfl) rfl hl (by decide) rfl (fun ls hl => ?_)
  exact b2 F a2 (0 : Int32) s0 _ _ _ h Y (lv_sub hl [1, 2, 3, 0] rfl)
set_option maxRecDepth 100000 in
set_option maxHeartbeats 4000000 in
theorem ok_m_lay_v4 {l : Launch} {D : va_G} {cy : Nat → ClassId} {ad sa : Nat → Nat} {A : Nat → Prop} {F : Nat} {a2 : Int32} {s0 : St} {ρ : Int32} {σ' : St} (h : m_lay_v4 F a2 s0 = some (ρ, σ')) : gMi l shM D cy ad sa A yX12_lay cX12_lay 4 (some .int) 1 [.ref (ad 0), .ref (ad 6), .int a2] s0 ρ σ' := by
  refine gM_of (by decide) (Nat.le_of_ble_eq_true rfl) ?_
  intro p e s m args below meth c ls X G Y hr hlk hl
  have hl : lv_has ls 4 [(0, .ref (ad 0)), (1, .ref (ad 6)), (2, .int a2)] := hl
  have b2 : ∀ n : Nat, ∀ (x2 : Int32) (x3 : Int32) (s0 : St) (H : Heap) (locs : List Loc) (ls : Array Slot), m_lay_v4_L2 F  n x2 x3 s0 = some (ρ, σ') → gY shM D cy ad A s0 s H locs → lv_has ls 4 [(0, .ref (ad 0)), (1, .ref (ad 6)), (2, .int x2), (3, .int x3)] → W p l e (grm 1) s m args below meth c H locs 0 0 (MQ below (va_Qi (fun (q : Int32) (_ : Unit) => q = ρ) (fun _ t => va_P D vwCl (gWl shM cy ad σ') t.heap) A) args s 0 0 A) (F0 m 2 ls []) := by
    intro n
    induction n with
    | zero => intro x2 x3 s0 H locs ls h Y hl; exact (gnone h).elim
    | succ n hk2 =>
      have e : m_lay_v4_L2 F  (n + 1) = m_lay_v4_L2b F  (m_lay_v4_L2 F  n) := rfl
      rw [e]; clear e
      generalize m_lay_v4_L2 F  n = k2 at hk2 ⊢
      intro x2 x3 s0 H locs ls h Y hl
      unfold m_lay_v4_L2b at h
      refine lv_iload_n X.1 X.2.1 (dck_at da_X12_lay 2 rfl) rfl (lv_at hl 3 rfl) ?_
      refine lv_aload_n X.1 X.2.1 (dck_at da_X12_lay 3 rfl) rfl (lv_at hl 1 rfl) ?_
      refine gr_alen (v := 8) X G Y clM_6 (by decide) rfl (dck_at da_X12_lay 4 rfl) ?_
      refine lv_icmp_ge (tgt := 25) X.1 X.2.1 (dck_at da_X12_lay 5 rfl) rfl (fun c => ?_) (fun c => ?_)
      · have h := gI_pos h c
        refine lv_iload_n X.1 X.2.1 (dck_at da_X12_lay 17 rfl) rfl (lv_at hl 2 rfl) ?_
        refine lv_aload_n X.1 X.2.1 (dck_at da_X12_lay 18 rfl) rfl (lv_at hl 1 rfl) ?_
        refine gr_alen (v := 8) X G Y clM_6 (by decide) rfl (dck_at da_X12_lay 19 rfl) ?_
        refine lv_iadd X.1 X.2.1 (dck_at da_X12_lay 20 rfl) ?_
        exact gr_iretO X Y h hr rfl hlk (dck_at da_X12_lay 21 rfl)
      · have h := gI_neg h c
        refine lv_aload_n X.1 X.2.1 (dck_at da_X12_lay 6 rfl) rfl (lv_at hl 0 rfl) ?_
        refine gr_getR X G Y fk_RX12_89 clM_0 rfl (dck_at da_X12_lay 7 rfl) ?_
        refine lv_iload_n X.1 X.2.1 (dck_at da_X12_lay 8 rfl) rfl (lv_at hl 2 rfl) ?_
        refine lv_iload_n X.1 X.2.1 (dck_at da_X12_lay 9 rfl) rfl (lv_at hl 3 rfl) ?_
        refine lv_iadd X.1 X.2.1 (dck_at da_X12_lay 10 rfl) ?_
        refine lv_aload_n X.1 X.2.1 (dck_at da_X12_lay 11 rfl) rfl (lv_at hl 1 rfl) ?_
        refine lv_iload_n X.1 X.2.1 (dck_at da_X12_lay 12 rfl) rfl (lv_at hl 3 rfl) ?_
        obtain ⟨hin, h⟩ := gI_if h
        refine gr_iald X G Y clM_6 hin (dck_at da_X12_lay 13 rfl) ?_
        obtain ⟨hin, h⟩ := gI_if h
        refine gr_iast X G Y clM_27 hin (dck_at da_X12_lay 14 rfl) (fun H locs Y => ?_)
        refine lv_iinc (v := x3 + (1 : Int32)) (lv' := [(3, .int (x3 + (1 : Int32))), (0, .ref (ad 0)), (1, .ref (ad 6)), (2, .int x2)]) X.1 X.2.1 (dck_at da_X12_lay 15 rfl) hl (k := 3) rfl (congrArg (HAdd.hAdd _) ki_1) (by decide) rfl (fun ls hl => ?_)
        refine lv_goto (tgt := 2) X.1 X.2.1 (dck_at da_X12_lay 16 rfl) rfl ?_
        exact hk2 x2 (x3 + (1 : Int32)) (sI s0 27 (x2 + x3).toNatClampNeg (s0.1 6 (x3).toNatClampNeg)) _ _ _ h Y (lv_sub hl [1, 2, 3, 0] rfl)
  unfold m_lay_v4 at h
  refine lv_iconst X.1 X.2.1 (dck_at da_X12_lay 0 rfl) ki_0 ?_
  refine lv_istore_n (lv' := [(3, .int (0 : Int32)), (0, .ref (ad 0)), (1, .ref (ad 6)), (2, .int a2)]) X.1 X.2.1 (dck_at da_X12_lay 1 rfl) rfl hl (by decide) rfl (fun ls hl => ?_)
  exact b2 F a2 (0 : Int32) s0 _ _ _ h Y (lv_sub hl [1, 2, 3, 0] rfl)
set_option maxRecDepth 100000 in
set_option maxHeartbeats 4000000 in
theorem ok_m_lay_v5 {l : Launch} {D : va_G} {cy : Nat → ClassId} {ad sa : Nat → Nat} {A : Nat → Prop} {F : Nat} {a2 : Int32} {s0 : St} {ρ : Int32} {σ' : St} (h : m_lay_v5 F a2 s0 = some (ρ, σ')) : gMi l shM D cy ad sa A yX12_lay cX12_lay 4 (some .int) 1 [.ref (ad 0), .ref (ad 11), .int a2] s0 ρ σ' := by
  refine gM_of (by decide) (Nat.le_of_ble_eq_true rfl) ?_
  intro p e s m args below meth c ls X G Y hr hlk hl
  have hl : lv_has ls 4 [(0, .ref (ad 0)), (1, .ref (ad 11)), (2, .int a2)] := hl
  have b2 : ∀ n : Nat, ∀ (x2 : Int32) (x3 : Int32) (s0 : St) (H : Heap) (locs : List Loc) (ls : Array Slot), m_lay_v5_L2 F  n x2 x3 s0 = some (ρ, σ') → gY shM D cy ad A s0 s H locs → lv_has ls 4 [(0, .ref (ad 0)), (1, .ref (ad 11)), (2, .int x2), (3, .int x3)] → W p l e (grm 1) s m args below meth c H locs 0 0 (MQ below (va_Qi (fun (q : Int32) (_ : Unit) => q = ρ) (fun _ t => va_P D vwCl (gWl shM cy ad σ') t.heap) A) args s 0 0 A) (F0 m 2 ls []) := by
    intro n
    induction n with
    | zero => intro x2 x3 s0 H locs ls h Y hl; exact (gnone h).elim
    | succ n hk2 =>
      have e : m_lay_v5_L2 F  (n + 1) = m_lay_v5_L2b F  (m_lay_v5_L2 F  n) := rfl
      rw [e]; clear e
      generalize m_lay_v5_L2 F  n = k2 at hk2 ⊢
      intro x2 x3 s0 H locs ls h Y hl
      unfold m_lay_v5_L2b at h
      refine lv_iload_n X.1 X.2.1 (dck_at da_X12_lay 2 rfl) rfl (lv_at hl 3 rfl) ?_
      refine lv_aload_n X.1 X.2.1 (dck_at da_X12_lay 3 rfl) rfl (lv_at hl 1 rfl) ?_
      refine gr_alen (v := 4) X G Y clM_11 (by decide) rfl (dck_at da_X12_lay 4 rfl) ?_
      refine lv_icmp_ge (tgt := 25) X.1 X.2.1 (dck_at da_X12_lay 5 rfl) rfl (fun c => ?_) (fun c => ?_)
      · have h := gI_pos h c
        refine lv_iload_n X.1 X.2.1 (dck_at da_X12_lay 17 rfl) rfl (lv_at hl 2 rfl) ?_
        refine lv_aload_n X.1 X.2.1 (dck_at da_X12_lay 18 rfl) rfl (lv_at hl 1 rfl) ?_
        refine gr_alen (v := 4) X G Y clM_11 (by decide) rfl (dck_at da_X12_lay 19 rfl) ?_
        refine lv_iadd X.1 X.2.1 (dck_at da_X12_lay 20 rfl) ?_
        exact gr_iretO X Y h hr rfl hlk (dck_at da_X12_lay 21 rfl)
      · have h := gI_neg h c
        refine lv_aload_n X.1 X.2.1 (dck_at da_X12_lay 6 rfl) rfl (lv_at hl 0 rfl) ?_
        refine gr_getR X G Y fk_RX12_89 clM_0 rfl (dck_at da_X12_lay 7 rfl) ?_
        refine lv_iload_n X.1 X.2.1 (dck_at da_X12_lay 8 rfl) rfl (lv_at hl 2 rfl) ?_
        refine lv_iload_n X.1 X.2.1 (dck_at da_X12_lay 9 rfl) rfl (lv_at hl 3 rfl) ?_
        refine lv_iadd X.1 X.2.1 (dck_at da_X12_lay 10 rfl) ?_
        refine lv_aload_n X.1 X.2.1 (dck_at da_X12_lay 11 rfl) rfl (lv_at hl 1 rfl) ?_
        refine lv_iload_n X.1 X.2.1 (dck_at da_X12_lay 12 rfl) rfl (lv_at hl 3 rfl) ?_
        obtain ⟨hin, h⟩ := gI_if h
        refine gr_iald X G Y clM_11 hin (dck_at da_X12_lay 13 rfl) ?_
        obtain ⟨hin, h⟩ := gI_if h
        refine gr_iast X G Y clM_27 hin (dck_at da_X12_lay 14 rfl) (fun H locs Y => ?_)
        refine lv_iinc (v := x3 + (1 : Int32)) (lv' := [(3, .int (x3 + (1 : Int32))), (0, .ref (ad 0)), (1, .ref (ad 11)), (2, .int x2)]) X.1 X.2.1 (dck_at da_X12_lay 15 rfl) hl (k := 3) rfl (congrArg (HAdd.hAdd _) ki_1) (by decide) rfl (fun ls hl => ?_)
        refine lv_goto (tgt := 2) X.1 X.2.1 (dck_at da_X12_lay 16 rfl) rfl ?_
        exact hk2 x2 (x3 + (1 : Int32)) (sI s0 27 (x2 + x3).toNatClampNeg (s0.1 11 (x3).toNatClampNeg)) _ _ _ h Y (lv_sub hl [1, 2, 3, 0] rfl)
  unfold m_lay_v5 at h
  refine lv_iconst X.1 X.2.1 (dck_at da_X12_lay 0 rfl) ki_0 ?_
  refine lv_istore_n (lv' := [(3, .int (0 : Int32)), (0, .ref (ad 0)), (1, .ref (ad 11)), (2, .int a2)]) X.1 X.2.1 (dck_at da_X12_lay 1 rfl) rfl hl (by decide) rfl (fun ls hl => ?_)
  exact b2 F a2 (0 : Int32) s0 _ _ _ h Y (lv_sub hl [1, 2, 3, 0] rfl)
set_option maxRecDepth 100000 in
set_option maxHeartbeats 4000000 in
theorem ok_m_lay_v6 {l : Launch} {D : va_G} {cy : Nat → ClassId} {ad sa : Nat → Nat} {A : Nat → Prop} {F : Nat} {a2 : Int32} {s0 : St} {ρ : Int32} {σ' : St} (h : m_lay_v6 F a2 s0 = some (ρ, σ')) : gMi l shM D cy ad sa A yX12_lay cX12_lay 4 (some .int) 1 [.ref (ad 0), .ref (ad 12), .int a2] s0 ρ σ' := by
  refine gM_of (by decide) (Nat.le_of_ble_eq_true rfl) ?_
  intro p e s m args below meth c ls X G Y hr hlk hl
  have hl : lv_has ls 4 [(0, .ref (ad 0)), (1, .ref (ad 12)), (2, .int a2)] := hl
  have b2 : ∀ n : Nat, ∀ (x2 : Int32) (x3 : Int32) (s0 : St) (H : Heap) (locs : List Loc) (ls : Array Slot), m_lay_v6_L2 F  n x2 x3 s0 = some (ρ, σ') → gY shM D cy ad A s0 s H locs → lv_has ls 4 [(0, .ref (ad 0)), (1, .ref (ad 12)), (2, .int x2), (3, .int x3)] → W p l e (grm 1) s m args below meth c H locs 0 0 (MQ below (va_Qi (fun (q : Int32) (_ : Unit) => q = ρ) (fun _ t => va_P D vwCl (gWl shM cy ad σ') t.heap) A) args s 0 0 A) (F0 m 2 ls []) := by
    intro n
    induction n with
    | zero => intro x2 x3 s0 H locs ls h Y hl; exact (gnone h).elim
    | succ n hk2 =>
      have e : m_lay_v6_L2 F  (n + 1) = m_lay_v6_L2b F  (m_lay_v6_L2 F  n) := rfl
      rw [e]; clear e
      generalize m_lay_v6_L2 F  n = k2 at hk2 ⊢
      intro x2 x3 s0 H locs ls h Y hl
      unfold m_lay_v6_L2b at h
      refine lv_iload_n X.1 X.2.1 (dck_at da_X12_lay 2 rfl) rfl (lv_at hl 3 rfl) ?_
      refine lv_aload_n X.1 X.2.1 (dck_at da_X12_lay 3 rfl) rfl (lv_at hl 1 rfl) ?_
      refine gr_alen (v := 4) X G Y clM_12 (by decide) rfl (dck_at da_X12_lay 4 rfl) ?_
      refine lv_icmp_ge (tgt := 25) X.1 X.2.1 (dck_at da_X12_lay 5 rfl) rfl (fun c => ?_) (fun c => ?_)
      · have h := gI_pos h c
        refine lv_iload_n X.1 X.2.1 (dck_at da_X12_lay 17 rfl) rfl (lv_at hl 2 rfl) ?_
        refine lv_aload_n X.1 X.2.1 (dck_at da_X12_lay 18 rfl) rfl (lv_at hl 1 rfl) ?_
        refine gr_alen (v := 4) X G Y clM_12 (by decide) rfl (dck_at da_X12_lay 19 rfl) ?_
        refine lv_iadd X.1 X.2.1 (dck_at da_X12_lay 20 rfl) ?_
        exact gr_iretO X Y h hr rfl hlk (dck_at da_X12_lay 21 rfl)
      · have h := gI_neg h c
        refine lv_aload_n X.1 X.2.1 (dck_at da_X12_lay 6 rfl) rfl (lv_at hl 0 rfl) ?_
        refine gr_getR X G Y fk_RX12_89 clM_0 rfl (dck_at da_X12_lay 7 rfl) ?_
        refine lv_iload_n X.1 X.2.1 (dck_at da_X12_lay 8 rfl) rfl (lv_at hl 2 rfl) ?_
        refine lv_iload_n X.1 X.2.1 (dck_at da_X12_lay 9 rfl) rfl (lv_at hl 3 rfl) ?_
        refine lv_iadd X.1 X.2.1 (dck_at da_X12_lay 10 rfl) ?_
        refine lv_aload_n X.1 X.2.1 (dck_at da_X12_lay 11 rfl) rfl (lv_at hl 1 rfl) ?_
        refine lv_iload_n X.1 X.2.1 (dck_at da_X12_lay 12 rfl) rfl (lv_at hl 3 rfl) ?_
        obtain ⟨hin, h⟩ := gI_if h
        refine gr_iald X G Y clM_12 hin (dck_at da_X12_lay 13 rfl) ?_
        obtain ⟨hin, h⟩ := gI_if h
        refine gr_iast X G Y clM_27 hin (dck_at da_X12_lay 14 rfl) (fun H locs Y => ?_)
        refine lv_iinc (v := x3 + (1 : Int32)) (lv' := [(3, .int (x3 + (1 : Int32))), (0, .ref (ad 0)), (1, .ref (ad 12)), (2, .int x2)]) X.1 X.2.1 (dck_at da_X12_lay 15 rfl) hl (k := 3) rfl (congrArg (HAdd.hAdd _) ki_1) (by decide) rfl (fun ls hl => ?_)
        refine lv_goto (tgt := 2) X.1 X.2.1 (dck_at da_X12_lay 16 rfl) rfl ?_
        exact hk2 x2 (x3 + (1 : Int32)) (sI s0 27 (x2 + x3).toNatClampNeg (s0.1 12 (x3).toNatClampNeg)) _ _ _ h Y (lv_sub hl [1, 2, 3, 0] rfl)
  unfold m_lay_v6 at h
  refine lv_iconst X.1 X.2.1 (dck_at da_X12_lay 0 rfl) ki_0 ?_
  refine lv_istore_n (lv' := [(3, .int (0 : Int32)), (0, .ref (ad 0)), (1, .ref (ad 12)), (2, .int a2)]) X.1 X.2.1 (dck_at da_X12_lay 1 rfl) rfl hl (by decide) rfl (fun ls hl => ?_)
  exact b2 F a2 (0 : Int32) s0 _ _ _ h Y (lv_sub hl [1, 2, 3, 0] rfl)
set_option maxRecDepth 100000 in
set_option maxHeartbeats 4000000 in
theorem ok_m_lay_v7 {l : Launch} {D : va_G} {cy : Nat → ClassId} {ad sa : Nat → Nat} {A : Nat → Prop} {F : Nat} {a2 : Int32} {s0 : St} {ρ : Int32} {σ' : St} (h : m_lay_v7 F a2 s0 = some (ρ, σ')) : gMi l shM D cy ad sa A yX12_lay cX12_lay 4 (some .int) 1 [.ref (ad 0), .ref (ad 13), .int a2] s0 ρ σ' := by
  refine gM_of (by decide) (Nat.le_of_ble_eq_true rfl) ?_
  intro p e s m args below meth c ls X G Y hr hlk hl
  have hl : lv_has ls 4 [(0, .ref (ad 0)), (1, .ref (ad 13)), (2, .int a2)] := hl
  have b2 : ∀ n : Nat, ∀ (x2 : Int32) (x3 : Int32) (s0 : St) (H : Heap) (locs : List Loc) (ls : Array Slot), m_lay_v7_L2 F  n x2 x3 s0 = some (ρ, σ') → gY shM D cy ad A s0 s H locs → lv_has ls 4 [(0, .ref (ad 0)), (1, .ref (ad 13)), (2, .int x2), (3, .int x3)] → W p l e (grm 1) s m args below meth c H locs 0 0 (MQ below (va_Qi (fun (q : Int32) (_ : Unit) => q = ρ) (fun _ t => va_P D vwCl (gWl shM cy ad σ') t.heap) A) args s 0 0 A) (F0 m 2 ls []) := by
    intro n
    induction n with
    | zero => intro x2 x3 s0 H locs ls h Y hl; exact (gnone h).elim
    | succ n hk2 =>
      have e : m_lay_v7_L2 F  (n + 1) = m_lay_v7_L2b F  (m_lay_v7_L2 F  n) := rfl
      rw [e]; clear e
      generalize m_lay_v7_L2 F  n = k2 at hk2 ⊢
      intro x2 x3 s0 H locs ls h Y hl
      unfold m_lay_v7_L2b at h
      refine lv_iload_n X.1 X.2.1 (dck_at da_X12_lay 2 rfl) rfl (lv_at hl 3 rfl) ?_
      refine lv_aload_n X.1 X.2.1 (dck_at da_X12_lay 3 rfl) rfl (lv_at hl 1 rfl) ?_
      refine gr_alen (v := 4) X G Y clM_13 (by decide) rfl (dck_at da_X12_lay 4 rfl) ?_
      refine lv_icmp_ge (tgt := 25) X.1 X.2.1 (dck_at da_X12_lay 5 rfl) rfl (fun c => ?_) (fun c => ?_)
      · have h := gI_pos h c
        refine lv_iload_n X.1 X.2.1 (dck_at da_X12_lay 17 rfl) rfl (lv_at hl 2 rfl) ?_
        refine lv_aload_n X.1 X.2.1 (dck_at da_X12_lay 18 rfl) rfl (lv_at hl 1 rfl) ?_
        refine gr_alen (v := 4) X G Y clM_13 (by decide) rfl (dck_at da_X12_lay 19 rfl) ?_
        refine lv_iadd X.1 X.2.1 (dck_at da_X12_lay 20 rfl) ?_
        exact gr_iretO X Y h hr rfl hlk (dck_at da_X12_lay 21 rfl)
      · have h := gI_neg h c
        refine lv_aload_n X.1 X.2.1 (dck_at da_X12_lay 6 rfl) rfl (lv_at hl 0 rfl) ?_
        refine gr_getR X G Y fk_RX12_89 clM_0 rfl (dck_at da_X12_lay 7 rfl) ?_
        refine lv_iload_n X.1 X.2.1 (dck_at da_X12_lay 8 rfl) rfl (lv_at hl 2 rfl) ?_
        refine lv_iload_n X.1 X.2.1 (dck_at da_X12_lay 9 rfl) rfl (lv_at hl 3 rfl) ?_
        refine lv_iadd X.1 X.2.1 (dck_at da_X12_lay 10 rfl) ?_
        refine lv_aload_n X.1 X.2.1 (dck_at da_X12_lay 11 rfl) rfl (lv_at hl 1 rfl) ?_
        refine lv_iload_n X.1 X.2.1 (dck_at da_X12_lay 12 rfl) rfl (lv_at hl 3 rfl) ?_
        obtain ⟨hin, h⟩ := gI_if h
        refine gr_iald X G Y clM_13 hin (dck_at da_X12_lay 13 rfl) ?_
        obtain ⟨hin, h⟩ := gI_if h
        refine gr_iast X G Y clM_27 hin (dck_at da_X12_lay 14 rfl) (fun H locs Y => ?_)
        refine lv_iinc (v := x3 + (1 : Int32)) (lv' := [(3, .int (x3 + (1 : Int32))), (0, .ref (ad 0)), (1, .ref (ad 13)), (2, .int x2)]) X.1 X.2.1 (dck_at da_X12_lay 15 rfl) hl (k := 3) rfl (congrArg (HAdd.hAdd _) ki_1) (by decide) rfl (fun ls hl => ?_)
        refine lv_goto (tgt := 2) X.1 X.2.1 (dck_at da_X12_lay 16 rfl) rfl ?_
        exact hk2 x2 (x3 + (1 : Int32)) (sI s0 27 (x2 + x3).toNatClampNeg (s0.1 13 (x3).toNatClampNeg)) _ _ _ h Y (lv_sub hl [1, 2, 3, 0] rfl)
  unfold m_lay_v7 at h
  refine lv_iconst X.1 X.2.1 (dck_at da_X12_lay 0 rfl) ki_0 ?_
  refine lv_istore_n (lv' := [(3, .int (0 : Int32)), (0, .ref (ad 0)), (1, .ref (ad 13)), (2, .int a2)]) X.1 X.2.1 (dck_at da_X12_lay 1 rfl) rfl hl (by decide) rfl (fun ls hl => ?_)
  exact b2 F a2 (0 : Int32) s0 _ _ _ h Y (lv_sub hl [1, 2, 3, 0] rfl)
set_option maxRecDepth 100000 in
set_option maxHeartbeats 4000000 in
theorem ok_m_lay_v8 {l : Launch} {D : va_G} {cy : Nat → ClassId} {ad sa : Nat → Nat} {A : Nat → Prop} {F : Nat} {a2 : Int32} {s0 : St} {ρ : Int32} {σ' : St} (h : m_lay_v8 F a2 s0 = some (ρ, σ')) : gMi l shM D cy ad sa A yX12_lay cX12_lay 4 (some .int) 1 [.ref (ad 0), .ref (ad 14), .int a2] s0 ρ σ' := by
  refine gM_of (by decide) (Nat.le_of_ble_eq_true rfl) ?_
  intro p e s m args below meth c ls X G Y hr hlk hl
  have hl : lv_has ls 4 [(0, .ref (ad 0)), (1, .ref (ad 14)), (2, .int a2)] := hl
  have b2 : ∀ n : Nat, ∀ (x2 : Int32) (x3 : Int32) (s0 : St) (H : Heap) (locs : List Loc) (ls : Array Slot), m_lay_v8_L2 F  n x2 x3 s0 = some (ρ, σ') → gY shM D cy ad A s0 s H locs → lv_has ls 4 [(0, .ref (ad 0)), (1, .ref (ad 14)), (2, .int x2), (3, .int x3)] → W p l e (grm 1) s m args below meth c H locs 0 0 (MQ below (va_Qi (fun (q : Int32) (_ : Unit) => q = ρ) (fun _ t => va_P D vwCl (gWl shM cy ad σ') t.heap) A) args s 0 0 A) (F0 m 2 ls []) := by
    intro n
    induction n with
    | zero => intro x2 x3 s0 H locs ls h Y hl; exact (gnone h).elim
    | succ n hk2 =>
      have e : m_lay_v8_L2 F  (n + 1) = m_lay_v8_L2b F  (m_lay_v8_L2 F  n) := rfl
      rw [e]; clear e
      generalize m_lay_v8_L2 F  n = k2 at hk2 ⊢
      intro x2 x3 s0 H locs ls h Y hl
      unfold m_lay_v8_L2b at h
      refine lv_iload_n X.1 X.2.1 (dck_at da_X12_lay 2 rfl) rfl (lv_at hl 3 rfl) ?_
      refine lv_aload_n X.1 X.2.1 (dck_at da_X12_lay 3 rfl) rfl (lv_at hl 1 rfl) ?_
      refine gr_alen (v := 6) X G Y clM_14 (by decide) rfl (dck_at da_X12_lay 4 rfl) ?_
      refine lv_icmp_ge (tgt := 25) X.1 X.2.1 (dck_at da_X12_lay 5 rfl) rfl (fun c => ?_) (fun c => ?_)
      · have h := gI_pos h c
        refine lv_iload_n X.1 X.2.1 (dck_at da_X12_lay 17 rfl) rfl (lv_at hl 2 rfl) ?_
        refine lv_aload_n X.1 X.2.1 (dck_at da_X12_lay 18 rfl) rfl (lv_at hl 1 rfl) ?_
        refine gr_alen (v := 6) X G Y clM_14 (by decide) rfl (dck_at da_X12_lay 19 rfl) ?_
        refine lv_iadd X.1 X.2.1 (dck_at da_X12_lay 20 rfl) ?_
        exact gr_iretO X Y h hr rfl hlk (dck_at da_X12_lay 21 rfl)
      · have h := gI_neg h c
        refine lv_aload_n X.1 X.2.1 (dck_at da_X12_lay 6 rfl) rfl (lv_at hl 0 rfl) ?_
        refine gr_getR X G Y fk_RX12_89 clM_0 rfl (dck_at da_X12_lay 7 rfl) ?_
        refine lv_iload_n X.1 X.2.1 (dck_at da_X12_lay 8 rfl) rfl (lv_at hl 2 rfl) ?_
        refine lv_iload_n X.1 X.2.1 (dck_at da_X12_lay 9 rfl) rfl (lv_at hl 3 rfl) ?_
        refine lv_iadd X.1 X.2.1 (dck_at da_X12_lay 10 rfl) ?_
        refine lv_aload_n X.1 X.2.1 (dck_at da_X12_lay 11 rfl) rfl (lv_at hl 1 rfl) ?_
        refine lv_iload_n X.1 X.2.1 (dck_at da_X12_lay 12 rfl) rfl (lv_at hl 3 rfl) ?_
        obtain ⟨hin, h⟩ := gI_if h
        refine gr_iald X G Y clM_14 hin (dck_at da_X12_lay 13 rfl) ?_
        obtain ⟨hin, h⟩ := gI_if h
        refine gr_iast X G Y clM_27 hin (dck_at da_X12_lay 14 rfl) (fun H locs Y => ?_)
        refine lv_iinc (v := x3 + (1 : Int32)) (lv' := [(3, .int (x3 + (1 : Int32))), (0, .ref (ad 0)), (1, .ref (ad 14)), (2, .int x2)]) X.1 X.2.1 (dck_at da_X12_lay 15 rfl) hl (k := 3) rfl (congrArg (HAdd.hAdd _) ki_1) (by decide) rfl (fun ls hl => ?_)
        refine lv_goto (tgt := 2) X.1 X.2.1 (dck_at da_X12_lay 16 rfl) rfl ?_
        exact hk2 x2 (x3 + (1 : Int32)) (sI s0 27 (x2 + x3).toNatClampNeg (s0.1 14 (x3).toNatClampNeg)) _ _ _ h Y (lv_sub hl [1, 2, 3, 0] rfl)
  unfold m_lay_v8 at h
  refine lv_iconst X.1 X.2.1 (dck_at da_X12_lay 0 rfl) ki_0 ?_
  refine lv_istore_n (lv' := [(3, .int (0 : Int32)), (0, .ref (ad 0)), (1, .ref (ad 14)), (2, .int a2)]) X.1 X.2.1 (dck_at da_X12_lay 1 rfl) rfl hl (by decide) rfl (fun ls hl => ?_)
  exact b2 F a2 (0 : Int32) s0 _ _ _ h Y (lv_sub hl [1, 2, 3, 0] rfl)
set_option maxRecDepth 100000 in
set_option maxHeartbeats 4000000 in
theorem ok_m_lay_v9 {l : Launch} {D : va_G} {cy : Nat → ClassId} {ad sa : Nat → Nat} {A : Nat → Prop} {F : Nat} {a2 : Int32} {s0 : St} {ρ : Int32} {σ' : St} (h : m_lay_v9 F a2 s0 = some (ρ, σ')) : gMi l shM D cy ad sa A yX12_lay cX12_lay 4 (some .int) 1 [.ref (ad 0), .ref (ad 16), .int a2] s0 ρ σ' := by
  refine gM_of (by decide) (Nat.le_of_ble_eq_true rfl) ?_
  intro p e s m args below meth c ls X G Y hr hlk hl
  have hl : lv_has ls 4 [(0, .ref (ad 0)), (1, .ref (ad 16)), (2, .int a2)] := hl
  have b2 : ∀ n : Nat, ∀ (x2 : Int32) (x3 : Int32) (s0 : St) (H : Heap) (locs : List Loc) (ls : Array Slot), m_lay_v9_L2 F  n x2 x3 s0 = some (ρ, σ') → gY shM D cy ad A s0 s H locs → lv_has ls 4 [(0, .ref (ad 0)), (1, .ref (ad 16)), (2, .int x2), (3, .int x3)] → W p l e (grm 1) s m args below meth c H locs 0 0 (MQ below (va_Qi (fun (q : Int32) (_ : Unit) => q = ρ) (fun _ t => va_P D vwCl (gWl shM cy ad σ') t.heap) A) args s 0 0 A) (F0 m 2 ls []) := by
    intro n
    induction n with
    | zero => intro x2 x3 s0 H locs ls h Y hl; exact (gnone h).elim
    | succ n hk2 =>
      have e : m_lay_v9_L2 F  (n + 1) = m_lay_v9_L2b F  (m_lay_v9_L2 F  n) := rfl
      rw [e]; clear e
      generalize m_lay_v9_L2 F  n = k2 at hk2 ⊢
      intro x2 x3 s0 H locs ls h Y hl
      unfold m_lay_v9_L2b at h
      refine lv_iload_n X.1 X.2.1 (dck_at da_X12_lay 2 rfl) rfl (lv_at hl 3 rfl) ?_
      refine lv_aload_n X.1 X.2.1 (dck_at da_X12_lay 3 rfl) rfl (lv_at hl 1 rfl) ?_
      refine gr_alen (v := 6) X G Y clM_16 (by decide) rfl (dck_at da_X12_lay 4 rfl) ?_
      refine lv_icmp_ge (tgt := 25) X.1 X.2.1 (dck_at da_X12_lay 5 rfl) rfl (fun c => ?_) (fun c => ?_)
      · have h := gI_pos h c
        refine lv_iload_n X.1 X.2.1 (dck_at da_X12_lay 17 rfl) rfl (lv_at hl 2 rfl) ?_
        refine lv_aload_n X.1 X.2.1 (dck_at da_X12_lay 18 rfl) rfl (lv_at hl 1 rfl) ?_
        refine gr_alen (v := 6) X G Y clM_16 (by decide) rfl (dck_at da_X12_lay 19 rfl) ?_
        refine lv_iadd X.1 X.2.1 (dck_at da_X12_lay 20 rfl) ?_
        exact gr_iretO X Y h hr rfl hlk (dck_at da_X12_lay 21 rfl)
      · have h := gI_neg h c
        refine lv_aload_n X.1 X.2.1 (dck_at da_X12_lay 6 rfl) rfl (lv_at hl 0 rfl) ?_
        refine gr_getR X G Y fk_RX12_89 clM_0 rfl (dck_at da_X12_lay 7 rfl) ?_
        refine lv_iload_n X.1 X.2.1 (dck_at da_X12_lay 8 rfl) rfl (lv_at hl 2 rfl) ?_
        refine lv_iload_n X.1 X.2.1 (dck_at da_X12_lay 9 rfl) rfl (lv_at hl 3 rfl) ?_
        refine lv_iadd X.1 X.2.1 (dck_at da_X12_lay 10 rfl) ?_
        refine lv_aload_n X.1 X.2.1 (dck_at da_X12_lay 11 rfl) rfl (lv_at hl 1 rfl) ?_
        refine lv_iload_n X.1 X.2.1 (dck_at da_X12_lay 12 rfl) rfl (lv_at hl 3 rfl) ?_
        obtain ⟨hin, h⟩ := gI_if h
        refine gr_iald X G Y clM_16 hin (dck_at da_X12_lay 13 rfl) ?_
        obtain ⟨hin, h⟩ := gI_if h
        refine gr_iast X G Y clM_27 hin (dck_at da_X12_lay 14 rfl) (fun H locs Y => ?_)
        refine lv_iinc (v := x3 + (1 : Int32)) (lv' := [(3, .int (x3 + (1 : Int32))), (0, .ref (ad 0)), (1, .ref (ad 16)), (2, .int x2)]) X.1 X.2.1 (dck_at da_X12_lay 15 rfl) hl (k := 3) rfl (congrArg (HAdd.hAdd _) ki_1) (by decide) rfl (fun ls hl => ?_)
        refine lv_goto (tgt := 2) X.1 X.2.1 (dck_at da_X12_lay 16 rfl) rfl ?_
        exact hk2 x2 (x3 + (1 : Int32)) (sI s0 27 (x2 + x3).toNatClampNeg (s0.1 16 (x3).toNatClampNeg)) _ _ _ h Y (lv_sub hl [1, 2, 3, 0] rfl)
  unfold m_lay_v9 at h
  refine lv_iconst X.1 X.2.1 (dck_at da_X12_lay 0 rfl) ki_0 ?_
  refine lv_istore_n (lv' := [(3, .int (0 : Int32)), (0, .ref (ad 0)), (1, .ref (ad 16)), (2, .int a2)]) X.1 X.2.1 (dck_at da_X12_lay 1 rfl) rfl hl (by decide) rfl (fun ls hl => ?_)
  exact b2 F a2 (0 : Int32) s0 _ _ _ h Y (lv_sub hl [1, 2, 3, 0] rfl)
set_option maxRecDepth 100000 in
set_option maxHeartbeats 4000000 in
theorem ok_m_lay_v10 {l : Launch} {D : va_G} {cy : Nat → ClassId} {ad sa : Nat → Nat} {A : Nat → Prop} {F : Nat} {a2 : Int32} {s0 : St} {ρ : Int32} {σ' : St} (h : m_lay_v10 F a2 s0 = some (ρ, σ')) : gMi l shM D cy ad sa A yX12_lay cX12_lay 4 (some .int) 1 [.ref (ad 0), .ref (ad 17), .int a2] s0 ρ σ' := by
  refine gM_of (by decide) (Nat.le_of_ble_eq_true rfl) ?_
  intro p e s m args below meth c ls X G Y hr hlk hl
  have hl : lv_has ls 4 [(0, .ref (ad 0)), (1, .ref (ad 17)), (2, .int a2)] := hl
  have b2 : ∀ n : Nat, ∀ (x2 : Int32) (x3 : Int32) (s0 : St) (H : Heap) (locs : List Loc) (ls : Array Slot), m_lay_v10_L2 F  n x2 x3 s0 = some (ρ, σ') → gY shM D cy ad A s0 s H locs → lv_has ls 4 [(0, .ref (ad 0)), (1, .ref (ad 17)), (2, .int x2), (3, .int x3)] → W p l e (grm 1) s m args below meth c H locs 0 0 (MQ below (va_Qi (fun (q : Int32) (_ : Unit) => q = ρ) (fun _ t => va_P D vwCl (gWl shM cy ad σ') t.heap) A) args s 0 0 A) (F0 m 2 ls []) := by
    intro n
    induction n with
    | zero => intro x2 x3 s0 H locs ls h Y hl; exact (gnone h).elim
    | succ n hk2 =>
      have e : m_lay_v10_L2 F  (n + 1) = m_lay_v10_L2b F  (m_lay_v10_L2 F  n) := rfl
      rw [e]; clear e
      generalize m_lay_v10_L2 F  n = k2 at hk2 ⊢
      intro x2 x3 s0 H locs ls h Y hl
      unfold m_lay_v10_L2b at h
      refine lv_iload_n X.1 X.2.1 (dck_at da_X12_lay 2 rfl) rfl (lv_at hl 3 rfl) ?_
      refine lv_aload_n X.1 X.2.1 (dck_at da_X12_lay 3 rfl) rfl (lv_at hl 1 rfl) ?_
      refine gr_alen (v := 6) X G Y clM_17 (by decide) rfl (dck_at da_X12_lay 4 rfl) ?_
      refine lv_icmp_ge (tgt := 25) X.1 X.2.1 (dck_at da_X12_lay 5 rfl) rfl (fun c => ?_) (fun c => ?_)
      · have h := gI_pos h c
        refine lv_iload_n X.1 X.2.1 (dck_at da_X12_lay 17 rfl) rfl (lv_at hl 2 rfl) ?_
        refine lv_aload_n X.1 X.2.1 (dck_at da_X12_lay 18 rfl) rfl (lv_at hl 1 rfl) ?_
        refine gr_alen (v := 6) X G Y clM_17 (by decide) rfl (dck_at da_X12_lay 19 rfl) ?_
        refine lv_iadd X.1 X.2.1 (dck_at da_X12_lay 20 rfl) ?_
        exact gr_iretO X Y h hr rfl hlk (dck_at da_X12_lay 21 rfl)
      · have h := gI_neg h c
        refine lv_aload_n X.1 X.2.1 (dck_at da_X12_lay 6 rfl) rfl (lv_at hl 0 rfl) ?_
        refine gr_getR X G Y fk_RX12_89 clM_0 rfl (dck_at da_X12_lay 7 rfl) ?_
        refine lv_iload_n X.1 X.2.1 (dck_at da_X12_lay 8 rfl) rfl (lv_at hl 2 rfl) ?_
        refine lv_iload_n X.1 X.2.1 (dck_at da_X12_lay 9 rfl) rfl (lv_at hl 3 rfl) ?_
        refine lv_iadd X.1 X.2.1 (dck_at da_X12_lay 10 rfl) ?_
        refine lv_aload_n X.1 X.2.1 (dck_at da_X12_lay 11 rfl) rfl (lv_at hl 1 rfl) ?_
        refine lv_iload_n X.1 X.2.1 (dck_at da_X12_lay 12 rfl) rfl (lv_at hl 3 rfl) ?_
        obtain ⟨hin, h⟩ := gI_if h
        refine gr_iald X G Y clM_17 hin (dck_at da_X12_lay 13 rfl) ?_
        obtain ⟨hin, h⟩ := gI_if h
        refine gr_iast X G Y clM_27 hin (dck_at da_X12_lay 14 rfl) (fun H locs Y => ?_)
        refine lv_iinc (v := x3 + (1 : Int32)) (lv' := [(3, .int (x3 + (1 : Int32))), (0, .ref (ad 0)), (1, .ref (ad 17)), (2, .int x2)]) X.1 X.2.1 (dck_at da_X12_lay 15 rfl) hl (k := 3) rfl (congrArg (HAdd.hAdd _) ki_1) (by decide) rfl (fun ls hl => ?_)
        refine lv_goto (tgt := 2) X.1 X.2.1 (dck_at da_X12_lay 16 rfl) rfl ?_
        exact hk2 x2 (x3 + (1 : Int32)) (sI s0 27 (x2 + x3).toNatClampNeg (s0.1 17 (x3).toNatClampNeg)) _ _ _ h Y (lv_sub hl [1, 2, 3, 0] rfl)
  unfold m_lay_v10 at h
  refine lv_iconst X.1 X.2.1 (dck_at da_X12_lay 0 rfl) ki_0 ?_
  refine lv_istore_n (lv' := [(3, .int (0 : Int32)), (0, .ref (ad 0)), (1, .ref (ad 17)), (2, .int a2)]) X.1 X.2.1 (dck_at da_X12_lay 1 rfl) rfl hl (by decide) rfl (fun ls hl => ?_)
  exact b2 F a2 (0 : Int32) s0 _ _ _ h Y (lv_sub hl [1, 2, 3, 0] rfl)
set_option maxRecDepth 100000 in
set_option maxHeartbeats 4000000 in
theorem ok_m_lay_v11 {l : Launch} {D : va_G} {cy : Nat → ClassId} {ad sa : Nat → Nat} {A : Nat → Prop} {F : Nat} {a2 : Int32} {s0 : St} {ρ : Int32} {σ' : St} (h : m_lay_v11 F a2 s0 = some (ρ, σ')) : gMi l shM D cy ad sa A yX12_lay cX12_lay 4 (some .int) 1 [.ref (ad 0), .ref (ad 18), .int a2] s0 ρ σ' := by
  refine gM_of (by decide) (Nat.le_of_ble_eq_true rfl) ?_
  intro p e s m args below meth c ls X G Y hr hlk hl
  have hl : lv_has ls 4 [(0, .ref (ad 0)), (1, .ref (ad 18)), (2, .int a2)] := hl
  have b2 : ∀ n : Nat, ∀ (x2 : Int32) (x3 : Int32) (s0 : St) (H : Heap) (locs : List Loc) (ls : Array Slot), m_lay_v11_L2 F  n x2 x3 s0 = some (ρ, σ') → gY shM D cy ad A s0 s H locs → lv_has ls 4 [(0, .ref (ad 0)), (1, .ref (ad 18)), (2, .int x2), (3, .int x3)] → W p l e (grm 1) s m args below meth c H locs 0 0 (MQ below (va_Qi (fun (q : Int32) (_ : Unit) => q = ρ) (fun _ t => va_P D vwCl (gWl shM cy ad σ') t.heap) A) args s 0 0 A) (F0 m 2 ls []) := by
    intro n
    induction n with
    | zero => intro x2 x3 s0 H locs ls h Y hl; exact (gnone h).elim
    | succ n hk2 =>
      have e : m_lay_v11_L2 F  (n + 1) = m_lay_v11_L2b F  (m_lay_v11_L2 F  n) := rfl
      rw [e]; clear e
      generalize m_lay_v11_L2 F  n = k2 at hk2 ⊢
      intro x2 x3 s0 H locs ls h Y hl
      unfold m_lay_v11_L2b at h
      refine lv_iload_n X.1 X.2.1 (dck_at da_X12_lay 2 rfl) rfl (lv_at hl 3 rfl) ?_
      refine lv_aload_n X.1 X.2.1 (dck_at da_X12_lay 3 rfl) rfl (lv_at hl 1 rfl) ?_
      refine gr_alen (v := 6) X G Y clM_18 (by decide) rfl (dck_at da_X12_lay 4 rfl) ?_
      refine lv_icmp_ge (tgt := 25) X.1 X.2.1 (dck_at da_X12_lay 5 rfl) rfl (fun c => ?_) (fun c => ?_)
      · have h := gI_pos h c
        refine lv_iload_n X.1 X.2.1 (dck_at da_X12_lay 17 rfl) rfl (lv_at hl 2 rfl) ?_
        refine lv_aload_n X.1 X.2.1 (dck_at da_X12_lay 18 rfl) rfl (lv_at hl 1 rfl) ?_
        refine gr_alen (v := 6) X G Y clM_18 (by decide) rfl (dck_at da_X12_lay 19 rfl) ?_
        refine lv_iadd X.1 X.2.1 (dck_at da_X12_lay 20 rfl) ?_
        exact gr_iretO X Y h hr rfl hlk (dck_at da_X12_lay 21 rfl)
      · have h := gI_neg h c
        refine lv_aload_n X.1 X.2.1 (dck_at da_X12_lay 6 rfl) rfl (lv_at hl 0 rfl) ?_
        refine gr_getR X G Y fk_RX12_89 clM_0 rfl (dck_at da_X12_lay 7 rfl) ?_
        refine lv_iload_n X.1 X.2.1 (dck_at da_X12_lay 8 rfl) rfl (lv_at hl 2 rfl) ?_
        refine lv_iload_n X.1 X.2.1 (dck_at da_X12_lay 9 rfl) rfl (lv_at hl 3 rfl) ?_
        refine lv_iadd X.1 X.2.1 (dck_at da_X12_lay 10 rfl) ?_
        refine lv_aload_n X.1 X.2.1 (dck_at da_X12_lay 11 rfl) rfl (lv_at hl 1 rfl) ?_
        refine lv_iload_n X.1 X.2.1 (dck_at da_X12_lay 12 rfl) rfl (lv_at hl 3 rfl) ?_
        obtain ⟨hin, h⟩ := gI_if h
        refine gr_iald X G Y clM_18 hin (dck_at da_X12_lay 13 rfl) ?_
        obtain ⟨hin, h⟩ := gI_if h
        refine gr_iast X G Y clM_27 hin (dck_at da_X12_lay 14 rfl) (fun H locs Y => ?_)
        refine lv_iinc (v := x3 + (1 : Int32)) (lv' := [(3, .int (x3 + (1 : Int32))), (0, .ref (ad 0)), (1, .ref (ad 18)), (2, .int x2)]) X.1 X.2.1 (dck_at da_X12_lay 15 rfl) hl (k := 3) rfl (congrArg (HAdd.hAdd _) ki_1) (by decide) rfl (fun ls hl => ?_)
        refine lv_goto (tgt := 2) X.1 X.2.1 (dck_at da_X12_lay 16 rfl) rfl ?_
        exact hk2 x2 (x3 + (1 : Int32)) (sI s0 27 (x2 + x3).toNatClampNeg (s0.1 18 (x3).toNatClampNeg)) _ _ _ h Y (lv_sub hl [1, 2, 3, 0] rfl)
  unfold m_lay_v11 at h
  refine lv_iconst X.1 X.2.1 (dck_at da_X12_lay 0 rfl) ki_0 ?_
  refine lv_istore_n (lv' := [(3, .int (0 : Int32)), (0, .ref (ad 0)), (1, .ref (ad 18)), (2, .int a2)]) X.1 X.2.1 (dck_at da_X12_lay 1 rfl) rfl hl (by decide) rfl (fun ls hl => ?_)
  exact b2 F a2 (0 : Int32) s0 _ _ _ h Y (lv_sub hl [1, 2, 3, 0] rfl)
set_option maxRecDepth 100000 in
set_option maxHeartbeats 4000000 in
theorem ok_m_lay_v12 {l : Launch} {D : va_G} {cy : Nat → ClassId} {ad sa : Nat → Nat} {A : Nat → Prop} {F : Nat} {a2 : Int32} {s0 : St} {ρ : Int32} {σ' : St} (h : m_lay_v12 F a2 s0 = some (ρ, σ')) : gMi l shM D cy ad sa A yX12_lay cX12_lay 4 (some .int) 1 [.ref (ad 0), .ref (ad 21), .int a2] s0 ρ σ' := by
  refine gM_of (by decide) (Nat.le_of_ble_eq_true rfl) ?_
  intro p e s m args below meth c ls X G Y hr hlk hl
  have hl : lv_has ls 4 [(0, .ref (ad 0)), (1, .ref (ad 21)), (2, .int a2)] := hl
  have b2 : ∀ n : Nat, ∀ (x2 : Int32) (x3 : Int32) (s0 : St) (H : Heap) (locs : List Loc) (ls : Array Slot), m_lay_v12_L2 F  n x2 x3 s0 = some (ρ, σ') → gY shM D cy ad A s0 s H locs → lv_has ls 4 [(0, .ref (ad 0)), (1, .ref (ad 21)), (2, .int x2), (3, .int x3)] → W p l e (grm 1) s m args below meth c H locs 0 0 (MQ below (va_Qi (fun (q : Int32) (_ : Unit) => q = ρ) (fun _ t => va_P D vwCl (gWl shM cy ad σ') t.heap) A) args s 0 0 A) (F0 m 2 ls []) := by
    intro n
    induction n with
    | zero => intro x2 x3 s0 H locs ls h Y hl; exact (gnone h).elim
    | succ n hk2 =>
      have e : m_lay_v12_L2 F  (n + 1) = m_lay_v12_L2b F  (m_lay_v12_L2 F  n) := rfl
      rw [e]; clear e
      generalize m_lay_v12_L2 F  n = k2 at hk2 ⊢
      intro x2 x3 s0 H locs ls h Y hl
      unfold m_lay_v12_L2b at h
      refine lv_iload_n X.1 X.2.1 (dck_at da_X12_lay 2 rfl) rfl (lv_at hl 3 rfl) ?_
      refine lv_aload_n X.1 X.2.1 (dck_at da_X12_lay 3 rfl) rfl (lv_at hl 1 rfl) ?_
      refine gr_alen (v := 60) X G Y clM_21 (by decide) rfl (dck_at da_X12_lay 4 rfl) ?_
      refine lv_icmp_ge (tgt := 25) X.1 X.2.1 (dck_at da_X12_lay 5 rfl) rfl (fun c => ?_) (fun c => ?_)
      · have h := gI_pos h c
        refine lv_iload_n X.1 X.2.1 (dck_at da_X12_lay 17 rfl) rfl (lv_at hl 2 rfl) ?_
        refine lv_aload_n X.1 X.2.1 (dck_at da_X12_lay 18 rfl) rfl (lv_at hl 1 rfl) ?_
        refine gr_alen (v := 60) X G Y clM_21 (by decide) rfl (dck_at da_X12_lay 19 rfl) ?_
        refine lv_iadd X.1 X.2.1 (dck_at da_X12_lay 20 rfl) ?_
        exact gr_iretO X Y h hr rfl hlk (dck_at da_X12_lay 21 rfl)
      · have h := gI_neg h c
        refine lv_aload_n X.1 X.2.1 (dck_at da_X12_lay 6 rfl) rfl (lv_at hl 0 rfl) ?_
        refine gr_getR X G Y fk_RX12_89 clM_0 rfl (dck_at da_X12_lay 7 rfl) ?_
        refine lv_iload_n X.1 X.2.1 (dck_at da_X12_lay 8 rfl) rfl (lv_at hl 2 rfl) ?_
        refine lv_iload_n X.1 X.2.1 (dck_at da_X12_lay 9 rfl) rfl (lv_at hl 3 rfl) ?_
        refine lv_iadd X.1 X.2.1 (dck_at da_X12_lay 10 rfl) ?_
        refine lv_aload_n X.1 X.2.1 (dck_at da_X12_lay 11 rfl) rfl (lv_at hl 1 rfl) ?_
        refine lv_iload_n X.1 X.2.1 (dck_at da_X12_lay 12 rfl) rfl (lv_at hl 3 rfl) ?_
        obtain ⟨hin, h⟩ := gI_if h
        refine gr_iald X G Y clM_21 hin (dck_at da_X12_lay 13 rfl) ?_
        obtain ⟨hin, h⟩ := gI_if h
        refine gr_iast X G Y clM_27 hin (dck_at da_X12_lay 14 rfl) (fun H locs Y => ?_)
        refine lv_iinc (v := x3 + (1 : Int32)) (lv' := [(3, .int (x3 + (1 : Int32))), (0, .ref (ad 0)), (1, .ref (ad 21)), (2, .int x2)]) X.1 X.2.1 (dck_at da_X12_lay 15 rfl) hl (k := 3) rfl (congrArg (HAdd.hAdd _) ki_1) (by decide) rfl (fun ls hl => ?_)
        refine lv_goto (tgt := 2) X.1 X.2.1 (dck_at da_X12_lay 16 rfl) rfl ?_
        exact hk2 x2 (x3 + (1 : Int32)) (sI s0 27 (x2 + x3).toNatClampNeg (s0.1 21 (x3).toNatClampNeg)) _ _ _ h Y (lv_sub hl [1, 2, 3, 0] rfl)
  unfold m_lay_v12 at h
  refine lv_iconst X.1 X.2.1 (dck_at da_X12_lay 0 rfl) ki_0 ?_
  refine lv_istore_n (lv' := [(3, .int (0 : Int32)), (0, .ref (ad 0)), (1, .ref (ad 21)), (2, .int a2)]) X.1 X.2.1 (dck_at da_X12_lay 1 rfl) rfl hl (by decide) rfl (fun ls hl => ?_)
  exact b2 F a2 (0 : Int32) s0 _ _ _ h Y (lv_sub hl [1, 2, 3, 0] rfl)
set_option maxRecDepth 100000 in
set_option maxHeartbeats 4000000 in
theorem ok_m_lay_v13 {l : Launch} {D : va_G} {cy : Nat → ClassId} {ad sa : Nat → Nat} {A : Nat → Prop} {F : Nat} {a2 : Int32} {s0 : St} {ρ : Int32} {σ' : St} (h : m_lay_v13 F a2 s0 = some (ρ, σ')) : gMi l shM D cy ad sa A yX12_lay cX12_lay 4 (some .int) 1 [.ref (ad 0), .ref (ad 22), .int a2] s0 ρ σ' := by
  refine gM_of (by decide) (Nat.le_of_ble_eq_true rfl) ?_
  intro p e s m args below meth c ls X G Y hr hlk hl
  have hl : lv_has ls 4 [(0, .ref (ad 0)), (1, .ref (ad 22)), (2, .int a2)] := hl
  have b2 : ∀ n : Nat, ∀ (x2 : Int32) (x3 : Int32) (s0 : St) (H : Heap) (locs : List Loc) (ls : Array Slot), m_lay_v13_L2 F  n x2 x3 s0 = some (ρ, σ') → gY shM D cy ad A s0 s H locs → lv_has ls 4 [(0, .ref (ad 0)), (1, .ref (ad 22)), (2, .int x2), (3, .int x3)] → W p l e (grm 1) s m args below meth c H locs 0 0 (MQ below (va_Qi (fun (q : Int32) (_ : Unit) => q = ρ) (fun _ t => va_P D vwCl (gWl shM cy ad σ') t.heap) A) args s 0 0 A) (F0 m 2 ls []) := by
    intro n
    induction n with
    | zero => intro x2 x3 s0 H locs ls h Y hl; exact (gnone h).elim
    | succ n hk2 =>
      have e : m_lay_v13_L2 F  (n + 1) = m_lay_v13_L2b F  (m_lay_v13_L2 F  n) := rfl
      rw [e]; clear e
      generalize m_lay_v13_L2 F  n = k2 at hk2 ⊢
      intro x2 x3 s0 H locs ls h Y hl
      unfold m_lay_v13_L2b at h
      refine lv_iload_n X.1 X.2.1 (dck_at da_X12_lay 2 rfl) rfl (lv_at hl 3 rfl) ?_
      refine lv_aload_n X.1 X.2.1 (dck_at da_X12_lay 3 rfl) rfl (lv_at hl 1 rfl) ?_
      refine gr_alen (v := 60) X G Y clM_22 (by decide) rfl (dck_at da_X12_lay 4 rfl) ?_
      refine lv_icmp_ge (tgt := 25) X.1 X.2.1 (dck_at da_X12_lay 5 rfl) rfl (fun c => ?_) (fun c => ?_)
      · have h := gI_pos h c
        refine lv_iload_n X.1 X.2.1 (dck_at da_X12_lay 17 rfl) rfl (lv_at hl 2 rfl) ?_
        refine lv_aload_n X.1 X.2.1 (dck_at da_X12_lay 18 rfl) rfl (lv_at hl 1 rfl) ?_
        refine gr_alen (v := 60) X G Y clM_22 (by decide) rfl (dck_at da_X12_lay 19 rfl) ?_
        refine lv_iadd X.1 X.2.1 (dck_at da_X12_lay 20 rfl) ?_
        exact gr_iretO X Y h hr rfl hlk (dck_at da_X12_lay 21 rfl)
      · have h := gI_neg h c
        refine lv_aload_n X.1 X.2.1 (dck_at da_X12_lay 6 rfl) rfl (lv_at hl 0 rfl) ?_
        refine gr_getR X G Y fk_RX12_89 clM_0 rfl (dck_at da_X12_lay 7 rfl) ?_
        refine lv_iload_n X.1 X.2.1 (dck_at da_X12_lay 8 rfl) rfl (lv_at hl 2 rfl) ?_
        refine lv_iload_n X.1 X.2.1 (dck_at da_X12_lay 9 rfl) rfl (lv_at hl 3 rfl) ?_
        refine lv_iadd X.1 X.2.1 (dck_at da_X12_lay 10 rfl) ?_
        refine lv_aload_n X.1 X.2.1 (dck_at da_X12_lay 11 rfl) rfl (lv_at hl 1 rfl) ?_
        refine lv_iload_n X.1 X.2.1 (dck_at da_X12_lay 12 rfl) rfl (lv_at hl 3 rfl) ?_
        obtain ⟨hin, h⟩ := gI_if h
        refine gr_iald X G Y clM_22 hin (dck_at da_X12_lay 13 rfl) ?_
        obtain ⟨hin, h⟩ := gI_if h
        refine gr_iast X G Y clM_27 hin (dck_at da_X12_lay 14 rfl) (fun H locs Y => ?_)
        refine lv_iinc (v := x3 + (1 : Int32)) (lv' := [(3, .int (x3 + (1 : Int32))), (0, .ref (ad 0)), (1, .ref (ad 22)), (2, .int x2)]) X.1 X.2.1 (dck_at da_X12_lay 15 rfl) hl (k := 3) rfl (congrArg (HAdd.hAdd _) ki_1) (by decide) rfl (fun ls hl => ?_)
        refine lv_goto (tgt := 2) X.1 X.2.1 (dck_at da_X12_lay 16 rfl) rfl ?_
        exact hk2 x2 (x3 + (1 : Int32)) (sI s0 27 (x2 + x3).toNatClampNeg (s0.1 22 (x3).toNatClampNeg)) _ _ _ h Y (lv_sub hl [1, 2, 3, 0] rfl)
  unfold m_lay_v13 at h
  refine lv_iconst X.1 X.2.1 (dck_at da_X12_lay 0 rfl) ki_0 ?_
  refine lv_istore_n (lv' := [(3, .int (0 : Int32)), (0, .ref (ad 0)), (1, .ref (ad 22)), (2, .int a2)]) X.1 X.2.1 (dck_at da_X12_lay 1 rfl) rfl hl (by decide) rfl (fun ls hl => ?_)
  exact b2 F a2 (0 : Int32) s0 _ _ _ h Y (lv_sub hl [1, 2, 3, 0] rfl)
set_option maxRecDepth 100000 in
set_option maxHeartbeats 4000000 in
theorem ok_m_lay_v14 {l : Launch} {D : va_G} {cy : Nat → ClassId} {ad sa : Nat → Nat} {A : Nat → Prop} {F : Nat} {a2 : Int32} {s0 : St} {ρ : Int32} {σ' : St} (h : m_lay_v14 F a2 s0 = some (ρ, σ')) : gMi l shM D cy ad sa A yX12_lay cX12_lay 4 (some .int) 1 [.ref (ad 0), .ref (ad 23), .int a2] s0 ρ σ' := by
  refine gM_of (by decide) (Nat.le_of_ble_eq_true rfl) ?_
  intro p e s m args below meth c ls X G Y hr hlk hl
  have hl : lv_has ls 4 [(0, .ref (ad 0)), (1, .ref (ad 23)), (2, .int a2)] := hl
  have b2 : ∀ n : Nat, ∀ (x2 : Int32) (x3 : Int32) (s0 : St) (H : Heap) (locs : List Loc) (ls : Array Slot), m_lay_v14_L2 F  n x2 x3 s0 = some (ρ, σ') → gY shM D cy ad A s0 s H locs → lv_has ls 4 [(0, .ref (ad 0)), (1, .ref (ad 23)), (2, .int x2), (3, .int x3)] → W p l e (grm 1) s m args below meth c H locs 0 0 (MQ below (va_Qi (fun (q : Int32) (_ : Unit) => q = ρ) (fun _ t => va_P D vwCl (gWl shM cy ad σ') t.heap) A) args s 0 0 A) (F0 m 2 ls []) := by
    intro n
    induction n with
    | zero => intro x2 x3 s0 H locs ls h Y hl; exact (gnone h).elim
    | succ n hk2 =>
      have e : m_lay_v14_L2 F  (n + 1) = m_lay_v14_L2b F  (m_lay_v14_L2 F  n) := rfl
      rw [e]; clear e
      generalize m_lay_v14_L2 F  n = k2 at hk2 ⊢
      intro x2 x3 s0 H locs ls h Y hl
      unfold m_lay_v14_L2b at h
      refine lv_iload_n X.1 X.2.1 (dck_at da_X12_lay 2 rfl) rfl (lv_at hl 3 rfl) ?_
      refine lv_aload_n X.1 X.2.1 (dck_at da_X12_lay 3 rfl) rfl (lv_at hl 1 rfl) ?_
      refine gr_alen (v := 60) X G Y clM_23 (by decide) rfl (dck_at da_X12_lay 4 rfl) ?_
      refine lv_icmp_ge (tgt := 25) X.1 X.2.1 (dck_at da_X12_lay 5 rfl) rfl (fun c => ?_) (fun c => ?_)
      · have h := gI_pos h c
        refine lv_iload_n X.1 X.2.1 (dck_at da_X12_lay 17 rfl) rfl (lv_at hl 2 rfl) ?_
        refine lv_aload_n X.1 X.2.1 (dck_at da_X12_lay 18 rfl) rfl (lv_at hl 1 rfl) ?_
        refine gr_alen (v := 60) X G Y clM_23 (by decide) rfl (dck_at da_X12_lay 19 rfl) ?_
        refine lv_iadd X.1 X.2.1 (dck_at da_X12_lay 20 rfl) ?_
        exact gr_iretO X Y h hr rfl hlk (dck_at da_X12_lay 21 rfl)
      · have h := gI_neg h c
        refine lv_aload_n X.1 X.2.1 (dck_at da_X12_lay 6 rfl) rfl (lv_at hl 0 rfl) ?_
        refine gr_getR X G Y fk_RX12_89 clM_0 rfl (dck_at da_X12_lay 7 rfl) ?_
        refine lv_iload_n X.1 X.2.1 (dck_at da_X12_lay 8 rfl) rfl (lv_at hl 2 rfl) ?_
        refine lv_iload_n X.1 X.2.1 (dck_at da_X12_lay 9 rfl) rfl (lv_at hl 3 rfl) ?_
        refine lv_iadd X.1 X.2.1 (dck_at da_X12_lay 10 rfl) ?_
        refine lv_aload_n X.1 X.2.1 (dck_at da_X12_lay 11 rfl) rfl (lv_at hl 1 rfl) ?_
        refine lv_iload_n X.1 X.2.1 (dck_at da_X12_lay 12 rfl) rfl (lv_at hl 3 rfl) ?_
        obtain ⟨hin, h⟩ := gI_if h
        refine gr_iald X G Y clM_23 hin (dck_at da_X12_lay 13 rfl) ?_
        obtain ⟨hin, h⟩ := gI_if h
        refine gr_iast X G Y clM_27 hin (dck_at da_X12_lay 14 rfl) (fun H locs Y => ?_)
        refine lv_iinc (v := x3 + (1 : Int32)) (lv' := [(3, .int (x3 + (1 : Int32))), (0, .ref (ad 0)), (1, .ref (ad 23)), (2, .int x2)]) X.1 X.2.1 (dck_at da_X12_lay 15 rfl) hl (k := 3) rfl (congrArg (HAdd.hAdd _) ki_1) (by decide) rfl (fun ls hl => ?_)
        refine lv_goto (tgt := 2) X.1 X.2.1 (dck_at da_X12_lay 16 rfl) rfl ?_
        exact hk2 x2 (x3 + (1 : Int32)) (sI s0 27 (x2 + x3).toNatClampNeg (s0.1 23 (x3).toNatClampNeg)) _ _ _ h Y (lv_sub hl [1, 2, 3, 0] rfl)
  unfold m_lay_v14 at h
  refine lv_iconst X.1 X.2.1 (dck_at da_X12_lay 0 rfl) ki_0 ?_
  refine lv_istore_n (lv' := [(3, .int (0 : Int32)), (0, .ref (ad 0)), (1, .ref (ad 23)), (2, .int a2)]) X.1 X.2.1 (dck_at da_X12_lay 1 rfl) rfl hl (by decide) rfl (fun ls hl => ?_)
  exact b2 F a2 (0 : Int32) s0 _ _ _ h Y (lv_sub hl [1, 2, 3, 0] rfl)
set_option maxRecDepth 100000 in
set_option maxHeartbeats 4000000 in
theorem ok_m_lay_v15 {l : Launch} {D : va_G} {cy : Nat → ClassId} {ad sa : Nat → Nat} {A : Nat → Prop} {F : Nat} {a2 : Int32} {s0 : St} {ρ : Int32} {σ' : St} (h : m_lay_v15 F a2 s0 = some (ρ, σ')) : gMi l shM D cy ad sa A yX12_lay cX12_lay 4 (some .int) 1 [.ref (ad 0), .ref (ad 24), .int a2] s0 ρ σ' := by
  refine gM_of (by decide) (Nat.le_of_ble_eq_true rfl) ?_
  intro p e s m args below meth c ls X G Y hr hlk hl
  have hl : lv_has ls 4 [(0, .ref (ad 0)), (1, .ref (ad 24)), (2, .int a2)] := hl
  have b2 : ∀ n : Nat, ∀ (x2 : Int32) (x3 : Int32) (s0 : St) (H : Heap) (locs : List Loc) (ls : Array Slot), m_lay_v15_L2 F  n x2 x3 s0 = some (ρ, σ') → gY shM D cy ad A s0 s H locs → lv_has ls 4 [(0, .ref (ad 0)), (1, .ref (ad 24)), (2, .int x2), (3, .int x3)] → W p l e (grm 1) s m args below meth c H locs 0 0 (MQ below (va_Qi (fun (q : Int32) (_ : Unit) => q = ρ) (fun _ t => va_P D vwCl (gWl shM cy ad σ') t.heap) A) args s 0 0 A) (F0 m 2 ls []) := by
    intro n
    induction n with
    | zero => intro x2 x3 s0 H locs ls h Y hl; exact (gnone h).elim
    | succ n hk2 =>
      have e : m_lay_v15_L2 F  (n + 1) = m_lay_v15_L2b F  (m_lay_v15_L2 F  n) := rfl
      rw [e]; clear e
      generalize m_lay_v15_L2 F  n = k2 at hk2 ⊢
      intro x2 x3 s0 H locs ls h Y hl
      unfold m_lay_v15_L2b at h
      refine lv_iload_n X.1 X.2.1 (dck_at da_X12_lay 2 rfl) rfl (lv_at hl 3 rfl) ?_
      refine lv_aload_n X.1 X.2.1 (dck_at da_X12_lay 3 rfl) rfl (lv_at hl 1 rfl) ?_
      refine gr_alen (v := 8) X G Y clM_24 (by decide) rfl (dck_at da_X12_lay 4 rfl) ?_
      refine lv_icmp_ge (tgt := 25) X.1 X.2.1 (dck_at da_X12_lay 5 rfl) rfl (fun c => ?_) (fun c => ?_)
      · have h := gI_pos h c
        refine lv_iload_n X.1 X.2.1 (dck_at da_X12_lay 17 rfl) rfl (lv_at hl 2 rfl) ?_
        refine lv_aload_n X.1 X.2.1 (dck_at da_X12_lay 18 rfl) rfl (lv_at hl 1 rfl) ?_
        refine gr_alen (v := 8) X G Y clM_24 (by decide) rfl (dck_at da_X12_lay 19 rfl) ?_
        refine lv_iadd X.1 X.2.1 (dck_at da_X12_lay 20 rfl) ?_
        exact gr_iretO X Y h hr rfl hlk (dck_at da_X12_lay 21 rfl)
      · have h := gI_neg h c
        refine lv_aload_n X.1 X.2.1 (dck_at da_X12_lay 6 rfl) rfl (lv_at hl 0 rfl) ?_
        refine gr_getR X G Y fk_RX12_89 clM_0 rfl (dck_at da_X12_lay 7 rfl) ?_
        refine lv_iload_n X.1 X.2.1 (dck_at da_X12_lay 8 rfl) rfl (lv_at hl 2 rfl) ?_
        refine lv_iload_n X.1 X.2.1 (dck_at da_X12_lay 9 rfl) rfl (lv_at hl 3 rfl) ?_
        refine lv_iadd X.1 X.2.1 (dck_at da_X12_lay 10 rfl) ?_
        refine lv_aload_n X.1 X.2.1 (dck_at da_X12_lay 11 rfl) rfl (lv_at hl 1 rfl) ?_
        refine lv_iload_n X.1 X.2.1 (dck_at da_X12_lay 12 rfl) rfl (lv_at hl 3 rfl) ?_
        obtain ⟨hin, h⟩ := gI_if h
        refine gr_iald X G Y clM_24 hin (dck_at da_X12_lay 13 rfl) ?_
        obtain ⟨hin, h⟩ := gI_if h
        refine gr_iast X G Y clM_27 hin (dck_at da_X12_lay 14 rfl) (fun H locs Y => ?_)
        refine lv_iinc (v := x3 + (1 : Int32)) (lv' := [(3, .int (x3 + (1 : Int32))), (0, .ref (ad 0)), (1, .ref (ad 24)), (2, .int x2)]) X.1 X.2.1 (dck_at da_X12_lay 15 rfl) hl (k := 3) rfl (congrArg (HAdd.hAdd _) ki_1) (by decide) rfl (fun ls hl => ?_)
        refine lv_goto (tgt := 2) X.1 X.2.1 (dck_at da_X12_lay 16 rfl) rfl ?_
        exact hk2 x2 (x3 + (1 : Int32)) (sI s0 27 (x2 + x3).toNatClampNeg (s0.1 24 (x3).toNatClampNeg)) _ _ _ h Y (lv_sub hl [1, 2, 3, 0] rfl)
  unfold m_lay_v15 at h
  refine lv_iconst X.1 X.2.1 (dck_at da_X12_lay 0 rfl) ki_0 ?_
  refine lv_istore_n (lv' := [(3, .int (0 : Int32)), (0, .ref (ad 0)), (1, .ref (ad 24)), (2, .int a2)]) X.1 X.2.1 (dck_at da_X12_lay 1 rfl) rfl hl (by decide) rfl (fun ls hl => ?_)
  exact b2 F a2 (0 : Int32) s0 _ _ _ h Y (lv_sub hl [1, 2, 3, 0] rfl)
set_option maxRecDepth 100000 in
set_option maxHeartbeats 4000000 in
theorem ok_m_lay_v16 {l : Launch} {D : va_G} {cy : Nat → ClassId} {ad sa : Nat → Nat} {A : Nat → Prop} {F : Nat} {a2 : Int32} {s0 : St} {ρ : Int32} {σ' : St} (h : m_lay_v16 F a2 s0 = some (ρ, σ')) : gMi l shM D cy ad sa A yX12_lay cX12_lay 4 (some .int) 1 [.ref (ad 0), .ref (ad 25), .int a2] s0 ρ σ' := by
  refine gM_of (by decide) (Nat.le_of_ble_eq_true rfl) ?_
  intro p e s m args below meth c ls X G Y hr hlk hl
  have hl : lv_has ls 4 [(0, .ref (ad 0)), (1, .ref (ad 25)), (2, .int a2)] := hl
  have b2 : ∀ n : Nat, ∀ (x2 : Int32) (x3 : Int32) (s0 : St) (H : Heap) (locs : List Loc) (ls : Array Slot), m_lay_v16_L2 F  n x2 x3 s0 = some (ρ, σ') → gY shM D cy ad A s0 s H locs → lv_has ls 4 [(0, .ref (ad 0)), (1, .ref (ad 25)), (2, .int x2), (3, .int x3)] → W p l e (grm 1) s m args below meth c H locs 0 0 (MQ below (va_Qi (fun (q : Int32) (_ : Unit) => q = ρ) (fun _ t => va_P D vwCl (gWl shM cy ad σ') t.heap) A) args s 0 0 A) (F0 m 2 ls []) := by
    intro n
    induction n with
    | zero => intro x2 x3 s0 H locs ls h Y hl; exact (gnone h).elim
    | succ n hk2 =>
      have e : m_lay_v16_L2 F  (n + 1) = m_lay_v16_L2b F  (m_lay_v16_L2 F  n) := rfl
      rw [e]; clear e
      generalize m_lay_v16_L2 F  n = k2 at hk2 ⊢
      intro x2 x3 s0 H locs ls h Y hl
      unfold m_lay_v16_L2b at h
      refine lv_iload_n X.1 X.2.1 (dck_at da_X12_lay 2 rfl) rfl (lv_at hl 3 rfl) ?_
      refine lv_aload_n X.1 X.2.1 (dck_at da_X12_lay 3 rfl) rfl (lv_at hl 1 rfl) ?_
      refine gr_alen (v := 8) X G Y clM_25 (by decide) rfl (dck_at da_X12_lay 4 rfl) ?_
      refine lv_icmp_ge (tgt := 25) X.1 X.2.1 (dck_at da_X12_lay 5 rfl) rfl (fun c => ?_) (fun c => ?_)
      · have h := gI_pos h c
        refine lv_iload_n X.1 X.2.1 (dck_at da_X12_lay 17 rfl) rfl (lv_at hl 2 rfl) ?_
        refine lv_aload_n X.1 X.2.1 (dck_at da_X12_lay 18 rfl) rfl (lv_at hl 1 rfl) ?_
        refine gr_alen (v := 8) X G Y clM_25 (by decide) rfl (dck_at da_X12_lay 19 rfl) ?_
        refine lv_iadd X.1 X.2.1 (dck_at da_X12_lay 20 rfl) ?_
        exact gr_iretO X Y h hr rfl hlk (dck_at da_X12_lay 21 rfl)
      · have h := gI_neg h c
        refine lv_aload_n X.1 X.2.1 (dck_at da_X12_lay 6 rfl) rfl (lv_at hl 0 rfl) ?_
        refine gr_getR X G Y fk_RX12_89 clM_0 rfl (dck_at da_X12_lay 7 rfl) ?_
        refine lv_iload_n X.1 X.2.1 (dck_at da_X12_lay 8 rfl) rfl (lv_at hl 2 rfl) ?_
        refine lv_iload_n X.1 X.2.1 (dck_at da_X12_lay 9 rfl) rfl (lv_at hl 3 rfl) ?_
        refine lv_iadd X.1 X.2.1 (dck_at da_X12_lay 10 rfl) ?_
        refine lv_aload_n X.1 X.2.1 (dck_at da_X12_lay 11 rfl) rfl (lv_at hl 1 rfl) ?_
        refine lv_iload_n X.1 X.2.1 (dck_at da_X12_lay 12 rfl) rfl (lv_at hl 3 rfl) ?_
        obtain ⟨hin, h⟩ := gI_if h
        refine gr_iald X G Y clM_25 hin (dck_at da_X12_lay 13 rfl) ?_
        obtain ⟨hin, h⟩ := gI_if h
        refine gr_iast X G Y clM_27 hin (dck_at da_X12_lay 14 rfl) (fun H locs Y => ?_)
        refine lv_iinc (v := x3 + (1 : Int32)) (lv' := [(3, .int (x3 + (1 : Int32))), (0, .ref (ad 0)), (1, .ref (ad 25)), (2, .int x2)]) X.1 X.2.1 (dck_at da_X12_lay 15 rfl) hl (k := 3) rfl (congrArg (HAdd.hAdd _) ki_1) (by decide) rfl (fun ls hl => ?_)
        refine lv_goto (tgt := 2) X.1 X.2.1 (dck_at da_X12_lay 16 rfl) rfl ?_
        exact hk2 x2 (x3 + (1 : Int32)) (sI s0 27 (x2 + x3).toNatClampNeg (s0.1 25 (x3).toNatClampNeg)) _ _ _ h Y (lv_sub hl [1, 2, 3, 0] rfl)
  unfold m_lay_v16 at h
  refine lv_iconst X.1 X.2.1 (dck_at da_X12_lay 0 rfl) ki_0 ?_
  refine lv_istore_n (lv' := [(3, .int (0 : Int32)), (0, .ref (ad 0)), (1, .ref (ad 25)), (2, .int a2)]) X.1 X.2.1 (dck_at da_X12_lay 1 rfl) rfl hl (by decide) rfl (fun ls hl => ?_)
  exact b2 F a2 (0 : Int32) s0 _ _ _ h Y (lv_sub hl [1, 2, 3, 0] rfl)
set_option maxRecDepth 100000 in
set_option maxHeartbeats 4000000 in
theorem ok_m_image {l : Launch} {D : va_G} {cy : Nat → ClassId} {ad sa : Nat → Nat} {A : Nat → Prop} {F : Nat}  {s0 : St} {ρ : Int32} {σ' : St} (h : m_image F s0 = some (ρ, σ')) : gMi l shM D cy ad sa A yX12_image cX12_image 3 (some .int) 2 [.ref (ad 0)] s0 ρ σ' := by
  refine gM_of (by decide) (Nat.le_of_ble_eq_true rfl) ?_
  intro p e s m args below meth c ls X G Y hr hlk hl
  have hl : lv_has ls 3 [(0, .ref (ad 0))] := hl
  have b242 : ∀ n : Nat, ∀ (x2 : Int32) (s0 : St) (H : Heap) (locs : List Loc) (ls : Array Slot), m_image_L242 F  n x2 s0 = some (ρ, σ') → gY shM D cy ad A s0 s H locs → lv_has ls 3 [(0, .ref (ad 0)), (2, .int x2)] → W p l e (grm 2) s m args below meth c H locs 0 0 (MQ below (va_Qi (fun (q : Int32) (_ : Unit) => q = ρ) (fun _ t => va_P D vwCl (gWl shM cy ad σ') t.heap) A) args s 0 0 A) (F0 m 242 ls []) := by
    intro n
    induction n with
    | zero => intro x2 s0 H locs ls h Y hl; exact (gnone h).elim
    | succ n hk242 =>
      have e : m_image_L242 F  (n + 1) = m_image_L242b F  (m_image_L242 F  n) := rfl
      rw [e]; clear e
      generalize m_image_L242 F  n = k242 at hk242 ⊢
      intro x2 s0 H locs ls h Y hl
      unfold m_image_L242b at h
      refine lv_iload_n X.1 X.2.1 (dck_at da_X12_image 150 rfl) rfl (lv_at hl 1 rfl) ?_
      refine lv_sipush X.1 X.2.1 (dck_at da_X12_image 151 rfl) ks_720 ?_
      refine lv_icmp_ge (tgt := 267) X.1 X.2.1 (dck_at da_X12_image 152 rfl) rfl (fun c => ?_) (fun c => ?_)
      · have h := gI_pos h c
        refine lv_aload_n X.1 X.2.1 (dck_at da_X12_image 163 rfl) rfl (lv_at hl 0 rfl) ?_
        refine lv_iconst X.1 X.2.1 (dck_at da_X12_image 164 rfl) ki_1 ?_
        refine gr_putZ X G Y (by decide) fp_RX12_321 clM_0 rfl (dck_at da_X12_image 165 rfl) (fun H locs Y => ?_)
        refine lv_iconst X.1 X.2.1 (dck_at da_X12_image 166 rfl) ki_1 ?_
        exact gr_iretO X Y h hr rfl hlk (dck_at da_X12_image 167 rfl)
      · have h := gI_neg h c
        refine lv_aload_n X.1 X.2.1 (dck_at da_X12_image 153 rfl) rfl (lv_at hl 0 rfl) ?_
        refine gr_getR X G Y fk_RX12_92 clM_0 rfl (dck_at da_X12_image 154 rfl) ?_
        refine lv_iload_n X.1 X.2.1 (dck_at da_X12_image 155 rfl) rfl (lv_at hl 1 rfl) ?_
        refine lv_aload_n X.1 X.2.1 (dck_at da_X12_image 156 rfl) rfl (lv_at hl 0 rfl) ?_
        refine gr_getR X G Y fk_RX12_34 clM_0 rfl (dck_at da_X12_image 157 rfl) ?_
        refine lv_iload_n X.1 X.2.1 (dck_at da_X12_image 158 rfl) rfl (lv_at hl 1 rfl) ?_
        obtain ⟨hin, h⟩ := gI_if h
        refine gr_lald X G Y clM_9 hin (dck_at da_X12_image 159 rfl) ?_
        obtain ⟨hin, h⟩ := gI_if h
        refine gr_last X G Y clM_28 hin (dck_at da_X12_image 160 rfl) (fun H locs Y => ?_)
        refine lv_iinc (v := x2 + (1 : Int32)) (lv' := [(2, .int (x2 + (1 : Int32))), (0, .ref (ad 0))]) X.1 X.2.1 (dck_at da_X12_image 161 rfl) hl (k := 1) rfl (congrArg (HAdd.hAdd _) ki_1) (by decide) rfl (fun ls hl => ?_)
        refine lv_goto (tgt := 242) X.1 X.2.1 (dck_at da_X12_image 162 rfl) rfl ?_
        exact hk242 (x2 + (1 : Int32)) (sJ s0 28 (x2).toNatClampNeg (s0.2 9 (x2).toNatClampNeg)) _ _ _ h Y (lv_sub hl [1, 0] rfl)
  unfold m_image at h
  refine lv_aload_n X.1 X.2.1 (dck_at da_X12_image 0 rfl) rfl (lv_at hl 0 rfl) ?_
  refine lv_aload_n X.1 X.2.1 (dck_at da_X12_image 1 rfl) rfl (lv_at hl 0 rfl) ?_
  refine gr_getR X G Y fk_RX12_13 clM_0 rfl (dck_at da_X12_image 2 rfl) ?_
  refine lv_iconst X.1 X.2.1 (dck_at da_X12_image 3 rfl) ki_0 ?_
  obtain ⟨r1, s1, hc, h⟩ := gB2_some h
  refine gr_backi Y (gr_runV (as := [.ref (ad 2), .int (0 : Int32)]) (rest := []) X G Y (ok_m_lay hc) cv_RX12_317 clM_0 ⟨Nat.le_of_ble_eq_true rfl, Nat.le_of_ble_eq_true rfl⟩ rfl hl.1 (Nat.le_of_ble_eq_true rfl) (dck_at da_X12_image 4 rfl)) (fun H locs Y => ?_)
  refine lv_istore_n (lv' := [(1, .int r1), (0, .ref (ad 0))]) X.1 X.2.1 (dck_at da_X12_image 5 rfl) rfl hl (by decide) rfl (fun ls hl => ?_)
  refine lv_aload_n X.1 X.2.1 (dck_at da_X12_image 6 rfl) rfl (lv_at hl 1 rfl) ?_
  refine lv_aload_n X.1 X.2.1 (dck_at da_X12_image 7 rfl) rfl (lv_at hl 1 rfl) ?_
  refine gr_getR X G Y fk_RX12_16 clM_0 rfl (dck_at da_X12_image 8 rfl) ?_
  refine lv_iload_n X.1 X.2.1 (dck_at da_X12_image 9 rfl) rfl (lv_at hl 0 rfl) ?_
  obtain ⟨r2, s2, hc, h⟩ := gB2_some h
  refine gr_backi Y (gr_runV (as := [.ref (ad 3), .int r1]) (rest := []) X G Y (ok_m_lay_v1 hc) cv_RX12_317 clM_0 ⟨Nat.le_of_ble_eq_true rfl, Nat.le_of_ble_eq_true rfl⟩ rfl hl.1 (Nat.le_of_ble_eq_true rfl) (dck_at da_X12_image 10 rfl)) (fun H locs Y => ?_)
  refine lv_istore_n (lv' := [(1, .int r2), (0, .ref (ad 0))]) X.1 X.2.1 (dck_at da_X12_image 11 rfl) rfl hl (by decide) rfl (fun ls hl => ?_)
  refine lv_aload_n X.1 X.2.1 (dck_at da_X12_image 12 rfl) rfl (lv_at hl 1 rfl) ?_
  refine lv_aload_n X.1 X.2.1 (dck_at da_X12_image 13 rfl) rfl (lv_at hl 1 rfl) ?_
  refine gr_getR X G Y fk_RX12_19 clM_0 rfl (dck_at da_X12_image 14 rfl) ?_
  refine lv_iload_n X.1 X.2.1 (dck_at da_X12_image 15 rfl) rfl (lv_at hl 0 rfl) ?_
  obtain ⟨r3, s3, hc, h⟩ := gB2_some h
  refine gr_backi Y (gr_runV (as := [.ref (ad 4), .int r2]) (rest := []) X G Y (ok_m_lay_v2 hc) cv_RX12_317 clM_0 ⟨Nat.le_of_ble_eq_true rfl, Nat.le_of_ble_eq_true rfl⟩ rfl hl.1 (Nat.le_of_ble_eq_true rfl) (dck_at da_X12_image 16 rfl)) (fun H locs Y => ?_)
  refine lv_istore_n (lv' := [(1, .int r3), (0, .ref (ad 0))]) X.1 X.2.1 (dck_at da_X12_image 17 rfl) rfl hl (by decide) rfl (fun ls hl => ?_)
  refine lv_aload_n X.1 X.2.1 (dck_at da_X12_image 18 rfl) rfl (lv_at hl 1 rfl) ?_
  refine lv_aload_n X.1 X.2.1 (dck_at da_X12_image 19 rfl) rfl (lv_at hl 1 rfl) ?_
  refine gr_getR X G Y fk_RX12_22 clM_0 rfl (dck_at da_X12_image 20 rfl) ?_
  refine lv_iload_n X.1 X.2.1 (dck_at da_X12_image 21 rfl) rfl (lv_at hl 0 rfl) ?_
  obtain ⟨r4, s4, hc, h⟩ := gB2_some h
  refine gr_backi Y (gr_runV (as := [.ref (ad 5), .int r3]) (rest := []) X G Y (ok_m_lay_v3 hc) cv_RX12_317 clM_0 ⟨Nat.le_of_ble_eq_true rfl, Nat.le_of_ble_eq_true rfl⟩ rfl hl.1 (Nat.le_of_ble_eq_true rfl) (dck_at da_X12_image 22 rfl)) (fun H locs Y => ?_)
  refine lv_istore_n (lv' := [(1, .int r4), (0, .ref (ad 0))]) X.1 X.2.1 (dck_at da_X12_image 23 rfl) rfl hl (by decide) rfl (fun ls hl => ?_)
  refine lv_aload_n X.1 X.2.1 (dck_at da_X12_image 24 rfl) rfl (lv_at hl 1 rfl) ?_
  refine lv_aload_n X.1 X.2.1 (dck_at da_X12_image 25 rfl) rfl (lv_at hl 1 rfl) ?_
  refine gr_getR X G Y fk_RX12_25 clM_0 rfl (dck_at da_X12_image 26 rfl) ?_
  refine lv_iload_n X.1 X.2.1 (dck_at da_X12_image 27 rfl) rfl (lv_at hl 0 rfl) ?_
  obtain ⟨r5, s5, hc, h⟩ := gB2_some h
  refine gr_backi Y (gr_runV (as := [.ref (ad 6), .int r4]) (rest := []) X G Y (ok_m_lay_v4 hc) cv_RX12_317 clM_0 ⟨Nat.le_of_ble_eq_true rfl, Nat.le_of_ble_eq_true rfl⟩ rfl hl.1 (Nat.le_of_ble_eq_true rfl) (dck_at da_X12_image 28 rfl)) (fun H locs Y => ?_)
  refine lv_istore_n (lv' := [(1, .int r5), (0, .ref (ad 0))]) X.1 X.2.1 (dck_at da_X12_image 29 rfl) rfl hl (by decide) rfl (fun ls hl => ?_)
  refine lv_aload_n X.1 X.2.1 (dck_at da_X12_image 30 rfl) rfl (lv_at hl 1 rfl) ?_
  refine lv_aload_n X.1 X.2.1 (dck_at da_X12_image 31 rfl) rfl (lv_at hl 1 rfl) ?_
  refine gr_getR X G Y fk_RX12_41 clM_0 rfl (dck_at da_X12_image 32 rfl) ?_
  refine lv_iload_n X.1 X.2.1 (dck_at da_X12_image 33 rfl) rfl (lv_at hl 0 rfl) ?_
  obtain ⟨r6, s6, hc, h⟩ := gB2_some h
  refine gr_backi Y (gr_runV (as := [.ref (ad 11), .int r5]) (rest := []) X G Y (ok_m_lay_v5 hc) cv_RX12_317 clM_0 ⟨Nat.le_of_ble_eq_true rfl, Nat.le_of_ble_eq_true rfl⟩ rfl hl.1 (Nat.le_of_ble_eq_true rfl) (dck_at da_X12_image 34 rfl)) (fun H locs Y => ?_)
  refine lv_istore_n (lv' := [(1, .int r6), (0, .ref (ad 0))]) X.1 X.2.1 (dck_at da_X12_image 35 rfl) rfl hl (by decide) rfl (fun ls hl => ?_)
  refine lv_aload_n X.1 X.2.1 (dck_at da_X12_image 36 rfl) rfl (lv_at hl 1 rfl) ?_
  refine lv_aload_n X.1 X.2.1 (dck_at da_X12_image 37 rfl) rfl (lv_at hl 1 rfl) ?_
  refine gr_getR X G Y fk_RX12_44 clM_0 rfl (dck_at da_X12_image 38 rfl) ?_
  refine lv_iload_n X.1 X.2.1 (dck_at da_X12_image 39 rfl) rfl (lv_at hl 0 rfl) ?_
  obtain ⟨r7, s7, hc, h⟩ := gB2_some h
  refine gr_backi Y (gr_runV (as := [.ref (ad 12), .int r6]) (rest := []) X G Y (ok_m_lay_v6 hc) cv_RX12_317 clM_0 ⟨Nat.le_of_ble_eq_true rfl, Nat.le_of_ble_eq_true rfl⟩ rfl hl.1 (Nat.le_of_ble_eq_true rfl) (dck_at da_X12_image 40 rfl)) (fun H locs Y => ?_)
  refine lv_istore_n (lv' := [(1, .int r7), (0, .ref (ad 0))]) X.1 X.2.1 (dck_at da_X12_image 41 rfl) rfl hl (by decide) rfl (fun ls hl => ?_)
  refine lv_aload_n X.1 X.2.1 (dck_at da_X12_image 42 rfl) rfl (lv_at hl 1 rfl) ?_
  refine lv_aload_n X.1 X.2.1 (dck_at da_X12_image 43 rfl) rfl (lv_at hl 1 rfl) ?_
  refine gr_getR X G Y fk_RX12_47 clM_0 rfl (dck_at da_X12_image 44 rfl) ?_
  refine lv_iload_n X.1 X.2.1 (dck_at da_X12_image 45 rfl) rfl (lv_at hl 0 rfl) ?_
  obtain ⟨r8, s8, hc, h⟩ := gB2_some h
  refine gr_backi Y (gr_runV (as := [.ref (ad 13), .int r7]) (rest := []) X G Y (ok_m_lay_v7 hc) cv_RX12_317 clM_0 ⟨Nat.le_of_ble_eq_true rfl, Nat.le_of_ble_eq_true rfl⟩ rfl hl.1 (Nat.le_of_ble_eq_true rfl) (dck_at da_X12_image 46 rfl)) (fun H locs Y => ?_)
  refine lv_istore_n (lv' := [(1, .int r8), (0, .ref (ad 0))]) X.1 X.2.1 (dck_at da_X12_image 47 rfl) rfl hl (by decide) rfl (fun ls hl => ?_)
  refine lv_aload_n X.1 X.2.1 (dck_at da_X12_image 48 rfl) rfl (lv_at hl 1 rfl) ?_
  refine lv_aload_n X.1 X.2.1 (dck_at da_X12_image 49 rfl) rfl (lv_at hl 1 rfl) ?_
  refine gr_getR X G Y fk_RX12_50 clM_0 rfl (dck_at da_X12_image 50 rfl) ?_
  refine lv_iload_n X.1 X.2.1 (dck_at da_X12_image 51 rfl) rfl (lv_at hl 0 rfl) ?_
  obtain ⟨r9, s9, hc, h⟩ := gB2_some h
  refine gr_backi Y (gr_runV (as := [.ref (ad 14), .int r8]) (rest := []) X G Y (ok_m_lay_v8 hc) cv_RX12_317 clM_0 ⟨Nat.le_of_ble_eq_true rfl, Nat.le_of_ble_eq_true rfl⟩ rfl hl.1 (Nat.le_of_ble_eq_true rfl) (dck_at da_X12_image 52 rfl)) (fun H locs Y => ?_)
  refine lv_istore_n (lv' := [(1, .int r9), (0, .ref (ad 0))]) X.1 X.2.1 (dck_at da_X12_image 53 rfl) rfl hl (by decide) rfl (fun ls hl => ?_)
  refine lv_aload_n X.1 X.2.1 (dck_at da_X12_image 54 rfl) rfl (lv_at hl 1 rfl) ?_
  refine lv_aload_n X.1 X.2.1 (dck_at da_X12_image 55 rfl) rfl (lv_at hl 1 rfl) ?_
  refine gr_getR X G Y fk_RX12_56 clM_0 rfl (dck_at da_X12_image 56 rfl) ?_
  refine lv_iload_n X.1 X.2.1 (dck_at da_X12_image 57 rfl) rfl (lv_at hl 0 rfl) ?_
  obtain ⟨r10, s10, hc, h⟩ := gB2_some h
  refine gr_backi Y (gr_runV (as := [.ref (ad 16), .int r9]) (rest := []) X G Y (ok_m_lay_v9 hc) cv_RX12_317 clM_0 ⟨Nat.le_of_ble_eq_true rfl, Nat.le_of_ble_eq_true rfl⟩ rfl hl.1 (Nat.le_of_ble_eq_true rfl) (dck_at da_X12_image 58 rfl)) (fun H locs Y => ?_)
  refine lv_istore_n (lv' := [(1, .int r10), (0, .ref (ad 0))]) X.1 X.2.1 (dck_at da_X12_image 59 rfl) rfl hl (by decide) rfl (fun ls hl => ?_)
  refine lv_aload_n X.1 X.2.1 (dck_at da_X12_image 60 rfl) rfl (lv_at hl 1 rfl) ?_
  refine lv_aload_n X.1 X.2.1 (dck_at da_X12_image 61 rfl) rfl (lv_at hl 1 rfl) ?_
  refine gr_getR X G Y fk_RX12_59 clM_0 rfl (dck_at da_X12_image 62 rfl) ?_
  refine lv_iload_n X.1 X.2.1 (dck_at da_X12_image 63 rfl) rfl (lv_at hl 0 rfl) ?_
  obtain ⟨r11, s11, hc, h⟩ := gB2_some h
  refine gr_backi Y (gr_runV (as := [.ref (ad 17), .int r10]) (rest := []) X G Y (ok_m_lay_v10 hc) cv_RX12_317 clM_0 ⟨Nat.le_of_ble_eq_true rfl, Nat.le_of_ble_eq_true rfl⟩ rfl hl.1 (Nat.le_of_ble_eq_true rfl) (dck_at da_X12_image 64 rfl)) (fun H locs Y => ?_)
  refine lv_istore_n (lv' := [(1, .int r11), (0, .ref (ad 0))]) X.1 X.2.1 (dck_at da_X12_image 65 rfl) rfl hl (by decide) rfl (fun ls hl => ?_)
  refine lv_aload_n X.1 X.2.1 (dck_at da_X12_image 66 rfl) rfl (lv_at hl 1 rfl) ?_
  refine lv_aload_n X.1 X.2.1 (dck_at da_X12_image 67 rfl) rfl (lv_at hl 1 rfl) ?_
  refine gr_getR X G Y fk_RX12_62 clM_0 rfl (dck_at da_X12_image 68 rfl) ?_
  refine lv_iload_n X.1 X.2.1 (dck_at da_X12_image 69 rfl) rfl (lv_at hl 0 rfl) ?_
  obtain ⟨r12, s12, hc, h⟩ := gB2_some h
  refine gr_backi Y (gr_runV (as := [.ref (ad 18), .int r11]) (rest := []) X G Y (ok_m_lay_v11 hc) cv_RX12_317 clM_0 ⟨Nat.le_of_ble_eq_true rfl, Nat.le_of_ble_eq_true rfl⟩ rfl hl.1 (Nat.le_of_ble_eq_true rfl) (dck_at da_X12_image 70 rfl)) (fun H locs Y => ?_)
  refine lv_istore_n (lv' := [(1, .int r12), (0, .ref (ad 0))]) X.1 X.2.1 (dck_at da_X12_image 71 rfl) rfl hl (by decide) rfl (fun ls hl => ?_)
  refine lv_aload_n X.1 X.2.1 (dck_at da_X12_image 72 rfl) rfl (lv_at hl 1 rfl) ?_
  refine lv_aload_n X.1 X.2.1 (dck_at da_X12_image 73 rfl) rfl (lv_at hl 1 rfl) ?_
  refine gr_getR X G Y fk_RX12_71 clM_0 rfl (dck_at da_X12_image 74 rfl) ?_
  refine lv_iload_n X.1 X.2.1 (dck_at da_X12_image 75 rfl) rfl (lv_at hl 0 rfl) ?_
  obtain ⟨r13, s13, hc, h⟩ := gB2_some h
  refine gr_backi Y (gr_runV (as := [.ref (ad 21), .int r12]) (rest := []) X G Y (ok_m_lay_v12 hc) cv_RX12_317 clM_0 ⟨Nat.le_of_ble_eq_true rfl, Nat.le_of_ble_eq_true rfl⟩ rfl hl.1 (Nat.le_of_ble_eq_true rfl) (dck_at da_X12_image 76 rfl)) (fun H locs Y => ?_)
  refine lv_istore_n (lv' := [(1, .int r13), (0, .ref (ad 0))]) X.1 X.2.1 (dck_at da_X12_image 77 rfl) rfl hl (by decide) rfl (fun ls hl => ?_)
  refine lv_aload_n X.1 X.2.1 (dck_at da_X12_image 78 rfl) rfl (lv_at hl 1 rfl) ?_
  refine lv_aload_n X.1 X.2.1 (dck_at da_X12_image 79 rfl) rfl (lv_at hl 1 rfl) ?_
  refine gr_getR X G Y fk_RX12_74 clM_0 rfl (dck_at da_X12_image 80 rfl) ?_
  refine lv_iload_n X.1 X.2.1 (dck_at da_X12_image 81 rfl) rfl (lv_at hl 0 rfl) ?_
  obtain ⟨r14, s14, hc, h⟩ := gB2_some h
  refine gr_backi Y (gr_runV (as := [.ref (ad 22), .int r13]) (rest := []) X G Y (ok_m_lay_v13 hc) cv_RX12_317 clM_0 ⟨Nat.le_of_ble_eq_true rfl, Nat.le_of_ble_eq_true rfl⟩ rfl hl.1 (Nat.le_of_ble_eq_true rfl) (dck_at da_X12_image 82 rfl)) (fun H locs Y => ?_)
  refine lv_istore_n (lv' := [(1, .int r14), (0, .ref (ad 0))]) X.1 X.2.1 (dck_at da_X12_image 83 rfl) rfl hl (by decide) rfl (fun ls hl => ?_)
  refine lv_aload_n X.1 X.2.1 (dck_at da_X12_image 84 rfl) rfl (lv_at hl 1 rfl) ?_
  refine lv_aload_n X.1 X.2.1 (dck_at da_X12_image 85 rfl) rfl (lv_at hl 1 rfl) ?_
  refine gr_getR X G Y fk_RX12_77 clM_0 rfl (dck_at da_X12_image 86 rfl) ?_
  refine lv_iload_n X.1 X.2.1 (dck_at da_X12_image 87 rfl) rfl (lv_at hl 0 rfl) ?_
  obtain ⟨r15, s15, hc, h⟩ := gB2_some h
  refine gr_backi Y (gr_runV (as := [.ref (ad 23), .int r14]) (rest := []) X G Y (ok_m_lay_v14 hc) cv_RX12_317 clM_0 ⟨Nat.le_of_ble_eq_true rfl, Nat.le_of_ble_eq_true rfl⟩ rfl hl.1 (Nat.le_of_ble_eq_true rfl) (dck_at da_X12_image 88 rfl)) (fun H locs Y => ?_)
  refine lv_istore_n (lv' := [(1, .int r15), (0, .ref (ad 0))]) X.1 X.2.1 (dck_at da_X12_image 89 rfl) rfl hl (by decide) rfl (fun ls hl => ?_)
  refine lv_aload_n X.1 X.2.1 (dck_at da_X12_image 90 rfl) rfl (lv_at hl 1 rfl) ?_
  refine lv_aload_n X.1 X.2.1 (dck_at da_X12_image 91 rfl) rfl (lv_at hl 1 rfl) ?_
  refine gr_getR X G Y fk_RX12_80 clM_0 rfl (dck_at da_X12_image 92 rfl) ?_
  refine lv_iload_n X.1 X.2.1 (dck_at da_X12_image 93 rfl) rfl (lv_at hl 0 rfl) ?_
  obtain ⟨r16, s16, hc, h⟩ := gB2_some h
  refine gr_backi Y (gr_runV (as := [.ref (ad 24), .int r15]) (rest := []) X G Y (ok_m_lay_v15 hc) cv_RX12_317 clM_0 ⟨Nat.le_of_ble_eq_true rfl, Nat.le_of_ble_eq_true rfl⟩ rfl hl.1 (Nat.le_of_ble_eq_true rfl) (dck_at da_X12_image 94 rfl)) (fun H locs Y => ?_)
  refine lv_istore_n (lv' := [(1, .int r16), (0, .ref (ad 0))]) X.1 X.2.1 (dck_at da_X12_image 95 rfl) rfl hl (by decide) rfl (fun ls hl => ?_)
  refine lv_aload_n X.1 X.2.1 (dck_at da_X12_image 96 rfl) rfl (lv_at hl 1 rfl) ?_
  refine lv_aload_n X.1 X.2.1 (dck_at da_X12_image 97 rfl) rfl (lv_at hl 1 rfl) ?_
  refine gr_getR X G Y fk_RX12_83 clM_0 rfl (dck_at da_X12_image 98 rfl) ?_
  refine lv_iload_n X.1 X.2.1 (dck_at da_X12_image 99 rfl) rfl (lv_at hl 0 rfl) ?_
  obtain ⟨r17, s17, hc, h⟩ := gB2_some h
  refine gr_backi Y (gr_runV (as := [.ref (ad 25), .int r16]) (rest := []) X G Y (ok_m_lay_v16 hc) cv_RX12_317 clM_0 ⟨Nat.le_of_ble_eq_true rfl, Nat.le_of_ble_eq_true rfl⟩ rfl hl.1 (Nat.le_of_ble_eq_true rfl) (dck_at da_X12_image 100 rfl)) (fun H locs Y => ?_)
  refine lv_istore_n (lv' := [(1, .int r17), (0, .ref (ad 0))]) X.1 X.2.1 (dck_at da_X12_image 101 rfl) rfl hl (by decide) rfl (fun ls hl => ?_)
  refine lv_aload_n X.1 X.2.1 (dck_at da_X12_image 102 rfl) rfl (lv_at hl 1 rfl) ?_
  refine gr_getR X G Y fk_RX12_89 clM_0 rfl (dck_at da_X12_image 103 rfl) ?_
  refine lv_iload_n X.1 X.2.1 (dck_at da_X12_image 104 rfl) rfl (lv_at hl 0 rfl) ?_
  refine lv_aload_n X.1 X.2.1 (dck_at da_X12_image 105 rfl) rfl (lv_at hl 1 rfl) ?_
  refine gr_getI X G Y fk_RX12_107 clM_0 rfl (dck_at da_X12_image 106 rfl) ?_
  obtain ⟨hin, h⟩ := gI_if h
  refine gr_iast X G Y clM_27 hin (dck_at da_X12_image 107 rfl) (fun H locs Y => ?_)
  refine lv_aload_n X.1 X.2.1 (dck_at da_X12_image 108 rfl) rfl (lv_at hl 1 rfl) ?_
  refine gr_getR X G Y fk_RX12_89 clM_0 rfl (dck_at da_X12_image 109 rfl) ?_
  refine lv_iload_n X.1 X.2.1 (dck_at da_X12_image 110 rfl) rfl (lv_at hl 0 rfl) ?_
  refine lv_iconst X.1 X.2.1 (dck_at da_X12_image 111 rfl) ki_1 ?_
  refine lv_iadd X.1 X.2.1 (dck_at da_X12_image 112 rfl) ?_
  refine lv_aload_n X.1 X.2.1 (dck_at da_X12_image 113 rfl) rfl (lv_at hl 1 rfl) ?_
  refine gr_getI X G Y fk_RX12_228 clM_0 rfl (dck_at da_X12_image 114 rfl) ?_
  obtain ⟨hin, h⟩ := gI_if h
  refine gr_iast X G Y clM_27 hin (dck_at da_X12_image 115 rfl) (fun H locs Y => ?_)
  refine lv_aload_n X.1 X.2.1 (dck_at da_X12_image 116 rfl) rfl (lv_at hl 1 rfl) ?_
  refine gr_getR X G Y fk_RX12_89 clM_0 rfl (dck_at da_X12_image 117 rfl) ?_
  refine lv_iload_n X.1 X.2.1 (dck_at da_X12_image 118 rfl) rfl (lv_at hl 0 rfl) ?_
  refine lv_iconst X.1 X.2.1 (dck_at da_X12_image 119 rfl) ki_2 ?_
  refine lv_iadd X.1 X.2.1 (dck_at da_X12_image 120 rfl) ?_
  refine lv_aload_n X.1 X.2.1 (dck_at da_X12_image 121 rfl) rfl (lv_at hl 1 rfl) ?_
  refine gr_getI X G Y fk_RX12_231 clM_0 rfl (dck_at da_X12_image 122 rfl) ?_
  obtain ⟨hin, h⟩ := gI_if h
  refine gr_iast X G Y clM_27 hin (dck_at da_X12_image 123 rfl) (fun H locs Y => ?_)
  refine lv_aload_n X.1 X.2.1 (dck_at da_X12_image 124 rfl) rfl (lv_at hl 1 rfl) ?_
  refine gr_getR X G Y fk_RX12_89 clM_0 rfl (dck_at da_X12_image 125 rfl) ?_
  refine lv_iload_n X.1 X.2.1 (dck_at da_X12_image 126 rfl) rfl (lv_at hl 0 rfl) ?_
  refine lv_iconst X.1 X.2.1 (dck_at da_X12_image 127 rfl) ki_3 ?_
  refine lv_iadd X.1 X.2.1 (dck_at da_X12_image 128 rfl) ?_
  refine lv_aload_n X.1 X.2.1 (dck_at da_X12_image 129 rfl) rfl (lv_at hl 1 rfl) ?_
  refine gr_getI X G Y fk_RX12_234 clM_0 rfl (dck_at da_X12_image 130 rfl) ?_
  obtain ⟨hin, h⟩ := gI_if h
  refine gr_iast X G Y clM_27 hin (dck_at da_X12_image 131 rfl) (fun H locs Y => ?_)
  refine lv_aload_n X.1 X.2.1 (dck_at da_X12_image 132 rfl) rfl (lv_at hl 1 rfl) ?_
  refine gr_getR X G Y fk_RX12_89 clM_0 rfl (dck_at da_X12_image 133 rfl) ?_
  refine lv_iload_n X.1 X.2.1 (dck_at da_X12_image 134 rfl) rfl (lv_at hl 0 rfl) ?_
  refine lv_iconst X.1 X.2.1 (dck_at da_X12_image 135 rfl) ki_4 ?_
  refine lv_iadd X.1 X.2.1 (dck_at da_X12_image 136 rfl) ?_
  refine lv_aload_n X.1 X.2.1 (dck_at da_X12_image 137 rfl) rfl (lv_at hl 1 rfl) ?_
  refine gr_getI X G Y fk_RX12_237 clM_0 rfl (dck_at da_X12_image 138 rfl) ?_
  obtain ⟨hin, h⟩ := gI_if h
  refine gr_iast X G Y clM_27 hin (dck_at da_X12_image 139 rfl) (fun H locs Y => ?_)
  refine lv_aload_n X.1 X.2.1 (dck_at da_X12_image 140 rfl) rfl (lv_at hl 1 rfl) ?_
  refine gr_getR X G Y fk_RX12_89 clM_0 rfl (dck_at da_X12_image 141 rfl) ?_
  refine lv_iload_n X.1 X.2.1 (dck_at da_X12_image 142 rfl) rfl (lv_at hl 0 rfl) ?_
  refine lv_iconst X.1 X.2.1 (dck_at da_X12_image 143 rfl) ki_5 ?_
  refine lv_iadd X.1 X.2.1 (dck_at da_X12_image 144 rfl) ?_
  refine lv_aload_n X.1 X.2.1 (dck_at da_X12_image 145 rfl) rfl (lv_at hl 1 rfl) ?_
  refine gr_getI X G Y fk_RX12_240 clM_0 rfl (dck_at da_X12_image 146 rfl) ?_
  obtain ⟨hin, h⟩ := gI_if h
  refine gr_iast X G Y clM_27 hin (dck_at da_X12_image 147 rfl) (fun H locs Y => ?_)
  refine lv_iconst X.1 X.2.1 (dck_at da_X12_image 148 rfl) ki_0 ?_
  refine lv_istore_n (lv' := [(2, .int (0 : Int32)), (1, .int r17), (0, .ref (ad 0))]) X.1 X.2.1 (dck_at da_X12_image 149 rfl) rfl hl (by decide) rfl (fun ls hl => ?_)
  exact b242 F (0 : Int32) (sI (sI (sI (sI (sI (sI s17 27 (r17).toNatClampNeg (s17.1 0 13)) 27 (r17 + (1 : Int32)).toNatClampNeg ((sI s17 27 (r17).toNatClampNeg (s17.1 0 13)).1 0 14)) 27 (r17 + (2 : Int32)).toNatClampNeg ((sI (sI s17 27 (r17).toNatClampNeg (s17.1 0 13)) 27 (r17 + (1 : Int32)).toNatClampNeg ((sI s17 27 (r17).toNatClampNeg (s17.1 0 13)).1 0 14)).1 0 18)) 27 (r17 + (3 : Int32)).toNatClampNeg ((sI (sI (sI s17 27 (r17).toNatClampNeg (s17.1 0 13)) 27 (r17 + (1 : Int32)).toNatClampNeg ((sI s17 27 (r17).toNatClampNeg (s17.1 0 13)).1 0 14)) 27 (r17 + (2 : Int32)).toNatClampNeg ((sI (sI s17 27 (r17).toNatClampNeg (s17.1 0 13)) 27 (r17 + (1 : Int32)).toNatClampNeg ((sI s17 27 (r17).toNatClampNeg (s17.1 0 13)).1 0 14)).1 0 18)).1 0 21)) 27 (r17 + (4 : Int32)).toNatClampNeg ((sI (sI (sI (sI s17 27 (r17).toNatClampNeg (s17.1 0 13)) 27 (r17 + (1 : Int32)).toNatClampNeg ((sI s17 27 (r17).toNatClampNeg (s17.1 0 13)).1 0 14)) 27 (r17 + (2 : Int32)).toNatClampNeg ((sI (sI s17 27 (r17).toNatClampNeg (s17.1 0 13)) 27 (r17 + (1 : Int32)).toNatClampNeg ((sI s17 27 (r17).toNatClampNeg (s17.1 0 13)).1 0 14)).1 0 18)) 27 (r17 + (3 : Int32)).toNatClampNeg ((sI (sI (sI s17 27 (r17).toNatClampNeg (s17.1 0 13)) 27 (r17 + (1 : Int32)).toNatClampNeg ((sI s17 27 (r17).toNatClampNeg (s17.1 0 13)).1 0 14)) 27 (r17 + (2 : Int32)).toNatClampNeg ((sI (sI s17 27 (r17).toNatClampNeg (s17.1 0 13)) 27 (r17 + (1 : Int32)).toNatClampNeg ((sI s17 27 (r17).toNatClampNeg (s17.1 0 13)).1 0 14)).1 0 18)).1 0 21)).1 0 27)) 27 (r17 + (5 : Int32)).toNatClampNeg ((sI (sI (sI (sI (sI s17 27 (r17).toNatClampNeg (s17.1 0 13)) 27 (r17 + (1 : Int32)).toNatClampNeg ((sI s17 27 (r17).toNatClampNeg (s17.1 0 13)).1 0 14)) 27 (r17 + (2 : Int32)).toNatClampNeg ((sI (sI s17 27 (r17).toNatClampNeg (s17.1 0 13)) 27 (r17 + (1 : Int32)).toNatClampNeg ((sI s17 27 (r17).toNatClampNeg (s17.1 0 13)).1 0 14)).1 0 18)) 27 (r17 + (3 : Int32)).toNatClampNeg ((sI (sI (sI s17 27 (r17).toNatClampNeg (s17.1 0 13)) 27 (r17 + (1 : Int32)).toNatClampNeg ((sI s17 27 (r17).toNatClampNeg (s17.1 0 13)).1 0 14)) 27 (r17 + (2 : Int32)).toNatClampNeg ((sI (sI s17 27 (r17).toNatClampNeg (s17.1 0 13)) 27 (r17 + (1 : Int32)).toNatClampNeg ((sI s17 27 (r17).toNatClampNeg (s17.1 0 13)).1 0 14)).1 0 18)).1 0 21)) 27 (r17 + (4 : Int32)).toNatClampNeg ((sI (sI (sI (sI s17 27 (r17).toNatClampNeg (s17.1 0 13)) 27 (r17 + (1 : Int32)).toNatClampNeg ((sI s17 27 (r17).toNatClampNeg (s17.1 0 13)).1 0 14)) 27 (r17 + (2 : Int32)).toNatClampNeg ((sI (sI s17 27 (r17).toNatClampNeg (s17.1 0 13)) 27 (r17 + (1 : Int32)).toNatClampNeg ((sI s17 27 (r17).toNatClampNeg (s17.1 0 13)).1 0 14)).1 0 18)) 27 (r17 + (3 : Int32)).toNatClampNeg ((sI (sI (sI s17 27 (r17).toNatClampNeg (s17.1 0 13)) 27 (r17 + (1 : Int32)).toNatClampNeg ((sI s17 27 (r17).toNatClampNeg (s17.1 0 13)).1 0 14)) 27 (r17 + (2 : Int32)).toNatClampNeg ((sI (sI s17 27 (r17).toNatClampNeg (s17.1 0 13)) 27 (r17 + (1 : Int32)).toNatClampNeg ((sI s17 27 (r17).toNatClampNeg (s17.1 0 13)).1 0 14)).1 0 18)).1 0 21)).1 0 27)).1 0 31)) _ _ _ h Y (lv_sub hl [2, 0] rfl)
set_option maxRecDepth 100000 in
set_option maxHeartbeats 4000000 in
theorem ok_m_gives {l : Launch} {D : va_G} {cy : Nat → ClassId} {ad sa : Nat → Nat} {A : Nat → Prop} {F : Nat} {a1 : Int32} {s0 : St} {ρ : Int32} {σ' : St} (h : m_gives F a1 s0 = some (ρ, σ')) : gMi l shM D cy ad sa A yX12_gives cX12_gives 4 (some .int) 1 [.ref (ad 0), .int a1, .ref (ad 2)] s0 ρ σ' := by
  refine gM_of (by decide) (Nat.le_of_ble_eq_true rfl) ?_
  intro p e s m args below meth c ls X G Y hr hlk hl
  have hl : lv_has ls 4 [(0, .ref (ad 0)), (1, .int a1), (2, .ref (ad 2))] := hl
  have b2 : ∀ n : Nat, ∀ (x1 : Int32) (x3 : Int32) (s0 : St) (H : Heap) (locs : List Loc) (ls : Array Slot), m_gives_L2 F  n x1 x3 s0 = some (ρ, σ') → gY shM D cy ad A s0 s H locs → lv_has ls 4 [(0, .ref (ad 0)), (1, .int x1), (2, .ref (ad 2)), (3, .int x3)] → W p l e (grm 1) s m args below meth c H locs 0 0 (MQ below (va_Qi (fun (q : Int32) (_ : Unit) => q = ρ) (fun _ t => va_P D vwCl (gWl shM cy ad σ') t.heap) A) args s 0 0 A) (F0 m 2 ls []) := by
    intro n
    induction n with
    | zero => intro x1 x3 s0 H locs ls h Y hl; exact (gnone h).elim
    | succ n hk2 =>
      have e : m_gives_L2 F  (n + 1) = m_gives_L2b F  (m_gives_L2 F  n) := rfl
      rw [e]; clear e
      generalize m_gives_L2 F  n = k2 at hk2 ⊢
      intro x1 x3 s0 H locs ls h Y hl
      unfold m_gives_L2b at h
      refine lv_iload_n X.1 X.2.1 (dck_at da_X12_gives 2 rfl) rfl (lv_at hl 3 rfl) ?_
      refine lv_aload_n X.1 X.2.1 (dck_at da_X12_gives 3 rfl) rfl (lv_at hl 2 rfl) ?_
      refine gr_alen (v := 144) X G Y clM_2 (by decide) rfl (dck_at da_X12_gives 4 rfl) ?_
      refine lv_icmp_ge (tgt := 25) X.1 X.2.1 (dck_at da_X12_gives 5 rfl) rfl (fun c => ?_) (fun c => ?_)
      · have h := gI_pos h c
        refine lv_iload_n X.1 X.2.1 (dck_at da_X12_gives 17 rfl) rfl (lv_at hl 1 rfl) ?_
        refine lv_aload_n X.1 X.2.1 (dck_at da_X12_gives 18 rfl) rfl (lv_at hl 2 rfl) ?_
        refine gr_alen (v := 144) X G Y clM_2 (by decide) rfl (dck_at da_X12_gives 19 rfl) ?_
        refine lv_iadd X.1 X.2.1 (dck_at da_X12_gives 20 rfl) ?_
        exact gr_iretO X Y h hr rfl hlk (dck_at da_X12_gives 21 rfl)
      · have h := gI_neg h c
        refine lv_aload_n X.1 X.2.1 (dck_at da_X12_gives 6 rfl) rfl (lv_at hl 2 rfl) ?_
        refine lv_iload_n X.1 X.2.1 (dck_at da_X12_gives 7 rfl) rfl (lv_at hl 3 rfl) ?_
        refine lv_aload_n X.1 X.2.1 (dck_at da_X12_gives 8 rfl) rfl (lv_at hl 0 rfl) ?_
        refine gr_getR X G Y fk_RX12_89 clM_0 rfl (dck_at da_X12_gives 9 rfl) ?_
        refine lv_iload_n X.1 X.2.1 (dck_at da_X12_gives 10 rfl) rfl (lv_at hl 1 rfl) ?_
        refine lv_iload_n X.1 X.2.1 (dck_at da_X12_gives 11 rfl) rfl (lv_at hl 3 rfl) ?_
        refine lv_iadd X.1 X.2.1 (dck_at da_X12_gives 12 rfl) ?_
        obtain ⟨hin, h⟩ := gI_if h
        refine gr_iald X G Y clM_27 hin (dck_at da_X12_gives 13 rfl) ?_
        obtain ⟨hin, h⟩ := gI_if h
        refine gr_iast X G Y clM_2 hin (dck_at da_X12_gives 14 rfl) (fun H locs Y => ?_)
        refine lv_iinc (v := x3 + (1 : Int32)) (lv' := [(3, .int (x3 + (1 : Int32))), (0, .ref (ad 0)), (1, .int x1), (2, .ref (ad 2))]) X.1 X.2.1 (dck_at da_X12_gives 15 rfl) hl (k := 3) rfl (congrArg (HAdd.hAdd _) ki_1) (by decide) rfl (fun ls hl => ?_)
        refine lv_goto (tgt := 2) X.1 X.2.1 (dck_at da_X12_gives 16 rfl) rfl ?_
        exact hk2 x1 (x3 + (1 : Int32)) (sI s0 2 (x3).toNatClampNeg (s0.1 27 (x1 + x3).toNatClampNeg)) _ _ _ h Y (lv_sub hl [1, 2, 3, 0] rfl)
  unfold m_gives at h
  refine lv_iconst X.1 X.2.1 (dck_at da_X12_gives 0 rfl) ki_0 ?_
  refine lv_istore_n (lv' := [(3, .int (0 : Int32)), (0, .ref (ad 0)), (1, .int a1), (2, .ref (ad 2))]) X.1 X.2.1 (dck_at da_X12_gives 1 rfl) rfl hl (by decide) rfl (fun ls hl => ?_)
  exact b2 F a1 (0 : Int32) s0 _ _ _ h Y (lv_sub hl [1, 2, 3, 0] rfl)
